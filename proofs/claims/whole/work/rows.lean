section
-- ===== PART A: goes FIRST, ahead of the names: the tables' words, and 'selects' of the private methods out of them =====
/-- a private method of a class that the tables say can be made, by its rows of tables_1 -/
def lw_okq (q : MethodName × Nat) : Prop := (q.1.cls ≠ "java/lang/invoke/MethodHandle" ∧ q.1.cls ≠ "java/lang/invoke/VarHandle") ∧ Cond.instantiable q.1.cls q.2 ∈ tables_1 ∧ Cond.privateMethod q.1 ∈ tables_1 ∧ Cond.instanceMethod q.1 ∈ tables_1
theorem lw_p0 : lw_okq (⟨"SewnRoads$Laws", "addDefault", "(III)V"⟩, 4) := ⟨⟨by decide +kernel, by decide +kernel⟩, List.mem_of_getElem? (i := 60) (by decide +kernel), List.mem_of_getElem? (i := 70) (by decide +kernel), List.mem_of_getElem? (i := 71) (by decide +kernel)⟩
theorem lw_p1 : lw_okq (⟨"SewnRoads$Tokens", "scanOne", "(LSewnRoads$Tape;I)I"⟩, 5) := ⟨⟨by decide +kernel, by decide +kernel⟩, List.mem_of_getElem? (i := 197) (by decide +kernel), List.mem_of_getElem? (i := 542) (by decide +kernel), List.mem_of_getElem? (i := 543) (by decide +kernel)⟩
theorem lw_p2 : lw_okq (⟨"SewnRoads$Tokens", "scanLetters", "(LSewnRoads$Tape;I)I"⟩, 5) := ⟨⟨by decide +kernel, by decide +kernel⟩, List.mem_of_getElem? (i := 197) (by decide +kernel), List.mem_of_getElem? (i := 549) (by decide +kernel), List.mem_of_getElem? (i := 550) (by decide +kernel)⟩
theorem lw_p3 : lw_okq (⟨"SewnRoads$Tokens", "sortOfLetters", "(J)I"⟩, 5) := ⟨⟨by decide +kernel, by decide +kernel⟩, List.mem_of_getElem? (i := 197) (by decide +kernel), List.mem_of_getElem? (i := 553) (by decide +kernel), List.mem_of_getElem? (i := 554) (by decide +kernel)⟩
theorem lw_p4 : lw_okq (⟨"SewnRoads$Tokens", "add", "(IIJ)V"⟩, 5) := ⟨⟨by decide +kernel, by decide +kernel⟩, List.mem_of_getElem? (i := 197) (by decide +kernel), List.mem_of_getElem? (i := 557) (by decide +kernel), List.mem_of_getElem? (i := 558) (by decide +kernel)⟩
theorem lw_p5 : lw_okq (⟨"SewnRoads$Tokens", "scanDigits", "(LSewnRoads$Tape;I)I"⟩, 5) := ⟨⟨by decide +kernel, by decide +kernel⟩, List.mem_of_getElem? (i := 197) (by decide +kernel), List.mem_of_getElem? (i := 564) (by decide +kernel), List.mem_of_getElem? (i := 565) (by decide +kernel)⟩
theorem lw_p6 : lw_okq (⟨"SewnRoads$Reader", "readTell", "()V"⟩, 11) := ⟨⟨by decide +kernel, by decide +kernel⟩, List.mem_of_getElem? (i := 48) (by decide +kernel), List.mem_of_getElem? (i := 635) (by decide +kernel), List.mem_of_getElem? (i := 636) (by decide +kernel)⟩
theorem lw_p7 : lw_okq (⟨"SewnRoads$Reader", "readTown", "()V"⟩, 11) := ⟨⟨by decide +kernel, by decide +kernel⟩, List.mem_of_getElem? (i := 48) (by decide +kernel), List.mem_of_getElem? (i := 639) (by decide +kernel), List.mem_of_getElem? (i := 640) (by decide +kernel)⟩
theorem lw_p8 : lw_okq (⟨"SewnRoads$Reader", "takeFirst", "(Z)V"⟩, 11) := ⟨⟨by decide +kernel, by decide +kernel⟩, List.mem_of_getElem? (i := 48) (by decide +kernel), List.mem_of_getElem? (i := 643) (by decide +kernel), List.mem_of_getElem? (i := 644) (by decide +kernel)⟩
theorem lw_p9 : lw_okq (⟨"SewnRoads$Reader", "take", "(I)I"⟩, 11) := ⟨⟨by decide +kernel, by decide +kernel⟩, List.mem_of_getElem? (i := 48) (by decide +kernel), List.mem_of_getElem? (i := 647) (by decide +kernel), List.mem_of_getElem? (i := 648) (by decide +kernel)⟩
theorem lw_p10 : lw_okq (⟨"SewnRoads$Reader", "addName", "(II)V"⟩, 11) := ⟨⟨by decide +kernel, by decide +kernel⟩, List.mem_of_getElem? (i := 48) (by decide +kernel), List.mem_of_getElem? (i := 651) (by decide +kernel), List.mem_of_getElem? (i := 652) (by decide +kernel)⟩
theorem lw_p11 : lw_okq (⟨"SewnRoads$Reader", "findName", "(I)I"⟩, 11) := ⟨⟨by decide +kernel, by decide +kernel⟩, List.mem_of_getElem? (i := 48) (by decide +kernel), List.mem_of_getElem? (i := 655) (by decide +kernel), List.mem_of_getElem? (i := 656) (by decide +kernel)⟩
theorem lw_p12 : lw_okq (⟨"SewnRoads$Reader", "note", "(II)V"⟩, 11) := ⟨⟨by decide +kernel, by decide +kernel⟩, List.mem_of_getElem? (i := 48) (by decide +kernel), List.mem_of_getElem? (i := 663) (by decide +kernel), List.mem_of_getElem? (i := 664) (by decide +kernel)⟩
theorem lw_p13 : lw_okq (⟨"SewnRoads$Reader", "readSeam", "()V"⟩, 11) := ⟨⟨by decide +kernel, by decide +kernel⟩, List.mem_of_getElem? (i := 48) (by decide +kernel), List.mem_of_getElem? (i := 671) (by decide +kernel), List.mem_of_getElem? (i := 672) (by decide +kernel)⟩
theorem lw_p14 : lw_okq (⟨"SewnRoads$Reader", "townAt", "(I)I"⟩, 11) := ⟨⟨by decide +kernel, by decide +kernel⟩, List.mem_of_getElem? (i := 48) (by decide +kernel), List.mem_of_getElem? (i := 675) (by decide +kernel), List.mem_of_getElem? (i := 676) (by decide +kernel)⟩
theorem lw_p15 : lw_okq (⟨"SewnRoads$Reader", "numberAt", "(III)I"⟩, 11) := ⟨⟨by decide +kernel, by decide +kernel⟩, List.mem_of_getElem? (i := 48) (by decide +kernel), List.mem_of_getElem? (i := 683) (by decide +kernel), List.mem_of_getElem? (i := 684) (by decide +kernel)⟩
def lw_privs_1 : List (MethodName × Nat) := [(⟨"SewnRoads$Laws", "addDefault", "(III)V"⟩, 4), (⟨"SewnRoads$Tokens", "scanOne", "(LSewnRoads$Tape;I)I"⟩, 5), (⟨"SewnRoads$Tokens", "scanLetters", "(LSewnRoads$Tape;I)I"⟩, 5), (⟨"SewnRoads$Tokens", "sortOfLetters", "(J)I"⟩, 5), (⟨"SewnRoads$Tokens", "add", "(IIJ)V"⟩, 5), (⟨"SewnRoads$Tokens", "scanDigits", "(LSewnRoads$Tape;I)I"⟩, 5), (⟨"SewnRoads$Reader", "readTell", "()V"⟩, 11), (⟨"SewnRoads$Reader", "readTown", "()V"⟩, 11), (⟨"SewnRoads$Reader", "takeFirst", "(Z)V"⟩, 11), (⟨"SewnRoads$Reader", "take", "(I)I"⟩, 11), (⟨"SewnRoads$Reader", "addName", "(II)V"⟩, 11), (⟨"SewnRoads$Reader", "findName", "(I)I"⟩, 11), (⟨"SewnRoads$Reader", "note", "(II)V"⟩, 11), (⟨"SewnRoads$Reader", "readSeam", "()V"⟩, 11), (⟨"SewnRoads$Reader", "townAt", "(I)I"⟩, 11), (⟨"SewnRoads$Reader", "numberAt", "(III)I"⟩, 11)]
theorem lw_r1 : ∀ q ∈ lw_privs_1, lw_okq q := List.forall_mem_cons.mpr ⟨lw_p0, List.forall_mem_cons.mpr ⟨lw_p1, List.forall_mem_cons.mpr ⟨lw_p2, List.forall_mem_cons.mpr ⟨lw_p3, List.forall_mem_cons.mpr ⟨lw_p4, List.forall_mem_cons.mpr ⟨lw_p5, List.forall_mem_cons.mpr ⟨lw_p6, List.forall_mem_cons.mpr ⟨lw_p7, List.forall_mem_cons.mpr ⟨lw_p8, List.forall_mem_cons.mpr ⟨lw_p9, List.forall_mem_cons.mpr ⟨lw_p10, List.forall_mem_cons.mpr ⟨lw_p11, List.forall_mem_cons.mpr ⟨lw_p12, List.forall_mem_cons.mpr ⟨lw_p13, List.forall_mem_cons.mpr ⟨lw_p14, List.forall_mem_cons.mpr ⟨lw_p15, fun _ h => absurd h List.not_mem_nil⟩⟩⟩⟩⟩⟩⟩⟩⟩⟩⟩⟩⟩⟩⟩⟩
theorem lw_p16 : lw_okq (⟨"SewnRoads$Reader", "readWoman", "()V"⟩, 11) := ⟨⟨by decide +kernel, by decide +kernel⟩, List.mem_of_getElem? (i := 48) (by decide +kernel), List.mem_of_getElem? (i := 694) (by decide +kernel), List.mem_of_getElem? (i := 695) (by decide +kernel)⟩
theorem lw_p17 : lw_okq (⟨"SewnRoads$Reader", "readCart", "()V"⟩, 11) := ⟨⟨by decide +kernel, by decide +kernel⟩, List.mem_of_getElem? (i := 48) (by decide +kernel), List.mem_of_getElem? (i := 698) (by decide +kernel), List.mem_of_getElem? (i := 699) (by decide +kernel)⟩
theorem lw_p18 : lw_okq (⟨"SewnRoads$Reader", "readNumber", "(I)I"⟩, 11) := ⟨⟨by decide +kernel, by decide +kernel⟩, List.mem_of_getElem? (i := 48) (by decide +kernel), List.mem_of_getElem? (i := 706) (by decide +kernel), List.mem_of_getElem? (i := 707) (by decide +kernel)⟩
theorem lw_p19 : lw_okq (⟨"SewnRoads$Reader", "readLaw", "()V"⟩, 11) := ⟨⟨by decide +kernel, by decide +kernel⟩, List.mem_of_getElem? (i := 48) (by decide +kernel), List.mem_of_getElem? (i := 710) (by decide +kernel), List.mem_of_getElem? (i := 711) (by decide +kernel)⟩
theorem lw_p20 : lw_okq (⟨"SewnRoads$Reader", "readSum", "(I)V"⟩, 11) := ⟨⟨by decide +kernel, by decide +kernel⟩, List.mem_of_getElem? (i := 48) (by decide +kernel), List.mem_of_getElem? (i := 718) (by decide +kernel), List.mem_of_getElem? (i := 719) (by decide +kernel)⟩
theorem lw_p21 : lw_okq (⟨"SewnRoads$Reader", "readProduct", "(I)V"⟩, 11) := ⟨⟨by decide +kernel, by decide +kernel⟩, List.mem_of_getElem? (i := 48) (by decide +kernel), List.mem_of_getElem? (i := 722) (by decide +kernel), List.mem_of_getElem? (i := 723) (by decide +kernel)⟩
theorem lw_p22 : lw_okq (⟨"SewnRoads$Reader", "readUnit", "(I)V"⟩, 11) := ⟨⟨by decide +kernel, by decide +kernel⟩, List.mem_of_getElem? (i := 48) (by decide +kernel), List.mem_of_getElem? (i := 726) (by decide +kernel), List.mem_of_getElem? (i := 727) (by decide +kernel)⟩
theorem lw_p23 : lw_okq (⟨"SewnRoads$Plan", "countWays", "()V"⟩, 18) := ⟨⟨by decide +kernel, by decide +kernel⟩, List.mem_of_getElem? (i := 54) (by decide +kernel), List.mem_of_getElem? (i := 750) (by decide +kernel), List.mem_of_getElem? (i := 751) (by decide +kernel)⟩
theorem lw_p24 : lw_okq (⟨"SewnRoads", "emptySlots", "()V"⟩, 13) := ⟨⟨by decide +kernel, by decide +kernel⟩, List.mem_of_getElem? (i := 24) (by decide +kernel), List.mem_of_getElem? (i := 765) (by decide +kernel), List.mem_of_getElem? (i := 766) (by decide +kernel)⟩
theorem lw_p25 : lw_okq (⟨"SewnRoads", "isSeam", "(I)Z"⟩, 13) := ⟨⟨by decide +kernel, by decide +kernel⟩, List.mem_of_getElem? (i := 24) (by decide +kernel), List.mem_of_getElem? (i := 777) (by decide +kernel), List.mem_of_getElem? (i := 778) (by decide +kernel)⟩
theorem lw_p26 : lw_okq (⟨"SewnRoads$Rules", "look", "(III)V"⟩, 3) := ⟨⟨by decide +kernel, by decide +kernel⟩, List.mem_of_getElem? (i := 359) (by decide +kernel), List.mem_of_getElem? (i := 785) (by decide +kernel), List.mem_of_getElem? (i := 786) (by decide +kernel)⟩
theorem lw_p27 : lw_okq (⟨"SewnRoads", "isCart", "(I)Z"⟩, 13) := ⟨⟨by decide +kernel, by decide +kernel⟩, List.mem_of_getElem? (i := 24) (by decide +kernel), List.mem_of_getElem? (i := 814) (by decide +kernel), List.mem_of_getElem? (i := 815) (by decide +kernel)⟩
theorem lw_p28 : lw_okq (⟨"SewnRoads$Season", "moveCarts", "(LSewnRoads$State;)V"⟩, 6) := ⟨⟨by decide +kernel, by decide +kernel⟩, List.mem_of_getElem? (i := 393) (by decide +kernel), List.mem_of_getElem? (i := 876) (by decide +kernel), List.mem_of_getElem? (i := 877) (by decide +kernel)⟩
theorem lw_p29 : lw_okq (⟨"SewnRoads$Season", "moveCart", "(LSewnRoads$State;II)V"⟩, 6) := ⟨⟨by decide +kernel, by decide +kernel⟩, List.mem_of_getElem? (i := 393) (by decide +kernel), List.mem_of_getElem? (i := 895) (by decide +kernel), List.mem_of_getElem? (i := 896) (by decide +kernel)⟩
theorem lw_p30 : lw_okq (⟨"SewnRoads$Net", "shorten", "(III)Z"⟩, 2) := ⟨⟨by decide +kernel, by decide +kernel⟩, List.mem_of_getElem? (i := 377) (by decide +kernel), List.mem_of_getElem? (i := 907) (by decide +kernel), List.mem_of_getElem? (i := 908) (by decide +kernel)⟩
theorem lw_p31 : lw_okq (⟨"SewnRoads$Season", "nextSeam", "(II)I"⟩, 6) := ⟨⟨by decide +kernel, by decide +kernel⟩, List.mem_of_getElem? (i := 393) (by decide +kernel), List.mem_of_getElem? (i := 915) (by decide +kernel), List.mem_of_getElem? (i := 916) (by decide +kernel)⟩
def lw_privs_2 : List (MethodName × Nat) := [(⟨"SewnRoads$Reader", "readWoman", "()V"⟩, 11), (⟨"SewnRoads$Reader", "readCart", "()V"⟩, 11), (⟨"SewnRoads$Reader", "readNumber", "(I)I"⟩, 11), (⟨"SewnRoads$Reader", "readLaw", "()V"⟩, 11), (⟨"SewnRoads$Reader", "readSum", "(I)V"⟩, 11), (⟨"SewnRoads$Reader", "readProduct", "(I)V"⟩, 11), (⟨"SewnRoads$Reader", "readUnit", "(I)V"⟩, 11), (⟨"SewnRoads$Plan", "countWays", "()V"⟩, 18), (⟨"SewnRoads", "emptySlots", "()V"⟩, 13), (⟨"SewnRoads", "isSeam", "(I)Z"⟩, 13), (⟨"SewnRoads$Rules", "look", "(III)V"⟩, 3), (⟨"SewnRoads", "isCart", "(I)Z"⟩, 13), (⟨"SewnRoads$Season", "moveCarts", "(LSewnRoads$State;)V"⟩, 6), (⟨"SewnRoads$Season", "moveCart", "(LSewnRoads$State;II)V"⟩, 6), (⟨"SewnRoads$Net", "shorten", "(III)Z"⟩, 2), (⟨"SewnRoads$Season", "nextSeam", "(II)I"⟩, 6)]
theorem lw_r2 : ∀ q ∈ lw_privs_2, lw_okq q := List.forall_mem_cons.mpr ⟨lw_p16, List.forall_mem_cons.mpr ⟨lw_p17, List.forall_mem_cons.mpr ⟨lw_p18, List.forall_mem_cons.mpr ⟨lw_p19, List.forall_mem_cons.mpr ⟨lw_p20, List.forall_mem_cons.mpr ⟨lw_p21, List.forall_mem_cons.mpr ⟨lw_p22, List.forall_mem_cons.mpr ⟨lw_p23, List.forall_mem_cons.mpr ⟨lw_p24, List.forall_mem_cons.mpr ⟨lw_p25, List.forall_mem_cons.mpr ⟨lw_p26, List.forall_mem_cons.mpr ⟨lw_p27, List.forall_mem_cons.mpr ⟨lw_p28, List.forall_mem_cons.mpr ⟨lw_p29, List.forall_mem_cons.mpr ⟨lw_p30, List.forall_mem_cons.mpr ⟨lw_p31, fun _ h => absurd h List.not_mem_nil⟩⟩⟩⟩⟩⟩⟩⟩⟩⟩⟩⟩⟩⟩⟩⟩
theorem lw_p32 : lw_okq (⟨"SewnRoads$Season", "otherEnd", "(II)I"⟩, 6) := ⟨⟨by decide +kernel, by decide +kernel⟩, List.mem_of_getElem? (i := 393) (by decide +kernel), List.mem_of_getElem? (i := 919) (by decide +kernel), List.mem_of_getElem? (i := 920) (by decide +kernel)⟩
theorem lw_p33 : lw_okq (⟨"SewnRoads$Season", "wearSeams", "(LSewnRoads$State;I)V"⟩, 6) := ⟨⟨by decide +kernel, by decide +kernel⟩, List.mem_of_getElem? (i := 393) (by decide +kernel), List.mem_of_getElem? (i := 941) (by decide +kernel), List.mem_of_getElem? (i := 942) (by decide +kernel)⟩
theorem lw_p34 : lw_okq (⟨"SewnRoads", "isTown", "(I)Z"⟩, 13) := ⟨⟨by decide +kernel, by decide +kernel⟩, List.mem_of_getElem? (i := 24) (by decide +kernel), List.mem_of_getElem? (i := 959) (by decide +kernel), List.mem_of_getElem? (i := 960) (by decide +kernel)⟩
theorem lw_p35 : lw_okq (⟨"SewnRoads", "areTwoTowns", "(II)Z"⟩, 13) := ⟨⟨by decide +kernel, by decide +kernel⟩, List.mem_of_getElem? (i := 24) (by decide +kernel), List.mem_of_getElem? (i := 1023) (by decide +kernel), List.mem_of_getElem? (i := 1024) (by decide +kernel)⟩
theorem lw_p36 : lw_okq (⟨"SewnRoads$Net", "seamsAsWide", "([II)I"⟩, 2) := ⟨⟨by decide +kernel, by decide +kernel⟩, List.mem_of_getElem? (i := 377) (by decide +kernel), List.mem_of_getElem? (i := 1031) (by decide +kernel), List.mem_of_getElem? (i := 1032) (by decide +kernel)⟩
theorem lw_p37 : lw_okq (⟨"SewnRoads$Season", "lifeOf", "(III)I"⟩, 6) := ⟨⟨by decide +kernel, by decide +kernel⟩, List.mem_of_getElem? (i := 393) (by decide +kernel), List.mem_of_getElem? (i := 1043) (by decide +kernel), List.mem_of_getElem? (i := 1044) (by decide +kernel)⟩
theorem lw_p38 : lw_okq (⟨"SewnRoads$Net", "oddTowns", "(II)I"⟩, 2) := ⟨⟨by decide +kernel, by decide +kernel⟩, List.mem_of_getElem? (i := 377) (by decide +kernel), List.mem_of_getElem? (i := 1063) (by decide +kernel), List.mem_of_getElem? (i := 1064) (by decide +kernel)⟩
theorem lw_p39 : lw_okq (⟨"SewnRoads", "lookAhead", "(I)V"⟩, 13) := ⟨⟨by decide +kernel, by decide +kernel⟩, List.mem_of_getElem? (i := 24) (by decide +kernel), List.mem_of_getElem? (i := 1098) (by decide +kernel), List.mem_of_getElem? (i := 1099) (by decide +kernel)⟩
theorem lw_p40 : lw_okq (⟨"SewnRoads", "staysJoined", "(IIII)Z"⟩, 13) := ⟨⟨by decide +kernel, by decide +kernel⟩, List.mem_of_getElem? (i := 24) (by decide +kernel), List.mem_of_getElem? (i := 1115) (by decide +kernel), List.mem_of_getElem? (i := 1116) (by decide +kernel)⟩
theorem lw_p41 : lw_okq (⟨"SewnRoads", "possibleCuts", "(I)I"⟩, 13) := ⟨⟨by decide +kernel, by decide +kernel⟩, List.mem_of_getElem? (i := 24) (by decide +kernel), List.mem_of_getElem? (i := 1136) (by decide +kernel), List.mem_of_getElem? (i := 1137) (by decide +kernel)⟩
theorem lw_p42 : lw_okq (⟨"SewnRoads$Search", "fits", "(II)Z"⟩, 7) := ⟨⟨by decide +kernel, by decide +kernel⟩, List.mem_of_getElem? (i := 420) (by decide +kernel), List.mem_of_getElem? (i := 1154) (by decide +kernel), List.mem_of_getElem? (i := 1155) (by decide +kernel)⟩
theorem lw_p43 : lw_okq (⟨"SewnRoads$Search", "mostAlike", "(III)I"⟩, 7) := ⟨⟨by decide +kernel, by decide +kernel⟩, List.mem_of_getElem? (i := 420) (by decide +kernel), List.mem_of_getElem? (i := 1167) (by decide +kernel), List.mem_of_getElem? (i := 1168) (by decide +kernel)⟩
theorem lw_p44 : lw_okq (⟨"SewnRoads$Search", "alike", "(IIII)I"⟩, 7) := ⟨⟨by decide +kernel, by decide +kernel⟩, List.mem_of_getElem? (i := 420) (by decide +kernel), List.mem_of_getElem? (i := 1171) (by decide +kernel), List.mem_of_getElem? (i := 1172) (by decide +kernel)⟩
theorem lw_p45 : lw_okq (⟨"SewnRoads", "heldSlots", "()I"⟩, 13) := ⟨⟨by decide +kernel, by decide +kernel⟩, List.mem_of_getElem? (i := 24) (by decide +kernel), List.mem_of_getElem? (i := 1189) (by decide +kernel), List.mem_of_getElem? (i := 1190) (by decide +kernel)⟩
theorem lw_p46 : lw_okq (⟨"SewnRoadsModel", "plain", "(I)V"⟩, 72) := ⟨⟨by decide +kernel, by decide +kernel⟩, List.mem_of_getElem? (i := 1198) (by decide +kernel), List.mem_of_getElem? (i := 1204) (by decide +kernel), List.mem_of_getElem? (i := 1205) (by decide +kernel)⟩
theorem lw_p47 : lw_okq (⟨"SewnRoadsModel", "begins", "()V"⟩, 72) := ⟨⟨by decide +kernel, by decide +kernel⟩, List.mem_of_getElem? (i := 1198) (by decide +kernel), List.mem_of_getElem? (i := 1215) (by decide +kernel), List.mem_of_getElem? (i := 1216) (by decide +kernel)⟩
def lw_privs_3 : List (MethodName × Nat) := [(⟨"SewnRoads$Season", "otherEnd", "(II)I"⟩, 6), (⟨"SewnRoads$Season", "wearSeams", "(LSewnRoads$State;I)V"⟩, 6), (⟨"SewnRoads", "isTown", "(I)Z"⟩, 13), (⟨"SewnRoads", "areTwoTowns", "(II)Z"⟩, 13), (⟨"SewnRoads$Net", "seamsAsWide", "([II)I"⟩, 2), (⟨"SewnRoads$Season", "lifeOf", "(III)I"⟩, 6), (⟨"SewnRoads$Net", "oddTowns", "(II)I"⟩, 2), (⟨"SewnRoads", "lookAhead", "(I)V"⟩, 13), (⟨"SewnRoads", "staysJoined", "(IIII)Z"⟩, 13), (⟨"SewnRoads", "possibleCuts", "(I)I"⟩, 13), (⟨"SewnRoads$Search", "fits", "(II)Z"⟩, 7), (⟨"SewnRoads$Search", "mostAlike", "(III)I"⟩, 7), (⟨"SewnRoads$Search", "alike", "(IIII)I"⟩, 7), (⟨"SewnRoads", "heldSlots", "()I"⟩, 13), (⟨"SewnRoadsModel", "plain", "(I)V"⟩, 72), (⟨"SewnRoadsModel", "begins", "()V"⟩, 72)]
theorem lw_r3 : ∀ q ∈ lw_privs_3, lw_okq q := List.forall_mem_cons.mpr ⟨lw_p32, List.forall_mem_cons.mpr ⟨lw_p33, List.forall_mem_cons.mpr ⟨lw_p34, List.forall_mem_cons.mpr ⟨lw_p35, List.forall_mem_cons.mpr ⟨lw_p36, List.forall_mem_cons.mpr ⟨lw_p37, List.forall_mem_cons.mpr ⟨lw_p38, List.forall_mem_cons.mpr ⟨lw_p39, List.forall_mem_cons.mpr ⟨lw_p40, List.forall_mem_cons.mpr ⟨lw_p41, List.forall_mem_cons.mpr ⟨lw_p42, List.forall_mem_cons.mpr ⟨lw_p43, List.forall_mem_cons.mpr ⟨lw_p44, List.forall_mem_cons.mpr ⟨lw_p45, List.forall_mem_cons.mpr ⟨lw_p46, List.forall_mem_cons.mpr ⟨lw_p47, fun _ h => absurd h List.not_mem_nil⟩⟩⟩⟩⟩⟩⟩⟩⟩⟩⟩⟩⟩⟩⟩⟩
theorem lw_p48 : lw_okq (⟨"SewnRoadsModel", "keepsRow", "()V"⟩, 72) := ⟨⟨by decide +kernel, by decide +kernel⟩, List.mem_of_getElem? (i := 1198) (by decide +kernel), List.mem_of_getElem? (i := 1219) (by decide +kernel), List.mem_of_getElem? (i := 1220) (by decide +kernel)⟩
theorem lw_p49 : lw_okq (⟨"SewnRoadsModel", "put", "(I)V"⟩, 72) := ⟨⟨by decide +kernel, by decide +kernel⟩, List.mem_of_getElem? (i := 1198) (by decide +kernel), List.mem_of_getElem? (i := 1443) (by decide +kernel), List.mem_of_getElem? (i := 1444) (by decide +kernel)⟩
theorem lw_p50 : lw_okq (⟨"SewnRoadsModel", "cutsUp", "()V"⟩, 72) := ⟨⟨by decide +kernel, by decide +kernel⟩, List.mem_of_getElem? (i := 1198) (by decide +kernel), List.mem_of_getElem? (i := 1455) (by decide +kernel), List.mem_of_getElem? (i := 1456) (by decide +kernel)⟩
theorem lw_p51 : lw_okq (⟨"SewnRoadsModel", "byteAt", "(I)I"⟩, 72) := ⟨⟨by decide +kernel, by decide +kernel⟩, List.mem_of_getElem? (i := 1198) (by decide +kernel), List.mem_of_getElem? (i := 1459) (by decide +kernel), List.mem_of_getElem? (i := 1460) (by decide +kernel)⟩
theorem lw_p52 : lw_okq (⟨"SewnRoadsModel", "token", "(IIIJ)V"⟩, 72) := ⟨⟨by decide +kernel, by decide +kernel⟩, List.mem_of_getElem? (i := 1198) (by decide +kernel), List.mem_of_getElem? (i := 1463) (by decide +kernel), List.mem_of_getElem? (i := 1464) (by decide +kernel)⟩
theorem lw_p53 : lw_okq (⟨"SewnRoadsModel", "sign", "(III)I"⟩, 72) := ⟨⟨by decide +kernel, by decide +kernel⟩, List.mem_of_getElem? (i := 1198) (by decide +kernel), List.mem_of_getElem? (i := 1473) (by decide +kernel), List.mem_of_getElem? (i := 1474) (by decide +kernel)⟩
theorem lw_p54 : lw_okq (⟨"SewnRoadsModel", "is", "(I)Z"⟩, 72) := ⟨⟨by decide +kernel, by decide +kernel⟩, List.mem_of_getElem? (i := 1198) (by decide +kernel), List.mem_of_getElem? (i := 1477) (by decide +kernel), List.mem_of_getElem? (i := 1478) (by decide +kernel)⟩
theorem lw_p55 : lw_okq (⟨"SewnRoadsModel", "tellOne", "()V"⟩, 72) := ⟨⟨by decide +kernel, by decide +kernel⟩, List.mem_of_getElem? (i := 1198) (by decide +kernel), List.mem_of_getElem? (i := 1481) (by decide +kernel), List.mem_of_getElem? (i := 1482) (by decide +kernel)⟩
theorem lw_p56 : lw_okq (⟨"SewnRoadsModel", "roomFor", "(II)V"⟩, 72) := ⟨⟨by decide +kernel, by decide +kernel⟩, List.mem_of_getElem? (i := 1198) (by decide +kernel), List.mem_of_getElem? (i := 1485) (by decide +kernel), List.mem_of_getElem? (i := 1486) (by decide +kernel)⟩
theorem lw_p57 : lw_okq (⟨"SewnRoadsModel", "fail", "(I)V"⟩, 72) := ⟨⟨by decide +kernel, by decide +kernel⟩, List.mem_of_getElem? (i := 1198) (by decide +kernel), List.mem_of_getElem? (i := 1489) (by decide +kernel), List.mem_of_getElem? (i := 1490) (by decide +kernel)⟩
theorem lw_p58 : lw_okq (⟨"SewnRoadsModel", "goesOn", "()V"⟩, 72) := ⟨⟨by decide +kernel, by decide +kernel⟩, List.mem_of_getElem? (i := 1198) (by decide +kernel), List.mem_of_getElem? (i := 1493) (by decide +kernel), List.mem_of_getElem? (i := 1494) (by decide +kernel)⟩
theorem lw_p59 : lw_okq (⟨"SewnRoadsModel", "named", "()I"⟩, 72) := ⟨⟨by decide +kernel, by decide +kernel⟩, List.mem_of_getElem? (i := 1198) (by decide +kernel), List.mem_of_getElem? (i := 1497) (by decide +kernel), List.mem_of_getElem? (i := 1498) (by decide +kernel)⟩
theorem lw_p60 : lw_okq (⟨"SewnRoadsModel", "must", "(I)V"⟩, 72) := ⟨⟨by decide +kernel, by decide +kernel⟩, List.mem_of_getElem? (i := 1198) (by decide +kernel), List.mem_of_getElem? (i := 1501) (by decide +kernel), List.mem_of_getElem? (i := 1502) (by decide +kernel)⟩
theorem lw_p61 : lw_okq (⟨"SewnRoadsModel", "wrong", "(II)V"⟩, 72) := ⟨⟨by decide +kernel, by decide +kernel⟩, List.mem_of_getElem? (i := 1198) (by decide +kernel), List.mem_of_getElem? (i := 1505) (by decide +kernel), List.mem_of_getElem? (i := 1506) (by decide +kernel)⟩
theorem lw_p62 : lw_okq (⟨"SewnRoadsModel", "ends", "(II)V"⟩, 72) := ⟨⟨by decide +kernel, by decide +kernel⟩, List.mem_of_getElem? (i := 1198) (by decide +kernel), List.mem_of_getElem? (i := 1509) (by decide +kernel), List.mem_of_getElem? (i := 1510) (by decide +kernel)⟩
theorem lw_p63 : lw_okq (⟨"SewnRoadsModel", "tellSeam", "()V"⟩, 72) := ⟨⟨by decide +kernel, by decide +kernel⟩, List.mem_of_getElem? (i := 1198) (by decide +kernel), List.mem_of_getElem? (i := 1513) (by decide +kernel), List.mem_of_getElem? (i := 1514) (by decide +kernel)⟩
def lw_privs_4 : List (MethodName × Nat) := [(⟨"SewnRoadsModel", "keepsRow", "()V"⟩, 72), (⟨"SewnRoadsModel", "put", "(I)V"⟩, 72), (⟨"SewnRoadsModel", "cutsUp", "()V"⟩, 72), (⟨"SewnRoadsModel", "byteAt", "(I)I"⟩, 72), (⟨"SewnRoadsModel", "token", "(IIIJ)V"⟩, 72), (⟨"SewnRoadsModel", "sign", "(III)I"⟩, 72), (⟨"SewnRoadsModel", "is", "(I)Z"⟩, 72), (⟨"SewnRoadsModel", "tellOne", "()V"⟩, 72), (⟨"SewnRoadsModel", "roomFor", "(II)V"⟩, 72), (⟨"SewnRoadsModel", "fail", "(I)V"⟩, 72), (⟨"SewnRoadsModel", "goesOn", "()V"⟩, 72), (⟨"SewnRoadsModel", "named", "()I"⟩, 72), (⟨"SewnRoadsModel", "must", "(I)V"⟩, 72), (⟨"SewnRoadsModel", "wrong", "(II)V"⟩, 72), (⟨"SewnRoadsModel", "ends", "(II)V"⟩, 72), (⟨"SewnRoadsModel", "tellSeam", "()V"⟩, 72)]
theorem lw_r4 : ∀ q ∈ lw_privs_4, lw_okq q := List.forall_mem_cons.mpr ⟨lw_p48, List.forall_mem_cons.mpr ⟨lw_p49, List.forall_mem_cons.mpr ⟨lw_p50, List.forall_mem_cons.mpr ⟨lw_p51, List.forall_mem_cons.mpr ⟨lw_p52, List.forall_mem_cons.mpr ⟨lw_p53, List.forall_mem_cons.mpr ⟨lw_p54, List.forall_mem_cons.mpr ⟨lw_p55, List.forall_mem_cons.mpr ⟨lw_p56, List.forall_mem_cons.mpr ⟨lw_p57, List.forall_mem_cons.mpr ⟨lw_p58, List.forall_mem_cons.mpr ⟨lw_p59, List.forall_mem_cons.mpr ⟨lw_p60, List.forall_mem_cons.mpr ⟨lw_p61, List.forall_mem_cons.mpr ⟨lw_p62, List.forall_mem_cons.mpr ⟨lw_p63, fun _ h => absurd h List.not_mem_nil⟩⟩⟩⟩⟩⟩⟩⟩⟩⟩⟩⟩⟩⟩⟩⟩
theorem lw_p64 : lw_okq (⟨"SewnRoadsModel", "knownTown", "()I"⟩, 72) := ⟨⟨by decide +kernel, by decide +kernel⟩, List.mem_of_getElem? (i := 1198) (by decide +kernel), List.mem_of_getElem? (i := 1517) (by decide +kernel), List.mem_of_getElem? (i := 1518) (by decide +kernel)⟩
theorem lw_p65 : lw_okq (⟨"SewnRoadsModel", "hasSeam", "(II)Z"⟩, 72) := ⟨⟨by decide +kernel, by decide +kernel⟩, List.mem_of_getElem? (i := 1198) (by decide +kernel), List.mem_of_getElem? (i := 1521) (by decide +kernel), List.mem_of_getElem? (i := 1522) (by decide +kernel)⟩
theorem lw_p66 : lw_okq (⟨"SewnRoadsModel", "bounded", "(II)I"⟩, 72) := ⟨⟨by decide +kernel, by decide +kernel⟩, List.mem_of_getElem? (i := 1198) (by decide +kernel), List.mem_of_getElem? (i := 1525) (by decide +kernel), List.mem_of_getElem? (i := 1526) (by decide +kernel)⟩
theorem lw_p67 : lw_okq (⟨"SewnRoadsModel", "tellCart", "()V"⟩, 72) := ⟨⟨by decide +kernel, by decide +kernel⟩, List.mem_of_getElem? (i := 1198) (by decide +kernel), List.mem_of_getElem? (i := 1529) (by decide +kernel), List.mem_of_getElem? (i := 1530) (by decide +kernel)⟩
theorem lw_p68 : lw_okq (⟨"SewnRoadsModel", "toldInt", "(II)I"⟩, 72) := ⟨⟨by decide +kernel, by decide +kernel⟩, List.mem_of_getElem? (i := 1198) (by decide +kernel), List.mem_of_getElem? (i := 1533) (by decide +kernel), List.mem_of_getElem? (i := 1534) (by decide +kernel)⟩
theorem lw_p69 : lw_okq (⟨"SewnRoadsModel", "tellLaw", "(I)V"⟩, 72) := ⟨⟨by decide +kernel, by decide +kernel⟩, List.mem_of_getElem? (i := 1198) (by decide +kernel), List.mem_of_getElem? (i := 1537) (by decide +kernel), List.mem_of_getElem? (i := 1538) (by decide +kernel)⟩
theorem lw_p70 : lw_okq (⟨"SewnRoadsModel", "expression", "()V"⟩, 72) := ⟨⟨by decide +kernel, by decide +kernel⟩, List.mem_of_getElem? (i := 1198) (by decide +kernel), List.mem_of_getElem? (i := 1541) (by decide +kernel), List.mem_of_getElem? (i := 1542) (by decide +kernel)⟩
theorem lw_p71 : lw_okq (⟨"SewnRoadsModel", "unit", "()V"⟩, 72) := ⟨⟨by decide +kernel, by decide +kernel⟩, List.mem_of_getElem? (i := 1198) (by decide +kernel), List.mem_of_getElem? (i := 1545) (by decide +kernel), List.mem_of_getElem? (i := 1546) (by decide +kernel)⟩
theorem lw_p72 : lw_okq (⟨"SewnRoadsModel", "emit", "(II)V"⟩, 72) := ⟨⟨by decide +kernel, by decide +kernel⟩, List.mem_of_getElem? (i := 1198) (by decide +kernel), List.mem_of_getElem? (i := 1549) (by decide +kernel), List.mem_of_getElem? (i := 1550) (by decide +kernel)⟩
theorem lw_p73 : lw_okq (⟨"SewnRoadsModel", "comesOut", "(Z)V"⟩, 72) := ⟨⟨by decide +kernel, by decide +kernel⟩, List.mem_of_getElem? (i := 1198) (by decide +kernel), List.mem_of_getElem? (i := 1553) (by decide +kernel), List.mem_of_getElem? (i := 1554) (by decide +kernel)⟩
theorem lw_p74 : lw_okq (⟨"SewnRoadsModel", "term", "()V"⟩, 72) := ⟨⟨by decide +kernel, by decide +kernel⟩, List.mem_of_getElem? (i := 1198) (by decide +kernel), List.mem_of_getElem? (i := 1557) (by decide +kernel), List.mem_of_getElem? (i := 1558) (by decide +kernel)⟩
theorem lw_p75 : lw_okq (⟨"SewnRoadsModel", "isSeam", "(I)Z"⟩, 72) := ⟨⟨by decide +kernel, by decide +kernel⟩, List.mem_of_getElem? (i := 1198) (by decide +kernel), List.mem_of_getElem? (i := 1569) (by decide +kernel), List.mem_of_getElem? (i := 1570) (by decide +kernel)⟩
theorem lw_p76 : lw_okq (⟨"SewnRoadsModel", "copies", "()V"⟩, 72) := ⟨⟨by decide +kernel, by decide +kernel⟩, List.mem_of_getElem? (i := 1198) (by decide +kernel), List.mem_of_getElem? (i := 1576) (by decide +kernel), List.mem_of_getElem? (i := 1577) (by decide +kernel)⟩
theorem lw_p77 : lw_okq (⟨"SewnRoadsModel", "costsNow", "(I)I"⟩, 72) := ⟨⟨by decide +kernel, by decide +kernel⟩, List.mem_of_getElem? (i := 1198) (by decide +kernel), List.mem_of_getElem? (i := 1580) (by decide +kernel), List.mem_of_getElem? (i := 1581) (by decide +kernel)⟩
theorem lw_p78 : lw_okq (⟨"SewnRoadsModel", "looks", "(I)V"⟩, 72) := ⟨⟨by decide +kernel, by decide +kernel⟩, List.mem_of_getElem? (i := 1198) (by decide +kernel), List.mem_of_getElem? (i := 1584) (by decide +kernel), List.mem_of_getElem? (i := 1585) (by decide +kernel)⟩
theorem lw_p79 : lw_okq (⟨"SewnRoadsModel", "waysAt", "(I)I"⟩, 72) := ⟨⟨by decide +kernel, by decide +kernel⟩, List.mem_of_getElem? (i := 1198) (by decide +kernel), List.mem_of_getElem? (i := 1588) (by decide +kernel), List.mem_of_getElem? (i := 1589) (by decide +kernel)⟩
def lw_privs_5 : List (MethodName × Nat) := [(⟨"SewnRoadsModel", "knownTown", "()I"⟩, 72), (⟨"SewnRoadsModel", "hasSeam", "(II)Z"⟩, 72), (⟨"SewnRoadsModel", "bounded", "(II)I"⟩, 72), (⟨"SewnRoadsModel", "tellCart", "()V"⟩, 72), (⟨"SewnRoadsModel", "toldInt", "(II)I"⟩, 72), (⟨"SewnRoadsModel", "tellLaw", "(I)V"⟩, 72), (⟨"SewnRoadsModel", "expression", "()V"⟩, 72), (⟨"SewnRoadsModel", "unit", "()V"⟩, 72), (⟨"SewnRoadsModel", "emit", "(II)V"⟩, 72), (⟨"SewnRoadsModel", "comesOut", "(Z)V"⟩, 72), (⟨"SewnRoadsModel", "term", "()V"⟩, 72), (⟨"SewnRoadsModel", "isSeam", "(I)Z"⟩, 72), (⟨"SewnRoadsModel", "copies", "()V"⟩, 72), (⟨"SewnRoadsModel", "costsNow", "(I)I"⟩, 72), (⟨"SewnRoadsModel", "looks", "(I)V"⟩, 72), (⟨"SewnRoadsModel", "waysAt", "(I)I"⟩, 72)]
theorem lw_r5 : ∀ q ∈ lw_privs_5, lw_okq q := List.forall_mem_cons.mpr ⟨lw_p64, List.forall_mem_cons.mpr ⟨lw_p65, List.forall_mem_cons.mpr ⟨lw_p66, List.forall_mem_cons.mpr ⟨lw_p67, List.forall_mem_cons.mpr ⟨lw_p68, List.forall_mem_cons.mpr ⟨lw_p69, List.forall_mem_cons.mpr ⟨lw_p70, List.forall_mem_cons.mpr ⟨lw_p71, List.forall_mem_cons.mpr ⟨lw_p72, List.forall_mem_cons.mpr ⟨lw_p73, List.forall_mem_cons.mpr ⟨lw_p74, List.forall_mem_cons.mpr ⟨lw_p75, List.forall_mem_cons.mpr ⟨lw_p76, List.forall_mem_cons.mpr ⟨lw_p77, List.forall_mem_cons.mpr ⟨lw_p78, List.forall_mem_cons.mpr ⟨lw_p79, fun _ h => absurd h List.not_mem_nil⟩⟩⟩⟩⟩⟩⟩⟩⟩⟩⟩⟩⟩⟩⟩⟩
theorem lw_p80 : lw_okq (⟨"SewnRoadsModel", "asks", "(II)I"⟩, 72) := ⟨⟨by decide +kernel, by decide +kernel⟩, List.mem_of_getElem? (i := 1198) (by decide +kernel), List.mem_of_getElem? (i := 1592) (by decide +kernel), List.mem_of_getElem? (i := 1593) (by decide +kernel)⟩
theorem lw_p81 : lw_okq (⟨"SewnRoadsModel", "lawTells", "(I)I"⟩, 72) := ⟨⟨by decide +kernel, by decide +kernel⟩, List.mem_of_getElem? (i := 1198) (by decide +kernel), List.mem_of_getElem? (i := 1596) (by decide +kernel), List.mem_of_getElem? (i := 1597) (by decide +kernel)⟩
theorem lw_p82 : lw_okq (⟨"SewnRoadsModel", "termOf", "(II)I"⟩, 72) := ⟨⟨by decide +kernel, by decide +kernel⟩, List.mem_of_getElem? (i := 1198) (by decide +kernel), List.mem_of_getElem? (i := 1600) (by decide +kernel), List.mem_of_getElem? (i := 1601) (by decide +kernel)⟩
theorem lw_p83 : lw_okq (⟨"SewnRoadsModel", "wearsNow", "(IZI)I"⟩, 72) := ⟨⟨by decide +kernel, by decide +kernel⟩, List.mem_of_getElem? (i := 1198) (by decide +kernel), List.mem_of_getElem? (i := 1607) (by decide +kernel), List.mem_of_getElem? (i := 1608) (by decide +kernel)⟩
theorem lw_p84 : lw_okq (⟨"SewnRoadsModel", "wayOf", "(I)I"⟩, 72) := ⟨⟨by decide +kernel, by decide +kernel⟩, List.mem_of_getElem? (i := 1198) (by decide +kernel), List.mem_of_getElem? (i := 1611) (by decide +kernel), List.mem_of_getElem? (i := 1612) (by decide +kernel)⟩
theorem lw_p85 : lw_okq (⟨"SewnRoadsModel", "isCart", "(I)Z"⟩, 72) := ⟨⟨by decide +kernel, by decide +kernel⟩, List.mem_of_getElem? (i := 1198) (by decide +kernel), List.mem_of_getElem? (i := 1619) (by decide +kernel), List.mem_of_getElem? (i := 1620) (by decide +kernel)⟩
theorem lw_p86 : lw_okq (⟨"SewnRoadsModel", "tollOf", "(II)I"⟩, 72) := ⟨⟨by decide +kernel, by decide +kernel⟩, List.mem_of_getElem? (i := 1198) (by decide +kernel), List.mem_of_getElem? (i := 1627) (by decide +kernel), List.mem_of_getElem? (i := 1628) (by decide +kernel)⟩
theorem lw_p87 : lw_okq (⟨"SewnRoadsModel", "records", "()V"⟩, 72) := ⟨⟨by decide +kernel, by decide +kernel⟩, List.mem_of_getElem? (i := 1198) (by decide +kernel), List.mem_of_getElem? (i := 1635) (by decide +kernel), List.mem_of_getElem? (i := 1636) (by decide +kernel)⟩
theorem lw_p88 : lw_okq (⟨"SewnRoadsModel", "goes", "(I)V"⟩, 72) := ⟨⟨by decide +kernel, by decide +kernel⟩, List.mem_of_getElem? (i := 1198) (by decide +kernel), List.mem_of_getElem? (i := 1655) (by decide +kernel), List.mem_of_getElem? (i := 1656) (by decide +kernel)⟩
theorem lw_p89 : lw_okq (⟨"SewnRoadsModel", "weekGoes", "()V"⟩, 72) := ⟨⟨by decide +kernel, by decide +kernel⟩, List.mem_of_getElem? (i := 1198) (by decide +kernel), List.mem_of_getElem? (i := 1659) (by decide +kernel), List.mem_of_getElem? (i := 1660) (by decide +kernel)⟩
theorem lw_p90 : lw_okq (⟨"SewnRoadsModel", "fillsWays", "()V"⟩, 72) := ⟨⟨by decide +kernel, by decide +kernel⟩, List.mem_of_getElem? (i := 1198) (by decide +kernel), List.mem_of_getElem? (i := 1663) (by decide +kernel), List.mem_of_getElem? (i := 1664) (by decide +kernel)⟩
theorem lw_p91 : lw_okq (⟨"SewnRoadsModel", "cartGoes", "(I)V"⟩, 72) := ⟨⟨by decide +kernel, by decide +kernel⟩, List.mem_of_getElem? (i := 1198) (by decide +kernel), List.mem_of_getElem? (i := 1668) (by decide +kernel), List.mem_of_getElem? (i := 1669) (by decide +kernel)⟩
theorem lw_p92 : lw_okq (⟨"SewnRoadsModel", "roadOf", "(I)I"⟩, 72) := ⟨⟨by decide +kernel, by decide +kernel⟩, List.mem_of_getElem? (i := 1198) (by decide +kernel), List.mem_of_getElem? (i := 1672) (by decide +kernel), List.mem_of_getElem? (i := 1673) (by decide +kernel)⟩
theorem lw_p93 : lw_okq (⟨"SewnRoadsModel", "fillsFar", "(I)V"⟩, 72) := ⟨⟨by decide +kernel, by decide +kernel⟩, List.mem_of_getElem? (i := 1198) (by decide +kernel), List.mem_of_getElem? (i := 1676) (by decide +kernel), List.mem_of_getElem? (i := 1677) (by decide +kernel)⟩
theorem lw_p94 : lw_okq (⟨"SewnRoadsModel", "otherEnd", "(II)I"⟩, 72) := ⟨⟨by decide +kernel, by decide +kernel⟩, List.mem_of_getElem? (i := 1198) (by decide +kernel), List.mem_of_getElem? (i := 1680) (by decide +kernel), List.mem_of_getElem? (i := 1681) (by decide +kernel)⟩
theorem lw_p95 : lw_okq (⟨"SewnRoadsModel", "isFrost", "()Z"⟩, 72) := ⟨⟨by decide +kernel, by decide +kernel⟩, List.mem_of_getElem? (i := 1198) (by decide +kernel), List.mem_of_getElem? (i := 1684) (by decide +kernel), List.mem_of_getElem? (i := 1685) (by decide +kernel)⟩
def lw_privs_6 : List (MethodName × Nat) := [(⟨"SewnRoadsModel", "asks", "(II)I"⟩, 72), (⟨"SewnRoadsModel", "lawTells", "(I)I"⟩, 72), (⟨"SewnRoadsModel", "termOf", "(II)I"⟩, 72), (⟨"SewnRoadsModel", "wearsNow", "(IZI)I"⟩, 72), (⟨"SewnRoadsModel", "wayOf", "(I)I"⟩, 72), (⟨"SewnRoadsModel", "isCart", "(I)Z"⟩, 72), (⟨"SewnRoadsModel", "tollOf", "(II)I"⟩, 72), (⟨"SewnRoadsModel", "records", "()V"⟩, 72), (⟨"SewnRoadsModel", "goes", "(I)V"⟩, 72), (⟨"SewnRoadsModel", "weekGoes", "()V"⟩, 72), (⟨"SewnRoadsModel", "fillsWays", "()V"⟩, 72), (⟨"SewnRoadsModel", "cartGoes", "(I)V"⟩, 72), (⟨"SewnRoadsModel", "roadOf", "(I)I"⟩, 72), (⟨"SewnRoadsModel", "fillsFar", "(I)V"⟩, 72), (⟨"SewnRoadsModel", "otherEnd", "(II)I"⟩, 72), (⟨"SewnRoadsModel", "isFrost", "()Z"⟩, 72)]
theorem lw_r6 : ∀ q ∈ lw_privs_6, lw_okq q := List.forall_mem_cons.mpr ⟨lw_p80, List.forall_mem_cons.mpr ⟨lw_p81, List.forall_mem_cons.mpr ⟨lw_p82, List.forall_mem_cons.mpr ⟨lw_p83, List.forall_mem_cons.mpr ⟨lw_p84, List.forall_mem_cons.mpr ⟨lw_p85, List.forall_mem_cons.mpr ⟨lw_p86, List.forall_mem_cons.mpr ⟨lw_p87, List.forall_mem_cons.mpr ⟨lw_p88, List.forall_mem_cons.mpr ⟨lw_p89, List.forall_mem_cons.mpr ⟨lw_p90, List.forall_mem_cons.mpr ⟨lw_p91, List.forall_mem_cons.mpr ⟨lw_p92, List.forall_mem_cons.mpr ⟨lw_p93, List.forall_mem_cons.mpr ⟨lw_p94, List.forall_mem_cons.mpr ⟨lw_p95, fun _ h => absurd h List.not_mem_nil⟩⟩⟩⟩⟩⟩⟩⟩⟩⟩⟩⟩⟩⟩⟩⟩
theorem lw_p96 : lw_okq (⟨"SewnRoadsModel", "isTown", "(I)Z"⟩, 72) := ⟨⟨by decide +kernel, by decide +kernel⟩, List.mem_of_getElem? (i := 1198) (by decide +kernel), List.mem_of_getElem? (i := 1700) (by decide +kernel), List.mem_of_getElem? (i := 1701) (by decide +kernel)⟩
theorem lw_p97 : lw_okq (⟨"SewnRoadsModel", "areJoined", "(II)Z"⟩, 72) := ⟨⟨by decide +kernel, by decide +kernel⟩, List.mem_of_getElem? (i := 1198) (by decide +kernel), List.mem_of_getElem? (i := 1708) (by decide +kernel), List.mem_of_getElem? (i := 1709) (by decide +kernel)⟩
theorem lw_p98 : lw_okq (⟨"SewnRoadsModel", "joinedTo", "(I)I"⟩, 72) := ⟨⟨by decide +kernel, by decide +kernel⟩, List.mem_of_getElem? (i := 1198) (by decide +kernel), List.mem_of_getElem? (i := 1716) (by decide +kernel), List.mem_of_getElem? (i := 1717) (by decide +kernel)⟩
theorem lw_p99 : lw_okq (⟨"SewnRoadsModel", "takesNow", "(II)I"⟩, 72) := ⟨⟨by decide +kernel, by decide +kernel⟩, List.mem_of_getElem? (i := 1198) (by decide +kernel), List.mem_of_getElem? (i := 1731) (by decide +kernel), List.mem_of_getElem? (i := 1732) (by decide +kernel)⟩
theorem lw_p100 : lw_okq (⟨"SewnRoadsModel", "joinsAll", "(II)Z"⟩, 72) := ⟨⟨by decide +kernel, by decide +kernel⟩, List.mem_of_getElem? (i := 1198) (by decide +kernel), List.mem_of_getElem? (i := 1739) (by decide +kernel), List.mem_of_getElem? (i := 1740) (by decide +kernel)⟩
theorem lw_p101 : lw_okq (⟨"SewnRoadsModel", "holdsFor", "(II)I"⟩, 72) := ⟨⟨by decide +kernel, by decide +kernel⟩, List.mem_of_getElem? (i := 1198) (by decide +kernel), List.mem_of_getElem? (i := 1755) (by decide +kernel), List.mem_of_getElem? (i := 1756) (by decide +kernel)⟩
theorem lw_p102 : lw_okq (⟨"SewnRoadsModel", "wholeAt", "(I)I"⟩, 72) := ⟨⟨by decide +kernel, by decide +kernel⟩, List.mem_of_getElem? (i := 1198) (by decide +kernel), List.mem_of_getElem? (i := 1763) (by decide +kernel), List.mem_of_getElem? (i := 1764) (by decide +kernel)⟩
theorem lw_p103 : lw_okq (⟨"SewnRoadsModel", "cutBits", "(I)I"⟩, 72) := ⟨⟨by decide +kernel, by decide +kernel⟩, List.mem_of_getElem? (i := 1198) (by decide +kernel), List.mem_of_getElem? (i := 1802) (by decide +kernel), List.mem_of_getElem? (i := 1803) (by decide +kernel)⟩
theorem lw_p104 : lw_okq (⟨"SewnRoadsModel", "cutsOne", "(I)V"⟩, 72) := ⟨⟨by decide +kernel, by decide +kernel⟩, List.mem_of_getElem? (i := 1198) (by decide +kernel), List.mem_of_getElem? (i := 1806) (by decide +kernel), List.mem_of_getElem? (i := 1807) (by decide +kernel)⟩
theorem lw_p105 : lw_okq (⟨"SewnRoadsModel", "wayBetween", "(II)I"⟩, 72) := ⟨⟨by decide +kernel, by decide +kernel⟩, List.mem_of_getElem? (i := 1198) (by decide +kernel), List.mem_of_getElem? (i := 1810) (by decide +kernel), List.mem_of_getElem? (i := 1811) (by decide +kernel)⟩
theorem lw_p106 : lw_okq (⟨"SewnRoadsModel", "worstOf", "(III)I"⟩, 72) := ⟨⟨by decide +kernel, by decide +kernel⟩, List.mem_of_getElem? (i := 1198) (by decide +kernel), List.mem_of_getElem? (i := 1821) (by decide +kernel), List.mem_of_getElem? (i := 1822) (by decide +kernel)⟩
def lw_privs_7 : List (MethodName × Nat) := [(⟨"SewnRoadsModel", "isTown", "(I)Z"⟩, 72), (⟨"SewnRoadsModel", "areJoined", "(II)Z"⟩, 72), (⟨"SewnRoadsModel", "joinedTo", "(I)I"⟩, 72), (⟨"SewnRoadsModel", "takesNow", "(II)I"⟩, 72), (⟨"SewnRoadsModel", "joinsAll", "(II)Z"⟩, 72), (⟨"SewnRoadsModel", "holdsFor", "(II)I"⟩, 72), (⟨"SewnRoadsModel", "wholeAt", "(I)I"⟩, 72), (⟨"SewnRoadsModel", "cutBits", "(I)I"⟩, 72), (⟨"SewnRoadsModel", "cutsOne", "(I)V"⟩, 72), (⟨"SewnRoadsModel", "wayBetween", "(II)I"⟩, 72), (⟨"SewnRoadsModel", "worstOf", "(III)I"⟩, 72)]
theorem lw_r7 : ∀ q ∈ lw_privs_7, lw_okq q := List.forall_mem_cons.mpr ⟨lw_p96, List.forall_mem_cons.mpr ⟨lw_p97, List.forall_mem_cons.mpr ⟨lw_p98, List.forall_mem_cons.mpr ⟨lw_p99, List.forall_mem_cons.mpr ⟨lw_p100, List.forall_mem_cons.mpr ⟨lw_p101, List.forall_mem_cons.mpr ⟨lw_p102, List.forall_mem_cons.mpr ⟨lw_p103, List.forall_mem_cons.mpr ⟨lw_p104, List.forall_mem_cons.mpr ⟨lw_p105, List.forall_mem_cons.mpr ⟨lw_p106, fun _ h => absurd h List.not_mem_nil⟩⟩⟩⟩⟩⟩⟩⟩⟩⟩⟩
def lw_privs : List (MethodName × Nat) := lw_privs_1 ++ (lw_privs_2 ++ (lw_privs_3 ++ (lw_privs_4 ++ (lw_privs_5 ++ (lw_privs_6 ++ (lw_privs_7))))))
def lw_tbl : List Cond := k2_sels lw_privs ++ tables_1
theorem lw_privs_ok : ∀ q ∈ lw_privs, lw_okq q := by
  show ∀ q ∈ lw_privs_1 ++ (lw_privs_2 ++ (lw_privs_3 ++ (lw_privs_4 ++ (lw_privs_5 ++ (lw_privs_6 ++ (lw_privs_7)))))), lw_okq q
  exact List.forall_mem_append.mpr ⟨lw_r1, List.forall_mem_append.mpr ⟨lw_r2, List.forall_mem_append.mpr ⟨lw_r3, List.forall_mem_append.mpr ⟨lw_r4, List.forall_mem_append.mpr ⟨lw_r5, List.forall_mem_append.mpr ⟨lw_r6, lw_r7⟩⟩⟩⟩⟩⟩
end
section
def RX0 : String := "SewnRoads$Laws"
def TX0 : u_T := fun k => match k with
  | 0 => ("SewnRoads$Laws", "steps", "[I", true)
  | 1 => ("SewnRoads$Laws", "stack", "[I", true)
  | 2 => ("SewnRoads$Laws", "begins", "[I", true)
  | _ => ("SewnRoads$Laws", "size", "I", false)
def tyX0 : Nat → FieldType := fun k => match k with
  | 0 => .array .int
  | 1 => .array .int
  | 2 => .array .int
  | _ => .int
theorem nmX0 : ∀ a, a < 4 → ∀ b, b < 4 → a ≠ b → (TX0 a).2.1 ≠ (TX0 b).2.1 := by decide +kernel
theorem tyX0_ok : ∀ k, k < 4 → parseFieldDescriptor (TX0 k).2.2.1 = some (tyX0 k) := by decide +kernel
def RX1 : String := "SewnRoads$Net"
def TX1 : u_T := fun k => match k with
  | 0 => ("SewnRoads$Net", "plan", "LSewnRoads$Plan;", true)
  | _ => ("SewnRoads$Net", "distance", "[I", true)
def tyX1 : Nat → FieldType := fun k => match k with
  | 0 => .object "SewnRoads$Plan"
  | _ => .array .int
theorem nmX1 : ∀ a, a < 2 → ∀ b, b < 2 → a ≠ b → (TX1 a).2.1 ≠ (TX1 b).2.1 := by decide +kernel
theorem tyX1_ok : ∀ k, k < 2 → parseFieldDescriptor (TX1 k).2.2.1 = some (tyX1 k) := by decide +kernel
def RX2 : String := "SewnRoads$Past"
def TX2 : u_T := fun k => match k with
  | 0 => ("SewnRoads$Past", "states", "[LSewnRoads$State;", true)
  | 1 => ("SewnRoads$Past", "oldest", "I", false)
  | _ => ("SewnRoads$Past", "size", "I", false)
def tyX2 : Nat → FieldType := fun k => match k with
  | 0 => .array (.object "SewnRoads$State")
  | 1 => .int
  | _ => .int
theorem nmX2 : ∀ a, a < 3 → ∀ b, b < 3 → a ≠ b → (TX2 a).2.1 ≠ (TX2 b).2.1 := by decide +kernel
theorem tyX2_ok : ∀ k, k < 3 → parseFieldDescriptor (TX2 k).2.2.1 = some (tyX2 k) := by decide +kernel
def RX3 : String := "SewnRoads$Plan"
def TX3 : u_T := fun k => match k with
  | 0 => ("SewnRoads$Plan", "towns", "I", false)
  | 1 => ("SewnRoads$Plan", "seams", "I", false)
  | 2 => ("SewnRoads$Plan", "women", "I", false)
  | 3 => ("SewnRoads$Plan", "carts", "I", false)
  | 4 => ("SewnRoads$Plan", "stitches", "I", false)
  | 5 => ("SewnRoads$Plan", "thread", "I", false)
  | 6 => ("SewnRoads$Plan", "frost", "I", false)
  | 7 => ("SewnRoads$Plan", "seed", "I", false)
  | 8 => ("SewnRoads$Plan", "first", "[I", true)
  | 9 => ("SewnRoads$Plan", "second", "[I", true)
  | 10 => ("SewnRoads$Plan", "ends", "[I", true)
  | 11 => ("SewnRoads$Plan", "length", "[I", true)
  | 12 => ("SewnRoads$Plan", "sewn", "[I", true)
  | 13 => ("SewnRoads$Plan", "ways", "[I", true)
  | 14 => ("SewnRoads$Plan", "from", "[I", true)
  | 15 => ("SewnRoads$Plan", "to", "[I", true)
  | 16 => ("SewnRoads$Plan", "load", "[I", true)
  | _ => ("SewnRoads$Plan", "laws", "LSewnRoads$Laws;", true)
def tyX3 : Nat → FieldType := fun k => match k with
  | 0 => .int
  | 1 => .int
  | 2 => .int
  | 3 => .int
  | 4 => .int
  | 5 => .int
  | 6 => .int
  | 7 => .int
  | 8 => .array .int
  | 9 => .array .int
  | 10 => .array .int
  | 11 => .array .int
  | 12 => .array .int
  | 13 => .array .int
  | 14 => .array .int
  | 15 => .array .int
  | 16 => .array .int
  | _ => .object "SewnRoads$Laws"
theorem nmX3 : ∀ a, a < 18 → ∀ b, b < 18 → a ≠ b → (TX3 a).2.1 ≠ (TX3 b).2.1 := by decide +kernel
theorem tyX3_ok : ∀ k, k < 18 → parseFieldDescriptor (TX3 k).2.2.1 = some (tyX3 k) := by decide +kernel
def RX4 : String := "SewnRoads$Reader"
def TX4 : u_T := fun k => match k with
  | 0 => ("SewnRoads$Reader", "draft", "LSewnRoads$Plan;", true)
  | 1 => ("SewnRoads$Reader", "faultPlace", "I", false)
  | 2 => ("SewnRoads$Reader", "tokens", "LSewnRoads$Tokens;", true)
  | 3 => ("SewnRoads$Reader", "names", "[J", true)
  | 4 => ("SewnRoads$Reader", "townOfName", "[I", true)
  | 5 => ("SewnRoads$Reader", "nameCount", "I", false)
  | 6 => ("SewnRoads$Reader", "at", "I", false)
  | 7 => ("SewnRoads$Reader", "kind", "I", false)
  | 8 => ("SewnRoads$Reader", "fault", "I", false)
  | 9 => ("SewnRoads$Reader", "softFault", "I", false)
  | _ => ("SewnRoads$Reader", "softPlace", "I", false)
def tyX4 : Nat → FieldType := fun k => match k with
  | 0 => .object "SewnRoads$Plan"
  | 1 => .int
  | 2 => .object "SewnRoads$Tokens"
  | 3 => .array .long
  | 4 => .array .int
  | 5 => .int
  | 6 => .int
  | 7 => .int
  | 8 => .int
  | 9 => .int
  | _ => .int
theorem nmX4 : ∀ a, a < 11 → ∀ b, b < 11 → a ≠ b → (TX4 a).2.1 ≠ (TX4 b).2.1 := by decide +kernel
theorem tyX4_ok : ∀ k, k < 11 → parseFieldDescriptor (TX4 k).2.2.1 = some (tyX4 k) := by decide +kernel
def RX5 : String := "SewnRoads$Rules"
def TX5 : u_T := fun k => match k with
  | 0 => ("SewnRoads$Rules", "plan", "LSewnRoads$Plan;", true)
  | 1 => ("SewnRoads$Rules", "vars", "[I", true)
  | _ => ("SewnRoads$Rules", "setCost", "[I", true)
def tyX5 : Nat → FieldType := fun k => match k with
  | 0 => .object "SewnRoads$Plan"
  | 1 => .array .int
  | _ => .array .int
theorem nmX5 : ∀ a, a < 3 → ∀ b, b < 3 → a ≠ b → (TX5 a).2.1 ≠ (TX5 b).2.1 := by decide +kernel
theorem tyX5_ok : ∀ k, k < 3 → parseFieldDescriptor (TX5 k).2.2.1 = some (tyX5 k) := by decide +kernel
def RX6 : String := "SewnRoads$Search"
def TX6 : u_T := fun k => match k with
  | 0 => ("SewnRoads$Search", "plan", "LSewnRoads$Plan;", true)
  | 1 => ("SewnRoads$Search", "net", "LSewnRoads$Net;", true)
  | 2 => ("SewnRoads$Search", "town", "[I", true)
  | 3 => ("SewnRoads$Search", "other", "[I", true)
  | 4 => ("SewnRoads$Search", "way", "[I", true)
  | 5 => ("SewnRoads$Search", "gap", "[I", true)
  | _ => ("SewnRoads$Search", "told", "I", false)
def tyX6 : Nat → FieldType := fun k => match k with
  | 0 => .object "SewnRoads$Plan"
  | 1 => .object "SewnRoads$Net"
  | 2 => .array .int
  | 3 => .array .int
  | 4 => .array .int
  | 5 => .array .int
  | _ => .int
theorem nmX6 : ∀ a, a < 7 → ∀ b, b < 7 → a ≠ b → (TX6 a).2.1 ≠ (TX6 b).2.1 := by decide +kernel
theorem tyX6_ok : ∀ k, k < 7 → parseFieldDescriptor (TX6 k).2.2.1 = some (tyX6 k) := by decide +kernel
def RX7 : String := "SewnRoads$Season"
def TX7 : u_T := fun k => match k with
  | 0 => ("SewnRoads$Season", "plan", "LSewnRoads$Plan;", true)
  | 1 => ("SewnRoads$Season", "rules", "LSewnRoads$Rules;", true)
  | 2 => ("SewnRoads$Season", "net", "LSewnRoads$Net;", true)
  | 3 => ("SewnRoads$Season", "carted", "[I", true)
  | 4 => ("SewnRoads$Season", "way", "[I", true)
  | _ => ("SewnRoads$Season", "life", "[I", true)
def tyX7 : Nat → FieldType := fun k => match k with
  | 0 => .object "SewnRoads$Plan"
  | 1 => .object "SewnRoads$Rules"
  | 2 => .object "SewnRoads$Net"
  | 3 => .array .int
  | 4 => .array .int
  | _ => .array .int
theorem nmX7 : ∀ a, a < 6 → ∀ b, b < 6 → a ≠ b → (TX7 a).2.1 ≠ (TX7 b).2.1 := by decide +kernel
theorem tyX7_ok : ∀ k, k < 6 → parseFieldDescriptor (TX7 k).2.2.1 = some (tyX7 k) := by decide +kernel
def RX8 : String := "SewnRoads$State"
def TX8 : u_T := fun k => match k with
  | 0 => ("SewnRoads$State", "week", "I", false)
  | 1 => ("SewnRoads$State", "thread", "I", false)
  | 2 => ("SewnRoads$State", "sewn", "[I", true)
  | _ => ("SewnRoads$State", "carts", "[I", true)
def tyX8 : Nat → FieldType := fun k => match k with
  | 0 => .int
  | 1 => .int
  | 2 => .array .int
  | _ => .array .int
theorem nmX8 : ∀ a, a < 4 → ∀ b, b < 4 → a ≠ b → (TX8 a).2.1 ≠ (TX8 b).2.1 := by decide +kernel
theorem tyX8_ok : ∀ k, k < 4 → parseFieldDescriptor (TX8 k).2.2.1 = some (tyX8 k) := by decide +kernel
def RX9 : String := "SewnRoads$Tape"
def TX9 : u_T := fun k => match k with
  | 0 => ("SewnRoads$Tape", "bytes", "[B", true)
  | _ => ("SewnRoads$Tape", "length", "I", false)
def tyX9 : Nat → FieldType := fun k => match k with
  | 0 => .array .byte
  | _ => .int
theorem nmX9 : ∀ a, a < 2 → ∀ b, b < 2 → a ≠ b → (TX9 a).2.1 ≠ (TX9 b).2.1 := by decide +kernel
theorem tyX9_ok : ∀ k, k < 2 → parseFieldDescriptor (TX9 k).2.2.1 = some (tyX9 k) := by decide +kernel
def RX10 : String := "SewnRoads$Tokens"
def TX10 : u_T := fun k => match k with
  | 0 => ("SewnRoads$Tokens", "kind", "[I", true)
  | 1 => ("SewnRoads$Tokens", "start", "[I", true)
  | 2 => ("SewnRoads$Tokens", "value", "[J", true)
  | 3 => ("SewnRoads$Tokens", "words", "[J", true)
  | _ => ("SewnRoads$Tokens", "size", "I", false)
def tyX10 : Nat → FieldType := fun k => match k with
  | 0 => .array .int
  | 1 => .array .int
  | 2 => .array .long
  | 3 => .array .long
  | _ => .int
theorem nmX10 : ∀ a, a < 5 → ∀ b, b < 5 → a ≠ b → (TX10 a).2.1 ≠ (TX10 b).2.1 := by decide +kernel
theorem tyX10_ok : ∀ k, k < 5 → parseFieldDescriptor (TX10 k).2.2.1 = some (tyX10 k) := by decide +kernel
def RX11 : String := "SewnRoads"
def TX11 : u_T := fun k => match k with
  | 0 => ("SewnRoads", "tape", "LSewnRoads$Tape;", true)
  | 1 => ("SewnRoads", "reader", "LSewnRoads$Reader;", true)
  | 2 => ("SewnRoads", "plan", "LSewnRoads$Plan;", true)
  | 3 => ("SewnRoads", "now", "LSewnRoads$State;", true)
  | 4 => ("SewnRoads", "later", "LSewnRoads$State;", true)
  | 5 => ("SewnRoads", "past", "LSewnRoads$Past;", true)
  | 6 => ("SewnRoads", "slots", "[LSewnRoads$State;", true)
  | 7 => ("SewnRoads", "held", "[Z", true)
  | 8 => ("SewnRoads", "rules", "LSewnRoads$Rules;", true)
  | 9 => ("SewnRoads", "net", "LSewnRoads$Net;", true)
  | 10 => ("SewnRoads", "season", "LSewnRoads$Season;", true)
  | 11 => ("SewnRoads", "search", "LSewnRoads$Search;", true)
  | _ => ("SewnRoads", "faultPlace", "I", false)
def tyX11 : Nat → FieldType := fun k => match k with
  | 0 => .object "SewnRoads$Tape"
  | 1 => .object "SewnRoads$Reader"
  | 2 => .object "SewnRoads$Plan"
  | 3 => .object "SewnRoads$State"
  | 4 => .object "SewnRoads$State"
  | 5 => .object "SewnRoads$Past"
  | 6 => .array (.object "SewnRoads$State")
  | 7 => .array .boolean
  | 8 => .object "SewnRoads$Rules"
  | 9 => .object "SewnRoads$Net"
  | 10 => .object "SewnRoads$Season"
  | 11 => .object "SewnRoads$Search"
  | _ => .int
theorem nmX11 : ∀ a, a < 13 → ∀ b, b < 13 → a ≠ b → (TX11 a).2.1 ≠ (TX11 b).2.1 := by decide +kernel
theorem tyX11_ok : ∀ k, k < 13 → parseFieldDescriptor (TX11 k).2.2.1 = some (tyX11 k) := by decide +kernel
def RX12 : String := "SewnRoadsModel"
def TX12 : u_T := fun k => match k with
  | 0 => ("SewnRoadsModel", "thrown", "I", false)
  | 1 => ("SewnRoadsModel", "tape", "[B", true)
  | 2 => ("SewnRoadsModel", "taped", "I", false)
  | 3 => ("SewnRoadsModel", "text", "[B", true)
  | 4 => ("SewnRoadsModel", "size", "I", false)
  | 5 => ("SewnRoadsModel", "tKind", "[I", true)
  | 6 => ("SewnRoadsModel", "tPlace", "[I", true)
  | 7 => ("SewnRoadsModel", "tValue", "[I", true)
  | 8 => ("SewnRoadsModel", "tName", "[J", true)
  | 9 => ("SewnRoadsModel", "keys", "[J", true)
  | 10 => ("SewnRoadsModel", "tokens", "I", false)
  | 11 => ("SewnRoadsModel", "t", "I", false)
  | 12 => ("SewnRoadsModel", "open", "I", false)
  | 13 => ("SewnRoadsModel", "fault", "I", false)
  | 14 => ("SewnRoadsModel", "faultPlace", "I", false)
  | 15 => ("SewnRoadsModel", "worst", "I", false)
  | 16 => ("SewnRoadsModel", "worstPlace", "I", false)
  | 17 => ("SewnRoadsModel", "place", "I", false)
  | 18 => ("SewnRoadsModel", "live", "I", false)
  | 19 => ("SewnRoadsModel", "side", "I", false)
  | 20 => ("SewnRoadsModel", "names", "I", false)
  | 21 => ("SewnRoadsModel", "nameOf", "[J", true)
  | 22 => ("SewnRoadsModel", "nameAt", "[I", true)
  | 23 => ("SewnRoadsModel", "towns", "[I", true)
  | 24 => ("SewnRoadsModel", "seams", "[I", true)
  | 25 => ("SewnRoadsModel", "fromOf", "[I", true)
  | 26 => ("SewnRoadsModel", "toOf", "[I", true)
  | 27 => ("SewnRoadsModel", "lengthOf", "[I", true)
  | 28 => ("SewnRoadsModel", "sewnTold", "[I", true)
  | 29 => ("SewnRoadsModel", "women", "[I", true)
  | 30 => ("SewnRoadsModel", "stitches", "[I", true)
  | 31 => ("SewnRoadsModel", "carts", "[I", true)
  | 32 => ("SewnRoadsModel", "startOf", "[I", true)
  | 33 => ("SewnRoadsModel", "endOf", "[I", true)
  | 34 => ("SewnRoadsModel", "loadOf", "[I", true)
  | 35 => ("SewnRoadsModel", "threadTold", "[I", true)
  | 36 => ("SewnRoadsModel", "frost", "[I", true)
  | 37 => ("SewnRoadsModel", "seed", "[I", true)
  | 38 => ("SewnRoadsModel", "lawFirst", "[I", true)
  | 39 => ("SewnRoadsModel", "lawLast", "[I", true)
  | 40 => ("SewnRoadsModel", "branches", "I", false)
  | 41 => ("SewnRoadsModel", "hasTest", "[Z", true)
  | 42 => ("SewnRoadsModel", "testFrom", "[I", true)
  | 43 => ("SewnRoadsModel", "testMid", "[I", true)
  | 44 => ("SewnRoadsModel", "testTo", "[I", true)
  | 45 => ("SewnRoadsModel", "termTo", "[I", true)
  | 46 => ("SewnRoadsModel", "codes", "I", false)
  | 47 => ("SewnRoadsModel", "code", "[I", true)
  | 48 => ("SewnRoadsModel", "codeInt", "[I", true)
  | 49 => ("SewnRoadsModel", "waits", "[I", true)
  | 50 => ("SewnRoadsModel", "waiting", "I", false)
  | 51 => ("SewnRoadsModel", "variables", "[I", true)
  | 52 => ("SewnRoadsModel", "pile", "[I", true)
  | 53 => ("SewnRoadsModel", "isBroken", "Z", false)
  | 54 => ("SewnRoadsModel", "now", "[I", true)
  | 55 => ("SewnRoadsModel", "row", "[I", true)
  | 56 => ("SewnRoadsModel", "lots", "I", false)
  | 57 => ("SewnRoadsModel", "isStill", "Z", false)
  | 58 => ("SewnRoadsModel", "farOf", "[I", true)
  | 59 => ("SewnRoadsModel", "waysNow", "[I", true)
  | 60 => ("SewnRoadsModel", "cartedOn", "[I", true)
  | 61 => ("SewnRoadsModel", "sewnThen", "[I", true)
  | 62 => ("SewnRoadsModel", "undos", "I", false)
  | 63 => ("SewnRoadsModel", "history", "[I", true)
  | 64 => ("SewnRoadsModel", "takesBy", "[I", true)
  | 65 => ("SewnRoadsModel", "tolds", "I", false)
  | 66 => ("SewnRoadsModel", "toldFrom", "[I", true)
  | 67 => ("SewnRoadsModel", "toldTo", "[I", true)
  | 68 => ("SewnRoadsModel", "toldWay", "[I", true)
  | 69 => ("SewnRoadsModel", "wayBy", "[I", true)
  | 70 => ("SewnRoadsModel", "isHeld", "[Z", true)
  | _ => ("SewnRoadsModel", "heldRows", "[I", true)
def tyX12 : Nat → FieldType := fun k => match k with
  | 0 => .int
  | 1 => .array .byte
  | 2 => .int
  | 3 => .array .byte
  | 4 => .int
  | 5 => .array .int
  | 6 => .array .int
  | 7 => .array .int
  | 8 => .array .long
  | 9 => .array .long
  | 10 => .int
  | 11 => .int
  | 12 => .int
  | 13 => .int
  | 14 => .int
  | 15 => .int
  | 16 => .int
  | 17 => .int
  | 18 => .int
  | 19 => .int
  | 20 => .int
  | 21 => .array .long
  | 22 => .array .int
  | 23 => .array .int
  | 24 => .array .int
  | 25 => .array .int
  | 26 => .array .int
  | 27 => .array .int
  | 28 => .array .int
  | 29 => .array .int
  | 30 => .array .int
  | 31 => .array .int
  | 32 => .array .int
  | 33 => .array .int
  | 34 => .array .int
  | 35 => .array .int
  | 36 => .array .int
  | 37 => .array .int
  | 38 => .array .int
  | 39 => .array .int
  | 40 => .int
  | 41 => .array .boolean
  | 42 => .array .int
  | 43 => .array .int
  | 44 => .array .int
  | 45 => .array .int
  | 46 => .int
  | 47 => .array .int
  | 48 => .array .int
  | 49 => .array .int
  | 50 => .int
  | 51 => .array .int
  | 52 => .array .int
  | 53 => .boolean
  | 54 => .array .int
  | 55 => .array .int
  | 56 => .int
  | 57 => .boolean
  | 58 => .array .int
  | 59 => .array .int
  | 60 => .array .int
  | 61 => .array .int
  | 62 => .int
  | 63 => .array .int
  | 64 => .array .int
  | 65 => .int
  | 66 => .array .int
  | 67 => .array .int
  | 68 => .array .int
  | 69 => .array .int
  | 70 => .array .boolean
  | _ => .array .int
theorem nmX12 : ∀ a, a < 72 → ∀ b, b < 72 → a ≠ b → (TX12 a).2.1 ≠ (TX12 b).2.1 := by decide +kernel
theorem tyX12_ok : ∀ k, k < 72 → parseFieldDescriptor (TX12 k).2.2.1 = some (tyX12 k) := by decide +kernel
abbrev vwCl : List vw_C := [(RX0, TX0, 4), (RX1, TX1, 2), (RX2, TX2, 3), (RX3, TX3, 18), (RX4, TX4, 11), (RX5, TX5, 3), (RX6, TX6, 7), (RX7, TX7, 6), (RX8, TX8, 4), (RX9, TX9, 2), (RX10, TX10, 5), (RX11, TX11, 13), (RX12, TX12, 72)]
/-- the words that a callee may take along -/
def gtb : List Cond := lw_tbl.filter goodWord
/-- of each class's fields: 0 an int, 1 a boolean, 2 a reference -/
def fkt : List (List Nat) := [[2, 2, 2, 0], [2, 2], [2, 0, 0], [0, 0, 0, 0, 0, 0, 0, 0, 2, 2, 2, 2, 2, 2, 2, 2, 2, 2], [2, 0, 2, 2, 2, 0, 0, 0, 0, 0, 0], [2, 2, 2], [2, 2, 2, 2, 2, 2, 0], [2, 2, 2, 2, 2, 2], [0, 0, 2, 2], [2, 0], [2, 2, 2, 2, 0], [2, 2, 2, 2, 2, 2, 2, 2, 2, 2, 2, 2, 0], [0, 2, 0, 2, 0, 2, 2, 2, 2, 2, 0, 0, 0, 0, 0, 0, 0, 0, 0, 0, 0, 2, 2, 2, 2, 2, 2, 2, 2, 2, 2, 2, 2, 2, 2, 2, 2, 2, 2, 2, 0, 2, 2, 2, 2, 2, 0, 2, 2, 2, 0, 2, 2, 1, 2, 2, 0, 1, 2, 2, 2, 2, 0, 2, 2, 0, 2, 2, 2, 2, 2, 2]]
def p_fk (ci j : Nat) : Nat := (fkt.getD ci []).getD j 9
end
section
/-! ===== the classes' facts, by their numbers ===== -/
def cT (ci : Nat) : vw_C := vwCl.getD ci ("", TX0, 0)
theorem mem_gtb {w : Cond} (h : w ∈ lw_tbl) (hg : goodWord w = true) : w ∈ gtb := List.mem_filter.mpr ⟨h, hg⟩
theorem gtb_good : GoodIn gtb gtb := fun w h => ⟨h, good_of_word (List.mem_filter.mp h).2⟩
theorem gtb_sub : ∀ w ∈ gtb, w ∈ lw_tbl := fun w h => (List.mem_filter.mp h).1
def cF (ci : Nat) (ty0 : Nat → FieldType) : Prop := vwCl[ci]? = some (cT ci) ∧ (∀ w ∈ u_ws (cT ci).1 (cT ci).2.1 (cT ci).2.2, w ∈ gtb) ∧ (∀ k, k < (cT ci).2.2 → parseFieldDescriptor ((cT ci).2.1 k).2.2.1 = some (ty0 k)) ∧ (∀ a, a < (cT ci).2.2 → ∀ b, b < (cT ci).2.2 → a ≠ b → ((cT ci).2.1 a).2.1 ≠ ((cT ci).2.1 b).2.1) ∧
  (∀ k, k < (cT ci).2.2 → p_fk ci k = 0 → ty0 k = .int ∧ ((cT ci).2.1 k).2.2.2 = false) ∧ (∀ k, k < (cT ci).2.2 → p_fk ci k = 1 → ty0 k = .boolean ∧ ((cT ci).2.1 k).2.2.2 = false)
theorem u_mem {ws : List Cond} (h : ws.all (fun w => decide (w ∈ lw_tbl) && goodWord w) = true) : ∀ w ∈ ws, w ∈ gtb := by
  intro w hw
  have h1 := List.all_eq_true.mp h w hw
  simp only [Bool.and_eq_true, decide_eq_true_eq] at h1
  exact mem_gtb h1.1 h1.2
set_option maxRecDepth 100000 in
theorem cf_0 : cF 0 tyX0 := ⟨rfl, u_mem (by decide +kernel), tyX0_ok, nmX0, by decide +kernel, by decide +kernel⟩
set_option maxRecDepth 100000 in
theorem cf_1 : cF 1 tyX1 := ⟨rfl, u_mem (by decide +kernel), tyX1_ok, nmX1, by decide +kernel, by decide +kernel⟩
set_option maxRecDepth 100000 in
theorem cf_2 : cF 2 tyX2 := ⟨rfl, u_mem (by decide +kernel), tyX2_ok, nmX2, by decide +kernel, by decide +kernel⟩
set_option maxRecDepth 100000 in
theorem cf_3 : cF 3 tyX3 := ⟨rfl, u_mem (by decide +kernel), tyX3_ok, nmX3, by decide +kernel, by decide +kernel⟩
set_option maxRecDepth 100000 in
theorem cf_4 : cF 4 tyX4 := ⟨rfl, u_mem (by decide +kernel), tyX4_ok, nmX4, by decide +kernel, by decide +kernel⟩
set_option maxRecDepth 100000 in
theorem cf_5 : cF 5 tyX5 := ⟨rfl, u_mem (by decide +kernel), tyX5_ok, nmX5, by decide +kernel, by decide +kernel⟩
set_option maxRecDepth 100000 in
theorem cf_6 : cF 6 tyX6 := ⟨rfl, u_mem (by decide +kernel), tyX6_ok, nmX6, by decide +kernel, by decide +kernel⟩
set_option maxRecDepth 100000 in
theorem cf_7 : cF 7 tyX7 := ⟨rfl, u_mem (by decide +kernel), tyX7_ok, nmX7, by decide +kernel, by decide +kernel⟩
set_option maxRecDepth 100000 in
theorem cf_8 : cF 8 tyX8 := ⟨rfl, u_mem (by decide +kernel), tyX8_ok, nmX8, by decide +kernel, by decide +kernel⟩
set_option maxRecDepth 100000 in
theorem cf_9 : cF 9 tyX9 := ⟨rfl, u_mem (by decide +kernel), tyX9_ok, nmX9, by decide +kernel, by decide +kernel⟩
set_option maxRecDepth 100000 in
theorem cf_10 : cF 10 tyX10 := ⟨rfl, u_mem (by decide +kernel), tyX10_ok, nmX10, by decide +kernel, by decide +kernel⟩
set_option maxRecDepth 100000 in
theorem cf_11 : cF 11 tyX11 := ⟨rfl, u_mem (by decide +kernel), tyX11_ok, nmX11, by decide +kernel, by decide +kernel⟩
set_option maxRecDepth 100000 in
theorem cf_12 : cF 12 tyX12 := ⟨rfl, u_mem (by decide +kernel), tyX12_ok, nmX12, by decide +kernel, by decide +kernel⟩
theorem cf_all : ∀ ci, ci < 13 → ∃ ty0, cF ci ty0 := by
  intro ci h
  match ci, h with
  | 0, _ => exact ⟨_, cf_0⟩
  | 1, _ => exact ⟨_, cf_1⟩
  | 2, _ => exact ⟨_, cf_2⟩
  | 3, _ => exact ⟨_, cf_3⟩
  | 4, _ => exact ⟨_, cf_4⟩
  | 5, _ => exact ⟨_, cf_5⟩
  | 6, _ => exact ⟨_, cf_6⟩
  | 7, _ => exact ⟨_, cf_7⟩
  | 8, _ => exact ⟨_, cf_8⟩
  | 9, _ => exact ⟨_, cf_9⟩
  | 10, _ => exact ⟨_, cf_10⟩
  | 11, _ => exact ⟨_, cf_11⟩
  | 12, _ => exact ⟨_, cf_12⟩
  | n + 13, h => exact absurd h (by omega)
end
section
/-! ===== the methods, by their numbers: name, code, locals, what it returns, 0 static or one more than its class ===== -/
def mt_0 : List (MethodName × ByteArray × Nat × Option FieldType × Nat) := [(⟨"SewnRoads$Laws", "<init>", "()V"⟩, prog_2_method_1_code, 1, none, 1),
  (⟨"SewnRoads$Laws", "clear", "()V"⟩, prog_2_method_2_code, 1, none, 1),
  (⟨"SewnRoads$Laws", "copyFrom", "(LSewnRoads$Laws;)V"⟩, prog_2_method_3_code, 2, none, 1),
  (⟨"SewnRoads$Laws", "nextStep", "()I"⟩, prog_2_method_4_code, 1, (some .int), 1),
  (⟨"SewnRoads$Laws", "beginLaw", "(II)V"⟩, prog_2_method_5_code, 3, none, 1),
  (⟨"SewnRoads$Laws", "addStep", "(II)V"⟩, prog_2_method_6_code, 3, none, 1),
  (⟨"SewnRoads$Laws", "leadHere", "(I)V"⟩, prog_2_method_7_code, 2, none, 1),
  (⟨"SewnRoads$Laws", "say", "(I[I)I"⟩, prog_2_method_8_code, 8, (some .int), 1),
  (⟨"SewnRoads$Laws", "reckon", "(III)I"⟩, prog_2_method_9_code, 3, (some .int), 0),
  (⟨"SewnRoads$Laws", "addDefault", "(III)V"⟩, prog_2_method_10_code, 4, none, 1),
  (⟨"SewnRoads$Net", "<init>", "(LSewnRoads$Plan;)V"⟩, prog_3_method_1_code, 2, none, 2),
  (⟨"SewnRoads$Net", "spread", "(II)I"⟩, prog_3_method_2_code, 5, (some .int), 2),
  (⟨"SewnRoads$Net", "reach", "(II)I"⟩, prog_3_method_3_code, 6, (some .int), 2),
  (⟨"SewnRoads$Net", "joins", "(III)Z"⟩, prog_3_method_4_code, 4, (some .boolean), 2),
  (⟨"SewnRoads$Net", "measure", "(I[II)V"⟩, prog_3_method_5_code, 7, none, 2),
  (⟨"SewnRoads$Net", "isReached", "(I)Z"⟩, prog_3_method_6_code, 2, (some .boolean), 2),
  (⟨"SewnRoads$Net", "widest", "([III)I"⟩, prog_3_method_7_code, 6, (some .int), 2),
  (⟨"SewnRoads$Net", "cheapestSeams", "([II)I"⟩, prog_3_method_8_code, 7, (some .int), 2),
  (⟨"SewnRoads$Net", "bridges", "(I)I"⟩, prog_3_method_9_code, 5, (some .int), 2),
  (⟨"SewnRoads$Net", "walks", "(I)I"⟩, prog_3_method_10_code, 6, (some .int), 2),
  (⟨"SewnRoads$Net", "oddTowns", "(II)I"⟩, prog_3_method_11_code, 5, (some .int), 2),
  (⟨"SewnRoads$Net", "seamsAsWide", "([II)I"⟩, prog_3_method_12_code, 5, (some .int), 2),
  (⟨"SewnRoads$Net", "shorten", "(III)Z"⟩, prog_3_method_13_code, 4, (some .boolean), 2),
  (⟨"SewnRoads$Past", "<init>", "()V"⟩, prog_4_method_1_code, 2, none, 3),
  (⟨"SewnRoads$Past", "clear", "()V"⟩, prog_4_method_2_code, 1, none, 3),
  (⟨"SewnRoads$Past", "keep", "(LSewnRoads$State;)V"⟩, prog_4_method_3_code, 2, none, 3),
  (⟨"SewnRoads$Past", "takeBack", "(LSewnRoads$State;)Z"⟩, prog_4_method_4_code, 2, (some .boolean), 3),
  (⟨"SewnRoads$Plan", "<init>", "()V"⟩, prog_5_method_1_code, 1, none, 4),
  (⟨"SewnRoads$Plan", "clear", "()V"⟩, prog_5_method_2_code, 1, none, 4),
  (⟨"SewnRoads$Plan", "copyFrom", "(LSewnRoads$Plan;)V"⟩, prog_5_method_3_code, 2, none, 4),
  (⟨"SewnRoads$Plan", "addSeam", "(IIII)V"⟩, prog_5_method_4_code, 5, none, 4),
  (⟨"SewnRoads$Plan", "addCart", "(III)V"⟩, prog_5_method_5_code, 4, none, 4),
  (⟨"SewnRoads$Plan", "hasSeam", "(II)Z"⟩, prog_5_method_6_code, 4, (some .boolean), 4),
  (⟨"SewnRoads$Plan", "countWays", "()V"⟩, prog_5_method_7_code, 3, none, 4),
  (⟨"SewnRoads$Reader", "<init>", "()V"⟩, prog_6_method_1_code, 1, none, 5),
  (⟨"SewnRoads$Reader", "readText", "(LSewnRoads$Tape;)I"⟩, prog_6_method_2_code, 3, (some .int), 5),
  (⟨"SewnRoads$Reader", "readTell", "()V"⟩, prog_6_method_3_code, 1, none, 5),
  (⟨"SewnRoads$Reader", "readTown", "()V"⟩, prog_6_method_4_code, 2, none, 5),
  (⟨"SewnRoads$Reader", "readSeam", "()V"⟩, prog_6_method_5_code, 7, none, 5),
  (⟨"SewnRoads$Reader", "readWoman", "()V"⟩, prog_6_method_6_code, 3, none, 5)]
def mt_1 : List (MethodName × ByteArray × Nat × Option FieldType × Nat) := [(⟨"SewnRoads$Reader", "readCart", "()V"⟩, prog_6_method_7_code, 7, none, 5),
  (⟨"SewnRoads$Reader", "readNumber", "(I)I"⟩, prog_6_method_8_code, 3, (some .int), 5),
  (⟨"SewnRoads$Reader", "readLaw", "()V"⟩, prog_6_method_9_code, 6, none, 5),
  (⟨"SewnRoads$Reader", "readSum", "(I)V"⟩, prog_6_method_10_code, 4, none, 5),
  (⟨"SewnRoads$Reader", "readProduct", "(I)V"⟩, prog_6_method_11_code, 4, none, 5),
  (⟨"SewnRoads$Reader", "readUnit", "(I)V"⟩, prog_6_method_12_code, 2, none, 5),
  (⟨"SewnRoads$Reader", "takeFirst", "(Z)V"⟩, prog_6_method_13_code, 2, none, 5),
  (⟨"SewnRoads$Reader", "take", "(I)I"⟩, prog_6_method_14_code, 3, (some .int), 5),
  (⟨"SewnRoads$Reader", "note", "(II)V"⟩, prog_6_method_15_code, 3, none, 5),
  (⟨"SewnRoads$Reader", "addName", "(II)V"⟩, prog_6_method_16_code, 3, none, 5),
  (⟨"SewnRoads$Reader", "findName", "(I)I"⟩, prog_6_method_17_code, 3, (some .int), 5),
  (⟨"SewnRoads$Reader", "townAt", "(I)I"⟩, prog_6_method_18_code, 4, (some .int), 5),
  (⟨"SewnRoads$Reader", "numberAt", "(III)I"⟩, prog_6_method_19_code, 5, (some .int), 5),
  (⟨"SewnRoads$Rules", "<init>", "(LSewnRoads$Plan;)V"⟩, prog_7_method_1_code, 2, none, 6),
  (⟨"SewnRoads$Rules", "stitchCost", "(III)I"⟩, prog_7_method_2_code, 4, (some .int), 6),
  (⟨"SewnRoads$Rules", "wear", "(IIIII)I"⟩, prog_7_method_3_code, 6, (some .int), 6),
  (⟨"SewnRoads$Rules", "wayLong", "(III)I"⟩, prog_7_method_4_code, 4, (some .int), 6),
  (⟨"SewnRoads$Rules", "tollFor", "(IIII)I"⟩, prog_7_method_5_code, 5, (some .int), 6),
  (⟨"SewnRoads$Rules", "canStitch", "(ILSewnRoads$State;)Z"⟩, prog_7_method_6_code, 4, (some .boolean), 6),
  (⟨"SewnRoads$Rules", "threadUpTo", "(IILSewnRoads$State;)I"⟩, prog_7_method_7_code, 6, (some .int), 6),
  (⟨"SewnRoads$Rules", "fillSetCosts", "(ILSewnRoads$State;)V"⟩, prog_7_method_8_code, 7, none, 6),
  (⟨"SewnRoads$Rules", "look", "(III)V"⟩, prog_7_method_9_code, 4, none, 6),
  (⟨"SewnRoads$Rules", "held", "(I)I"⟩, prog_7_method_10_code, 1, (some .int), 0),
  (⟨"SewnRoads$Search", "<init>", "(LSewnRoads$Plan;LSewnRoads$Net;)V"⟩, prog_8_method_1_code, 3, none, 7),
  (⟨"SewnRoads$Search", "clear", "()V"⟩, prog_8_method_2_code, 1, none, 7),
  (⟨"SewnRoads$Search", "addTold", "(III)I"⟩, prog_8_method_3_code, 4, (some .int), 7),
  (⟨"SewnRoads$Search", "measureCuts", "(I[I)V"⟩, prog_8_method_4_code, 6, none, 7),
  (⟨"SewnRoads$Search", "cutsKnownBy", "(II)I"⟩, prog_8_method_5_code, 5, (some .int), 7),
  (⟨"SewnRoads$Search", "bestQuestion", "(I)I"⟩, prog_8_method_6_code, 7, (some .int), 7),
  (⟨"SewnRoads$Search", "fits", "(II)Z"⟩, prog_8_method_7_code, 4, (some .boolean), 7),
  (⟨"SewnRoads$Search", "mostAlike", "(III)I"⟩, prog_8_method_8_code, 6, (some .int), 7),
  (⟨"SewnRoads$Search", "alike", "(IIII)I"⟩, prog_8_method_9_code, 7, (some .int), 7),
  (⟨"SewnRoads$Search", "pairOf", "(III)I"⟩, prog_8_method_10_code, 3, (some .int), 0),
  (⟨"SewnRoads$Season", "<init>", "(LSewnRoads$Plan;LSewnRoads$Rules;LSewnRoads$Net;)V"⟩, prog_9_method_1_code, 4, none, 8),
  (⟨"SewnRoads$Season", "fillWays", "(LSewnRoads$State;)V"⟩, prog_9_method_2_code, 3, none, 8),
  (⟨"SewnRoads$Season", "passWeeks", "(LSewnRoads$State;II)V"⟩, prog_9_method_3_code, 5, none, 8),
  (⟨"SewnRoads$Season", "hasChance", "()Z"⟩, prog_9_method_4_code, 1, (some .boolean), 8),
  (⟨"SewnRoads$Season", "isFrost", "(II)Z"⟩, prog_9_method_5_code, 3, (some .boolean), 8),
  (⟨"SewnRoads$Season", "fillLives", "(LSewnRoads$State;)V"⟩, prog_9_method_6_code, 3, none, 8),
  (⟨"SewnRoads$Season", "seamsOutliving", "(I)I"⟩, prog_9_method_7_code, 4, (some .int), 8)]
def mt_2 : List (MethodName × ByteArray × Nat × Option FieldType × Nat) := [(⟨"SewnRoads$Season", "bestToDouble", "(LSewnRoads$State;III)I"⟩, prog_9_method_8_code, 10, (some .int), 8),
  (⟨"SewnRoads$Season", "lifeOf", "(III)I"⟩, prog_9_method_9_code, 6, (some .int), 8),
  (⟨"SewnRoads$Season", "moveCarts", "(LSewnRoads$State;)V"⟩, prog_9_method_10_code, 5, none, 8),
  (⟨"SewnRoads$Season", "moveCart", "(LSewnRoads$State;II)V"⟩, prog_9_method_11_code, 8, none, 8),
  (⟨"SewnRoads$Season", "nextSeam", "(II)I"⟩, prog_9_method_12_code, 7, (some .int), 8),
  (⟨"SewnRoads$Season", "otherEnd", "(II)I"⟩, prog_9_method_13_code, 3, (some .int), 8),
  (⟨"SewnRoads$Season", "wearSeams", "(LSewnRoads$State;I)V"⟩, prog_9_method_14_code, 5, none, 8),
  (⟨"SewnRoads$Season", "lotOfHundred", "(II)I"⟩, prog_9_method_15_code, 3, (some .int), 0),
  (⟨"SewnRoads$Season", "mixed", "(II)I"⟩, prog_9_method_16_code, 3, (some .int), 0),
  (⟨"SewnRoads$State", "<init>", "()V"⟩, prog_10_method_1_code, 1, none, 9),
  (⟨"SewnRoads$State", "begin", "(LSewnRoads$Plan;)V"⟩, prog_10_method_2_code, 3, none, 9),
  (⟨"SewnRoads$State", "copyFrom", "(LSewnRoads$State;)V"⟩, prog_10_method_3_code, 2, none, 9),
  (⟨"SewnRoads$State", "cartField", "(II)I"⟩, prog_10_method_4_code, 3, (some .int), 9),
  (⟨"SewnRoads$State", "setCartField", "(III)V"⟩, prog_10_method_5_code, 4, none, 9),
  (⟨"SewnRoads$State", "addToCartField", "(III)V"⟩, prog_10_method_6_code, 4, none, 9),
  (⟨"SewnRoads$State", "isOnRoad", "(I)Z"⟩, prog_10_method_7_code, 2, (some .boolean), 9),
  (⟨"SewnRoads$State", "wholeSeams", "(LSewnRoads$Plan;)I"⟩, prog_10_method_8_code, 4, (some .int), 9),
  (⟨"SewnRoads$State", "cartsOnRoad", "(LSewnRoads$Plan;)I"⟩, prog_10_method_9_code, 4, (some .int), 9),
  (⟨"SewnRoads$State", "sewnTogether", "(LSewnRoads$Plan;)I"⟩, prog_10_method_10_code, 4, (some .int), 9),
  (⟨"SewnRoads$State", "evenLevel", "(LSewnRoads$Plan;I)I"⟩, prog_10_method_11_code, 6, (some .int), 9),
  (⟨"SewnRoads$Tape", "<init>", "()V"⟩, prog_11_method_1_code, 1, none, 10),
  (⟨"SewnRoads$Tape", "hasRoomFor", "(I)Z"⟩, prog_11_method_2_code, 2, (some .boolean), 10),
  (⟨"SewnRoads$Tape", "append", "(I)V"⟩, prog_11_method_3_code, 3, none, 10),
  (⟨"SewnRoads$Tape", "byteAt", "(I)I"⟩, prog_11_method_4_code, 2, (some .int), 10),
  (⟨"SewnRoads$Tokens", "<init>", "()V"⟩, prog_12_method_1_code, 6, none, 11),
  (⟨"SewnRoads$Tokens", "kindOf", "(I)I"⟩, prog_12_method_2_code, 2, (some .int), 11),
  (⟨"SewnRoads$Tokens", "startOf", "(I)I"⟩, prog_12_method_3_code, 2, (some .int), 11),
  (⟨"SewnRoads$Tokens", "valueOf", "(I)J"⟩, prog_12_method_4_code, 2, (some .long), 11),
  (⟨"SewnRoads$Tokens", "scan", "(LSewnRoads$Tape;)V"⟩, prog_12_method_5_code, 4, none, 11),
  (⟨"SewnRoads$Tokens", "scanOne", "(LSewnRoads$Tape;I)I"⟩, prog_12_method_6_code, 4, (some .int), 11),
  (⟨"SewnRoads$Tokens", "scanLetters", "(LSewnRoads$Tape;I)I"⟩, prog_12_method_7_code, 7, (some .int), 11),
  (⟨"SewnRoads$Tokens", "scanDigits", "(LSewnRoads$Tape;I)I"⟩, prog_12_method_8_code, 6, (some .int), 11),
  (⟨"SewnRoads$Tokens", "sortOfLetters", "(J)I"⟩, prog_12_method_9_code, 4, (some .int), 11),
  (⟨"SewnRoads$Tokens", "add", "(IIJ)V"⟩, prog_12_method_10_code, 5, none, 11),
  (⟨"SewnRoads$Tokens", "afterBlanks", "(LSewnRoads$Tape;I)I"⟩, prog_12_method_11_code, 3, (some .int), 0),
  (⟨"SewnRoads$Tokens", "withLetter", "(JI)J"⟩, prog_12_method_12_code, 3, (some .long), 0),
  (⟨"SewnRoads$Tokens", "isBlank", "(I)Z"⟩, prog_12_method_13_code, 1, (some .boolean), 0),
  (⟨"SewnRoads$Tokens", "isLetter", "(I)Z"⟩, prog_12_method_14_code, 1, (some .boolean), 0),
  (⟨"SewnRoads$Tokens", "isDigit", "(I)Z"⟩, prog_12_method_15_code, 1, (some .boolean), 0),
  (⟨"SewnRoads", "<init>", "()V"⟩, prog_1_method_1_code, 2, none, 12)]
def mt_3 : List (MethodName × ByteArray × Nat × Option FieldType × Nat) := [(⟨"SewnRoads", "feed", "(IIIII)I"⟩, prog_1_method_2_code, 6, (some .int), 12),
  (⟨"SewnRoads", "back", "(I)I"⟩, prog_1_method_3_code, 2, (some .int), 12),
  (⟨"SewnRoads", "read", "()I"⟩, prog_1_method_4_code, 2, (some .int), 12),
  (⟨"SewnRoads", "place", "()I"⟩, prog_1_method_5_code, 1, (some .int), 12),
  (⟨"SewnRoads", "seam", "(II)I"⟩, prog_1_method_6_code, 4, (some .int), 12),
  (⟨"SewnRoads", "cart", "(II)I"⟩, prog_1_method_7_code, 3, (some .int), 12),
  (⟨"SewnRoads", "toll", "(II)I"⟩, prog_1_method_8_code, 3, (some .int), 12),
  (⟨"SewnRoads", "sew", "(II)I"⟩, prog_1_method_9_code, 4, (some .int), 12),
  (⟨"SewnRoads", "cut", "(I)I"⟩, prog_1_method_10_code, 3, (some .int), 12),
  (⟨"SewnRoads", "unpick", "(II)I"⟩, prog_1_method_11_code, 4, (some .int), 12),
  (⟨"SewnRoads", "send", "(I)Z"⟩, prog_1_method_12_code, 2, (some .boolean), 12),
  (⟨"SewnRoads", "weeks", "(I)I"⟩, prog_1_method_13_code, 2, (some .int), 12),
  (⟨"SewnRoads", "undo", "()Z"⟩, prog_1_method_14_code, 1, (some .boolean), 12),
  (⟨"SewnRoads", "far", "(II)I"⟩, prog_1_method_15_code, 3, (some .int), 12),
  (⟨"SewnRoads", "hops", "(II)I"⟩, prog_1_method_16_code, 6, (some .int), 12),
  (⟨"SewnRoads", "joined", "(I)I"⟩, prog_1_method_17_code, 2, (some .int), 12),
  (⟨"SewnRoads", "hangs", "()I"⟩, prog_1_method_18_code, 1, (some .int), 12),
  (⟨"SewnRoads", "takes", "(II)I"⟩, prog_1_method_19_code, 3, (some .int), 12),
  (⟨"SewnRoads", "sewing", "(III)I"⟩, prog_1_method_20_code, 5, (some .int), 12),
  (⟨"SewnRoads", "surest", "(II)I"⟩, prog_1_method_21_code, 4, (some .int), 12),
  (⟨"SewnRoads", "soon", "(II)I"⟩, prog_1_method_22_code, 5, (some .int), 12),
  (⟨"SewnRoads", "holds", "(II)I"⟩, prog_1_method_23_code, 4, (some .int), 12),
  (⟨"SewnRoads", "rows", "()I"⟩, prog_1_method_24_code, 1, (some .int), 12),
  (⟨"SewnRoads", "march", "(I)I"⟩, prog_1_method_25_code, 2, (some .int), 12),
  (⟨"SewnRoads", "doubles", "(III)I"⟩, prog_1_method_26_code, 4, (some .int), 12),
  (⟨"SewnRoads", "then", "(II)I"⟩, prog_1_method_27_code, 3, (some .int), 12),
  (⟨"SewnRoads", "cartIn", "(III)I"⟩, prog_1_method_28_code, 5, (some .int), 12),
  (⟨"SewnRoads", "year", "(IIII)I"⟩, prog_1_method_29_code, 7, (some .int), 12),
  (⟨"SewnRoads", "tell", "(III)I"⟩, prog_1_method_30_code, 4, (some .int), 12),
  (⟨"SewnRoads", "forget", "()I"⟩, prog_1_method_31_code, 2, (some .int), 12),
  (⟨"SewnRoads", "cuts", "(II)I"⟩, prog_1_method_32_code, 4, (some .int), 12),
  (⟨"SewnRoads", "ask", "(I)I"⟩, prog_1_method_33_code, 3, (some .int), 12),
  (⟨"SewnRoads", "hold", "(I)Z"⟩, prog_1_method_34_code, 2, (some .boolean), 12),
  (⟨"SewnRoads", "restore", "(I)Z"⟩, prog_1_method_35_code, 2, (some .boolean), 12),
  (⟨"SewnRoads", "count", "(I)I"⟩, prog_1_method_36_code, 2, (some .int), 12),
  (⟨"SewnRoads", "emptySlots", "()V"⟩, prog_1_method_37_code, 2, none, 12),
  (⟨"SewnRoads", "heldSlots", "()I"⟩, prog_1_method_38_code, 3, (some .int), 12),
  (⟨"SewnRoads", "lookAhead", "(I)V"⟩, prog_1_method_39_code, 2, none, 12),
  (⟨"SewnRoads", "staysJoined", "(IIII)Z"⟩, prog_1_method_40_code, 7, (some .boolean), 12),
  (⟨"SewnRoads", "possibleCuts", "(I)I"⟩, prog_1_method_41_code, 3, (some .int), 12)]
def mt_4 : List (MethodName × ByteArray × Nat × Option FieldType × Nat) := [(⟨"SewnRoads", "isTown", "(I)Z"⟩, prog_1_method_42_code, 2, (some .boolean), 12),
  (⟨"SewnRoads", "areTwoTowns", "(II)Z"⟩, prog_1_method_43_code, 3, (some .boolean), 12),
  (⟨"SewnRoads", "isSeam", "(I)Z"⟩, prog_1_method_44_code, 2, (some .boolean), 12),
  (⟨"SewnRoads", "isCart", "(I)Z"⟩, prog_1_method_45_code, 2, (some .boolean), 12),
  (⟨"SewnRoads", "within", "(III)Z"⟩, prog_1_method_46_code, 3, (some .boolean), 0),
  (⟨"SewnRoads", "hasBit", "(II)Z"⟩, prog_1_method_47_code, 2, (some .boolean), 0),
  (⟨"SewnRoadsModel", "<init>", "()V"⟩, prog_14_method_2_code, 1, none, 13),
  (⟨"SewnRoadsModel", "feed", "(IIIII)I"⟩, prog_14_method_3_code, 6, (some .int), 13),
  (⟨"SewnRoadsModel", "put", "(I)V"⟩, prog_14_method_4_code, 3, none, 13),
  (⟨"SewnRoadsModel", "back", "(I)I"⟩, prog_14_method_5_code, 2, (some .int), 13),
  (⟨"SewnRoadsModel", "byteAt", "(I)I"⟩, prog_14_method_6_code, 2, (some .int), 13),
  (⟨"SewnRoadsModel", "isDigit", "(I)Z"⟩, prog_14_method_7_code, 1, (some .boolean), 0),
  (⟨"SewnRoadsModel", "isLetter", "(I)Z"⟩, prog_14_method_8_code, 1, (some .boolean), 0),
  (⟨"SewnRoadsModel", "appends", "(JI)J"⟩, prog_14_method_9_code, 3, (some .long), 0),
  (⟨"SewnRoadsModel", "word", "(IIIIIII)J"⟩, prog_14_method_10_code, 7, (some .long), 0),
  (⟨"SewnRoadsModel", "token", "(IIIJ)V"⟩, prog_14_method_11_code, 6, none, 13),
  (⟨"SewnRoadsModel", "cutsUp", "()V"⟩, prog_14_method_12_code, 8, none, 13),
  (⟨"SewnRoadsModel", "sign", "(III)I"⟩, prog_14_method_13_code, 5, (some .int), 13),
  (⟨"SewnRoadsModel", "is", "(I)Z"⟩, prog_14_method_14_code, 2, (some .boolean), 13),
  (⟨"SewnRoadsModel", "fail", "(I)V"⟩, prog_14_method_15_code, 2, none, 13),
  (⟨"SewnRoadsModel", "wrong", "(II)V"⟩, prog_14_method_16_code, 4, none, 13),
  (⟨"SewnRoadsModel", "goesOn", "()V"⟩, prog_14_method_17_code, 1, none, 13),
  (⟨"SewnRoadsModel", "must", "(I)V"⟩, prog_14_method_18_code, 2, none, 13),
  (⟨"SewnRoadsModel", "plain", "(I)V"⟩, prog_14_method_19_code, 3, none, 13),
  (⟨"SewnRoadsModel", "read", "()I"⟩, prog_14_method_20_code, 2, (some .int), 13),
  (⟨"SewnRoadsModel", "place", "()I"⟩, prog_14_method_21_code, 1, (some .int), 13),
  (⟨"SewnRoadsModel", "roomFor", "(II)V"⟩, prog_14_method_22_code, 3, none, 13),
  (⟨"SewnRoadsModel", "toldInt", "(II)I"⟩, prog_14_method_23_code, 4, (some .int), 13),
  (⟨"SewnRoadsModel", "tellOne", "()V"⟩, prog_14_method_24_code, 2, none, 13),
  (⟨"SewnRoadsModel", "named", "()I"⟩, prog_14_method_25_code, 3, (some .int), 13),
  (⟨"SewnRoadsModel", "ends", "(II)V"⟩, prog_14_method_26_code, 3, none, 13),
  (⟨"SewnRoadsModel", "knownTown", "()I"⟩, prog_14_method_27_code, 3, (some .int), 13),
  (⟨"SewnRoadsModel", "bounded", "(II)I"⟩, prog_14_method_28_code, 4, (some .int), 13),
  (⟨"SewnRoadsModel", "hasSeam", "(II)Z"⟩, prog_14_method_29_code, 4, (some .boolean), 13),
  (⟨"SewnRoadsModel", "tellSeam", "()V"⟩, prog_14_method_30_code, 5, none, 13),
  (⟨"SewnRoadsModel", "tellCart", "()V"⟩, prog_14_method_31_code, 6, none, 13),
  (⟨"SewnRoadsModel", "tellLaw", "(I)V"⟩, prog_14_method_32_code, 4, none, 13),
  (⟨"SewnRoadsModel", "term", "()V"⟩, prog_14_method_33_code, 1, none, 13),
  (⟨"SewnRoadsModel", "emit", "(II)V"⟩, prog_14_method_34_code, 3, none, 13),
  (⟨"SewnRoadsModel", "comesOut", "(Z)V"⟩, prog_14_method_35_code, 3, none, 13)]
def mt_5 : List (MethodName × ByteArray × Nat × Option FieldType × Nat) := [(⟨"SewnRoadsModel", "expression", "()V"⟩, prog_14_method_36_code, 3, none, 13),
  (⟨"SewnRoadsModel", "unit", "()V"⟩, prog_14_method_37_code, 1, none, 13),
  (⟨"SewnRoadsModel", "termOf", "(II)I"⟩, prog_14_method_38_code, 8, (some .int), 13),
  (⟨"SewnRoadsModel", "in", "(III)Z"⟩, prog_14_method_39_code, 3, (some .boolean), 0),
  (⟨"SewnRoadsModel", "held", "(III)I"⟩, prog_14_method_40_code, 3, (some .int), 0),
  (⟨"SewnRoadsModel", "isTown", "(I)Z"⟩, prog_14_method_41_code, 2, (some .boolean), 13),
  (⟨"SewnRoadsModel", "isSeam", "(I)Z"⟩, prog_14_method_42_code, 2, (some .boolean), 13),
  (⟨"SewnRoadsModel", "isCart", "(I)Z"⟩, prog_14_method_43_code, 2, (some .boolean), 13),
  (⟨"SewnRoadsModel", "begins", "()V"⟩, prog_14_method_44_code, 2, none, 13),
  (⟨"SewnRoadsModel", "keepsRow", "()V"⟩, prog_14_method_45_code, 2, none, 13),
  (⟨"SewnRoadsModel", "copies", "()V"⟩, prog_14_method_46_code, 2, none, 13),
  (⟨"SewnRoadsModel", "mixed", "(II)I"⟩, prog_14_method_47_code, 3, (some .int), 0),
  (⟨"SewnRoadsModel", "isFrost", "()Z"⟩, prog_14_method_48_code, 1, (some .boolean), 13),
  (⟨"SewnRoadsModel", "waysAt", "(I)I"⟩, prog_14_method_49_code, 4, (some .int), 13),
  (⟨"SewnRoadsModel", "looks", "(I)V"⟩, prog_14_method_50_code, 3, none, 13),
  (⟨"SewnRoadsModel", "asks", "(II)I"⟩, prog_14_method_51_code, 5, (some .int), 13),
  (⟨"SewnRoadsModel", "lawTells", "(I)I"⟩, prog_14_method_52_code, 5, (some .int), 13),
  (⟨"SewnRoadsModel", "costsNow", "(I)I"⟩, prog_14_method_53_code, 2, (some .int), 13),
  (⟨"SewnRoadsModel", "wearsNow", "(IZI)I"⟩, prog_14_method_54_code, 4, (some .int), 13),
  (⟨"SewnRoadsModel", "wayOf", "(I)I"⟩, prog_14_method_55_code, 3, (some .int), 13),
  (⟨"SewnRoadsModel", "tollOf", "(II)I"⟩, prog_14_method_56_code, 3, (some .int), 13),
  (⟨"SewnRoadsModel", "fillsWays", "()V"⟩, prog_14_method_57_code, 2, none, 13),
  (⟨"SewnRoadsModel", "fillsFar", "(I)V"⟩, prog_14_method_58_code, 6, none, 13),
  (⟨"SewnRoadsModel", "areJoined", "(II)Z"⟩, prog_14_method_59_code, 4, (some .boolean), 13),
  (⟨"SewnRoadsModel", "otherEnd", "(II)I"⟩, prog_14_method_60_code, 4, (some .int), 13),
  (⟨"SewnRoadsModel", "roadOf", "(I)I"⟩, prog_14_method_61_code, 6, (some .int), 13),
  (⟨"SewnRoadsModel", "cartGoes", "(I)V"⟩, prog_14_method_62_code, 3, none, 13),
  (⟨"SewnRoadsModel", "weekGoes", "()V"⟩, prog_14_method_63_code, 3, none, 13),
  (⟨"SewnRoadsModel", "goes", "(I)V"⟩, prog_14_method_64_code, 3, none, 13),
  (⟨"SewnRoadsModel", "seam", "(II)I"⟩, prog_14_method_65_code, 3, (some .int), 13),
  (⟨"SewnRoadsModel", "cart", "(II)I"⟩, prog_14_method_66_code, 3, (some .int), 13),
  (⟨"SewnRoadsModel", "toll", "(II)I"⟩, prog_14_method_67_code, 3, (some .int), 13),
  (⟨"SewnRoadsModel", "records", "()V"⟩, prog_14_method_68_code, 2, none, 13),
  (⟨"SewnRoadsModel", "sew", "(II)I"⟩, prog_14_method_69_code, 5, (some .int), 13),
  (⟨"SewnRoadsModel", "cut", "(I)I"⟩, prog_14_method_70_code, 3, (some .int), 13),
  (⟨"SewnRoadsModel", "unpick", "(II)I"⟩, prog_14_method_71_code, 4, (some .int), 13),
  (⟨"SewnRoadsModel", "send", "(I)Z"⟩, prog_14_method_72_code, 2, (some .boolean), 13),
  (⟨"SewnRoadsModel", "weeks", "(I)I"⟩, prog_14_method_73_code, 2, (some .int), 13),
  (⟨"SewnRoadsModel", "undo", "()Z"⟩, prog_14_method_74_code, 2, (some .boolean), 13),
  (⟨"SewnRoadsModel", "far", "(II)I"⟩, prog_14_method_75_code, 3, (some .int), 13)]
def mt_6 : List (MethodName × ByteArray × Nat × Option FieldType × Nat) := [(⟨"SewnRoadsModel", "hops", "(II)I"⟩, prog_14_method_76_code, 3, (some .int), 13),
  (⟨"SewnRoadsModel", "joinedTo", "(I)I"⟩, prog_14_method_77_code, 4, (some .int), 13),
  (⟨"SewnRoadsModel", "joined", "(I)I"⟩, prog_14_method_78_code, 2, (some .int), 13),
  (⟨"SewnRoadsModel", "hangs", "()I"⟩, prog_14_method_79_code, 3, (some .int), 13),
  (⟨"SewnRoadsModel", "takesNow", "(II)I"⟩, prog_14_method_80_code, 5, (some .int), 13),
  (⟨"SewnRoadsModel", "isSewn", "(I)Z"⟩, prog_14_method_81_code, 1, (some .boolean), 0),
  (⟨"SewnRoadsModel", "takes", "(II)I"⟩, prog_14_method_82_code, 3, (some .int), 13),
  (⟨"SewnRoadsModel", "joinsAll", "(II)Z"⟩, prog_14_method_83_code, 5, (some .boolean), 13),
  (⟨"SewnRoadsModel", "sewing", "(III)I"⟩, prog_14_method_84_code, 9, (some .int), 13),
  (⟨"SewnRoadsModel", "surest", "(II)I"⟩, prog_14_method_85_code, 5, (some .int), 13),
  (⟨"SewnRoadsModel", "soon", "(II)I"⟩, prog_14_method_86_code, 7, (some .int), 13),
  (⟨"SewnRoadsModel", "holdsFor", "(II)I"⟩, prog_14_method_87_code, 4, (some .int), 13),
  (⟨"SewnRoadsModel", "holds", "(II)I"⟩, prog_14_method_88_code, 4, (some .int), 13),
  (⟨"SewnRoadsModel", "wholeAt", "(I)I"⟩, prog_14_method_89_code, 4, (some .int), 13),
  (⟨"SewnRoadsModel", "rows", "()I"⟩, prog_14_method_90_code, 7, (some .int), 13),
  (⟨"SewnRoadsModel", "isLong", "(I)Z"⟩, prog_14_method_91_code, 1, (some .boolean), 0),
  (⟨"SewnRoadsModel", "march", "(I)I"⟩, prog_14_method_92_code, 6, (some .int), 13),
  (⟨"SewnRoadsModel", "doubles", "(III)I"⟩, prog_14_method_93_code, 8, (some .int), 13),
  (⟨"SewnRoadsModel", "then", "(II)I"⟩, prog_14_method_94_code, 3, (some .int), 13),
  (⟨"SewnRoadsModel", "cartIn", "(III)I"⟩, prog_14_method_95_code, 4, (some .int), 13),
  (⟨"SewnRoadsModel", "year", "(IIII)I"⟩, prog_14_method_96_code, 7, (some .int), 13),
  (⟨"SewnRoadsModel", "tell", "(III)I"⟩, prog_14_method_97_code, 4, (some .int), 13),
  (⟨"SewnRoadsModel", "forget", "()I"⟩, prog_14_method_98_code, 2, (some .int), 13),
  (⟨"SewnRoadsModel", "wayBetween", "(II)I"⟩, prog_14_method_99_code, 3, (some .int), 13),
  (⟨"SewnRoadsModel", "cutsOne", "(I)V"⟩, prog_14_method_100_code, 2, none, 13),
  (⟨"SewnRoadsModel", "cutBits", "(I)I"⟩, prog_14_method_101_code, 6, (some .int), 13),
  (⟨"SewnRoadsModel", "bits", "(I)I"⟩, prog_14_method_102_code, 3, (some .int), 0),
  (⟨"SewnRoadsModel", "cuts", "(II)I"⟩, prog_14_method_103_code, 4, (some .int), 13),
  (⟨"SewnRoadsModel", "worstOf", "(III)I"⟩, prog_14_method_104_code, 8, (some .int), 13),
  (⟨"SewnRoadsModel", "ask", "(I)I"⟩, prog_14_method_105_code, 8, (some .int), 13),
  (⟨"SewnRoadsModel", "hold", "(I)Z"⟩, prog_14_method_106_code, 3, (some .boolean), 13),
  (⟨"SewnRoadsModel", "restore", "(I)Z"⟩, prog_14_method_107_code, 3, (some .boolean), 13),
  (⟨"SewnRoadsModel", "count", "(I)I"⟩, prog_14_method_108_code, 4, (some .int), 13),
  (⟨"java/lang/Character", "isValidCodePoint", "(I)Z"⟩, prog_15_method_11_code, 2, (some .boolean), 0),
  (⟨"java/lang/Character", "highSurrogate", "(I)C"⟩, prog_15_method_28_code, 1, (some .char), 0),
  (⟨"java/lang/Character", "lowSurrogate", "(I)C"⟩, prog_15_method_29_code, 1, (some .char), 0),
  (⟨"java/lang/Integer", "bitCount", "(I)I"⟩, prog_16_method_49_code, 1, (some .int), 0),
  (⟨"java/lang/Math", "max", "(II)I"⟩, prog_17_method_65_code, 2, (some .int), 0),
  (⟨"java/lang/Math", "min", "(II)I"⟩, prog_17_method_69_code, 2, (some .int), 0),
  (⟨"java/lang/String", "length", "()I"⟩, prog_18_method_54_code, 1, (some .int), 999)]
def mt_7 : List (MethodName × ByteArray × Nat × Option FieldType × Nat) := [(⟨"java/lang/String", "charAt", "(I)C"⟩, prog_18_method_56_code, 2, (some .char), 999),
  (⟨"java/lang/String", "indexOf", "(I)I"⟩, prog_18_method_79_code, 2, (some .int), 999),
  (⟨"java/lang/String", "indexOf", "(II)I"⟩, prog_18_method_80_code, 3, (some .int), 999),
  (⟨"java/lang/String", "coder", "()B"⟩, prog_18_method_152_code, 1, (some .byte), 999),
  (⟨"java/lang/String", "isLatin1", "()Z"⟩, prog_18_method_154_code, 1, (some .boolean), 999),
  (⟨"java/lang/String", "checkIndex", "(II)V"⟩, prog_18_method_155_code, 2, none, 0),
  (⟨"java/lang/String", "checkBoundsBeginEnd", "(III)V"⟩, prog_18_method_158_code, 3, none, 0),
  (⟨"java/lang/StringLatin1", "charAt", "([BI)C"⟩, prog_19_method_2_code, 2, (some .char), 0),
  (⟨"java/lang/StringLatin1", "canEncode", "(I)Z"⟩, prog_19_method_4_code, 1, (some .boolean), 0),
  (⟨"java/lang/StringLatin1", "indexOf", "([BIII)I"⟩, prog_19_method_22_code, 4, (some .int), 0),
  (⟨"java/lang/StringLatin1", "indexOfChar", "([BIII)I"⟩, prog_19_method_23_code, 6, (some .int), 0),
  (⟨"java/lang/StringUTF16", "getChar", "([BI)C"⟩, prog_20_method_5_code, 2, (some .char), 0),
  (⟨"java/lang/StringUTF16", "length", "([B)I"⟩, prog_20_method_6_code, 1, (some .int), 0),
  (⟨"java/lang/StringUTF16", "indexOf", "([BIII)I"⟩, prog_20_method_40_code, 4, (some .int), 0),
  (⟨"java/lang/StringUTF16", "indexOfChar", "([BIII)I"⟩, prog_20_method_47_code, 4, (some .int), 0),
  (⟨"java/lang/StringUTF16", "indexOfCharUnsafe", "([BIII)I"⟩, prog_20_method_48_code, 5, (some .int), 0),
  (⟨"java/lang/StringUTF16", "indexOfSupplementary", "([BIII)I"⟩, prog_20_method_49_code, 7, (some .int), 0),
  (⟨"java/lang/StringUTF16", "charAt", "([BI)C"⟩, prog_20_method_83_code, 2, (some .char), 0),
  (⟨"java/lang/StringUTF16", "checkIndex", "(I[B)V"⟩, prog_20_method_91_code, 2, none, 0),
  (⟨"java/lang/StringUTF16", "checkBoundsBeginEnd", "(II[B)V"⟩, prog_20_method_93_code, 3, none, 0),
  (⟨"java/util/Arrays", "fill", "([II)V"⟩, prog_22_method_103_code, 4, none, 0),
  (⟨"jdk/internal/util/Preconditions", "checkIndex", "(IILjava/util/function/BiFunction;)I"⟩, prog_23_method_11_code, 3, (some .int), 0),
  (⟨"jdk/internal/util/Preconditions", "checkFromToIndex", "(IIILjava/util/function/BiFunction;)I"⟩, prog_23_method_12_code, 4, (some .int), 0),
  (⟨"SewnRoadsLaw", "law", "([I)Z"⟩, code, 4, (some .boolean), 0)]
def mtab : List (MethodName × ByteArray × Nat × Option FieldType × Nat) := mt_0 ++ mt_1 ++ mt_2 ++ mt_3 ++ mt_4 ++ mt_5 ++ mt_6 ++ mt_7
def mE (y : Nat) : MethodName × ByteArray × Nat × Option FieldType × Nat := mtab.getD y (⟨"", "", ""⟩, code, 0, none, 999)
def mN (y : Nat) : MethodName := (mE y).1
def mB (y : Nat) : ByteArray := (mE y).2.1
def mL (y : Nat) : Nat := (mE y).2.2.1
def mR (y : Nat) : Option FieldType := (mE y).2.2.2.1
def mK (y : Nat) : Nat := (mE y).2.2.2.2
theorem gat {i : Nat} {w : Cond} (h : lw_tbl[i]? = some w) (hg : goodWord w = true) : w ∈ gtb := mem_gtb (List.mem_of_getElem? h) hg
theorem gats {β : Type} {l : List β} {f : β → Nat} {g : β → Cond} (h : l.map (fun q => lw_tbl[f q]?) = l.map (fun q => some (g q))) (hg : ∀ q, goodWord (g q) = true) : ∀ q ∈ l, g q ∈ gtb := fun q hq => gat (List.map_inj_left.mp h q hq) (hg q)
/-- what a callee needs of the tables -/
def mF (y : Nat) : Prop := Cond.code (mN y) (mB y) (mL y) (mR y) ∈ gtb ∧ Cond.initialized (mN y).cls ∈ gtb ∧ ((mN y).cls ≠ "java/lang/invoke/MethodHandle" ∧ (mN y).cls ≠ "java/lang/invoke/VarHandle") ∧ mL y ≤ 40 ∧ plainName (mN y).cls = true ∧ (mK y = 0 → Cond.static (mN y) ∈ gtb) ∧ ∀ cn, mK y = cn + 1 → Cond.instanceMethod (mN y) ∈ gtb ∧ Cond.selects (cT cn).1 (mN y) (mN y) ∈ gtb ∧ cn < 13
def mw_s0 : List (Nat × Nat × Nat × Nat) := [(8, 902, 112, 901), (62, 905, 120, 904), (72, 1254, 123, 1253), (87, 1042, 122, 1041), (88, 1045, 122, 1044), (114, 640, 113, 639), (115, 360, 113, 359), (116, 647, 113, 646), (117, 654, 113, 653), (118, 669, 113, 668), (164, 795, 108, 794), (165, 862, 108, 861), (171, 1578, 126, 1577), (172, 1575, 126, 1574), (173, 1319, 126, 1318), (174, 1316, 126, 1315), (203, 1681, 126, 1680), (204, 1712, 126, 1711), (211, 1796, 126, 1795), (245, 1836, 126, 1835), (255, 1879, 126, 1878), (266, 1922, 126, 1921), (276, 1175, 129, 1174), (300, 564, 125, 563)]
set_option maxRecDepth 100000 in
theorem mc_s0a : mw_s0.map (fun q => lw_tbl[q.2.1]?) = mw_s0.map (fun q => some (Cond.code (mN q.1) (mB q.1) (mL q.1) (mR q.1))) := rfl
set_option maxRecDepth 100000 in
theorem mc_s0b : mw_s0.map (fun q => lw_tbl[q.2.2.1]?) = mw_s0.map (fun q => some (Cond.initialized (mN q.1).cls)) := rfl
set_option maxRecDepth 100000 in
theorem mc_s0c : mw_s0.map (fun q => lw_tbl[q.2.2.2]?) = mw_s0.map (fun q => some (Cond.static (mN q.1))) := rfl
set_option maxRecDepth 100000 in
theorem mc_s0d : ∀ q ∈ mw_s0, ((mN q.1).cls ≠ "java/lang/invoke/MethodHandle" ∧ (mN q.1).cls ≠ "java/lang/invoke/VarHandle") ∧ mL q.1 ≤ 40 ∧ plainName (mN q.1).cls = true ∧ mK q.1 = 0 := by decide +kernel
theorem mf_s0 : ∀ q ∈ mw_s0, mF q.1 := by
  intro q h
  obtain ⟨h1, h2, h3, h4⟩ := mc_s0d q h
  exact ⟨gats mc_s0a (fun _ => rfl) q h, gats mc_s0b (fun _ => rfl) q h, h1, h2, h3, fun _ => gats mc_s0c (fun _ => rfl) q h, fun cn hc => by omega⟩
def mw_i0 : List (Nat × Nat × Nat × Nat × Nat) := [(1, 175, 112, 173, 174), (2, 854, 112, 852, 853), (3, 823, 112, 821, 822), (4, 844, 112, 842, 843), (5, 183, 112, 181, 182), (6, 840, 112, 838, 839), (7, 898, 112, 896, 897), (9, 179, 112, 178, 0), (11, 1081, 121, 1079, 1080), (12, 1089, 121, 1087, 1088), (13, 1102, 121, 1100, 1101), (14, 1009, 121, 1007, 1008), (15, 1020, 121, 1018, 1019), (16, 1136, 121, 1134, 1135), (17, 1124, 121, 1122, 1123), (18, 1098, 121, 1096, 1097), (19, 1168, 121, 1166, 1167), (20, 1172, 121, 1171, 38), (21, 1140, 121, 1139, 36), (22, 1016, 121, 1015, 30), (24, 866, 119, 864, 865), (25, 949, 119, 947, 948), (26, 1060, 119, 1058, 1059), (28, 201, 111, 199, 200)]
set_option maxRecDepth 100000 in
theorem mc_i0a : mw_i0.map (fun q => lw_tbl[q.2.1]?) = mw_i0.map (fun q => some (Cond.code (mN q.1) (mB q.1) (mL q.1) (mR q.1))) := rfl
set_option maxRecDepth 100000 in
theorem mc_i0b : mw_i0.map (fun q => lw_tbl[q.2.2.1]?) = mw_i0.map (fun q => some (Cond.initialized (mN q.1).cls)) := rfl
set_option maxRecDepth 100000 in
theorem mc_i0c : mw_i0.map (fun q => lw_tbl[q.2.2.2.1]?) = mw_i0.map (fun q => some (Cond.instanceMethod (mN q.1))) := rfl
set_option maxRecDepth 100000 in
theorem mc_i0d : mw_i0.map (fun q => lw_tbl[q.2.2.2.2]?) = mw_i0.map (fun q => some (Cond.selects (cT (mK q.1 - 1)).1 (mN q.1) (mN q.1))) := rfl
set_option maxRecDepth 100000 in
theorem mc_i0e : ∀ q ∈ mw_i0, ((mN q.1).cls ≠ "java/lang/invoke/MethodHandle" ∧ (mN q.1).cls ≠ "java/lang/invoke/VarHandle") ∧ mL q.1 ≤ 40 ∧ plainName (mN q.1).cls = true ∧ 1 ≤ mK q.1 ∧ mK q.1 ≤ 13 := by decide +kernel
theorem mf_i0 : ∀ q ∈ mw_i0, mF q.1 := by
  intro q h
  obtain ⟨h1, h2, h3, h4, h5⟩ := mc_i0e q h
  refine ⟨gats mc_i0a (fun _ => rfl) q h, gats mc_i0b (fun _ => rfl) q h, h1, h2, h3, fun hc => by omega, fun cn hc => ⟨gats mc_i0c (fun _ => rfl) q h, ?_, by omega⟩⟩
  have h6 := gats mc_i0d (fun _ => rfl) q h
  rw [hc] at h6
  exact h6
def mw_i1 : List (Nat × Nat × Nat × Nat × Nat) := [(29, 849, 111, 847, 848), (30, 799, 111, 797, 798), (31, 811, 111, 809, 810), (32, 788, 111, 786, 787), (33, 859, 111, 858, 23), (35, 632, 110, 630, 631), (36, 744, 110, 743, 6), (37, 748, 110, 747, 7), (38, 780, 110, 779, 13), (39, 803, 110, 802, 16), (40, 807, 110, 806, 17), (41, 815, 110, 814, 18), (42, 819, 110, 818, 19), (43, 827, 110, 826, 20), (44, 831, 110, 830, 21), (45, 835, 110, 834, 22), (46, 752, 110, 751, 8), (47, 756, 110, 755, 9), (48, 772, 110, 771, 12), (49, 760, 110, 759, 10), (50, 764, 110, 763, 11), (51, 784, 110, 783, 14), (52, 792, 110, 791, 15), (54, 890, 120, 888, 889)]
set_option maxRecDepth 100000 in
theorem mc_i1a : mw_i1.map (fun q => lw_tbl[q.2.1]?) = mw_i1.map (fun q => some (Cond.code (mN q.1) (mB q.1) (mL q.1) (mR q.1))) := rfl
set_option maxRecDepth 100000 in
theorem mc_i1b : mw_i1.map (fun q => lw_tbl[q.2.2.1]?) = mw_i1.map (fun q => some (Cond.initialized (mN q.1).cls)) := rfl
set_option maxRecDepth 100000 in
theorem mc_i1c : mw_i1.map (fun q => lw_tbl[q.2.2.2.1]?) = mw_i1.map (fun q => some (Cond.instanceMethod (mN q.1))) := rfl
set_option maxRecDepth 100000 in
theorem mc_i1d : mw_i1.map (fun q => lw_tbl[q.2.2.2.2]?) = mw_i1.map (fun q => some (Cond.selects (cT (mK q.1 - 1)).1 (mN q.1) (mN q.1))) := rfl
set_option maxRecDepth 100000 in
theorem mc_i1e : ∀ q ∈ mw_i1, ((mN q.1).cls ≠ "java/lang/invoke/MethodHandle" ∧ (mN q.1).cls ≠ "java/lang/invoke/VarHandle") ∧ mL q.1 ≤ 40 ∧ plainName (mN q.1).cls = true ∧ 1 ≤ mK q.1 ∧ mK q.1 ≤ 13 := by decide +kernel
theorem mf_i1 : ∀ q ∈ mw_i1, mF q.1 := by
  intro q h
  obtain ⟨h1, h2, h3, h4, h5⟩ := mc_i1e q h
  refine ⟨gats mc_i1a (fun _ => rfl) q h, gats mc_i1b (fun _ => rfl) q h, h1, h2, h3, fun hc => by omega, fun cn hc => ⟨gats mc_i1c (fun _ => rfl) q h, ?_, by omega⟩⟩
  have h6 := gats mc_i1d (fun _ => rfl) q h
  rw [hc] at h6
  exact h6
def mw_i2 : List (Nat × Nat × Nat × Nat × Nat) := [(55, 911, 120, 909, 910), (56, 915, 120, 913, 914), (57, 936, 120, 934, 935), (58, 944, 120, 942, 943), (59, 1111, 120, 1109, 1110), (60, 1119, 120, 1117, 1118), (61, 894, 120, 893, 26), (64, 870, 123, 868, 869), (65, 1233, 123, 1231, 1232), (66, 1249, 123, 1247, 1248), (67, 1259, 123, 1257, 1258), (68, 1272, 123, 1270, 1271), (69, 1263, 123, 1262, 42), (70, 1276, 123, 1275, 43), (71, 1280, 123, 1279, 44), (74, 998, 122, 996, 997), (75, 980, 122, 978, 979), (76, 1220, 122, 1218, 1219), (77, 1039, 122, 1037, 1038), (78, 1148, 122, 1146, 1147), (79, 1156, 122, 1154, 1155), (80, 1196, 122, 1194, 1195), (81, 1152, 122, 1151, 37), (82, 985, 122, 984, 28)]
set_option maxRecDepth 100000 in
theorem mc_i2a : mw_i2.map (fun q => lw_tbl[q.2.1]?) = mw_i2.map (fun q => some (Cond.code (mN q.1) (mB q.1) (mL q.1) (mR q.1))) := rfl
set_option maxRecDepth 100000 in
theorem mc_i2b : mw_i2.map (fun q => lw_tbl[q.2.2.1]?) = mw_i2.map (fun q => some (Cond.initialized (mN q.1).cls)) := rfl
set_option maxRecDepth 100000 in
theorem mc_i2c : mw_i2.map (fun q => lw_tbl[q.2.2.2.1]?) = mw_i2.map (fun q => some (Cond.instanceMethod (mN q.1))) := rfl
set_option maxRecDepth 100000 in
theorem mc_i2d : mw_i2.map (fun q => lw_tbl[q.2.2.2.2]?) = mw_i2.map (fun q => some (Cond.selects (cT (mK q.1 - 1)).1 (mN q.1) (mN q.1))) := rfl
set_option maxRecDepth 100000 in
theorem mc_i2e : ∀ q ∈ mw_i2, ((mN q.1).cls ≠ "java/lang/invoke/MethodHandle" ∧ (mN q.1).cls ≠ "java/lang/invoke/VarHandle") ∧ mL q.1 ≤ 40 ∧ plainName (mN q.1).cls = true ∧ 1 ≤ mK q.1 ∧ mK q.1 ≤ 13 := by decide +kernel
theorem mf_i2 : ∀ q ∈ mw_i2, mF q.1 := by
  intro q h
  obtain ⟨h1, h2, h3, h4, h5⟩ := mc_i2e q h
  refine ⟨gats mc_i2a (fun _ => rfl) q h, gats mc_i2b (fun _ => rfl) q h, h1, h2, h3, fun hc => by omega, fun cn hc => ⟨gats mc_i2c (fun _ => rfl) q h, ?_, by omega⟩⟩
  have h6 := gats mc_i2d (fun _ => rfl) q h
  rw [hc] at h6
  exact h6
def mw_i3 : List (Nat × Nat × Nat × Nat × Nat) := [(83, 1004, 122, 1003, 29), (84, 1024, 122, 1023, 31), (85, 1028, 122, 1027, 32), (86, 1050, 122, 1049, 33), (90, 558, 118, 556, 557), (91, 953, 118, 951, 952), (92, 928, 118, 926, 927), (93, 568, 118, 566, 567), (94, 1033, 118, 1031, 1032), (95, 970, 118, 968, 969), (96, 994, 118, 992, 993), (97, 989, 118, 987, 988), (98, 1303, 118, 1301, 1302), (99, 1187, 118, 1185, 1186), (101, 616, 109, 614, 615), (102, 620, 109, 618, 619), (103, 644, 109, 642, 643), (105, 739, 113, 737, 738), (106, 776, 113, 774, 775), (107, 768, 113, 766, 767), (108, 637, 113, 635, 636), (109, 651, 113, 650, 1), (110, 658, 113, 657, 2), (111, 673, 113, 672, 5)]
set_option maxRecDepth 100000 in
theorem mc_i3a : mw_i3.map (fun q => lw_tbl[q.2.1]?) = mw_i3.map (fun q => some (Cond.code (mN q.1) (mB q.1) (mL q.1) (mR q.1))) := rfl
set_option maxRecDepth 100000 in
theorem mc_i3b : mw_i3.map (fun q => lw_tbl[q.2.2.1]?) = mw_i3.map (fun q => some (Cond.initialized (mN q.1).cls)) := rfl
set_option maxRecDepth 100000 in
theorem mc_i3c : mw_i3.map (fun q => lw_tbl[q.2.2.2.1]?) = mw_i3.map (fun q => some (Cond.instanceMethod (mN q.1))) := rfl
set_option maxRecDepth 100000 in
theorem mc_i3d : mw_i3.map (fun q => lw_tbl[q.2.2.2.2]?) = mw_i3.map (fun q => some (Cond.selects (cT (mK q.1 - 1)).1 (mN q.1) (mN q.1))) := rfl
set_option maxRecDepth 100000 in
theorem mc_i3e : ∀ q ∈ mw_i3, ((mN q.1).cls ≠ "java/lang/invoke/MethodHandle" ∧ (mN q.1).cls ≠ "java/lang/invoke/VarHandle") ∧ mL q.1 ≤ 40 ∧ plainName (mN q.1).cls = true ∧ 1 ≤ mK q.1 ∧ mK q.1 ≤ 13 := by decide +kernel
theorem mf_i3 : ∀ q ∈ mw_i3, mF q.1 := by
  intro q h
  obtain ⟨h1, h2, h3, h4, h5⟩ := mc_i3e q h
  refine ⟨gats mc_i3a (fun _ => rfl) q h, gats mc_i3b (fun _ => rfl) q h, h1, h2, h3, fun hc => by omega, fun cn hc => ⟨gats mc_i3c (fun _ => rfl) q h, ?_, by omega⟩⟩
  have h6 := gats mc_i3d (fun _ => rfl) q h
  rw [hc] at h6
  exact h6
def mw_i4 : List (Nat × Nat × Nat × Nat × Nat) := [(112, 662, 113, 661, 3), (113, 666, 113, 665, 4), (120, 612, 108, 610, 611), (121, 624, 108, 622, 623), (122, 628, 108, 626, 627), (123, 878, 108, 876, 877), (124, 882, 108, 880, 881), (125, 919, 108, 917, 918), (126, 932, 108, 930, 931), (127, 940, 108, 938, 939), (128, 957, 108, 955, 956), (129, 961, 108, 959, 960), (130, 966, 108, 964, 965), (131, 976, 108, 974, 975), (132, 1056, 108, 1054, 1055), (133, 1064, 108, 1062, 1063), (134, 1076, 108, 1074, 1075), (135, 1085, 108, 1083, 1084), (136, 1094, 108, 1092, 1093), (137, 1107, 108, 1105, 1106), (138, 1115, 108, 1113, 1114), (139, 1128, 108, 1126, 1127), (140, 1144, 108, 1142, 1143), (141, 1160, 108, 1158, 1159)]
set_option maxRecDepth 100000 in
theorem mc_i4a : mw_i4.map (fun q => lw_tbl[q.2.1]?) = mw_i4.map (fun q => some (Cond.code (mN q.1) (mB q.1) (mL q.1) (mR q.1))) := rfl
set_option maxRecDepth 100000 in
theorem mc_i4b : mw_i4.map (fun q => lw_tbl[q.2.2.1]?) = mw_i4.map (fun q => some (Cond.initialized (mN q.1).cls)) := rfl
set_option maxRecDepth 100000 in
theorem mc_i4c : mw_i4.map (fun q => lw_tbl[q.2.2.2.1]?) = mw_i4.map (fun q => some (Cond.instanceMethod (mN q.1))) := rfl
set_option maxRecDepth 100000 in
theorem mc_i4d : mw_i4.map (fun q => lw_tbl[q.2.2.2.2]?) = mw_i4.map (fun q => some (Cond.selects (cT (mK q.1 - 1)).1 (mN q.1) (mN q.1))) := rfl
set_option maxRecDepth 100000 in
theorem mc_i4e : ∀ q ∈ mw_i4, ((mN q.1).cls ≠ "java/lang/invoke/MethodHandle" ∧ (mN q.1).cls ≠ "java/lang/invoke/VarHandle") ∧ mL q.1 ≤ 40 ∧ plainName (mN q.1).cls = true ∧ 1 ≤ mK q.1 ∧ mK q.1 ≤ 13 := by decide +kernel
theorem mf_i4 : ∀ q ∈ mw_i4, mF q.1 := by
  intro q h
  obtain ⟨h1, h2, h3, h4, h5⟩ := mc_i4e q h
  refine ⟨gats mc_i4a (fun _ => rfl) q h, gats mc_i4b (fun _ => rfl) q h, h1, h2, h3, fun hc => by omega, fun cn hc => ⟨gats mc_i4c (fun _ => rfl) q h, ?_, by omega⟩⟩
  have h6 := gats mc_i4d (fun _ => rfl) q h
  rw [hc] at h6
  exact h6
def mw_i5 : List (Nat × Nat × Nat × Nat × Nat) := [(142, 1164, 108, 1162, 1163), (143, 1183, 108, 1181, 1182), (144, 1192, 108, 1190, 1191), (145, 1203, 108, 1201, 1202), (146, 1212, 108, 1210, 1211), (147, 1216, 108, 1214, 1215), (148, 1229, 108, 1227, 1228), (149, 1237, 108, 1235, 1236), (150, 1241, 108, 1239, 1240), (151, 1268, 108, 1266, 1267), (152, 1285, 108, 1283, 1284), (153, 1289, 108, 1287, 1288), (154, 1293, 108, 1291, 1292), (155, 874, 108, 873, 24), (156, 1298, 108, 1297, 45), (157, 1207, 108, 1206, 39), (158, 1224, 108, 1223, 40), (159, 1245, 108, 1244, 41), (160, 1068, 108, 1067, 34), (161, 1132, 108, 1131, 35), (162, 886, 108, 885, 25), (163, 923, 108, 922, 27), (167, 1548, 126, 1546, 1547), (168, 1552, 126, 1551, 49)]
set_option maxRecDepth 100000 in
theorem mc_i5a : mw_i5.map (fun q => lw_tbl[q.2.1]?) = mw_i5.map (fun q => some (Cond.code (mN q.1) (mB q.1) (mL q.1) (mR q.1))) := rfl
set_option maxRecDepth 100000 in
theorem mc_i5b : mw_i5.map (fun q => lw_tbl[q.2.2.1]?) = mw_i5.map (fun q => some (Cond.initialized (mN q.1).cls)) := rfl
set_option maxRecDepth 100000 in
theorem mc_i5c : mw_i5.map (fun q => lw_tbl[q.2.2.2.1]?) = mw_i5.map (fun q => some (Cond.instanceMethod (mN q.1))) := rfl
set_option maxRecDepth 100000 in
theorem mc_i5d : mw_i5.map (fun q => lw_tbl[q.2.2.2.2]?) = mw_i5.map (fun q => some (Cond.selects (cT (mK q.1 - 1)).1 (mN q.1) (mN q.1))) := rfl
set_option maxRecDepth 100000 in
theorem mc_i5e : ∀ q ∈ mw_i5, ((mN q.1).cls ≠ "java/lang/invoke/MethodHandle" ∧ (mN q.1).cls ≠ "java/lang/invoke/VarHandle") ∧ mL q.1 ≤ 40 ∧ plainName (mN q.1).cls = true ∧ 1 ≤ mK q.1 ∧ mK q.1 ≤ 13 := by decide +kernel
theorem mf_i5 : ∀ q ∈ mw_i5, mF q.1 := by
  intro q h
  obtain ⟨h1, h2, h3, h4, h5⟩ := mc_i5e q h
  refine ⟨gats mc_i5a (fun _ => rfl) q h, gats mc_i5b (fun _ => rfl) q h, h1, h2, h3, fun hc => by omega, fun cn hc => ⟨gats mc_i5c (fun _ => rfl) q h, ?_, by omega⟩⟩
  have h6 := gats mc_i5d (fun _ => rfl) q h
  rw [hc] at h6
  exact h6
def mw_i6 : List (Nat × Nat × Nat × Nat × Nat) := [(169, 1556, 126, 1554, 1555), (170, 1568, 126, 1567, 51), (175, 1572, 126, 1571, 52), (176, 1564, 126, 1563, 50), (177, 1582, 126, 1581, 53), (178, 1586, 126, 1585, 54), (179, 1598, 126, 1597, 57), (180, 1614, 126, 1613, 61), (181, 1602, 126, 1601, 58), (182, 1610, 126, 1609, 60), (183, 1313, 126, 1312, 46), (184, 1560, 126, 1558, 1559), (185, 1670, 126, 1668, 1669), (186, 1594, 126, 1593, 56), (187, 1642, 126, 1641, 68), (188, 1590, 126, 1589, 55), (189, 1606, 126, 1605, 59), (190, 1618, 126, 1617, 62), (191, 1626, 126, 1625, 64), (192, 1634, 126, 1633, 66), (193, 1630, 126, 1629, 65), (194, 1622, 126, 1621, 63), (195, 1638, 126, 1637, 67), (196, 1646, 126, 1645, 69)]
set_option maxRecDepth 100000 in
theorem mc_i6a : mw_i6.map (fun q => lw_tbl[q.2.1]?) = mw_i6.map (fun q => some (Cond.code (mN q.1) (mB q.1) (mL q.1) (mR q.1))) := rfl
set_option maxRecDepth 100000 in
theorem mc_i6b : mw_i6.map (fun q => lw_tbl[q.2.2.1]?) = mw_i6.map (fun q => some (Cond.initialized (mN q.1).cls)) := rfl
set_option maxRecDepth 100000 in
theorem mc_i6c : mw_i6.map (fun q => lw_tbl[q.2.2.2.1]?) = mw_i6.map (fun q => some (Cond.instanceMethod (mN q.1))) := rfl
set_option maxRecDepth 100000 in
theorem mc_i6d : mw_i6.map (fun q => lw_tbl[q.2.2.2.2]?) = mw_i6.map (fun q => some (Cond.selects (cT (mK q.1 - 1)).1 (mN q.1) (mN q.1))) := rfl
set_option maxRecDepth 100000 in
theorem mc_i6e : ∀ q ∈ mw_i6, ((mN q.1).cls ≠ "java/lang/invoke/MethodHandle" ∧ (mN q.1).cls ≠ "java/lang/invoke/VarHandle") ∧ mL q.1 ≤ 40 ∧ plainName (mN q.1).cls = true ∧ 1 ≤ mK q.1 ∧ mK q.1 ≤ 13 := by decide +kernel
theorem mf_i6 : ∀ q ∈ mw_i6, mF q.1 := by
  intro q h
  obtain ⟨h1, h2, h3, h4, h5⟩ := mc_i6e q h
  refine ⟨gats mc_i6a (fun _ => rfl) q h, gats mc_i6b (fun _ => rfl) q h, h1, h2, h3, fun hc => by omega, fun cn hc => ⟨gats mc_i6c (fun _ => rfl) q h, ?_, by omega⟩⟩
  have h6 := gats mc_i6d (fun _ => rfl) q h
  rw [hc] at h6
  exact h6
def mw_i7 : List (Nat × Nat × Nat × Nat × Nat) := [(197, 1666, 126, 1665, 74), (198, 1658, 126, 1657, 72), (199, 1662, 126, 1661, 73), (200, 1650, 126, 1649, 70), (201, 1654, 126, 1653, 71), (202, 1709, 126, 1708, 82), (205, 1809, 126, 1808, 96), (206, 1678, 126, 1677, 75), (207, 1728, 126, 1727, 85), (208, 1324, 126, 1323, 47), (209, 1328, 126, 1327, 48), (210, 1685, 126, 1684, 76), (212, 1793, 126, 1792, 95), (213, 1697, 126, 1696, 79), (214, 1693, 126, 1692, 78), (215, 1701, 126, 1700, 80), (216, 1705, 126, 1704, 81), (217, 1689, 126, 1688, 77), (218, 1716, 126, 1715, 83), (219, 1720, 126, 1719, 84), (220, 1736, 126, 1735, 86), (221, 1772, 126, 1771, 90), (222, 1785, 126, 1784, 93), (223, 1817, 126, 1816, 97)]
set_option maxRecDepth 100000 in
theorem mc_i7a : mw_i7.map (fun q => lw_tbl[q.2.1]?) = mw_i7.map (fun q => some (Cond.code (mN q.1) (mB q.1) (mL q.1) (mR q.1))) := rfl
set_option maxRecDepth 100000 in
theorem mc_i7b : mw_i7.map (fun q => lw_tbl[q.2.2.1]?) = mw_i7.map (fun q => some (Cond.initialized (mN q.1).cls)) := rfl
set_option maxRecDepth 100000 in
theorem mc_i7c : mw_i7.map (fun q => lw_tbl[q.2.2.2.1]?) = mw_i7.map (fun q => some (Cond.instanceMethod (mN q.1))) := rfl
set_option maxRecDepth 100000 in
theorem mc_i7d : mw_i7.map (fun q => lw_tbl[q.2.2.2.2]?) = mw_i7.map (fun q => some (Cond.selects (cT (mK q.1 - 1)).1 (mN q.1) (mN q.1))) := rfl
set_option maxRecDepth 100000 in
theorem mc_i7e : ∀ q ∈ mw_i7, ((mN q.1).cls ≠ "java/lang/invoke/MethodHandle" ∧ (mN q.1).cls ≠ "java/lang/invoke/VarHandle") ∧ mL q.1 ≤ 40 ∧ plainName (mN q.1).cls = true ∧ 1 ≤ mK q.1 ∧ mK q.1 ≤ 13 := by decide +kernel
theorem mf_i7 : ∀ q ∈ mw_i7, mF q.1 := by
  intro q h
  obtain ⟨h1, h2, h3, h4, h5⟩ := mc_i7e q h
  refine ⟨gats mc_i7a (fun _ => rfl) q h, gats mc_i7b (fun _ => rfl) q h, h1, h2, h3, fun hc => by omega, fun cn hc => ⟨gats mc_i7c (fun _ => rfl) q h, ?_, by omega⟩⟩
  have h6 := gats mc_i7d (fun _ => rfl) q h
  rw [hc] at h6
  exact h6
def mw_i8 : List (Nat × Nat × Nat × Nat × Nat) := [(224, 1789, 126, 1788, 94), (225, 1781, 126, 1780, 92), (226, 1777, 126, 1776, 91), (227, 1768, 126, 1767, 89), (228, 1764, 126, 1763, 88), (229, 1674, 126, 1672, 1673), (230, 1724, 126, 1722, 1723), (231, 1732, 126, 1730, 1731), (232, 1744, 126, 1743, 87), (233, 1740, 126, 1738, 1739), (234, 1748, 126, 1746, 1747), (235, 1752, 126, 1750, 1751), (236, 1756, 126, 1754, 1755), (237, 1760, 126, 1758, 1759), (238, 1801, 126, 1799, 1800), (239, 1805, 126, 1803, 1804), (240, 1813, 126, 1811, 1812), (241, 1825, 126, 1824, 98), (242, 1821, 126, 1819, 1820), (243, 1829, 126, 1827, 1828), (244, 1840, 126, 1839, 99), (246, 1833, 126, 1831, 1832), (247, 1848, 126, 1847, 100), (248, 1844, 126, 1842, 1843)]
set_option maxRecDepth 100000 in
theorem mc_i8a : mw_i8.map (fun q => lw_tbl[q.2.1]?) = mw_i8.map (fun q => some (Cond.code (mN q.1) (mB q.1) (mL q.1) (mR q.1))) := rfl
set_option maxRecDepth 100000 in
theorem mc_i8b : mw_i8.map (fun q => lw_tbl[q.2.2.1]?) = mw_i8.map (fun q => some (Cond.initialized (mN q.1).cls)) := rfl
set_option maxRecDepth 100000 in
theorem mc_i8c : mw_i8.map (fun q => lw_tbl[q.2.2.2.1]?) = mw_i8.map (fun q => some (Cond.instanceMethod (mN q.1))) := rfl
set_option maxRecDepth 100000 in
theorem mc_i8d : mw_i8.map (fun q => lw_tbl[q.2.2.2.2]?) = mw_i8.map (fun q => some (Cond.selects (cT (mK q.1 - 1)).1 (mN q.1) (mN q.1))) := rfl
set_option maxRecDepth 100000 in
theorem mc_i8e : ∀ q ∈ mw_i8, ((mN q.1).cls ≠ "java/lang/invoke/MethodHandle" ∧ (mN q.1).cls ≠ "java/lang/invoke/VarHandle") ∧ mL q.1 ≤ 40 ∧ plainName (mN q.1).cls = true ∧ 1 ≤ mK q.1 ∧ mK q.1 ≤ 13 := by decide +kernel
theorem mf_i8 : ∀ q ∈ mw_i8, mF q.1 := by
  intro q h
  obtain ⟨h1, h2, h3, h4, h5⟩ := mc_i8e q h
  refine ⟨gats mc_i8a (fun _ => rfl) q h, gats mc_i8b (fun _ => rfl) q h, h1, h2, h3, fun hc => by omega, fun cn hc => ⟨gats mc_i8c (fun _ => rfl) q h, ?_, by omega⟩⟩
  have h6 := gats mc_i8d (fun _ => rfl) q h
  rw [hc] at h6
  exact h6
def mw_i9 : List (Nat × Nat × Nat × Nat × Nat) := [(249, 1852, 126, 1850, 1851), (250, 1856, 126, 1854, 1855), (251, 1864, 126, 1863, 101), (252, 1860, 126, 1858, 1859), (253, 1872, 126, 1871, 102), (254, 1868, 126, 1866, 1867), (256, 1876, 126, 1874, 1875), (257, 1883, 126, 1881, 1882), (258, 1887, 126, 1885, 1886), (259, 1891, 126, 1889, 1890), (260, 1895, 126, 1893, 1894), (261, 1899, 126, 1897, 1898), (262, 1903, 126, 1901, 1902), (263, 1919, 126, 1918, 105), (264, 1915, 126, 1914, 104), (265, 1911, 126, 1910, 103), (267, 1907, 126, 1905, 1906), (268, 1930, 126, 1929, 106), (269, 1926, 126, 1924, 1925), (270, 1934, 126, 1932, 1933), (271, 1938, 126, 1936, 1937), (272, 1942, 126, 1940, 1941)]
set_option maxRecDepth 100000 in
theorem mc_i9a : mw_i9.map (fun q => lw_tbl[q.2.1]?) = mw_i9.map (fun q => some (Cond.code (mN q.1) (mB q.1) (mL q.1) (mR q.1))) := rfl
set_option maxRecDepth 100000 in
theorem mc_i9b : mw_i9.map (fun q => lw_tbl[q.2.2.1]?) = mw_i9.map (fun q => some (Cond.initialized (mN q.1).cls)) := rfl
set_option maxRecDepth 100000 in
theorem mc_i9c : mw_i9.map (fun q => lw_tbl[q.2.2.2.1]?) = mw_i9.map (fun q => some (Cond.instanceMethod (mN q.1))) := rfl
set_option maxRecDepth 100000 in
theorem mc_i9d : mw_i9.map (fun q => lw_tbl[q.2.2.2.2]?) = mw_i9.map (fun q => some (Cond.selects (cT (mK q.1 - 1)).1 (mN q.1) (mN q.1))) := rfl
set_option maxRecDepth 100000 in
theorem mc_i9e : ∀ q ∈ mw_i9, ((mN q.1).cls ≠ "java/lang/invoke/MethodHandle" ∧ (mN q.1).cls ≠ "java/lang/invoke/VarHandle") ∧ mL q.1 ≤ 40 ∧ plainName (mN q.1).cls = true ∧ 1 ≤ mK q.1 ∧ mK q.1 ≤ 13 := by decide +kernel
theorem mf_i9 : ∀ q ∈ mw_i9, mF q.1 := by
  intro q h
  obtain ⟨h1, h2, h3, h4, h5⟩ := mc_i9e q h
  refine ⟨gats mc_i9a (fun _ => rfl) q h, gats mc_i9b (fun _ => rfl) q h, h1, h2, h3, fun hc => by omega, fun cn hc => ⟨gats mc_i9c (fun _ => rfl) q h, ?_, by omega⟩⟩
  have h6 := gats mc_i9d (fun _ => rfl) q h
  rw [hc] at h6
  exact h6
def mws : List Nat := mw_s0.map (fun q => q.1) ++ mw_i0.map (fun q => q.1) ++ mw_i1.map (fun q => q.1) ++ mw_i2.map (fun q => q.1) ++ mw_i3.map (fun q => q.1) ++ mw_i4.map (fun q => q.1) ++ mw_i5.map (fun q => q.1) ++ mw_i6.map (fun q => q.1) ++ mw_i7.map (fun q => q.1) ++ mw_i8.map (fun q => q.1) ++ mw_i9.map (fun q => q.1)
theorem mF_all {y : Nat} (h : y ∈ mws) : mF y := by
  unfold mws at h
  simp only [List.mem_append] at h
  rcases h with (((((((((h | h) | h) | h) | h) | h) | h) | h) | h) | h) | h
  · obtain ⟨q, hq, rfl⟩ := List.mem_map.mp h
    exact mf_s0 q hq
  · obtain ⟨q, hq, rfl⟩ := List.mem_map.mp h
    exact mf_i0 q hq
  · obtain ⟨q, hq, rfl⟩ := List.mem_map.mp h
    exact mf_i1 q hq
  · obtain ⟨q, hq, rfl⟩ := List.mem_map.mp h
    exact mf_i2 q hq
  · obtain ⟨q, hq, rfl⟩ := List.mem_map.mp h
    exact mf_i3 q hq
  · obtain ⟨q, hq, rfl⟩ := List.mem_map.mp h
    exact mf_i4 q hq
  · obtain ⟨q, hq, rfl⟩ := List.mem_map.mp h
    exact mf_i5 q hq
  · obtain ⟨q, hq, rfl⟩ := List.mem_map.mp h
    exact mf_i6 q hq
  · obtain ⟨q, hq, rfl⟩ := List.mem_map.mp h
    exact mf_i7 q hq
  · obtain ⟨q, hq, rfl⟩ := List.mem_map.mp h
    exact mf_i8 q hq
  · obtain ⟨q, hq, rfl⟩ := List.mem_map.mp h
    exact mf_i9 q hq
end
section
/-! ===== what the constant pools name ===== -/
def isNst : Cond → Bool
  | .fieldLinkNest .. => true
  | .methodLinkNest .. => true
  | _ => false
/-- the words of nest mates: they aren't taken along by themselves, a contract's start holds them -/
def nws : List Cond := lw_tbl.filter isNst
theorem nats {β : Type} {l : List β} {f : β → Nat} {g : β → Cond} (h : l.map (fun q => lw_tbl[f q]?) = l.map (fun q => some (g q))) (hg : ∀ q, isNst (g q) = true) : ∀ q ∈ l, g q ∈ nws := fun q hq => List.mem_filter.mpr ⟨List.mem_of_getElem? (List.map_inj_left.mp h q hq), hg q⟩
theorem nws_warm {s U : State} (hW : s.WarmedH U.vm) (h : ∀ w ∈ nws, va_Nw w s) : ∀ w ∈ nws, va_Nw w U := by
  intro w hw
  have h1 := (List.mem_filter.mp hw).2
  have h2 := h w hw
  cases w <;> first | exact va_Nw.warmF hW h2 | exact va_Nw.warmM hW h2 | cases h1
theorem nws_same {u U : State} (hv : u.vm = U.vm) (h : ∀ w ∈ nws, va_Nw w u) : ∀ w ∈ nws, va_Nw w U := by
  intro w hw
  have h1 := (List.mem_filter.mp hw).2
  have h2 := h w hw
  cases w <;> first | exact va_Nw.same rfl hv h2 | cases h1
def oNs : List String := ["SewnRoads$Laws", "SewnRoads$Net", "SewnRoads$Past", "SewnRoads$Plan", "SewnRoads$Reader", "SewnRoads$Rules", "SewnRoads$Search", "SewnRoads$Season", "SewnRoads$State", "SewnRoads$Tape", "SewnRoads$Tokens", "SewnRoads", "SewnRoadsModel", "SewnRoadsLaw", "java/util/Arrays", "java/lang/Integer"]
def oN (o : Nat) : String := oNs.getD o ""
def fl_t : List (List (Nat × Nat × Nat × Nat)) := [[(11, 0, 0, 184), (15, 0, 1, 185), (18, 0, 2, 186), (21, 0, 3, 187)],
  [(9, 1, 1, 490), (15, 1, 0, 489), (19, 3, 1, 210), (29, 3, 10, 245), (46, 3, 8, 237), (49, 3, 9, 241), (63, 3, 0, 206)],
  [(11, 2, 0, 454), (17, 2, 1, 455), (21, 2, 2, 456)],
  [(9, 3, 8, 236), (15, 3, 9, 240), (18, 3, 10, 244), (21, 3, 11, 247), (24, 3, 12, 250), (27, 3, 13, 252), (30, 3, 14, 254), (33, 3, 15, 257), (36, 3, 16, 260), (42, 3, 17, 263), (49, 3, 0, 203), (53, 3, 1, 208), (56, 3, 2, 216), (59, 3, 3, 219), (62, 3, 4, 224), (65, 3, 5, 228), (68, 3, 6, 230), (71, 3, 7, 233)],
  [(12, 4, 0, 380), (18, 4, 1, 382), (25, 4, 2, 384), (29, 4, 3, 385), (33, 4, 4, 386), (37, 4, 5, 387), (40, 4, 6, 388), (43, 4, 7, 389), (46, 4, 8, 390), (49, 4, 9, 391), (52, 4, 10, 392), (87, 3, 5, 229), (90, 3, 6, 231), (93, 3, 7, 234), (99, 3, 0, 204), (113, 3, 1, 212), (134, 3, 2, 217), (137, 3, 4, 225), (140, 3, 3, 221), (151, 3, 17, 265)],
  [(9, 5, 1, 472), (15, 5, 2, 473), (18, 5, 0, 471), (26, 3, 17, 264), (42, 3, 11, 248), (51, 8, 2, 433), (56, 8, 0, 426), (64, 8, 1, 429), (67, 3, 1, 214), (74, 3, 13, 253)],
  [(9, 6, 2, 534), (15, 6, 3, 535), (18, 6, 4, 536), (21, 6, 5, 537), (24, 6, 6, 538), (28, 6, 0, 532), (32, 6, 1, 533), (36, 3, 1, 211), (45, 3, 0, 205), (62, 1, 1, 491)],
  [(9, 7, 3, 508), (15, 7, 4, 509), (18, 7, 5, 511), (21, 7, 0, 505), (25, 7, 1, 506), (29, 7, 2, 507), (33, 3, 1, 209), (39, 8, 2, 432), (44, 8, 0, 425), (71, 3, 6, 232), (109, 3, 3, 222), (122, 3, 15, 259), (136, 3, 16, 262), (149, 3, 10, 246), (156, 1, 1, 492), (159, 3, 8, 239), (162, 3, 9, 243)],
  [(9, 8, 2, 431), (15, 8, 3, 435), (18, 8, 0, 424), (22, 3, 5, 227), (27, 8, 1, 428), (28, 3, 12, 251), (41, 3, 3, 220), (43, 3, 14, 255), (54, 3, 1, 213)],
  [(9, 9, 0, 144), (15, 9, 1, 145)],
  [(9, 10, 0, 362), (15, 10, 1, 364), (18, 10, 2, 365), (22, 10, 3, 366), (25, 10, 4, 367), (83, 9, 1, 147)],
  [(10, 11, 0, 569), (19, 11, 1, 570), (26, 11, 2, 571), (33, 11, 3, 572), (37, 11, 4, 573), (43, 11, 5, 574), (47, 11, 6, 575), (51, 11, 7, 576), (60, 11, 8, 577), (67, 11, 9, 578), (76, 11, 10, 579), (85, 11, 11, 580), (89, 11, 12, 581), (104, 9, 1, 146), (111, 4, 1, 383), (112, 4, 0, 381), (128, 8, 2, 434), (132, 3, 8, 238), (135, 3, 9, 242), (138, 3, 11, 249), (140, 8, 0, 427), (157, 3, 14, 256), (160, 3, 15, 258), (163, 3, 16, 261), (186, 8, 1, 430), (201, 3, 7, 235), (222, 7, 4, 510), (232, 1, 1, 493), (253, 3, 0, 207), (260, 5, 2, 474), (280, 7, 5, 512), (286, 3, 1, 215), (289, 3, 4, 226), (314, 6, 6, 539), (330, 3, 2, 218), (333, 3, 3, 223), (339, 2, 2, 457)],
  [(13, 12, 1, 1329), (17, 12, 3, 1331), (20, 12, 5, 1333), (24, 12, 6, 1334), (27, 12, 7, 1335), (30, 12, 8, 1336), (34, 12, 9, 1337), (37, 12, 17, 1345), (40, 12, 21, 1349), (43, 12, 22, 1350), (46, 12, 23, 1351), (49, 12, 24, 1352), (52, 12, 25, 1353), (55, 12, 26, 1354), (58, 12, 27, 1355), (61, 12, 28, 1356), (64, 12, 29, 1357), (67, 12, 30, 1358), (70, 12, 31, 1359), (73, 12, 32, 1360), (76, 12, 33, 1361), (79, 12, 34, 1362), (82, 12, 35, 1363), (85, 12, 36, 1364), (88, 12, 37, 1365), (91, 12, 38, 1366), (94, 12, 39, 1367), (97, 12, 41, 1369), (101, 12, 42, 1370), (104, 12, 43, 1371), (107, 12, 44, 1372), (110, 12, 45, 1373), (113, 12, 47, 1375), (116, 12, 48, 1376), (119, 12, 49, 1377), (122, 12, 51, 1379), (125, 12, 52, 1380), (128, 12, 54, 1382), (131, 12, 55, 1383), (134, 12, 58, 1386), (137, 12, 59, 1387), (140, 12, 60, 1388), (143, 12, 61, 1389), (146, 12, 63, 1391), (149, 12, 64, 1392), (152, 12, 66, 1394), (155, 12, 67, 1395), (158, 12, 68, 1396), (161, 12, 69, 1397), (164, 12, 70, 1398), (167, 12, 71, 1399), (184, 12, 2, 1330), (190, 12, 4, 1332), (199, 12, 10, 1338), (221, 12, 13, 1341), (224, 12, 11, 1339), (227, 12, 14, 1342), (230, 12, 15, 1343), (233, 12, 16, 1344), (248, 12, 12, 1340), (251, 12, 18, 1346), (254, 12, 19, 1347), (257, 12, 20, 1348), (260, 12, 40, 1368), (263, 12, 46, 1374), (269, 12, 62, 1390), (272, 12, 65, 1393), (321, 12, 50, 1378), (334, 12, 53, 1381), (342, 12, 56, 1384), (345, 12, 57, 1385)],
  [],
  [],
  []]
def fn_t : List (List (Nat × Nat × Nat × Nat)) := [[],
  [],
  [],
  [],
  [(184, 10, 0, 363)],
  [],
  [],
  [],
  [],
  [],
  [],
  [],
  [],
  [],
  [],
  []]
def ml_t : List (List (Nat × Nat × Nat × Nat × Nat)) := [[(25, 1, 0, 24, 172), (28, 9, 3, 31, 176), (48, 8, 3, 0, 900), (52, 5, 2, 28, 180)],
  [(32, 11, 2, 32, 1090), (36, 12, 2, 33, 1103), (40, 300, 2, 23, 1011), (52, 22, 3, 43, 1013), (56, 21, 2, 42, 1137), (60, 13, 3, 34, 1099), (66, 20, 2, 41, 1169), (74, 276, 1, 22, 1173), (80, 15, 1, 36, 1017)],
  [(25, 91, 1, 101, 950)],
  [(46, 28, 0, 47, 198), (74, 1, 0, 24, 202), (81, 2, 1, 25, 851), (85, 33, 0, 52, 856)],
  [(55, 28, 0, 47, 633), (58, 108, 1, 116, 634), (62, 105, 1, 113, 740), (66, 36, 0, 54, 741), (69, 106, 1, 114, 773), (72, 37, 0, 55, 745), (75, 38, 0, 56, 777), (78, 39, 0, 57, 800), (81, 40, 0, 58, 804), (84, 41, 1, 59, 812), (96, 42, 0, 60, 816), (102, 46, 1, 64, 749), (106, 47, 1, 65, 753), (109, 49, 2, 67, 757), (116, 51, 1, 69, 781), (119, 32, 2, 51, 785), (123, 48, 2, 66, 769), (126, 52, 3, 70, 789), (130, 30, 4, 49, 796), (143, 31, 3, 50, 808), (155, 3, 0, 26, 820), (161, 43, 1, 61, 824), (165, 5, 2, 28, 836), (168, 6, 1, 29, 837), (171, 4, 2, 27, 841), (174, 44, 1, 62, 828), (177, 45, 1, 63, 832), (180, 107, 1, 115, 765), (186, 50, 1, 68, 761)],
  [(22, 61, 3, 78, 891), (32, 7, 2, 30, 895), (38, 62, 1, 1, 903), (60, 54, 3, 71, 945), (70, 59, 3, 76, 1120)],
  [(48, 14, 3, 35, 1251), (54, 72, 3, 2, 1252), (58, 15, 1, 36, 1255), (65, 69, 2, 84, 1260), (68, 70, 3, 85, 1273), (71, 71, 4, 86, 1277)],
  [(47, 56, 3, 73, 999), (53, 300, 2, 23, 981), (59, 82, 1, 95, 982), (63, 77, 2, 90, 1036), (67, 86, 2, 99, 1047), (74, 87, 2, 3, 1040), (78, 81, 3, 94, 1149), (81, 78, 1, 91, 1197), (84, 16, 3, 37, 1198), (95, 55, 5, 72, 1051), (99, 97, 1, 107, 986), (103, 96, 1, 106, 991), (106, 74, 1, 87, 995), (115, 83, 3, 96, 1001), (119, 92, 2, 102, 1005), (125, 14, 3, 35, 1006), (129, 84, 2, 97, 1021), (132, 94, 3, 104, 1030), (139, 57, 4, 74, 1034), (143, 85, 2, 98, 1025), (146, 93, 3, 103, 1035), (152, 15, 1, 36, 1029), (168, 88, 2, 4, 1043)],
  [(35, 300, 2, 23, 562), (46, 93, 3, 103, 565), (50, 92, 2, 102, 971), (57, 95, 1, 105, 990)],
  [],
  [(41, 115, 2, 6, 358), (45, 114, 2, 5, 638), (49, 109, 2, 117, 648), (52, 105, 1, 113, 736), (56, 103, 1, 112, 641), (61, 117, 1, 8, 652), (65, 110, 2, 118, 655), (68, 118, 1, 9, 667), (71, 111, 2, 119, 670), (74, 113, 3, 121, 663), (85, 112, 1, 120, 659), (93, 116, 1, 7, 645)],
  [(93, 90, 1, 100, 555), (96, 101, 1, 110, 613), (100, 102, 1, 111, 617), (107, 35, 1, 53, 629), (115, 29, 1, 48, 846), (118, 24, 0, 44, 863), (121, 64, 0, 79, 867), (122, 155, 0, 157, 871), (125, 162, 1, 164, 883), (143, 54, 3, 71, 887), (147, 55, 5, 72, 908), (151, 56, 3, 73, 912), (154, 163, 1, 165, 920), (166, 164, 3, 10, 924), (170, 92, 2, 102, 925), (174, 57, 4, 74, 933), (178, 58, 2, 75, 941), (182, 25, 1, 45, 946), (194, 95, 1, 105, 967), (197, 93, 3, 103, 972), (204, 75, 3, 88, 977), (208, 26, 1, 46, 1057), (212, 160, 1, 162, 1065), (215, 74, 1, 87, 1069), (218, 96, 1, 106, 1070), (225, 14, 3, 35, 1071), (229, 15, 1, 36, 1072), (235, 165, 2, 11, 1077), (239, 11, 2, 32, 1078), (242, 12, 2, 33, 1086), (245, 18, 1, 39, 1095), (249, 59, 3, 76, 1108), (256, 60, 2, 77, 1116), (263, 17, 2, 38, 1121), (267, 161, 2, 163, 1129), (270, 16, 3, 37, 1133), (274, 78, 1, 91, 1145), (277, 79, 1, 92, 1153), (283, 19, 1, 40, 1165), (292, 99, 2, 109, 1184), (296, 80, 4, 93, 1193), (300, 157, 1, 159, 1204), (303, 76, 0, 89, 1217), (307, 158, 4, 160, 1221), (311, 65, 3, 80, 1230), (317, 159, 1, 161, 1242), (320, 276, 1, 22, 1264), (325, 68, 1, 83, 1269), (328, 91, 1, 101, 1208), (336, 97, 1, 107, 1294), (342, 156, 0, 158, 1295), (346, 77, 2, 90, 1299), (349, 98, 1, 108, 1300), (352, 13, 3, 34, 1225), (355, 66, 2, 81, 1246), (359, 67, 2, 82, 1256)],
  [(170, 183, 1, 178, 1310), (174, 174, 7, 15, 1314), (178, 208, 0, 201, 1321), (181, 209, 0, 202, 1325), (187, 168, 1, 167, 1549), (195, 173, 2, 14, 1317), (202, 170, 1, 169, 1565), (206, 175, 4, 170, 1569), (210, 172, 1, 13, 1573), (214, 171, 1, 12, 1576), (217, 177, 3, 172, 1579), (236, 179, 1, 174, 1595), (239, 178, 1, 173, 1583), (242, 181, 0, 176, 1599), (245, 176, 0, 171, 1561), (266, 188, 0, 183, 1587), (275, 192, 2, 187, 1631), (279, 182, 1, 177, 1607), (282, 186, 2, 181, 1591), (286, 189, 0, 184, 1603), (290, 190, 2, 185, 1615), (293, 194, 0, 189, 1619), (296, 195, 0, 190, 1635), (299, 187, 2, 182, 1639), (302, 196, 1, 191, 1643), (305, 180, 2, 175, 1611), (308, 191, 0, 186, 1623), (311, 193, 2, 188, 1627), (315, 200, 0, 195, 1647), (318, 197, 0, 192, 1663), (324, 198, 2, 193, 1655), (327, 201, 0, 196, 1651), (330, 199, 1, 194, 1659), (338, 203, 3, 16, 1679), (349, 211, 2, 18, 1794), (352, 213, 1, 205, 1694), (355, 216, 1, 208, 1702), (358, 204, 3, 17, 1710), (361, 202, 2, 197, 1706), (364, 214, 1, 206, 1690), (367, 215, 2, 207, 1698), (370, 219, 1, 211, 1717), (374, 222, 1, 214, 1782), (377, 224, 2, 216, 1786), (380, 225, 1, 217, 1778), (383, 220, 2, 212, 1733), (386, 221, 0, 213, 1769), (389, 226, 1, 218, 1774), (392, 212, 0, 204, 1790), (396, 218, 3, 210, 1713), (400, 227, 0, 219, 1765), (403, 206, 1, 199, 1675), (406, 210, 0, 203, 1682), (409, 217, 1, 209, 1686), (412, 207, 1, 200, 1725), (415, 232, 0, 224, 1741), (418, 228, 1, 220, 1761), (421, 205, 1, 198, 1806), (424, 223, 2, 215, 1814), (427, 241, 1, 233, 1822), (430, 245, 1, 19, 1834), (433, 244, 2, 236, 1837), (436, 247, 2, 238, 1845), (439, 251, 2, 242, 1861), (442, 253, 1, 244, 1869), (445, 255, 1, 20, 1877), (448, 264, 1, 254, 1912), (451, 263, 2, 253, 1916), (454, 265, 1, 255, 1908), (457, 266, 1, 21, 1920), (460, 268, 3, 257, 1927)],
  [(13, 120, 5, 122, 609), (17, 167, 5, 166, 1545), (18, 121, 1, 123, 621), (22, 169, 1, 168, 1553), (23, 122, 0, 124, 625), (27, 184, 0, 179, 1557), (28, 123, 0, 125, 875), (31, 185, 0, 180, 1667), (32, 124, 2, 126, 879), (36, 229, 2, 221, 1671), (37, 125, 2, 127, 916), (40, 230, 2, 222, 1721), (41, 126, 2, 128, 929), (44, 231, 2, 223, 1729), (45, 127, 2, 129, 937), (48, 233, 2, 225, 1737), (49, 128, 1, 130, 954), (52, 234, 1, 226, 1745), (53, 129, 2, 131, 958), (56, 235, 2, 227, 1749), (57, 130, 1, 132, 963), (61, 236, 1, 228, 1753), (62, 131, 1, 133, 973), (65, 237, 1, 229, 1757), (66, 132, 0, 134, 1053), (70, 238, 0, 230, 1798), (71, 133, 2, 135, 1061), (74, 239, 2, 231, 1802), (75, 134, 2, 136, 1073), (78, 240, 2, 232, 1810), (79, 135, 1, 137, 1082), (82, 242, 1, 234, 1818), (83, 136, 0, 138, 1091), (86, 243, 0, 235, 1826), (87, 137, 2, 139, 1104), (90, 246, 2, 237, 1830), (91, 138, 3, 140, 1112), (95, 248, 3, 239, 1841), (96, 139, 2, 141, 1125), (99, 249, 2, 240, 1849), (100, 140, 2, 142, 1141), (103, 250, 2, 241, 1853), (104, 141, 2, 143, 1157), (107, 252, 2, 243, 1857), (108, 142, 0, 144, 1161), (111, 254, 0, 245, 1865), (112, 143, 1, 145, 1180), (115, 256, 1, 246, 1873), (116, 144, 3, 146, 1189), (119, 257, 3, 247, 1880), (120, 145, 2, 147, 1200), (123, 258, 2, 248, 1884), (124, 146, 3, 148, 1209), (127, 259, 3, 249, 1888), (128, 147, 4, 149, 1213), (132, 260, 4, 250, 1892), (133, 148, 3, 150, 1226), (136, 261, 3, 251, 1896), (137, 149, 0, 151, 1234), (140, 262, 0, 252, 1900), (141, 150, 2, 152, 1238), (144, 267, 2, 256, 1904), (145, 151, 1, 153, 1265), (148, 269, 1, 258, 1923), (149, 152, 1, 154, 1282), (152, 270, 1, 259, 1931), (153, 153, 1, 155, 1286), (156, 271, 1, 260, 1935), (157, 154, 1, 156, 1290), (160, 272, 1, 261, 1939)],
  [],
  []]
def mn_t : List (List (Nat × Nat × Nat × Nat × Nat)) := [[(38, 164, 3, 10, 845)],
  [(25, 165, 2, 11, 1012)],
  [],
  [(88, 165, 2, 11, 860)],
  [(147, 164, 3, 10, 793)],
  [],
  [(41, 165, 2, 11, 1250)],
  [(112, 165, 2, 11, 1000)],
  [],
  [],
  [],
  [],
  [],
  [],
  [],
  []]
def flk (o : Nat) : List (Nat × Nat × Nat × Nat) := fl_t.getD o []
def fnk (o : Nat) : List (Nat × Nat × Nat × Nat) := fn_t.getD o []
def mlk (o : Nat) : List (Nat × Nat × Nat × Nat × Nat) := ml_t.getD o []
def mnk (o : Nat) : List (Nat × Nat × Nat × Nat × Nat) := mn_t.getD o []
def fW (o idx a b : Nat) : Cond := Cond.fieldLink (oN o) idx ((cT a).2.1 b).1 ((cT a).2.1 b).2.1 ((cT a).2.1 b).2.2.1
def fV (o idx a b : Nat) : Cond := Cond.fieldLinkNest (oN o) idx ((cT a).2.1 b).1 ((cT a).2.1 b).2.1 ((cT a).2.1 b).2.2.1 "SewnRoads"
def mW (o idx y : Nat) : Cond := Cond.methodLink (oN o) idx (mN y)
def mV (o idx y : Nat) : Cond := Cond.methodLinkNest (oN o) idx (mN y) "SewnRoads"
def mP (y n : Nat) : Prop := (parseMethodDescriptor (mN y).desc).map (fun d => d.parameters.length) = some n
theorem mws_at {y i : Nat} (h : mws[i]? = some y) : mF y := mF_all (List.mem_of_getElem? h)
set_option maxRecDepth 100000 in
theorem fl_0_0 : (((flk 0).drop 0).take 30).map (fun q => lw_tbl[q.2.2.2]?) = (((flk 0).drop 0).take 30).map (fun q => some (fW 0 q.1 q.2.1 q.2.2.1)) := rfl
set_option maxRecDepth 100000 in
theorem flb_0 : ∀ q ∈ flk 0, q.2.1 < 13 ∧ q.2.2.1 < (cT q.2.1).2.2 := by decide +kernel
set_option maxRecDepth 100000 in
theorem fn_0_0 : (((fnk 0).drop 0).take 30).map (fun q => lw_tbl[q.2.2.2]?) = (((fnk 0).drop 0).take 30).map (fun q => some (fV 0 q.1 q.2.1 q.2.2.1)) := rfl
set_option maxRecDepth 100000 in
theorem fnb_0 : ∀ q ∈ fnk 0, q.2.1 < 13 ∧ q.2.2.1 < (cT q.2.1).2.2 := by decide +kernel
set_option maxRecDepth 100000 in
theorem ml_0_0 : (((mlk 0).drop 0).take 30).map (fun q => lw_tbl[q.2.2.2.2]?) = (((mlk 0).drop 0).take 30).map (fun q => some (mW 0 q.1 q.2.1)) := rfl
set_option maxRecDepth 100000 in
theorem mlc_0_0 : (((mlk 0).drop 0).take 30).map (fun q => mws[q.2.2.2.1]?) = (((mlk 0).drop 0).take 30).map (fun q => some q.2.1) := rfl
set_option maxRecDepth 100000 in
theorem mlb_0 : ∀ q ∈ mlk 0, (parseMethodDescriptor (mN q.2.1).desc).map (fun d => d.parameters.length) = some q.2.2.1 := by decide +kernel
set_option maxRecDepth 100000 in
theorem mn_0_0 : (((mnk 0).drop 0).take 30).map (fun q => lw_tbl[q.2.2.2.2]?) = (((mnk 0).drop 0).take 30).map (fun q => some (mV 0 q.1 q.2.1)) := rfl
set_option maxRecDepth 100000 in
theorem mnc_0_0 : (((mnk 0).drop 0).take 30).map (fun q => mws[q.2.2.2.1]?) = (((mnk 0).drop 0).take 30).map (fun q => some q.2.1) := rfl
set_option maxRecDepth 100000 in
theorem mnb_0 : ∀ q ∈ mnk 0, (parseMethodDescriptor (mN q.2.1).desc).map (fun d => d.parameters.length) = some q.2.2.1 := by decide +kernel
set_option maxRecDepth 100000 in
theorem fl_1_0 : (((flk 1).drop 0).take 30).map (fun q => lw_tbl[q.2.2.2]?) = (((flk 1).drop 0).take 30).map (fun q => some (fW 1 q.1 q.2.1 q.2.2.1)) := rfl
set_option maxRecDepth 100000 in
theorem flb_1 : ∀ q ∈ flk 1, q.2.1 < 13 ∧ q.2.2.1 < (cT q.2.1).2.2 := by decide +kernel
set_option maxRecDepth 100000 in
theorem fn_1_0 : (((fnk 1).drop 0).take 30).map (fun q => lw_tbl[q.2.2.2]?) = (((fnk 1).drop 0).take 30).map (fun q => some (fV 1 q.1 q.2.1 q.2.2.1)) := rfl
set_option maxRecDepth 100000 in
theorem fnb_1 : ∀ q ∈ fnk 1, q.2.1 < 13 ∧ q.2.2.1 < (cT q.2.1).2.2 := by decide +kernel
set_option maxRecDepth 100000 in
theorem ml_1_0 : (((mlk 1).drop 0).take 30).map (fun q => lw_tbl[q.2.2.2.2]?) = (((mlk 1).drop 0).take 30).map (fun q => some (mW 1 q.1 q.2.1)) := rfl
set_option maxRecDepth 100000 in
theorem mlc_1_0 : (((mlk 1).drop 0).take 30).map (fun q => mws[q.2.2.2.1]?) = (((mlk 1).drop 0).take 30).map (fun q => some q.2.1) := rfl
set_option maxRecDepth 100000 in
theorem mlb_1 : ∀ q ∈ mlk 1, (parseMethodDescriptor (mN q.2.1).desc).map (fun d => d.parameters.length) = some q.2.2.1 := by decide +kernel
set_option maxRecDepth 100000 in
theorem mn_1_0 : (((mnk 1).drop 0).take 30).map (fun q => lw_tbl[q.2.2.2.2]?) = (((mnk 1).drop 0).take 30).map (fun q => some (mV 1 q.1 q.2.1)) := rfl
set_option maxRecDepth 100000 in
theorem mnc_1_0 : (((mnk 1).drop 0).take 30).map (fun q => mws[q.2.2.2.1]?) = (((mnk 1).drop 0).take 30).map (fun q => some q.2.1) := rfl
set_option maxRecDepth 100000 in
theorem mnb_1 : ∀ q ∈ mnk 1, (parseMethodDescriptor (mN q.2.1).desc).map (fun d => d.parameters.length) = some q.2.2.1 := by decide +kernel
set_option maxRecDepth 100000 in
theorem fl_2_0 : (((flk 2).drop 0).take 30).map (fun q => lw_tbl[q.2.2.2]?) = (((flk 2).drop 0).take 30).map (fun q => some (fW 2 q.1 q.2.1 q.2.2.1)) := rfl
set_option maxRecDepth 100000 in
theorem flb_2 : ∀ q ∈ flk 2, q.2.1 < 13 ∧ q.2.2.1 < (cT q.2.1).2.2 := by decide +kernel
set_option maxRecDepth 100000 in
theorem fn_2_0 : (((fnk 2).drop 0).take 30).map (fun q => lw_tbl[q.2.2.2]?) = (((fnk 2).drop 0).take 30).map (fun q => some (fV 2 q.1 q.2.1 q.2.2.1)) := rfl
set_option maxRecDepth 100000 in
theorem fnb_2 : ∀ q ∈ fnk 2, q.2.1 < 13 ∧ q.2.2.1 < (cT q.2.1).2.2 := by decide +kernel
set_option maxRecDepth 100000 in
theorem ml_2_0 : (((mlk 2).drop 0).take 30).map (fun q => lw_tbl[q.2.2.2.2]?) = (((mlk 2).drop 0).take 30).map (fun q => some (mW 2 q.1 q.2.1)) := rfl
set_option maxRecDepth 100000 in
theorem mlc_2_0 : (((mlk 2).drop 0).take 30).map (fun q => mws[q.2.2.2.1]?) = (((mlk 2).drop 0).take 30).map (fun q => some q.2.1) := rfl
set_option maxRecDepth 100000 in
theorem mlb_2 : ∀ q ∈ mlk 2, (parseMethodDescriptor (mN q.2.1).desc).map (fun d => d.parameters.length) = some q.2.2.1 := by decide +kernel
set_option maxRecDepth 100000 in
theorem mn_2_0 : (((mnk 2).drop 0).take 30).map (fun q => lw_tbl[q.2.2.2.2]?) = (((mnk 2).drop 0).take 30).map (fun q => some (mV 2 q.1 q.2.1)) := rfl
set_option maxRecDepth 100000 in
theorem mnc_2_0 : (((mnk 2).drop 0).take 30).map (fun q => mws[q.2.2.2.1]?) = (((mnk 2).drop 0).take 30).map (fun q => some q.2.1) := rfl
set_option maxRecDepth 100000 in
theorem mnb_2 : ∀ q ∈ mnk 2, (parseMethodDescriptor (mN q.2.1).desc).map (fun d => d.parameters.length) = some q.2.2.1 := by decide +kernel
set_option maxRecDepth 100000 in
theorem fl_3_0 : (((flk 3).drop 0).take 30).map (fun q => lw_tbl[q.2.2.2]?) = (((flk 3).drop 0).take 30).map (fun q => some (fW 3 q.1 q.2.1 q.2.2.1)) := rfl
set_option maxRecDepth 100000 in
theorem flb_3 : ∀ q ∈ flk 3, q.2.1 < 13 ∧ q.2.2.1 < (cT q.2.1).2.2 := by decide +kernel
set_option maxRecDepth 100000 in
theorem fn_3_0 : (((fnk 3).drop 0).take 30).map (fun q => lw_tbl[q.2.2.2]?) = (((fnk 3).drop 0).take 30).map (fun q => some (fV 3 q.1 q.2.1 q.2.2.1)) := rfl
set_option maxRecDepth 100000 in
theorem fnb_3 : ∀ q ∈ fnk 3, q.2.1 < 13 ∧ q.2.2.1 < (cT q.2.1).2.2 := by decide +kernel
set_option maxRecDepth 100000 in
theorem ml_3_0 : (((mlk 3).drop 0).take 30).map (fun q => lw_tbl[q.2.2.2.2]?) = (((mlk 3).drop 0).take 30).map (fun q => some (mW 3 q.1 q.2.1)) := rfl
set_option maxRecDepth 100000 in
theorem mlc_3_0 : (((mlk 3).drop 0).take 30).map (fun q => mws[q.2.2.2.1]?) = (((mlk 3).drop 0).take 30).map (fun q => some q.2.1) := rfl
set_option maxRecDepth 100000 in
theorem mlb_3 : ∀ q ∈ mlk 3, (parseMethodDescriptor (mN q.2.1).desc).map (fun d => d.parameters.length) = some q.2.2.1 := by decide +kernel
set_option maxRecDepth 100000 in
theorem mn_3_0 : (((mnk 3).drop 0).take 30).map (fun q => lw_tbl[q.2.2.2.2]?) = (((mnk 3).drop 0).take 30).map (fun q => some (mV 3 q.1 q.2.1)) := rfl
set_option maxRecDepth 100000 in
theorem mnc_3_0 : (((mnk 3).drop 0).take 30).map (fun q => mws[q.2.2.2.1]?) = (((mnk 3).drop 0).take 30).map (fun q => some q.2.1) := rfl
set_option maxRecDepth 100000 in
theorem mnb_3 : ∀ q ∈ mnk 3, (parseMethodDescriptor (mN q.2.1).desc).map (fun d => d.parameters.length) = some q.2.2.1 := by decide +kernel
set_option maxRecDepth 100000 in
theorem fl_4_0 : (((flk 4).drop 0).take 30).map (fun q => lw_tbl[q.2.2.2]?) = (((flk 4).drop 0).take 30).map (fun q => some (fW 4 q.1 q.2.1 q.2.2.1)) := rfl
set_option maxRecDepth 100000 in
theorem flb_4 : ∀ q ∈ flk 4, q.2.1 < 13 ∧ q.2.2.1 < (cT q.2.1).2.2 := by decide +kernel
set_option maxRecDepth 100000 in
theorem fn_4_0 : (((fnk 4).drop 0).take 30).map (fun q => lw_tbl[q.2.2.2]?) = (((fnk 4).drop 0).take 30).map (fun q => some (fV 4 q.1 q.2.1 q.2.2.1)) := rfl
set_option maxRecDepth 100000 in
theorem fnb_4 : ∀ q ∈ fnk 4, q.2.1 < 13 ∧ q.2.2.1 < (cT q.2.1).2.2 := by decide +kernel
set_option maxRecDepth 100000 in
theorem ml_4_0 : (((mlk 4).drop 0).take 30).map (fun q => lw_tbl[q.2.2.2.2]?) = (((mlk 4).drop 0).take 30).map (fun q => some (mW 4 q.1 q.2.1)) := rfl
set_option maxRecDepth 100000 in
theorem mlc_4_0 : (((mlk 4).drop 0).take 30).map (fun q => mws[q.2.2.2.1]?) = (((mlk 4).drop 0).take 30).map (fun q => some q.2.1) := rfl
set_option maxRecDepth 100000 in
theorem mlb_4 : ∀ q ∈ mlk 4, (parseMethodDescriptor (mN q.2.1).desc).map (fun d => d.parameters.length) = some q.2.2.1 := by decide +kernel
set_option maxRecDepth 100000 in
theorem mn_4_0 : (((mnk 4).drop 0).take 30).map (fun q => lw_tbl[q.2.2.2.2]?) = (((mnk 4).drop 0).take 30).map (fun q => some (mV 4 q.1 q.2.1)) := rfl
set_option maxRecDepth 100000 in
theorem mnc_4_0 : (((mnk 4).drop 0).take 30).map (fun q => mws[q.2.2.2.1]?) = (((mnk 4).drop 0).take 30).map (fun q => some q.2.1) := rfl
set_option maxRecDepth 100000 in
theorem mnb_4 : ∀ q ∈ mnk 4, (parseMethodDescriptor (mN q.2.1).desc).map (fun d => d.parameters.length) = some q.2.2.1 := by decide +kernel
set_option maxRecDepth 100000 in
theorem fl_5_0 : (((flk 5).drop 0).take 30).map (fun q => lw_tbl[q.2.2.2]?) = (((flk 5).drop 0).take 30).map (fun q => some (fW 5 q.1 q.2.1 q.2.2.1)) := rfl
set_option maxRecDepth 100000 in
theorem flb_5 : ∀ q ∈ flk 5, q.2.1 < 13 ∧ q.2.2.1 < (cT q.2.1).2.2 := by decide +kernel
set_option maxRecDepth 100000 in
theorem fn_5_0 : (((fnk 5).drop 0).take 30).map (fun q => lw_tbl[q.2.2.2]?) = (((fnk 5).drop 0).take 30).map (fun q => some (fV 5 q.1 q.2.1 q.2.2.1)) := rfl
set_option maxRecDepth 100000 in
theorem fnb_5 : ∀ q ∈ fnk 5, q.2.1 < 13 ∧ q.2.2.1 < (cT q.2.1).2.2 := by decide +kernel
set_option maxRecDepth 100000 in
theorem ml_5_0 : (((mlk 5).drop 0).take 30).map (fun q => lw_tbl[q.2.2.2.2]?) = (((mlk 5).drop 0).take 30).map (fun q => some (mW 5 q.1 q.2.1)) := rfl
set_option maxRecDepth 100000 in
theorem mlc_5_0 : (((mlk 5).drop 0).take 30).map (fun q => mws[q.2.2.2.1]?) = (((mlk 5).drop 0).take 30).map (fun q => some q.2.1) := rfl
set_option maxRecDepth 100000 in
theorem mlb_5 : ∀ q ∈ mlk 5, (parseMethodDescriptor (mN q.2.1).desc).map (fun d => d.parameters.length) = some q.2.2.1 := by decide +kernel
set_option maxRecDepth 100000 in
theorem mn_5_0 : (((mnk 5).drop 0).take 30).map (fun q => lw_tbl[q.2.2.2.2]?) = (((mnk 5).drop 0).take 30).map (fun q => some (mV 5 q.1 q.2.1)) := rfl
set_option maxRecDepth 100000 in
theorem mnc_5_0 : (((mnk 5).drop 0).take 30).map (fun q => mws[q.2.2.2.1]?) = (((mnk 5).drop 0).take 30).map (fun q => some q.2.1) := rfl
set_option maxRecDepth 100000 in
theorem mnb_5 : ∀ q ∈ mnk 5, (parseMethodDescriptor (mN q.2.1).desc).map (fun d => d.parameters.length) = some q.2.2.1 := by decide +kernel
set_option maxRecDepth 100000 in
theorem fl_6_0 : (((flk 6).drop 0).take 30).map (fun q => lw_tbl[q.2.2.2]?) = (((flk 6).drop 0).take 30).map (fun q => some (fW 6 q.1 q.2.1 q.2.2.1)) := rfl
set_option maxRecDepth 100000 in
theorem flb_6 : ∀ q ∈ flk 6, q.2.1 < 13 ∧ q.2.2.1 < (cT q.2.1).2.2 := by decide +kernel
set_option maxRecDepth 100000 in
theorem fn_6_0 : (((fnk 6).drop 0).take 30).map (fun q => lw_tbl[q.2.2.2]?) = (((fnk 6).drop 0).take 30).map (fun q => some (fV 6 q.1 q.2.1 q.2.2.1)) := rfl
set_option maxRecDepth 100000 in
theorem fnb_6 : ∀ q ∈ fnk 6, q.2.1 < 13 ∧ q.2.2.1 < (cT q.2.1).2.2 := by decide +kernel
set_option maxRecDepth 100000 in
theorem ml_6_0 : (((mlk 6).drop 0).take 30).map (fun q => lw_tbl[q.2.2.2.2]?) = (((mlk 6).drop 0).take 30).map (fun q => some (mW 6 q.1 q.2.1)) := rfl
set_option maxRecDepth 100000 in
theorem mlc_6_0 : (((mlk 6).drop 0).take 30).map (fun q => mws[q.2.2.2.1]?) = (((mlk 6).drop 0).take 30).map (fun q => some q.2.1) := rfl
set_option maxRecDepth 100000 in
theorem mlb_6 : ∀ q ∈ mlk 6, (parseMethodDescriptor (mN q.2.1).desc).map (fun d => d.parameters.length) = some q.2.2.1 := by decide +kernel
set_option maxRecDepth 100000 in
theorem mn_6_0 : (((mnk 6).drop 0).take 30).map (fun q => lw_tbl[q.2.2.2.2]?) = (((mnk 6).drop 0).take 30).map (fun q => some (mV 6 q.1 q.2.1)) := rfl
set_option maxRecDepth 100000 in
theorem mnc_6_0 : (((mnk 6).drop 0).take 30).map (fun q => mws[q.2.2.2.1]?) = (((mnk 6).drop 0).take 30).map (fun q => some q.2.1) := rfl
set_option maxRecDepth 100000 in
theorem mnb_6 : ∀ q ∈ mnk 6, (parseMethodDescriptor (mN q.2.1).desc).map (fun d => d.parameters.length) = some q.2.2.1 := by decide +kernel
set_option maxRecDepth 100000 in
theorem fl_7_0 : (((flk 7).drop 0).take 30).map (fun q => lw_tbl[q.2.2.2]?) = (((flk 7).drop 0).take 30).map (fun q => some (fW 7 q.1 q.2.1 q.2.2.1)) := rfl
set_option maxRecDepth 100000 in
theorem flb_7 : ∀ q ∈ flk 7, q.2.1 < 13 ∧ q.2.2.1 < (cT q.2.1).2.2 := by decide +kernel
set_option maxRecDepth 100000 in
theorem fn_7_0 : (((fnk 7).drop 0).take 30).map (fun q => lw_tbl[q.2.2.2]?) = (((fnk 7).drop 0).take 30).map (fun q => some (fV 7 q.1 q.2.1 q.2.2.1)) := rfl
set_option maxRecDepth 100000 in
theorem fnb_7 : ∀ q ∈ fnk 7, q.2.1 < 13 ∧ q.2.2.1 < (cT q.2.1).2.2 := by decide +kernel
set_option maxRecDepth 100000 in
theorem ml_7_0 : (((mlk 7).drop 0).take 30).map (fun q => lw_tbl[q.2.2.2.2]?) = (((mlk 7).drop 0).take 30).map (fun q => some (mW 7 q.1 q.2.1)) := rfl
set_option maxRecDepth 100000 in
theorem mlc_7_0 : (((mlk 7).drop 0).take 30).map (fun q => mws[q.2.2.2.1]?) = (((mlk 7).drop 0).take 30).map (fun q => some q.2.1) := rfl
set_option maxRecDepth 100000 in
theorem mlb_7 : ∀ q ∈ mlk 7, (parseMethodDescriptor (mN q.2.1).desc).map (fun d => d.parameters.length) = some q.2.2.1 := by decide +kernel
set_option maxRecDepth 100000 in
theorem mn_7_0 : (((mnk 7).drop 0).take 30).map (fun q => lw_tbl[q.2.2.2.2]?) = (((mnk 7).drop 0).take 30).map (fun q => some (mV 7 q.1 q.2.1)) := rfl
set_option maxRecDepth 100000 in
theorem mnc_7_0 : (((mnk 7).drop 0).take 30).map (fun q => mws[q.2.2.2.1]?) = (((mnk 7).drop 0).take 30).map (fun q => some q.2.1) := rfl
set_option maxRecDepth 100000 in
theorem mnb_7 : ∀ q ∈ mnk 7, (parseMethodDescriptor (mN q.2.1).desc).map (fun d => d.parameters.length) = some q.2.2.1 := by decide +kernel
set_option maxRecDepth 100000 in
theorem fl_8_0 : (((flk 8).drop 0).take 30).map (fun q => lw_tbl[q.2.2.2]?) = (((flk 8).drop 0).take 30).map (fun q => some (fW 8 q.1 q.2.1 q.2.2.1)) := rfl
set_option maxRecDepth 100000 in
theorem flb_8 : ∀ q ∈ flk 8, q.2.1 < 13 ∧ q.2.2.1 < (cT q.2.1).2.2 := by decide +kernel
set_option maxRecDepth 100000 in
theorem fn_8_0 : (((fnk 8).drop 0).take 30).map (fun q => lw_tbl[q.2.2.2]?) = (((fnk 8).drop 0).take 30).map (fun q => some (fV 8 q.1 q.2.1 q.2.2.1)) := rfl
set_option maxRecDepth 100000 in
theorem fnb_8 : ∀ q ∈ fnk 8, q.2.1 < 13 ∧ q.2.2.1 < (cT q.2.1).2.2 := by decide +kernel
set_option maxRecDepth 100000 in
theorem ml_8_0 : (((mlk 8).drop 0).take 30).map (fun q => lw_tbl[q.2.2.2.2]?) = (((mlk 8).drop 0).take 30).map (fun q => some (mW 8 q.1 q.2.1)) := rfl
set_option maxRecDepth 100000 in
theorem mlc_8_0 : (((mlk 8).drop 0).take 30).map (fun q => mws[q.2.2.2.1]?) = (((mlk 8).drop 0).take 30).map (fun q => some q.2.1) := rfl
set_option maxRecDepth 100000 in
theorem mlb_8 : ∀ q ∈ mlk 8, (parseMethodDescriptor (mN q.2.1).desc).map (fun d => d.parameters.length) = some q.2.2.1 := by decide +kernel
set_option maxRecDepth 100000 in
theorem mn_8_0 : (((mnk 8).drop 0).take 30).map (fun q => lw_tbl[q.2.2.2.2]?) = (((mnk 8).drop 0).take 30).map (fun q => some (mV 8 q.1 q.2.1)) := rfl
set_option maxRecDepth 100000 in
theorem mnc_8_0 : (((mnk 8).drop 0).take 30).map (fun q => mws[q.2.2.2.1]?) = (((mnk 8).drop 0).take 30).map (fun q => some q.2.1) := rfl
set_option maxRecDepth 100000 in
theorem mnb_8 : ∀ q ∈ mnk 8, (parseMethodDescriptor (mN q.2.1).desc).map (fun d => d.parameters.length) = some q.2.2.1 := by decide +kernel
set_option maxRecDepth 100000 in
theorem fl_9_0 : (((flk 9).drop 0).take 30).map (fun q => lw_tbl[q.2.2.2]?) = (((flk 9).drop 0).take 30).map (fun q => some (fW 9 q.1 q.2.1 q.2.2.1)) := rfl
set_option maxRecDepth 100000 in
theorem flb_9 : ∀ q ∈ flk 9, q.2.1 < 13 ∧ q.2.2.1 < (cT q.2.1).2.2 := by decide +kernel
set_option maxRecDepth 100000 in
theorem fn_9_0 : (((fnk 9).drop 0).take 30).map (fun q => lw_tbl[q.2.2.2]?) = (((fnk 9).drop 0).take 30).map (fun q => some (fV 9 q.1 q.2.1 q.2.2.1)) := rfl
set_option maxRecDepth 100000 in
theorem fnb_9 : ∀ q ∈ fnk 9, q.2.1 < 13 ∧ q.2.2.1 < (cT q.2.1).2.2 := by decide +kernel
set_option maxRecDepth 100000 in
theorem ml_9_0 : (((mlk 9).drop 0).take 30).map (fun q => lw_tbl[q.2.2.2.2]?) = (((mlk 9).drop 0).take 30).map (fun q => some (mW 9 q.1 q.2.1)) := rfl
set_option maxRecDepth 100000 in
theorem mlc_9_0 : (((mlk 9).drop 0).take 30).map (fun q => mws[q.2.2.2.1]?) = (((mlk 9).drop 0).take 30).map (fun q => some q.2.1) := rfl
set_option maxRecDepth 100000 in
theorem mlb_9 : ∀ q ∈ mlk 9, (parseMethodDescriptor (mN q.2.1).desc).map (fun d => d.parameters.length) = some q.2.2.1 := by decide +kernel
set_option maxRecDepth 100000 in
theorem mn_9_0 : (((mnk 9).drop 0).take 30).map (fun q => lw_tbl[q.2.2.2.2]?) = (((mnk 9).drop 0).take 30).map (fun q => some (mV 9 q.1 q.2.1)) := rfl
set_option maxRecDepth 100000 in
theorem mnc_9_0 : (((mnk 9).drop 0).take 30).map (fun q => mws[q.2.2.2.1]?) = (((mnk 9).drop 0).take 30).map (fun q => some q.2.1) := rfl
set_option maxRecDepth 100000 in
theorem mnb_9 : ∀ q ∈ mnk 9, (parseMethodDescriptor (mN q.2.1).desc).map (fun d => d.parameters.length) = some q.2.2.1 := by decide +kernel
set_option maxRecDepth 100000 in
theorem fl_10_0 : (((flk 10).drop 0).take 30).map (fun q => lw_tbl[q.2.2.2]?) = (((flk 10).drop 0).take 30).map (fun q => some (fW 10 q.1 q.2.1 q.2.2.1)) := rfl
set_option maxRecDepth 100000 in
theorem flb_10 : ∀ q ∈ flk 10, q.2.1 < 13 ∧ q.2.2.1 < (cT q.2.1).2.2 := by decide +kernel
set_option maxRecDepth 100000 in
theorem fn_10_0 : (((fnk 10).drop 0).take 30).map (fun q => lw_tbl[q.2.2.2]?) = (((fnk 10).drop 0).take 30).map (fun q => some (fV 10 q.1 q.2.1 q.2.2.1)) := rfl
set_option maxRecDepth 100000 in
theorem fnb_10 : ∀ q ∈ fnk 10, q.2.1 < 13 ∧ q.2.2.1 < (cT q.2.1).2.2 := by decide +kernel
set_option maxRecDepth 100000 in
theorem ml_10_0 : (((mlk 10).drop 0).take 30).map (fun q => lw_tbl[q.2.2.2.2]?) = (((mlk 10).drop 0).take 30).map (fun q => some (mW 10 q.1 q.2.1)) := rfl
set_option maxRecDepth 100000 in
theorem mlc_10_0 : (((mlk 10).drop 0).take 30).map (fun q => mws[q.2.2.2.1]?) = (((mlk 10).drop 0).take 30).map (fun q => some q.2.1) := rfl
set_option maxRecDepth 100000 in
theorem mlb_10 : ∀ q ∈ mlk 10, (parseMethodDescriptor (mN q.2.1).desc).map (fun d => d.parameters.length) = some q.2.2.1 := by decide +kernel
set_option maxRecDepth 100000 in
theorem mn_10_0 : (((mnk 10).drop 0).take 30).map (fun q => lw_tbl[q.2.2.2.2]?) = (((mnk 10).drop 0).take 30).map (fun q => some (mV 10 q.1 q.2.1)) := rfl
set_option maxRecDepth 100000 in
theorem mnc_10_0 : (((mnk 10).drop 0).take 30).map (fun q => mws[q.2.2.2.1]?) = (((mnk 10).drop 0).take 30).map (fun q => some q.2.1) := rfl
set_option maxRecDepth 100000 in
theorem mnb_10 : ∀ q ∈ mnk 10, (parseMethodDescriptor (mN q.2.1).desc).map (fun d => d.parameters.length) = some q.2.2.1 := by decide +kernel
set_option maxRecDepth 100000 in
theorem fl_11_0 : (((flk 11).drop 0).take 30).map (fun q => lw_tbl[q.2.2.2]?) = (((flk 11).drop 0).take 30).map (fun q => some (fW 11 q.1 q.2.1 q.2.2.1)) := rfl
set_option maxRecDepth 100000 in
theorem fl_11_1 : (((flk 11).drop 30).take 30).map (fun q => lw_tbl[q.2.2.2]?) = (((flk 11).drop 30).take 30).map (fun q => some (fW 11 q.1 q.2.1 q.2.2.1)) := rfl
set_option maxRecDepth 100000 in
theorem flb_11 : ∀ q ∈ flk 11, q.2.1 < 13 ∧ q.2.2.1 < (cT q.2.1).2.2 := by decide +kernel
set_option maxRecDepth 100000 in
theorem fn_11_0 : (((fnk 11).drop 0).take 30).map (fun q => lw_tbl[q.2.2.2]?) = (((fnk 11).drop 0).take 30).map (fun q => some (fV 11 q.1 q.2.1 q.2.2.1)) := rfl
set_option maxRecDepth 100000 in
theorem fnb_11 : ∀ q ∈ fnk 11, q.2.1 < 13 ∧ q.2.2.1 < (cT q.2.1).2.2 := by decide +kernel
set_option maxRecDepth 100000 in
theorem ml_11_0 : (((mlk 11).drop 0).take 30).map (fun q => lw_tbl[q.2.2.2.2]?) = (((mlk 11).drop 0).take 30).map (fun q => some (mW 11 q.1 q.2.1)) := rfl
set_option maxRecDepth 100000 in
theorem mlc_11_0 : (((mlk 11).drop 0).take 30).map (fun q => mws[q.2.2.2.1]?) = (((mlk 11).drop 0).take 30).map (fun q => some q.2.1) := rfl
set_option maxRecDepth 100000 in
theorem ml_11_1 : (((mlk 11).drop 30).take 30).map (fun q => lw_tbl[q.2.2.2.2]?) = (((mlk 11).drop 30).take 30).map (fun q => some (mW 11 q.1 q.2.1)) := rfl
set_option maxRecDepth 100000 in
theorem mlc_11_1 : (((mlk 11).drop 30).take 30).map (fun q => mws[q.2.2.2.1]?) = (((mlk 11).drop 30).take 30).map (fun q => some q.2.1) := rfl
set_option maxRecDepth 100000 in
theorem mlb_11 : ∀ q ∈ mlk 11, (parseMethodDescriptor (mN q.2.1).desc).map (fun d => d.parameters.length) = some q.2.2.1 := by decide +kernel
set_option maxRecDepth 100000 in
theorem mn_11_0 : (((mnk 11).drop 0).take 30).map (fun q => lw_tbl[q.2.2.2.2]?) = (((mnk 11).drop 0).take 30).map (fun q => some (mV 11 q.1 q.2.1)) := rfl
set_option maxRecDepth 100000 in
theorem mnc_11_0 : (((mnk 11).drop 0).take 30).map (fun q => mws[q.2.2.2.1]?) = (((mnk 11).drop 0).take 30).map (fun q => some q.2.1) := rfl
set_option maxRecDepth 100000 in
theorem mnb_11 : ∀ q ∈ mnk 11, (parseMethodDescriptor (mN q.2.1).desc).map (fun d => d.parameters.length) = some q.2.2.1 := by decide +kernel
set_option maxRecDepth 100000 in
theorem fl_12_0 : (((flk 12).drop 0).take 30).map (fun q => lw_tbl[q.2.2.2]?) = (((flk 12).drop 0).take 30).map (fun q => some (fW 12 q.1 q.2.1 q.2.2.1)) := rfl
set_option maxRecDepth 100000 in
theorem fl_12_1 : (((flk 12).drop 30).take 30).map (fun q => lw_tbl[q.2.2.2]?) = (((flk 12).drop 30).take 30).map (fun q => some (fW 12 q.1 q.2.1 q.2.2.1)) := rfl
set_option maxRecDepth 100000 in
theorem fl_12_2 : (((flk 12).drop 60).take 30).map (fun q => lw_tbl[q.2.2.2]?) = (((flk 12).drop 60).take 30).map (fun q => some (fW 12 q.1 q.2.1 q.2.2.1)) := rfl
set_option maxRecDepth 100000 in
theorem flb_12 : ∀ q ∈ flk 12, q.2.1 < 13 ∧ q.2.2.1 < (cT q.2.1).2.2 := by decide +kernel
set_option maxRecDepth 100000 in
theorem fn_12_0 : (((fnk 12).drop 0).take 30).map (fun q => lw_tbl[q.2.2.2]?) = (((fnk 12).drop 0).take 30).map (fun q => some (fV 12 q.1 q.2.1 q.2.2.1)) := rfl
set_option maxRecDepth 100000 in
theorem fnb_12 : ∀ q ∈ fnk 12, q.2.1 < 13 ∧ q.2.2.1 < (cT q.2.1).2.2 := by decide +kernel
set_option maxRecDepth 100000 in
theorem ml_12_0 : (((mlk 12).drop 0).take 30).map (fun q => lw_tbl[q.2.2.2.2]?) = (((mlk 12).drop 0).take 30).map (fun q => some (mW 12 q.1 q.2.1)) := rfl
set_option maxRecDepth 100000 in
theorem mlc_12_0 : (((mlk 12).drop 0).take 30).map (fun q => mws[q.2.2.2.1]?) = (((mlk 12).drop 0).take 30).map (fun q => some q.2.1) := rfl
set_option maxRecDepth 100000 in
theorem ml_12_1 : (((mlk 12).drop 30).take 30).map (fun q => lw_tbl[q.2.2.2.2]?) = (((mlk 12).drop 30).take 30).map (fun q => some (mW 12 q.1 q.2.1)) := rfl
set_option maxRecDepth 100000 in
theorem mlc_12_1 : (((mlk 12).drop 30).take 30).map (fun q => mws[q.2.2.2.1]?) = (((mlk 12).drop 30).take 30).map (fun q => some q.2.1) := rfl
set_option maxRecDepth 100000 in
theorem ml_12_2 : (((mlk 12).drop 60).take 30).map (fun q => lw_tbl[q.2.2.2.2]?) = (((mlk 12).drop 60).take 30).map (fun q => some (mW 12 q.1 q.2.1)) := rfl
set_option maxRecDepth 100000 in
theorem mlc_12_2 : (((mlk 12).drop 60).take 30).map (fun q => mws[q.2.2.2.1]?) = (((mlk 12).drop 60).take 30).map (fun q => some q.2.1) := rfl
set_option maxRecDepth 100000 in
theorem mlb_12 : ∀ q ∈ mlk 12, (parseMethodDescriptor (mN q.2.1).desc).map (fun d => d.parameters.length) = some q.2.2.1 := by decide +kernel
set_option maxRecDepth 100000 in
theorem mn_12_0 : (((mnk 12).drop 0).take 30).map (fun q => lw_tbl[q.2.2.2.2]?) = (((mnk 12).drop 0).take 30).map (fun q => some (mV 12 q.1 q.2.1)) := rfl
set_option maxRecDepth 100000 in
theorem mnc_12_0 : (((mnk 12).drop 0).take 30).map (fun q => mws[q.2.2.2.1]?) = (((mnk 12).drop 0).take 30).map (fun q => some q.2.1) := rfl
set_option maxRecDepth 100000 in
theorem mnb_12 : ∀ q ∈ mnk 12, (parseMethodDescriptor (mN q.2.1).desc).map (fun d => d.parameters.length) = some q.2.2.1 := by decide +kernel
set_option maxRecDepth 100000 in
theorem fl_13_0 : (((flk 13).drop 0).take 30).map (fun q => lw_tbl[q.2.2.2]?) = (((flk 13).drop 0).take 30).map (fun q => some (fW 13 q.1 q.2.1 q.2.2.1)) := rfl
set_option maxRecDepth 100000 in
theorem flb_13 : ∀ q ∈ flk 13, q.2.1 < 13 ∧ q.2.2.1 < (cT q.2.1).2.2 := by decide +kernel
set_option maxRecDepth 100000 in
theorem fn_13_0 : (((fnk 13).drop 0).take 30).map (fun q => lw_tbl[q.2.2.2]?) = (((fnk 13).drop 0).take 30).map (fun q => some (fV 13 q.1 q.2.1 q.2.2.1)) := rfl
set_option maxRecDepth 100000 in
theorem fnb_13 : ∀ q ∈ fnk 13, q.2.1 < 13 ∧ q.2.2.1 < (cT q.2.1).2.2 := by decide +kernel
set_option maxRecDepth 100000 in
theorem ml_13_0 : (((mlk 13).drop 0).take 30).map (fun q => lw_tbl[q.2.2.2.2]?) = (((mlk 13).drop 0).take 30).map (fun q => some (mW 13 q.1 q.2.1)) := rfl
set_option maxRecDepth 100000 in
theorem mlc_13_0 : (((mlk 13).drop 0).take 30).map (fun q => mws[q.2.2.2.1]?) = (((mlk 13).drop 0).take 30).map (fun q => some q.2.1) := rfl
set_option maxRecDepth 100000 in
theorem ml_13_1 : (((mlk 13).drop 30).take 30).map (fun q => lw_tbl[q.2.2.2.2]?) = (((mlk 13).drop 30).take 30).map (fun q => some (mW 13 q.1 q.2.1)) := rfl
set_option maxRecDepth 100000 in
theorem mlc_13_1 : (((mlk 13).drop 30).take 30).map (fun q => mws[q.2.2.2.1]?) = (((mlk 13).drop 30).take 30).map (fun q => some q.2.1) := rfl
set_option maxRecDepth 100000 in
theorem ml_13_2 : (((mlk 13).drop 60).take 30).map (fun q => lw_tbl[q.2.2.2.2]?) = (((mlk 13).drop 60).take 30).map (fun q => some (mW 13 q.1 q.2.1)) := rfl
set_option maxRecDepth 100000 in
theorem mlc_13_2 : (((mlk 13).drop 60).take 30).map (fun q => mws[q.2.2.2.1]?) = (((mlk 13).drop 60).take 30).map (fun q => some q.2.1) := rfl
set_option maxRecDepth 100000 in
theorem mlb_13 : ∀ q ∈ mlk 13, (parseMethodDescriptor (mN q.2.1).desc).map (fun d => d.parameters.length) = some q.2.2.1 := by decide +kernel
set_option maxRecDepth 100000 in
theorem mn_13_0 : (((mnk 13).drop 0).take 30).map (fun q => lw_tbl[q.2.2.2.2]?) = (((mnk 13).drop 0).take 30).map (fun q => some (mV 13 q.1 q.2.1)) := rfl
set_option maxRecDepth 100000 in
theorem mnc_13_0 : (((mnk 13).drop 0).take 30).map (fun q => mws[q.2.2.2.1]?) = (((mnk 13).drop 0).take 30).map (fun q => some q.2.1) := rfl
set_option maxRecDepth 100000 in
theorem mnb_13 : ∀ q ∈ mnk 13, (parseMethodDescriptor (mN q.2.1).desc).map (fun d => d.parameters.length) = some q.2.2.1 := by decide +kernel
set_option maxRecDepth 100000 in
theorem fl_14_0 : (((flk 14).drop 0).take 30).map (fun q => lw_tbl[q.2.2.2]?) = (((flk 14).drop 0).take 30).map (fun q => some (fW 14 q.1 q.2.1 q.2.2.1)) := rfl
set_option maxRecDepth 100000 in
theorem flb_14 : ∀ q ∈ flk 14, q.2.1 < 13 ∧ q.2.2.1 < (cT q.2.1).2.2 := by decide +kernel
set_option maxRecDepth 100000 in
theorem fn_14_0 : (((fnk 14).drop 0).take 30).map (fun q => lw_tbl[q.2.2.2]?) = (((fnk 14).drop 0).take 30).map (fun q => some (fV 14 q.1 q.2.1 q.2.2.1)) := rfl
set_option maxRecDepth 100000 in
theorem fnb_14 : ∀ q ∈ fnk 14, q.2.1 < 13 ∧ q.2.2.1 < (cT q.2.1).2.2 := by decide +kernel
set_option maxRecDepth 100000 in
theorem ml_14_0 : (((mlk 14).drop 0).take 30).map (fun q => lw_tbl[q.2.2.2.2]?) = (((mlk 14).drop 0).take 30).map (fun q => some (mW 14 q.1 q.2.1)) := rfl
set_option maxRecDepth 100000 in
theorem mlc_14_0 : (((mlk 14).drop 0).take 30).map (fun q => mws[q.2.2.2.1]?) = (((mlk 14).drop 0).take 30).map (fun q => some q.2.1) := rfl
set_option maxRecDepth 100000 in
theorem mlb_14 : ∀ q ∈ mlk 14, (parseMethodDescriptor (mN q.2.1).desc).map (fun d => d.parameters.length) = some q.2.2.1 := by decide +kernel
set_option maxRecDepth 100000 in
theorem mn_14_0 : (((mnk 14).drop 0).take 30).map (fun q => lw_tbl[q.2.2.2.2]?) = (((mnk 14).drop 0).take 30).map (fun q => some (mV 14 q.1 q.2.1)) := rfl
set_option maxRecDepth 100000 in
theorem mnc_14_0 : (((mnk 14).drop 0).take 30).map (fun q => mws[q.2.2.2.1]?) = (((mnk 14).drop 0).take 30).map (fun q => some q.2.1) := rfl
set_option maxRecDepth 100000 in
theorem mnb_14 : ∀ q ∈ mnk 14, (parseMethodDescriptor (mN q.2.1).desc).map (fun d => d.parameters.length) = some q.2.2.1 := by decide +kernel
set_option maxRecDepth 100000 in
theorem fl_15_0 : (((flk 15).drop 0).take 30).map (fun q => lw_tbl[q.2.2.2]?) = (((flk 15).drop 0).take 30).map (fun q => some (fW 15 q.1 q.2.1 q.2.2.1)) := rfl
set_option maxRecDepth 100000 in
theorem flb_15 : ∀ q ∈ flk 15, q.2.1 < 13 ∧ q.2.2.1 < (cT q.2.1).2.2 := by decide +kernel
set_option maxRecDepth 100000 in
theorem fn_15_0 : (((fnk 15).drop 0).take 30).map (fun q => lw_tbl[q.2.2.2]?) = (((fnk 15).drop 0).take 30).map (fun q => some (fV 15 q.1 q.2.1 q.2.2.1)) := rfl
set_option maxRecDepth 100000 in
theorem fnb_15 : ∀ q ∈ fnk 15, q.2.1 < 13 ∧ q.2.2.1 < (cT q.2.1).2.2 := by decide +kernel
set_option maxRecDepth 100000 in
theorem ml_15_0 : (((mlk 15).drop 0).take 30).map (fun q => lw_tbl[q.2.2.2.2]?) = (((mlk 15).drop 0).take 30).map (fun q => some (mW 15 q.1 q.2.1)) := rfl
set_option maxRecDepth 100000 in
theorem mlc_15_0 : (((mlk 15).drop 0).take 30).map (fun q => mws[q.2.2.2.1]?) = (((mlk 15).drop 0).take 30).map (fun q => some q.2.1) := rfl
set_option maxRecDepth 100000 in
theorem mlb_15 : ∀ q ∈ mlk 15, (parseMethodDescriptor (mN q.2.1).desc).map (fun d => d.parameters.length) = some q.2.2.1 := by decide +kernel
set_option maxRecDepth 100000 in
theorem mn_15_0 : (((mnk 15).drop 0).take 30).map (fun q => lw_tbl[q.2.2.2.2]?) = (((mnk 15).drop 0).take 30).map (fun q => some (mV 15 q.1 q.2.1)) := rfl
set_option maxRecDepth 100000 in
theorem mnc_15_0 : (((mnk 15).drop 0).take 30).map (fun q => mws[q.2.2.2.1]?) = (((mnk 15).drop 0).take 30).map (fun q => some q.2.1) := rfl
set_option maxRecDepth 100000 in
theorem mnb_15 : ∀ q ∈ mnk 15, (parseMethodDescriptor (mN q.2.1).desc).map (fun d => d.parameters.length) = some q.2.2.1 := by decide +kernel
theorem dt_all {β : Type} {P : β → Prop} {l : List β} {k n : Nat} (h1 : ∀ q ∈ (l.drop k).take n, P q) (h2 : ∀ q ∈ l.drop (k + n), P q) : ∀ q ∈ l.drop k, P q := by
  intro q hq
  rw [← List.take_append_drop n (l.drop k), List.drop_drop, List.mem_append] at hq
  exact hq.elim (h1 q) (h2 q)
theorem dt_end {β : Type} {P : β → Prop} {l : List β} {k : Nat} (h : l.drop k = []) : ∀ q ∈ l.drop k, P q := by
  intro q hq
  rw [h] at hq
  cases hq
theorem fl_0 : ∀ q ∈ flk 0, fW 0 q.1 q.2.1 q.2.2.1 ∈ gtb := (dt_all (k := 0) (n := 30) (gats fl_0_0 (fun _ => rfl)) (dt_end (k := 30) rfl))
theorem fn_0 : ∀ q ∈ fnk 0, fV 0 q.1 q.2.1 q.2.2.1 ∈ nws := (dt_all (k := 0) (n := 30) (nats fn_0_0 (fun _ => rfl)) (dt_end (k := 30) rfl))
theorem ml_0 : ∀ q ∈ mlk 0, mW 0 q.1 q.2.1 ∈ gtb := (dt_all (k := 0) (n := 30) (gats ml_0_0 (fun _ => rfl)) (dt_end (k := 30) rfl))
theorem mlm_0 : ∀ q ∈ mlk 0, mF q.2.1 := (dt_all (k := 0) (n := 30) (fun q h => mws_at (List.map_inj_left.mp mlc_0_0 q h)) (dt_end (k := 30) rfl))
theorem mn_0 : ∀ q ∈ mnk 0, mV 0 q.1 q.2.1 ∈ nws := (dt_all (k := 0) (n := 30) (nats mn_0_0 (fun _ => rfl)) (dt_end (k := 30) rfl))
theorem mnm_0 : ∀ q ∈ mnk 0, mF q.2.1 := (dt_all (k := 0) (n := 30) (fun q h => mws_at (List.map_inj_left.mp mnc_0_0 q h)) (dt_end (k := 30) rfl))
theorem fl_1 : ∀ q ∈ flk 1, fW 1 q.1 q.2.1 q.2.2.1 ∈ gtb := (dt_all (k := 0) (n := 30) (gats fl_1_0 (fun _ => rfl)) (dt_end (k := 30) rfl))
theorem fn_1 : ∀ q ∈ fnk 1, fV 1 q.1 q.2.1 q.2.2.1 ∈ nws := (dt_all (k := 0) (n := 30) (nats fn_1_0 (fun _ => rfl)) (dt_end (k := 30) rfl))
theorem ml_1 : ∀ q ∈ mlk 1, mW 1 q.1 q.2.1 ∈ gtb := (dt_all (k := 0) (n := 30) (gats ml_1_0 (fun _ => rfl)) (dt_end (k := 30) rfl))
theorem mlm_1 : ∀ q ∈ mlk 1, mF q.2.1 := (dt_all (k := 0) (n := 30) (fun q h => mws_at (List.map_inj_left.mp mlc_1_0 q h)) (dt_end (k := 30) rfl))
theorem mn_1 : ∀ q ∈ mnk 1, mV 1 q.1 q.2.1 ∈ nws := (dt_all (k := 0) (n := 30) (nats mn_1_0 (fun _ => rfl)) (dt_end (k := 30) rfl))
theorem mnm_1 : ∀ q ∈ mnk 1, mF q.2.1 := (dt_all (k := 0) (n := 30) (fun q h => mws_at (List.map_inj_left.mp mnc_1_0 q h)) (dt_end (k := 30) rfl))
theorem fl_2 : ∀ q ∈ flk 2, fW 2 q.1 q.2.1 q.2.2.1 ∈ gtb := (dt_all (k := 0) (n := 30) (gats fl_2_0 (fun _ => rfl)) (dt_end (k := 30) rfl))
theorem fn_2 : ∀ q ∈ fnk 2, fV 2 q.1 q.2.1 q.2.2.1 ∈ nws := (dt_all (k := 0) (n := 30) (nats fn_2_0 (fun _ => rfl)) (dt_end (k := 30) rfl))
theorem ml_2 : ∀ q ∈ mlk 2, mW 2 q.1 q.2.1 ∈ gtb := (dt_all (k := 0) (n := 30) (gats ml_2_0 (fun _ => rfl)) (dt_end (k := 30) rfl))
theorem mlm_2 : ∀ q ∈ mlk 2, mF q.2.1 := (dt_all (k := 0) (n := 30) (fun q h => mws_at (List.map_inj_left.mp mlc_2_0 q h)) (dt_end (k := 30) rfl))
theorem mn_2 : ∀ q ∈ mnk 2, mV 2 q.1 q.2.1 ∈ nws := (dt_all (k := 0) (n := 30) (nats mn_2_0 (fun _ => rfl)) (dt_end (k := 30) rfl))
theorem mnm_2 : ∀ q ∈ mnk 2, mF q.2.1 := (dt_all (k := 0) (n := 30) (fun q h => mws_at (List.map_inj_left.mp mnc_2_0 q h)) (dt_end (k := 30) rfl))
theorem fl_3 : ∀ q ∈ flk 3, fW 3 q.1 q.2.1 q.2.2.1 ∈ gtb := (dt_all (k := 0) (n := 30) (gats fl_3_0 (fun _ => rfl)) (dt_end (k := 30) rfl))
theorem fn_3 : ∀ q ∈ fnk 3, fV 3 q.1 q.2.1 q.2.2.1 ∈ nws := (dt_all (k := 0) (n := 30) (nats fn_3_0 (fun _ => rfl)) (dt_end (k := 30) rfl))
theorem ml_3 : ∀ q ∈ mlk 3, mW 3 q.1 q.2.1 ∈ gtb := (dt_all (k := 0) (n := 30) (gats ml_3_0 (fun _ => rfl)) (dt_end (k := 30) rfl))
theorem mlm_3 : ∀ q ∈ mlk 3, mF q.2.1 := (dt_all (k := 0) (n := 30) (fun q h => mws_at (List.map_inj_left.mp mlc_3_0 q h)) (dt_end (k := 30) rfl))
theorem mn_3 : ∀ q ∈ mnk 3, mV 3 q.1 q.2.1 ∈ nws := (dt_all (k := 0) (n := 30) (nats mn_3_0 (fun _ => rfl)) (dt_end (k := 30) rfl))
theorem mnm_3 : ∀ q ∈ mnk 3, mF q.2.1 := (dt_all (k := 0) (n := 30) (fun q h => mws_at (List.map_inj_left.mp mnc_3_0 q h)) (dt_end (k := 30) rfl))
theorem fl_4 : ∀ q ∈ flk 4, fW 4 q.1 q.2.1 q.2.2.1 ∈ gtb := (dt_all (k := 0) (n := 30) (gats fl_4_0 (fun _ => rfl)) (dt_end (k := 30) rfl))
theorem fn_4 : ∀ q ∈ fnk 4, fV 4 q.1 q.2.1 q.2.2.1 ∈ nws := (dt_all (k := 0) (n := 30) (nats fn_4_0 (fun _ => rfl)) (dt_end (k := 30) rfl))
theorem ml_4 : ∀ q ∈ mlk 4, mW 4 q.1 q.2.1 ∈ gtb := (dt_all (k := 0) (n := 30) (gats ml_4_0 (fun _ => rfl)) (dt_end (k := 30) rfl))
theorem mlm_4 : ∀ q ∈ mlk 4, mF q.2.1 := (dt_all (k := 0) (n := 30) (fun q h => mws_at (List.map_inj_left.mp mlc_4_0 q h)) (dt_end (k := 30) rfl))
theorem mn_4 : ∀ q ∈ mnk 4, mV 4 q.1 q.2.1 ∈ nws := (dt_all (k := 0) (n := 30) (nats mn_4_0 (fun _ => rfl)) (dt_end (k := 30) rfl))
theorem mnm_4 : ∀ q ∈ mnk 4, mF q.2.1 := (dt_all (k := 0) (n := 30) (fun q h => mws_at (List.map_inj_left.mp mnc_4_0 q h)) (dt_end (k := 30) rfl))
theorem fl_5 : ∀ q ∈ flk 5, fW 5 q.1 q.2.1 q.2.2.1 ∈ gtb := (dt_all (k := 0) (n := 30) (gats fl_5_0 (fun _ => rfl)) (dt_end (k := 30) rfl))
theorem fn_5 : ∀ q ∈ fnk 5, fV 5 q.1 q.2.1 q.2.2.1 ∈ nws := (dt_all (k := 0) (n := 30) (nats fn_5_0 (fun _ => rfl)) (dt_end (k := 30) rfl))
theorem ml_5 : ∀ q ∈ mlk 5, mW 5 q.1 q.2.1 ∈ gtb := (dt_all (k := 0) (n := 30) (gats ml_5_0 (fun _ => rfl)) (dt_end (k := 30) rfl))
theorem mlm_5 : ∀ q ∈ mlk 5, mF q.2.1 := (dt_all (k := 0) (n := 30) (fun q h => mws_at (List.map_inj_left.mp mlc_5_0 q h)) (dt_end (k := 30) rfl))
theorem mn_5 : ∀ q ∈ mnk 5, mV 5 q.1 q.2.1 ∈ nws := (dt_all (k := 0) (n := 30) (nats mn_5_0 (fun _ => rfl)) (dt_end (k := 30) rfl))
theorem mnm_5 : ∀ q ∈ mnk 5, mF q.2.1 := (dt_all (k := 0) (n := 30) (fun q h => mws_at (List.map_inj_left.mp mnc_5_0 q h)) (dt_end (k := 30) rfl))
theorem fl_6 : ∀ q ∈ flk 6, fW 6 q.1 q.2.1 q.2.2.1 ∈ gtb := (dt_all (k := 0) (n := 30) (gats fl_6_0 (fun _ => rfl)) (dt_end (k := 30) rfl))
theorem fn_6 : ∀ q ∈ fnk 6, fV 6 q.1 q.2.1 q.2.2.1 ∈ nws := (dt_all (k := 0) (n := 30) (nats fn_6_0 (fun _ => rfl)) (dt_end (k := 30) rfl))
theorem ml_6 : ∀ q ∈ mlk 6, mW 6 q.1 q.2.1 ∈ gtb := (dt_all (k := 0) (n := 30) (gats ml_6_0 (fun _ => rfl)) (dt_end (k := 30) rfl))
theorem mlm_6 : ∀ q ∈ mlk 6, mF q.2.1 := (dt_all (k := 0) (n := 30) (fun q h => mws_at (List.map_inj_left.mp mlc_6_0 q h)) (dt_end (k := 30) rfl))
theorem mn_6 : ∀ q ∈ mnk 6, mV 6 q.1 q.2.1 ∈ nws := (dt_all (k := 0) (n := 30) (nats mn_6_0 (fun _ => rfl)) (dt_end (k := 30) rfl))
theorem mnm_6 : ∀ q ∈ mnk 6, mF q.2.1 := (dt_all (k := 0) (n := 30) (fun q h => mws_at (List.map_inj_left.mp mnc_6_0 q h)) (dt_end (k := 30) rfl))
theorem fl_7 : ∀ q ∈ flk 7, fW 7 q.1 q.2.1 q.2.2.1 ∈ gtb := (dt_all (k := 0) (n := 30) (gats fl_7_0 (fun _ => rfl)) (dt_end (k := 30) rfl))
theorem fn_7 : ∀ q ∈ fnk 7, fV 7 q.1 q.2.1 q.2.2.1 ∈ nws := (dt_all (k := 0) (n := 30) (nats fn_7_0 (fun _ => rfl)) (dt_end (k := 30) rfl))
theorem ml_7 : ∀ q ∈ mlk 7, mW 7 q.1 q.2.1 ∈ gtb := (dt_all (k := 0) (n := 30) (gats ml_7_0 (fun _ => rfl)) (dt_end (k := 30) rfl))
theorem mlm_7 : ∀ q ∈ mlk 7, mF q.2.1 := (dt_all (k := 0) (n := 30) (fun q h => mws_at (List.map_inj_left.mp mlc_7_0 q h)) (dt_end (k := 30) rfl))
theorem mn_7 : ∀ q ∈ mnk 7, mV 7 q.1 q.2.1 ∈ nws := (dt_all (k := 0) (n := 30) (nats mn_7_0 (fun _ => rfl)) (dt_end (k := 30) rfl))
theorem mnm_7 : ∀ q ∈ mnk 7, mF q.2.1 := (dt_all (k := 0) (n := 30) (fun q h => mws_at (List.map_inj_left.mp mnc_7_0 q h)) (dt_end (k := 30) rfl))
theorem fl_8 : ∀ q ∈ flk 8, fW 8 q.1 q.2.1 q.2.2.1 ∈ gtb := (dt_all (k := 0) (n := 30) (gats fl_8_0 (fun _ => rfl)) (dt_end (k := 30) rfl))
theorem fn_8 : ∀ q ∈ fnk 8, fV 8 q.1 q.2.1 q.2.2.1 ∈ nws := (dt_all (k := 0) (n := 30) (nats fn_8_0 (fun _ => rfl)) (dt_end (k := 30) rfl))
theorem ml_8 : ∀ q ∈ mlk 8, mW 8 q.1 q.2.1 ∈ gtb := (dt_all (k := 0) (n := 30) (gats ml_8_0 (fun _ => rfl)) (dt_end (k := 30) rfl))
theorem mlm_8 : ∀ q ∈ mlk 8, mF q.2.1 := (dt_all (k := 0) (n := 30) (fun q h => mws_at (List.map_inj_left.mp mlc_8_0 q h)) (dt_end (k := 30) rfl))
theorem mn_8 : ∀ q ∈ mnk 8, mV 8 q.1 q.2.1 ∈ nws := (dt_all (k := 0) (n := 30) (nats mn_8_0 (fun _ => rfl)) (dt_end (k := 30) rfl))
theorem mnm_8 : ∀ q ∈ mnk 8, mF q.2.1 := (dt_all (k := 0) (n := 30) (fun q h => mws_at (List.map_inj_left.mp mnc_8_0 q h)) (dt_end (k := 30) rfl))
theorem fl_9 : ∀ q ∈ flk 9, fW 9 q.1 q.2.1 q.2.2.1 ∈ gtb := (dt_all (k := 0) (n := 30) (gats fl_9_0 (fun _ => rfl)) (dt_end (k := 30) rfl))
theorem fn_9 : ∀ q ∈ fnk 9, fV 9 q.1 q.2.1 q.2.2.1 ∈ nws := (dt_all (k := 0) (n := 30) (nats fn_9_0 (fun _ => rfl)) (dt_end (k := 30) rfl))
theorem ml_9 : ∀ q ∈ mlk 9, mW 9 q.1 q.2.1 ∈ gtb := (dt_all (k := 0) (n := 30) (gats ml_9_0 (fun _ => rfl)) (dt_end (k := 30) rfl))
theorem mlm_9 : ∀ q ∈ mlk 9, mF q.2.1 := (dt_all (k := 0) (n := 30) (fun q h => mws_at (List.map_inj_left.mp mlc_9_0 q h)) (dt_end (k := 30) rfl))
theorem mn_9 : ∀ q ∈ mnk 9, mV 9 q.1 q.2.1 ∈ nws := (dt_all (k := 0) (n := 30) (nats mn_9_0 (fun _ => rfl)) (dt_end (k := 30) rfl))
theorem mnm_9 : ∀ q ∈ mnk 9, mF q.2.1 := (dt_all (k := 0) (n := 30) (fun q h => mws_at (List.map_inj_left.mp mnc_9_0 q h)) (dt_end (k := 30) rfl))
theorem fl_10 : ∀ q ∈ flk 10, fW 10 q.1 q.2.1 q.2.2.1 ∈ gtb := (dt_all (k := 0) (n := 30) (gats fl_10_0 (fun _ => rfl)) (dt_end (k := 30) rfl))
theorem fn_10 : ∀ q ∈ fnk 10, fV 10 q.1 q.2.1 q.2.2.1 ∈ nws := (dt_all (k := 0) (n := 30) (nats fn_10_0 (fun _ => rfl)) (dt_end (k := 30) rfl))
theorem ml_10 : ∀ q ∈ mlk 10, mW 10 q.1 q.2.1 ∈ gtb := (dt_all (k := 0) (n := 30) (gats ml_10_0 (fun _ => rfl)) (dt_end (k := 30) rfl))
theorem mlm_10 : ∀ q ∈ mlk 10, mF q.2.1 := (dt_all (k := 0) (n := 30) (fun q h => mws_at (List.map_inj_left.mp mlc_10_0 q h)) (dt_end (k := 30) rfl))
theorem mn_10 : ∀ q ∈ mnk 10, mV 10 q.1 q.2.1 ∈ nws := (dt_all (k := 0) (n := 30) (nats mn_10_0 (fun _ => rfl)) (dt_end (k := 30) rfl))
theorem mnm_10 : ∀ q ∈ mnk 10, mF q.2.1 := (dt_all (k := 0) (n := 30) (fun q h => mws_at (List.map_inj_left.mp mnc_10_0 q h)) (dt_end (k := 30) rfl))
theorem fl_11 : ∀ q ∈ flk 11, fW 11 q.1 q.2.1 q.2.2.1 ∈ gtb := (dt_all (k := 0) (n := 30) (gats fl_11_0 (fun _ => rfl)) (dt_all (k := 30) (n := 30) (gats fl_11_1 (fun _ => rfl)) (dt_end (k := 60) rfl)))
theorem fn_11 : ∀ q ∈ fnk 11, fV 11 q.1 q.2.1 q.2.2.1 ∈ nws := (dt_all (k := 0) (n := 30) (nats fn_11_0 (fun _ => rfl)) (dt_end (k := 30) rfl))
theorem ml_11 : ∀ q ∈ mlk 11, mW 11 q.1 q.2.1 ∈ gtb := (dt_all (k := 0) (n := 30) (gats ml_11_0 (fun _ => rfl)) (dt_all (k := 30) (n := 30) (gats ml_11_1 (fun _ => rfl)) (dt_end (k := 60) rfl)))
theorem mlm_11 : ∀ q ∈ mlk 11, mF q.2.1 := (dt_all (k := 0) (n := 30) (fun q h => mws_at (List.map_inj_left.mp mlc_11_0 q h)) (dt_all (k := 30) (n := 30) (fun q h => mws_at (List.map_inj_left.mp mlc_11_1 q h)) (dt_end (k := 60) rfl)))
theorem mn_11 : ∀ q ∈ mnk 11, mV 11 q.1 q.2.1 ∈ nws := (dt_all (k := 0) (n := 30) (nats mn_11_0 (fun _ => rfl)) (dt_end (k := 30) rfl))
theorem mnm_11 : ∀ q ∈ mnk 11, mF q.2.1 := (dt_all (k := 0) (n := 30) (fun q h => mws_at (List.map_inj_left.mp mnc_11_0 q h)) (dt_end (k := 30) rfl))
theorem fl_12 : ∀ q ∈ flk 12, fW 12 q.1 q.2.1 q.2.2.1 ∈ gtb := (dt_all (k := 0) (n := 30) (gats fl_12_0 (fun _ => rfl)) (dt_all (k := 30) (n := 30) (gats fl_12_1 (fun _ => rfl)) (dt_all (k := 60) (n := 30) (gats fl_12_2 (fun _ => rfl)) (dt_end (k := 90) rfl))))
theorem fn_12 : ∀ q ∈ fnk 12, fV 12 q.1 q.2.1 q.2.2.1 ∈ nws := (dt_all (k := 0) (n := 30) (nats fn_12_0 (fun _ => rfl)) (dt_end (k := 30) rfl))
theorem ml_12 : ∀ q ∈ mlk 12, mW 12 q.1 q.2.1 ∈ gtb := (dt_all (k := 0) (n := 30) (gats ml_12_0 (fun _ => rfl)) (dt_all (k := 30) (n := 30) (gats ml_12_1 (fun _ => rfl)) (dt_all (k := 60) (n := 30) (gats ml_12_2 (fun _ => rfl)) (dt_end (k := 90) rfl))))
theorem mlm_12 : ∀ q ∈ mlk 12, mF q.2.1 := (dt_all (k := 0) (n := 30) (fun q h => mws_at (List.map_inj_left.mp mlc_12_0 q h)) (dt_all (k := 30) (n := 30) (fun q h => mws_at (List.map_inj_left.mp mlc_12_1 q h)) (dt_all (k := 60) (n := 30) (fun q h => mws_at (List.map_inj_left.mp mlc_12_2 q h)) (dt_end (k := 90) rfl))))
theorem mn_12 : ∀ q ∈ mnk 12, mV 12 q.1 q.2.1 ∈ nws := (dt_all (k := 0) (n := 30) (nats mn_12_0 (fun _ => rfl)) (dt_end (k := 30) rfl))
theorem mnm_12 : ∀ q ∈ mnk 12, mF q.2.1 := (dt_all (k := 0) (n := 30) (fun q h => mws_at (List.map_inj_left.mp mnc_12_0 q h)) (dt_end (k := 30) rfl))
theorem fl_13 : ∀ q ∈ flk 13, fW 13 q.1 q.2.1 q.2.2.1 ∈ gtb := (dt_all (k := 0) (n := 30) (gats fl_13_0 (fun _ => rfl)) (dt_end (k := 30) rfl))
theorem fn_13 : ∀ q ∈ fnk 13, fV 13 q.1 q.2.1 q.2.2.1 ∈ nws := (dt_all (k := 0) (n := 30) (nats fn_13_0 (fun _ => rfl)) (dt_end (k := 30) rfl))
theorem ml_13 : ∀ q ∈ mlk 13, mW 13 q.1 q.2.1 ∈ gtb := (dt_all (k := 0) (n := 30) (gats ml_13_0 (fun _ => rfl)) (dt_all (k := 30) (n := 30) (gats ml_13_1 (fun _ => rfl)) (dt_all (k := 60) (n := 30) (gats ml_13_2 (fun _ => rfl)) (dt_end (k := 90) rfl))))
theorem mlm_13 : ∀ q ∈ mlk 13, mF q.2.1 := (dt_all (k := 0) (n := 30) (fun q h => mws_at (List.map_inj_left.mp mlc_13_0 q h)) (dt_all (k := 30) (n := 30) (fun q h => mws_at (List.map_inj_left.mp mlc_13_1 q h)) (dt_all (k := 60) (n := 30) (fun q h => mws_at (List.map_inj_left.mp mlc_13_2 q h)) (dt_end (k := 90) rfl))))
theorem mn_13 : ∀ q ∈ mnk 13, mV 13 q.1 q.2.1 ∈ nws := (dt_all (k := 0) (n := 30) (nats mn_13_0 (fun _ => rfl)) (dt_end (k := 30) rfl))
theorem mnm_13 : ∀ q ∈ mnk 13, mF q.2.1 := (dt_all (k := 0) (n := 30) (fun q h => mws_at (List.map_inj_left.mp mnc_13_0 q h)) (dt_end (k := 30) rfl))
theorem fl_14 : ∀ q ∈ flk 14, fW 14 q.1 q.2.1 q.2.2.1 ∈ gtb := (dt_all (k := 0) (n := 30) (gats fl_14_0 (fun _ => rfl)) (dt_end (k := 30) rfl))
theorem fn_14 : ∀ q ∈ fnk 14, fV 14 q.1 q.2.1 q.2.2.1 ∈ nws := (dt_all (k := 0) (n := 30) (nats fn_14_0 (fun _ => rfl)) (dt_end (k := 30) rfl))
theorem ml_14 : ∀ q ∈ mlk 14, mW 14 q.1 q.2.1 ∈ gtb := (dt_all (k := 0) (n := 30) (gats ml_14_0 (fun _ => rfl)) (dt_end (k := 30) rfl))
theorem mlm_14 : ∀ q ∈ mlk 14, mF q.2.1 := (dt_all (k := 0) (n := 30) (fun q h => mws_at (List.map_inj_left.mp mlc_14_0 q h)) (dt_end (k := 30) rfl))
theorem mn_14 : ∀ q ∈ mnk 14, mV 14 q.1 q.2.1 ∈ nws := (dt_all (k := 0) (n := 30) (nats mn_14_0 (fun _ => rfl)) (dt_end (k := 30) rfl))
theorem mnm_14 : ∀ q ∈ mnk 14, mF q.2.1 := (dt_all (k := 0) (n := 30) (fun q h => mws_at (List.map_inj_left.mp mnc_14_0 q h)) (dt_end (k := 30) rfl))
theorem fl_15 : ∀ q ∈ flk 15, fW 15 q.1 q.2.1 q.2.2.1 ∈ gtb := (dt_all (k := 0) (n := 30) (gats fl_15_0 (fun _ => rfl)) (dt_end (k := 30) rfl))
theorem fn_15 : ∀ q ∈ fnk 15, fV 15 q.1 q.2.1 q.2.2.1 ∈ nws := (dt_all (k := 0) (n := 30) (nats fn_15_0 (fun _ => rfl)) (dt_end (k := 30) rfl))
theorem ml_15 : ∀ q ∈ mlk 15, mW 15 q.1 q.2.1 ∈ gtb := (dt_all (k := 0) (n := 30) (gats ml_15_0 (fun _ => rfl)) (dt_end (k := 30) rfl))
theorem mlm_15 : ∀ q ∈ mlk 15, mF q.2.1 := (dt_all (k := 0) (n := 30) (fun q h => mws_at (List.map_inj_left.mp mlc_15_0 q h)) (dt_end (k := 30) rfl))
theorem mn_15 : ∀ q ∈ mnk 15, mV 15 q.1 q.2.1 ∈ nws := (dt_all (k := 0) (n := 30) (nats mn_15_0 (fun _ => rfl)) (dt_end (k := 30) rfl))
theorem mnm_15 : ∀ q ∈ mnk 15, mF q.2.1 := (dt_all (k := 0) (n := 30) (fun q h => mws_at (List.map_inj_left.mp mnc_15_0 q h)) (dt_end (k := 30) rfl))
theorem fl_all : ∀ o, ∀ q ∈ flk o, (q.2.1 < 13 ∧ q.2.2.1 < (cT q.2.1).2.2) ∧ fW o q.1 q.2.1 q.2.2.1 ∈ gtb := by
  intro o q h
  match o, h with
  | 0, h => exact ⟨flb_0 q h, fl_0 q h⟩
  | 1, h => exact ⟨flb_1 q h, fl_1 q h⟩
  | 2, h => exact ⟨flb_2 q h, fl_2 q h⟩
  | 3, h => exact ⟨flb_3 q h, fl_3 q h⟩
  | 4, h => exact ⟨flb_4 q h, fl_4 q h⟩
  | 5, h => exact ⟨flb_5 q h, fl_5 q h⟩
  | 6, h => exact ⟨flb_6 q h, fl_6 q h⟩
  | 7, h => exact ⟨flb_7 q h, fl_7 q h⟩
  | 8, h => exact ⟨flb_8 q h, fl_8 q h⟩
  | 9, h => exact ⟨flb_9 q h, fl_9 q h⟩
  | 10, h => exact ⟨flb_10 q h, fl_10 q h⟩
  | 11, h => exact ⟨flb_11 q h, fl_11 q h⟩
  | 12, h => exact ⟨flb_12 q h, fl_12 q h⟩
  | 13, h => exact ⟨flb_13 q h, fl_13 q h⟩
  | 14, h => exact ⟨flb_14 q h, fl_14 q h⟩
  | 15, h => exact ⟨flb_15 q h, fl_15 q h⟩
  | n + 16, h => exact absurd h (by simp [flk, fl_t])
theorem fn_all : ∀ o, ∀ q ∈ fnk o, (q.2.1 < 13 ∧ q.2.2.1 < (cT q.2.1).2.2) ∧ fV o q.1 q.2.1 q.2.2.1 ∈ nws := by
  intro o q h
  match o, h with
  | 0, h => exact ⟨fnb_0 q h, fn_0 q h⟩
  | 1, h => exact ⟨fnb_1 q h, fn_1 q h⟩
  | 2, h => exact ⟨fnb_2 q h, fn_2 q h⟩
  | 3, h => exact ⟨fnb_3 q h, fn_3 q h⟩
  | 4, h => exact ⟨fnb_4 q h, fn_4 q h⟩
  | 5, h => exact ⟨fnb_5 q h, fn_5 q h⟩
  | 6, h => exact ⟨fnb_6 q h, fn_6 q h⟩
  | 7, h => exact ⟨fnb_7 q h, fn_7 q h⟩
  | 8, h => exact ⟨fnb_8 q h, fn_8 q h⟩
  | 9, h => exact ⟨fnb_9 q h, fn_9 q h⟩
  | 10, h => exact ⟨fnb_10 q h, fn_10 q h⟩
  | 11, h => exact ⟨fnb_11 q h, fn_11 q h⟩
  | 12, h => exact ⟨fnb_12 q h, fn_12 q h⟩
  | 13, h => exact ⟨fnb_13 q h, fn_13 q h⟩
  | 14, h => exact ⟨fnb_14 q h, fn_14 q h⟩
  | 15, h => exact ⟨fnb_15 q h, fn_15 q h⟩
  | n + 16, h => exact absurd h (by simp [fnk, fn_t])
theorem ml_all : ∀ o, ∀ q ∈ mlk o, mP q.2.1 q.2.2.1 ∧ mF q.2.1 ∧ mW o q.1 q.2.1 ∈ gtb := by
  intro o q h
  match o, h with
  | 0, h => exact ⟨mlb_0 q h, mlm_0 q h, ml_0 q h⟩
  | 1, h => exact ⟨mlb_1 q h, mlm_1 q h, ml_1 q h⟩
  | 2, h => exact ⟨mlb_2 q h, mlm_2 q h, ml_2 q h⟩
  | 3, h => exact ⟨mlb_3 q h, mlm_3 q h, ml_3 q h⟩
  | 4, h => exact ⟨mlb_4 q h, mlm_4 q h, ml_4 q h⟩
  | 5, h => exact ⟨mlb_5 q h, mlm_5 q h, ml_5 q h⟩
  | 6, h => exact ⟨mlb_6 q h, mlm_6 q h, ml_6 q h⟩
  | 7, h => exact ⟨mlb_7 q h, mlm_7 q h, ml_7 q h⟩
  | 8, h => exact ⟨mlb_8 q h, mlm_8 q h, ml_8 q h⟩
  | 9, h => exact ⟨mlb_9 q h, mlm_9 q h, ml_9 q h⟩
  | 10, h => exact ⟨mlb_10 q h, mlm_10 q h, ml_10 q h⟩
  | 11, h => exact ⟨mlb_11 q h, mlm_11 q h, ml_11 q h⟩
  | 12, h => exact ⟨mlb_12 q h, mlm_12 q h, ml_12 q h⟩
  | 13, h => exact ⟨mlb_13 q h, mlm_13 q h, ml_13 q h⟩
  | 14, h => exact ⟨mlb_14 q h, mlm_14 q h, ml_14 q h⟩
  | 15, h => exact ⟨mlb_15 q h, mlm_15 q h, ml_15 q h⟩
  | n + 16, h => exact absurd h (by simp [mlk, ml_t])
theorem mn_all : ∀ o, ∀ q ∈ mnk o, mP q.2.1 q.2.2.1 ∧ mF q.2.1 ∧ mV o q.1 q.2.1 ∈ nws := by
  intro o q h
  match o, h with
  | 0, h => exact ⟨mnb_0 q h, mnm_0 q h, mn_0 q h⟩
  | 1, h => exact ⟨mnb_1 q h, mnm_1 q h, mn_1 q h⟩
  | 2, h => exact ⟨mnb_2 q h, mnm_2 q h, mn_2 q h⟩
  | 3, h => exact ⟨mnb_3 q h, mnm_3 q h, mn_3 q h⟩
  | 4, h => exact ⟨mnb_4 q h, mnm_4 q h, mn_4 q h⟩
  | 5, h => exact ⟨mnb_5 q h, mnm_5 q h, mn_5 q h⟩
  | 6, h => exact ⟨mnb_6 q h, mnm_6 q h, mn_6 q h⟩
  | 7, h => exact ⟨mnb_7 q h, mnm_7 q h, mn_7 q h⟩
  | 8, h => exact ⟨mnb_8 q h, mnm_8 q h, mn_8 q h⟩
  | 9, h => exact ⟨mnb_9 q h, mnm_9 q h, mn_9 q h⟩
  | 10, h => exact ⟨mnb_10 q h, mnm_10 q h, mn_10 q h⟩
  | 11, h => exact ⟨mnb_11 q h, mnm_11 q h, mn_11 q h⟩
  | 12, h => exact ⟨mnb_12 q h, mnm_12 q h, mn_12 q h⟩
  | 13, h => exact ⟨mnb_13 q h, mnm_13 q h, mn_13 q h⟩
  | 14, h => exact ⟨mnb_14 q h, mnm_14 q h, mn_14 q h⟩
  | 15, h => exact ⟨mnb_15 q h, mnm_15 q h, mn_15 q h⟩
  | n + 16, h => exact absurd h (by simp [mnk, mn_t])
end
section
/-! ===== constants, and the three methods of the JDK that have rows of their own ===== -/
def cI_t : List (List (Nat × Int32 × Nat)) := [[], [(39, 1000000, 1010)], [], [], [], [], [], [(171, 1103515245, 1046)], [], [], [], [], [(348, 1103515245, 1797), (373, 99999, 1773)], [], [], [(265, 1431655765, 1176), (266, 858993459, 1177), (267, 252645135, 1178)]]
def cJ_t : List (List (Nat × Nat × Nat)) := [[], [], [], [], [], [], [], [], [], [], [(89, 10, 674), (91, 48, 675), (96, 27, 361)], [], [(193, 27, 1320)], [], [], []]
def sp_t : List (List (Nat × Nat × Nat)) := [[(32, 3, 855), (42, 1, 899)], [(69, 1, 1179)], [], [(75, 3, 850)], [], [(45, 1, 907), (77, 2, 906)], [(75, 1, 1281)], [(90, 2, 1199), (165, 1, 1052)], [(29, 3, 559), (61, 1, 1188)], [], [], [(189, 2, 962)], [], [], [], []]
def cIk (o : Nat) : List (Nat × Int32 × Nat) := cI_t.getD o []
def cJk (o : Nat) : List (Nat × Nat × Nat) := cJ_t.getD o []
def spk (o : Nat) : List (Nat × Nat × Nat) := sp_t.getD o []
def spN (k : Nat) : MethodName := if k = 1 then Lib.Math.max.name else if k = 2 then Lib.Math.min.name else arraycopyName
set_option maxRecDepth 100000 in
theorem cI_0 : (cIk 0).map (fun q => lw_tbl[q.2.2]?) = (cIk 0).map (fun q => some (Cond.constant (oN 0) q.1 q.2.1)) := rfl
set_option maxRecDepth 100000 in
theorem cJ_0 : (cJk 0).map (fun q => lw_tbl[q.2.2]?) = (cJk 0).map (fun q => some (Cond.constantLong (oN 0) q.1 (Int64.ofNat q.2.1))) := rfl
set_option maxRecDepth 100000 in
theorem sp_0 : (spk 0).map (fun q => lw_tbl[q.2.2]?) = (spk 0).map (fun q => some (Cond.methodLink (oN 0) q.1 (spN q.2.1))) := rfl
set_option maxRecDepth 100000 in
theorem cI_1 : (cIk 1).map (fun q => lw_tbl[q.2.2]?) = (cIk 1).map (fun q => some (Cond.constant (oN 1) q.1 q.2.1)) := rfl
set_option maxRecDepth 100000 in
theorem cJ_1 : (cJk 1).map (fun q => lw_tbl[q.2.2]?) = (cJk 1).map (fun q => some (Cond.constantLong (oN 1) q.1 (Int64.ofNat q.2.1))) := rfl
set_option maxRecDepth 100000 in
theorem sp_1 : (spk 1).map (fun q => lw_tbl[q.2.2]?) = (spk 1).map (fun q => some (Cond.methodLink (oN 1) q.1 (spN q.2.1))) := rfl
set_option maxRecDepth 100000 in
theorem cI_2 : (cIk 2).map (fun q => lw_tbl[q.2.2]?) = (cIk 2).map (fun q => some (Cond.constant (oN 2) q.1 q.2.1)) := rfl
set_option maxRecDepth 100000 in
theorem cJ_2 : (cJk 2).map (fun q => lw_tbl[q.2.2]?) = (cJk 2).map (fun q => some (Cond.constantLong (oN 2) q.1 (Int64.ofNat q.2.1))) := rfl
set_option maxRecDepth 100000 in
theorem sp_2 : (spk 2).map (fun q => lw_tbl[q.2.2]?) = (spk 2).map (fun q => some (Cond.methodLink (oN 2) q.1 (spN q.2.1))) := rfl
set_option maxRecDepth 100000 in
theorem cI_3 : (cIk 3).map (fun q => lw_tbl[q.2.2]?) = (cIk 3).map (fun q => some (Cond.constant (oN 3) q.1 q.2.1)) := rfl
set_option maxRecDepth 100000 in
theorem cJ_3 : (cJk 3).map (fun q => lw_tbl[q.2.2]?) = (cJk 3).map (fun q => some (Cond.constantLong (oN 3) q.1 (Int64.ofNat q.2.1))) := rfl
set_option maxRecDepth 100000 in
theorem sp_3 : (spk 3).map (fun q => lw_tbl[q.2.2]?) = (spk 3).map (fun q => some (Cond.methodLink (oN 3) q.1 (spN q.2.1))) := rfl
set_option maxRecDepth 100000 in
theorem cI_4 : (cIk 4).map (fun q => lw_tbl[q.2.2]?) = (cIk 4).map (fun q => some (Cond.constant (oN 4) q.1 q.2.1)) := rfl
set_option maxRecDepth 100000 in
theorem cJ_4 : (cJk 4).map (fun q => lw_tbl[q.2.2]?) = (cJk 4).map (fun q => some (Cond.constantLong (oN 4) q.1 (Int64.ofNat q.2.1))) := rfl
set_option maxRecDepth 100000 in
theorem sp_4 : (spk 4).map (fun q => lw_tbl[q.2.2]?) = (spk 4).map (fun q => some (Cond.methodLink (oN 4) q.1 (spN q.2.1))) := rfl
set_option maxRecDepth 100000 in
theorem cI_5 : (cIk 5).map (fun q => lw_tbl[q.2.2]?) = (cIk 5).map (fun q => some (Cond.constant (oN 5) q.1 q.2.1)) := rfl
set_option maxRecDepth 100000 in
theorem cJ_5 : (cJk 5).map (fun q => lw_tbl[q.2.2]?) = (cJk 5).map (fun q => some (Cond.constantLong (oN 5) q.1 (Int64.ofNat q.2.1))) := rfl
set_option maxRecDepth 100000 in
theorem sp_5 : (spk 5).map (fun q => lw_tbl[q.2.2]?) = (spk 5).map (fun q => some (Cond.methodLink (oN 5) q.1 (spN q.2.1))) := rfl
set_option maxRecDepth 100000 in
theorem cI_6 : (cIk 6).map (fun q => lw_tbl[q.2.2]?) = (cIk 6).map (fun q => some (Cond.constant (oN 6) q.1 q.2.1)) := rfl
set_option maxRecDepth 100000 in
theorem cJ_6 : (cJk 6).map (fun q => lw_tbl[q.2.2]?) = (cJk 6).map (fun q => some (Cond.constantLong (oN 6) q.1 (Int64.ofNat q.2.1))) := rfl
set_option maxRecDepth 100000 in
theorem sp_6 : (spk 6).map (fun q => lw_tbl[q.2.2]?) = (spk 6).map (fun q => some (Cond.methodLink (oN 6) q.1 (spN q.2.1))) := rfl
set_option maxRecDepth 100000 in
theorem cI_7 : (cIk 7).map (fun q => lw_tbl[q.2.2]?) = (cIk 7).map (fun q => some (Cond.constant (oN 7) q.1 q.2.1)) := rfl
set_option maxRecDepth 100000 in
theorem cJ_7 : (cJk 7).map (fun q => lw_tbl[q.2.2]?) = (cJk 7).map (fun q => some (Cond.constantLong (oN 7) q.1 (Int64.ofNat q.2.1))) := rfl
set_option maxRecDepth 100000 in
theorem sp_7 : (spk 7).map (fun q => lw_tbl[q.2.2]?) = (spk 7).map (fun q => some (Cond.methodLink (oN 7) q.1 (spN q.2.1))) := rfl
set_option maxRecDepth 100000 in
theorem cI_8 : (cIk 8).map (fun q => lw_tbl[q.2.2]?) = (cIk 8).map (fun q => some (Cond.constant (oN 8) q.1 q.2.1)) := rfl
set_option maxRecDepth 100000 in
theorem cJ_8 : (cJk 8).map (fun q => lw_tbl[q.2.2]?) = (cJk 8).map (fun q => some (Cond.constantLong (oN 8) q.1 (Int64.ofNat q.2.1))) := rfl
set_option maxRecDepth 100000 in
theorem sp_8 : (spk 8).map (fun q => lw_tbl[q.2.2]?) = (spk 8).map (fun q => some (Cond.methodLink (oN 8) q.1 (spN q.2.1))) := rfl
set_option maxRecDepth 100000 in
theorem cI_9 : (cIk 9).map (fun q => lw_tbl[q.2.2]?) = (cIk 9).map (fun q => some (Cond.constant (oN 9) q.1 q.2.1)) := rfl
set_option maxRecDepth 100000 in
theorem cJ_9 : (cJk 9).map (fun q => lw_tbl[q.2.2]?) = (cJk 9).map (fun q => some (Cond.constantLong (oN 9) q.1 (Int64.ofNat q.2.1))) := rfl
set_option maxRecDepth 100000 in
theorem sp_9 : (spk 9).map (fun q => lw_tbl[q.2.2]?) = (spk 9).map (fun q => some (Cond.methodLink (oN 9) q.1 (spN q.2.1))) := rfl
set_option maxRecDepth 100000 in
theorem cI_10 : (cIk 10).map (fun q => lw_tbl[q.2.2]?) = (cIk 10).map (fun q => some (Cond.constant (oN 10) q.1 q.2.1)) := rfl
set_option maxRecDepth 100000 in
theorem cJ_10 : (cJk 10).map (fun q => lw_tbl[q.2.2]?) = (cJk 10).map (fun q => some (Cond.constantLong (oN 10) q.1 (Int64.ofNat q.2.1))) := rfl
set_option maxRecDepth 100000 in
theorem sp_10 : (spk 10).map (fun q => lw_tbl[q.2.2]?) = (spk 10).map (fun q => some (Cond.methodLink (oN 10) q.1 (spN q.2.1))) := rfl
set_option maxRecDepth 100000 in
theorem cI_11 : (cIk 11).map (fun q => lw_tbl[q.2.2]?) = (cIk 11).map (fun q => some (Cond.constant (oN 11) q.1 q.2.1)) := rfl
set_option maxRecDepth 100000 in
theorem cJ_11 : (cJk 11).map (fun q => lw_tbl[q.2.2]?) = (cJk 11).map (fun q => some (Cond.constantLong (oN 11) q.1 (Int64.ofNat q.2.1))) := rfl
set_option maxRecDepth 100000 in
theorem sp_11 : (spk 11).map (fun q => lw_tbl[q.2.2]?) = (spk 11).map (fun q => some (Cond.methodLink (oN 11) q.1 (spN q.2.1))) := rfl
set_option maxRecDepth 100000 in
theorem cI_12 : (cIk 12).map (fun q => lw_tbl[q.2.2]?) = (cIk 12).map (fun q => some (Cond.constant (oN 12) q.1 q.2.1)) := rfl
set_option maxRecDepth 100000 in
theorem cJ_12 : (cJk 12).map (fun q => lw_tbl[q.2.2]?) = (cJk 12).map (fun q => some (Cond.constantLong (oN 12) q.1 (Int64.ofNat q.2.1))) := rfl
set_option maxRecDepth 100000 in
theorem sp_12 : (spk 12).map (fun q => lw_tbl[q.2.2]?) = (spk 12).map (fun q => some (Cond.methodLink (oN 12) q.1 (spN q.2.1))) := rfl
set_option maxRecDepth 100000 in
theorem cI_13 : (cIk 13).map (fun q => lw_tbl[q.2.2]?) = (cIk 13).map (fun q => some (Cond.constant (oN 13) q.1 q.2.1)) := rfl
set_option maxRecDepth 100000 in
theorem cJ_13 : (cJk 13).map (fun q => lw_tbl[q.2.2]?) = (cJk 13).map (fun q => some (Cond.constantLong (oN 13) q.1 (Int64.ofNat q.2.1))) := rfl
set_option maxRecDepth 100000 in
theorem sp_13 : (spk 13).map (fun q => lw_tbl[q.2.2]?) = (spk 13).map (fun q => some (Cond.methodLink (oN 13) q.1 (spN q.2.1))) := rfl
set_option maxRecDepth 100000 in
theorem cI_14 : (cIk 14).map (fun q => lw_tbl[q.2.2]?) = (cIk 14).map (fun q => some (Cond.constant (oN 14) q.1 q.2.1)) := rfl
set_option maxRecDepth 100000 in
theorem cJ_14 : (cJk 14).map (fun q => lw_tbl[q.2.2]?) = (cJk 14).map (fun q => some (Cond.constantLong (oN 14) q.1 (Int64.ofNat q.2.1))) := rfl
set_option maxRecDepth 100000 in
theorem sp_14 : (spk 14).map (fun q => lw_tbl[q.2.2]?) = (spk 14).map (fun q => some (Cond.methodLink (oN 14) q.1 (spN q.2.1))) := rfl
set_option maxRecDepth 100000 in
theorem cI_15 : (cIk 15).map (fun q => lw_tbl[q.2.2]?) = (cIk 15).map (fun q => some (Cond.constant (oN 15) q.1 q.2.1)) := rfl
set_option maxRecDepth 100000 in
theorem cJ_15 : (cJk 15).map (fun q => lw_tbl[q.2.2]?) = (cJk 15).map (fun q => some (Cond.constantLong (oN 15) q.1 (Int64.ofNat q.2.1))) := rfl
set_option maxRecDepth 100000 in
theorem sp_15 : (spk 15).map (fun q => lw_tbl[q.2.2]?) = (spk 15).map (fun q => some (Cond.methodLink (oN 15) q.1 (spN q.2.1))) := rfl
theorem cI_all : ∀ o, ∀ q ∈ cIk o, Cond.constant (oN o) q.1 q.2.1 ∈ gtb := by
  intro o q h
  match o, h with
  | 0, h => exact gats cI_0 (fun _ => rfl) q h
  | 1, h => exact gats cI_1 (fun _ => rfl) q h
  | 2, h => exact gats cI_2 (fun _ => rfl) q h
  | 3, h => exact gats cI_3 (fun _ => rfl) q h
  | 4, h => exact gats cI_4 (fun _ => rfl) q h
  | 5, h => exact gats cI_5 (fun _ => rfl) q h
  | 6, h => exact gats cI_6 (fun _ => rfl) q h
  | 7, h => exact gats cI_7 (fun _ => rfl) q h
  | 8, h => exact gats cI_8 (fun _ => rfl) q h
  | 9, h => exact gats cI_9 (fun _ => rfl) q h
  | 10, h => exact gats cI_10 (fun _ => rfl) q h
  | 11, h => exact gats cI_11 (fun _ => rfl) q h
  | 12, h => exact gats cI_12 (fun _ => rfl) q h
  | 13, h => exact gats cI_13 (fun _ => rfl) q h
  | 14, h => exact gats cI_14 (fun _ => rfl) q h
  | 15, h => exact gats cI_15 (fun _ => rfl) q h
  | n + 16, h => exact absurd h (by simp [cIk, cI_t])
theorem cJ_all : ∀ o, ∀ q ∈ cJk o, Cond.constantLong (oN o) q.1 (Int64.ofNat q.2.1) ∈ gtb := by
  intro o q h
  match o, h with
  | 0, h => exact gats cJ_0 (fun _ => rfl) q h
  | 1, h => exact gats cJ_1 (fun _ => rfl) q h
  | 2, h => exact gats cJ_2 (fun _ => rfl) q h
  | 3, h => exact gats cJ_3 (fun _ => rfl) q h
  | 4, h => exact gats cJ_4 (fun _ => rfl) q h
  | 5, h => exact gats cJ_5 (fun _ => rfl) q h
  | 6, h => exact gats cJ_6 (fun _ => rfl) q h
  | 7, h => exact gats cJ_7 (fun _ => rfl) q h
  | 8, h => exact gats cJ_8 (fun _ => rfl) q h
  | 9, h => exact gats cJ_9 (fun _ => rfl) q h
  | 10, h => exact gats cJ_10 (fun _ => rfl) q h
  | 11, h => exact gats cJ_11 (fun _ => rfl) q h
  | 12, h => exact gats cJ_12 (fun _ => rfl) q h
  | 13, h => exact gats cJ_13 (fun _ => rfl) q h
  | 14, h => exact gats cJ_14 (fun _ => rfl) q h
  | 15, h => exact gats cJ_15 (fun _ => rfl) q h
  | n + 16, h => exact absurd h (by simp [cJk, cJ_t])
theorem sp_all : ∀ o, ∀ q ∈ spk o, Cond.methodLink (oN o) q.1 (spN q.2.1) ∈ gtb := by
  intro o q h
  match o, h with
  | 0, h => exact gats sp_0 (fun _ => rfl) q h
  | 1, h => exact gats sp_1 (fun _ => rfl) q h
  | 2, h => exact gats sp_2 (fun _ => rfl) q h
  | 3, h => exact gats sp_3 (fun _ => rfl) q h
  | 4, h => exact gats sp_4 (fun _ => rfl) q h
  | 5, h => exact gats sp_5 (fun _ => rfl) q h
  | 6, h => exact gats sp_6 (fun _ => rfl) q h
  | 7, h => exact gats sp_7 (fun _ => rfl) q h
  | 8, h => exact gats sp_8 (fun _ => rfl) q h
  | 9, h => exact gats sp_9 (fun _ => rfl) q h
  | 10, h => exact gats sp_10 (fun _ => rfl) q h
  | 11, h => exact gats sp_11 (fun _ => rfl) q h
  | 12, h => exact gats sp_12 (fun _ => rfl) q h
  | 13, h => exact gats sp_13 (fun _ => rfl) q h
  | 14, h => exact gats sp_14 (fun _ => rfl) q h
  | 15, h => exact gats sp_15 (fun _ => rfl) q h
  | n + 16, h => exact absurd h (by simp [spk, sp_t])
set_option maxRecDepth 100000 in
theorem w_acn : Cond.native arraycopyName ∈ gtb := gat (i := 561) rfl rfl
set_option maxRecDepth 100000 in
theorem w_acs : Cond.static arraycopyName ∈ gtb := gat (i := 560) rfl rfl
set_option maxRecDepth 100000 in
theorem w_aci : Cond.initialized "java/lang/System" ∈ gtb := gat (i := 124) rfl rfl
set_option maxRecDepth 100000 in
theorem w_mxs : Cond.static Lib.Math.max.name ∈ gtb := gat (i := 693) rfl rfl
set_option maxRecDepth 100000 in
theorem w_mxc : Cond.code Lib.Math.max.name Lib.Math.max.code 2 (some .int) ∈ gtb := gat (i := 694) rfl rfl
set_option maxRecDepth 100000 in
theorem w_mis : Cond.static Lib.Math.min.name ∈ gtb := gat (i := 696) rfl rfl
set_option maxRecDepth 100000 in
theorem w_mic : Cond.code Lib.Math.min.name Lib.Math.min.code 2 (some .int) ∈ gtb := gat (i := 697) rfl rfl
set_option maxRecDepth 100000 in
theorem w_mai : Cond.initialized "java/lang/Math" ∈ gtb := gat (i := 127) rfl rfl
end
section
/-! ===== the pure machine: a static part PT (how many cells, how many slots, the cells' kinds, their references), a moving part IJ (ints, longs) ===== -/
abbrev PT : Type := Nat × Nat × (Nat → Nat × Nat) × (Nat → Nat → Nat)
abbrev IJ : Type := (Nat → Nat → Int32) × (Nat → Nat → Int64)
/-- an instruction, where the next one stands, two numbers, a constant, numbers -/
abbrev PE : Type := Instr × Nat × Nat × Nat × Int32 × List Nat
abbrev Rs : Type := Option Value × IJ
abbrev Ora : Type := PT → Nat → List Value → IJ → Option Rs
abbrev PX : Type := Option (Nat × (Nat → Int32))
abbrev un : Value := .retAddr 0
def p_kd (T : PT) (k : Nat) : Nat × Nat := if k < T.1 ∧ (T.2.2.1 k).2 < 100000 then T.2.2.1 k else (999, 0)
def p_wr (I : Nat → Nat → Int32) (k j : Nat) (x : Int32) : Nat → Nat → Int32 := fun a => if a = k then upd (I a) j x else I a
def p_wrJ (J : Nat → Nat → Int64) (k j : Nat) (x : Int64) : Nat → Nat → Int64 := fun a => if a = k then vp_updL (J a) j x else J a
def p_cp (I : Nat → Nat → Int32) (k0 k1 sp dp n : Nat) : Nat → Nat → Int32 := fun a => if a = k1 then va_cpy (I k0) (I k1) sp dp n else I a
/-- a choice that the tables decide (it unfolds first), and one that is looked at (it stays) -/
abbrev p_bif {α : Type} (b : Bool) (x y : α) : α := match b with
  | true => x
  | false => y
def p_i1 (b : Bool) : Bool := b
def p_i2 (b : Bool) : Bool := p_i1 b
def p_i3 (b : Bool) : Bool := p_i2 b
def p_chk {α : Type} (b : Bool) (x : Option α) : Option α := p_bif (p_i3 b) x none
theorem p_bif_dec {α : Type} {c : Prop} [Decidable c] {x y : α} : p_bif (decide c) x y = if c then x else y := by
  by_cases h : c
  · simp [p_bif, h]
  · simp [p_bif, h]
theorem p_chk_ite {α : Type} {b : Bool} {x : Option α} : p_chk b x = if b = true then x else none := by cases b <;> rfl
def p_in (i : Int32) (n : Nat) : Bool := Nat.blt i.toUInt32.toNat n
def p_nz (y : Int32) : Bool := !(Nat.beq y.toUInt32.toNat 0)
def p_01 (y : Int32) : Bool := Nat.blt y.toUInt32.toNat 2
/-- storing a value of one slot, of two -/
def p_clr (L : List Value) (i : Nat) : List Value := match i with
  | 0 => L
  | j + 1 => match L[j]? with
    | some v => if v.category = 2 then L.set j un else L
    | none => L
def p_st1 (L : List Value) (i : Nat) (v : Value) : List Value := (p_clr L i).set i v
def p_st2 (L : List Value) (i : Nat) (v : Value) : List Value := ((p_clr L i).set (i + 1) un).set i v
def p_msk (mk : List Bool) (L : List Value) : List Value := List.zipWith (fun b v => if b then v else un) mk L
def p_sw {α : Type} (k : Nat → α) (d : Nat) (x : Int32) : Nat → List Nat → α
  | _, [] => k d
  | n, t :: ts => if x = nI n then k t else p_sw k d x (n + 1) ts
def p_cv {α : Type} (o : Option Rs) (k : IJ → Option α) : Option α := match o with
  | some (none, ij) => k ij
  | _ => none
def p_ci {α : Type} (o : Option Rs) (k : Int32 → IJ → Option α) : Option α := match o with
  | some (some (.int v), ij) => k v ij
  | _ => none
def p_cl {α : Type} (o : Option Rs) (k : Int64 → IJ → Option α) : Option α := match o with
  | some (some (.long v), ij) => k v ij
  | _ => none
def p_out {α : Type} (k : List Value → IJ → Option α) (rk : Nat) (o : Option Rs) (rest : List Value) : Option α := match rk with
  | 0 => p_cv o (fun ij => k rest ij)
  | 1 => p_ci o (fun v ij => k (.int v :: rest) ij)
  | _ => p_cl o (fun v ij => k (.long v :: rest) ij)
def p_words (st : List Value) : Nat := (st.map fun v => v.category).sum
def p_b1 {α : Type} (st : List Value) (f : Int32 → Value) (k : List Value → Option α) : Option α := match st with
  | .int x :: r => k (f x :: r)
  | _ => none
def p_b2 {α : Type} (st : List Value) (f : Int32 → Int32 → Value) (k : List Value → Option α) : Option α := match st with
  | .int y :: .int x :: r => k (f x y :: r)
  | _ => none
def p_l1 {α : Type} (st : List Value) (f : Int64 → Value) (k : List Value → Option α) : Option α := match st with
  | .long x :: r => k (f x :: r)
  | _ => none
def p_l2 {α : Type} (st : List Value) (f : Int64 → Int64 → Value) (k : List Value → Option α) : Option α := match st with
  | .long y :: .long x :: r => k (f x y :: r)
  | _ => none
def p_ldi {α : Type} (L : List Value) (i : Nat) (st : List Value) (k : List Value → Option α) : Option α := match L[i]? with
  | some (.int x) => k (.int x :: st)
  | _ => none
def p_ldl {α : Type} (L : List Value) (i : Nat) (st : List Value) (k : List Value → Option α) : Option α := match L[i]? with
  | some (.long x) => k (.long x :: st)
  | _ => none
def p_lda {α : Type} (L : List Value) (i : Nat) (st : List Value) (k : List Value → Option α) : Option α := match L[i]? with
  | some (.ref x) => k (.ref x :: st)
  | _ => none
def p_sti {α : Type} (L : List Value) (i : Nat) (st : List Value) (k : List Value → List Value → Option α) : Option α := match st with
  | .int x :: r => p_bif (decide (i < L.length)) (k (p_st1 L i (.int x)) r) none
  | _ => none
def p_sta {α : Type} (L : List Value) (i : Nat) (st : List Value) (k : List Value → List Value → Option α) : Option α := match st with
  | .ref x :: r => p_bif (decide (i < L.length)) (k (p_st1 L i (.ref x)) r) none
  | _ => none
def p_stl {α : Type} (L : List Value) (i : Nat) (st : List Value) (k : List Value → List Value → Option α) : Option α := match st with
  | .long x :: r => p_bif (decide (i + 1 < L.length)) (k (p_st2 L i (.long x)) r) none
  | _ => none
def p_inc {α : Type} (L : List Value) (i : Nat) (v : Int32) (k : List Value → Option α) : Option α := match L[i]? with
  | some (.int x) => k (p_st1 L i (.int (x + v)))
  | _ => none
def p_br1 {α : Type} (cd : ClassFile.Cond) (x : Int32) (kt kf : Option α) : Option α := match cd with
  | .eq => if x = 0 then kt else kf
  | .ne => if x = 0 then kf else kt
  | .lt => if x < 0 then kt else kf
  | .ge => if 0 ≤ x then kt else kf
  | .gt => if 0 < x then kt else kf
  | .le => if x ≤ 0 then kt else kf
def p_br2 {α : Type} (cd : ClassFile.Cond) (x y : Int32) (kt kf : Option α) : Option α := match cd with
  | .eq => if x = y then kt else kf
  | .ne => if x = y then kf else kt
  | .lt => if x < y then kt else kf
  | .ge => if y ≤ x then kt else kf
  | .gt => if y < x then kt else kf
  | .le => if x ≤ y then kt else kf
def p_if1 {α : Type} (cd : ClassFile.Cond) (st : List Value) (kt kf : List Value → Option α) : Option α := match st with
  | .int x :: r => p_br1 cd x (kt r) (kf r)
  | _ => none
def p_if2 {α : Type} (cd : ClassFile.Cond) (st : List Value) (kt kf : List Value → Option α) : Option α := match st with
  | .int y :: .int x :: r => p_br2 cd x y (kt r) (kf r)
  | _ => none
def p_ald {α : Type} (X : PX) (T : PT) (ij : IJ) (st : List Value) (k : List Value → Option α) : Option α := match st with
  | .int i :: .ref q :: r =>
    p_bif (decide (q = 100000)) ((match X with
      | some X => p_chk (p_in i X.1) (k (.int (X.2 i.toNatClampNeg) :: r))
      | none => none)) (p_bif (decide ((p_kd T q).1 = 100)) ((p_chk (p_in i (p_kd T q).2) (k (.int (ij.1 q i.toNatClampNeg) :: r)))) none)
  | _ => none
def p_bld {α : Type} (T : PT) (ij : IJ) (st : List Value) (k : List Value → Option α) : Option α := match st with
  | .int i :: .ref q :: r => p_bif (decide ((p_kd T q).1 = 101 ∨ (p_kd T q).1 = 102)) ((p_chk (p_in i (p_kd T q).2) (k (.int (ij.1 q i.toNatClampNeg) :: r)))) none
  | _ => none
def p_lld {α : Type} (T : PT) (ij : IJ) (st : List Value) (k : List Value → Option α) : Option α := match st with
  | .int i :: .ref q :: r => p_bif (decide ((p_kd T q).1 = 103)) ((p_chk (p_in i (p_kd T q).2) (k (.long (ij.2 q i.toNatClampNeg) :: r)))) none
  | _ => none
def p_qld {α : Type} (T : PT) (st : List Value) (k : List Value → Option α) : Option α := match st with
  | .int i :: .ref q :: r => p_bif (decide ((p_kd T q).1 = 104)) ((p_chk (p_in i (p_kd T q).2) ((match T.2.2.2 q i.toNatClampNeg with
      | 0 => none
      | t + 1 => k (.ref t :: r))))) none
  | _ => none
def p_ast {α : Type} (T : PT) (ij : IJ) (st : List Value) (k : List Value → IJ → Option α) : Option α := match st with
  | .int x :: .int i :: .ref q :: r => p_bif (decide ((p_kd T q).1 = 100)) ((p_chk (p_in i (p_kd T q).2) (k r (p_wr ij.1 q i.toNatClampNeg x, ij.2)))) none
  | _ => none
def p_bst {α : Type} (T : PT) (ij : IJ) (st : List Value) (k : List Value → IJ → Option α) : Option α := match st with
  | .int x :: .int i :: .ref q :: r =>
    p_bif (decide ((p_kd T q).1 = 101)) ((p_chk (p_in i (p_kd T q).2) (k r (p_wr ij.1 q i.toNatClampNeg (vp_nar .byte x), ij.2)))) (p_bif (decide ((p_kd T q).1 = 102)) ((p_chk (p_in i (p_kd T q).2) (k r (p_wr ij.1 q i.toNatClampNeg (vp_nar .boolean x), ij.2)))) none)
  | _ => none
def p_lst {α : Type} (T : PT) (ij : IJ) (st : List Value) (k : List Value → IJ → Option α) : Option α := match st with
  | .long x :: .int i :: .ref q :: r => p_bif (decide ((p_kd T q).1 = 103)) ((p_chk (p_in i (p_kd T q).2) (k r (ij.1, p_wrJ ij.2 q i.toNatClampNeg x)))) none
  | _ => none
def p_len {α : Type} (X : PX) (T : PT) (st : List Value) (k : List Value → Option α) : Option α := match st with
  | .ref q :: r =>
    p_bif (decide (q = 100000)) ((match X with
      | some X => k (.int (Int32.ofNat X.1) :: r)
      | none => none)) (p_bif (decide (100 ≤ (p_kd T q).1 ∧ (p_kd T q).1 ≤ 103)) (k (.int (Int32.ofNat (p_kd T q).2) :: r)) none)
  | _ => none
def p_get {α : Type} (T : PT) (ij : IJ) (a b : Nat) (st : List Value) (k : List Value → Option α) : Option α := match st with
  | .ref q :: r => p_bif (decide ((p_kd T q).1 = a)) ((p_bif (decide (b < (p_kd T q).2)) ((p_bif (decide (p_fk a b = 2)) ((match T.2.2.2 q b with
      | 0 => none
      | t + 1 => k (.ref t :: r))) (k (.int (ij.1 q b) :: r)))) none)) none
  | _ => none
def p_put {α : Type} (T : PT) (ij : IJ) (a b : Nat) (st : List Value) (k : List Value → IJ → Option α) : Option α := match st with
  | .int x :: .ref q :: r => p_bif (decide ((p_kd T q).1 = a)) ((p_bif (decide (b < (p_kd T q).2)) ((match p_fk a b with
      | 0 => k r (p_wr ij.1 q b x, ij.2)
      | 1 => p_chk (p_01 x) (k r (p_wr ij.1 q b x, ij.2))
      | _ => none)) none)) none
  | _ => none
def p_acp {α : Type} (T : PT) (ij : IJ) (st : List Value) (k : List Value → IJ → Option α) : Option α := match st with
  | .int n :: .int dp :: .ref q1 :: .int sp :: .ref q0 :: r =>
    p_bif (decide ((p_kd T q0).1 = 100)) ((p_bif (decide ((p_kd T q1).1 = 100)) ((p_bif (decide (0 ≤ sp ∧ 0 ≤ dp ∧ 0 ≤ n ∧ sp.toNatClampNeg + n.toNatClampNeg ≤ (p_kd T q0).2 ∧ dp.toNatClampNeg + n.toNatClampNeg ≤ (p_kd T q1).2 ∧ p_words r ≤ 8
     )) (k r (p_cp ij.1 q0 q1 sp.toNatClampNeg dp.toNatClampNeg n.toNatClampNeg, ij.2)) none)) none)) none
  | _ => none
def p_call {α : Type} (O : Ora) (T : PT) (ij : IJ) (a b rk : Nat) (st : List Value) (k : List Value → IJ → Option α) : Option α :=
  p_bif (decide (b ≤ st.length)) ((p_bif (decide (p_words (st.drop b) ≤ 8)) (p_out k rk (O T a (st.take b).reverse ij) (st.drop b)) none)) none
def p_inv {α : Type} (O : Ora) (T : PT) (ij : IJ) (a b : Nat) (ts : List Nat) (st : List Value) (k : List Value → IJ → Option α) : Option α := match ts with
  | [rk] => p_call O T ij a b rk st k
  | [_, 1] => p_bif (decide (p_words st ≤ 8)) (p_b2 st (fun x y => .int (if x < y then y else x)) (fun st => k st ij)) none
  | [_, 2] => p_bif (decide (p_words st ≤ 8)) (p_b2 st (fun x y => .int (if y < x then y else x)) (fun st => k st ij)) none
  | [_, 3] => p_acp T ij st k
  | _ => none
/-- a call of an object's method: its class is cn -/
def p_inw {α : Type} (O : Ora) (T : PT) (ij : IJ) (a b : Nat) (ts : List Nat) (st : List Value) (k : List Value → IJ → Option α) : Option α := match ts with
  | [rk, cn] => (match (st.take b).reverse with
    | .ref q :: _ => p_bif (decide ((p_kd T q).1 = cn)) (p_call O T ij a b rk st k) none
    | _ => none)
  | _ => none
/-- one step of the pure machine, in a static world; k goes on, rt ends -/
def stpS {α : Type} (O : Ora) (X : PX) (nL : Nat) (T : PT) (e : PE) (L st : List Value) (ij : IJ) (k : Nat → List Value → List Value → IJ → Option α) (rt : Option Value → IJ → Option α) : Option α := match e.1 with
  | .iconst _ => k e.2.1 L (.int e.2.2.2.2.1 :: st) ij
  | .bipush _ => k e.2.1 L (.int e.2.2.2.2.1 :: st) ij
  | .sipush _ => k e.2.1 L (.int e.2.2.2.2.1 :: st) ij
  | .ldc _ => k e.2.1 L (.int e.2.2.2.2.1 :: st) ij
  | .ldc_w _ => k e.2.1 L (.int e.2.2.2.2.1 :: st) ij
  | .lconst _ => k e.2.1 L (.long (Int64.ofNat e.2.2.1) :: st) ij
  | .ldc2_w _ => k e.2.1 L (.long (Int64.ofNat e.2.2.1) :: st) ij
  | .iload i => p_ldi L i st (fun st => k e.2.1 L st ij)
  | .iload_n i => p_ldi L i st (fun st => k e.2.1 L st ij)
  | .lload i => p_ldl L i st (fun st => k e.2.1 L st ij)
  | .lload_n i => p_ldl L i st (fun st => k e.2.1 L st ij)
  | .aload i => p_lda L i st (fun st => k e.2.1 L st ij)
  | .aload_n i => p_lda L i st (fun st => k e.2.1 L st ij)
  | .istore i => p_sti L i st (fun L st => k e.2.1 L st ij)
  | .istore_n i => p_sti L i st (fun L st => k e.2.1 L st ij)
  | .lstore i => p_stl L i st (fun L st => k e.2.1 L st ij)
  | .lstore_n i => p_stl L i st (fun L st => k e.2.1 L st ij)
  | .astore i => p_sta L i st (fun L st => k e.2.1 L st ij)
  | .astore_n i => p_sta L i st (fun L st => k e.2.1 L st ij)
  | .iinc i _ => p_inc L i e.2.2.2.2.1 (fun L => k e.2.1 L st ij)
  | .iadd => p_b2 st (fun x y => .int (x + y)) (fun st => k e.2.1 L st ij)
  | .isub => p_b2 st (fun x y => .int (x - y)) (fun st => k e.2.1 L st ij)
  | .imul => p_b2 st (fun x y => .int (x * y)) (fun st => k e.2.1 L st ij)
  | .iand => p_b2 st (fun x y => .int (x &&& y)) (fun st => k e.2.1 L st ij)
  | .ior => p_b2 st (fun x y => .int (x ||| y)) (fun st => k e.2.1 L st ij)
  | .ixor => p_b2 st (fun x y => .int (x ^^^ y)) (fun st => k e.2.1 L st ij)
  | .ishl => p_b2 st (fun x y => .int (x <<< (y &&& 31))) (fun st => k e.2.1 L st ij)
  | .ishr => p_b2 st (fun x y => .int (x >>> (y &&& 31))) (fun st => k e.2.1 L st ij)
  | .iushr => p_b2 st (fun x y => .int (x.toUInt32 >>> (y.toUInt32 &&& Int32.toUInt32 31)).toInt32) (fun st => k e.2.1 L st ij)
  | .idiv => (match st with
    | .int y :: .int x :: r => p_chk (p_nz y) (k e.2.1 L (.int (x / y) :: r) ij)
    | _ => none)
  | .irem => (match st with
    | .int y :: .int x :: r => p_chk (p_nz y) (k e.2.1 L (.int (x - x / y * y) :: r) ij)
    | _ => none)
  | .ineg => p_b1 st (fun x => .int (-x)) (fun st => k e.2.1 L st ij)
  | .i2l => p_b1 st (fun x => .long x.toInt64) (fun st => k e.2.1 L st ij)
  | .i2b => p_b1 st (fun x => .int x.toInt8.toInt32) (fun st => k e.2.1 L st ij)
  | .i2c => p_b1 st (fun x => .int (x.toUInt32 % 65536).toInt32) (fun st => k e.2.1 L st ij)
  | .l2i => p_l1 st (fun x => .int x.toInt32) (fun st => k e.2.1 L st ij)
  | .ladd => p_l2 st (fun x y => .long (x + y)) (fun st => k e.2.1 L st ij)
  | .lsub => p_l2 st (fun x y => .long (x - y)) (fun st => k e.2.1 L st ij)
  | .lmul => p_l2 st (fun x y => .long (x * y)) (fun st => k e.2.1 L st ij)
  | .lcmp => p_l2 st (fun x y => .int (lg_cmp x y)) (fun st => k e.2.1 L st ij)
  | .dup => (match st with
    | v :: r => p_bif (decide (v.category = 1)) (k e.2.1 L (v :: v :: r) ij) none
    | _ => none)
  | .dup2 => (match st with
    | v :: w :: r => p_bif (decide (v.category = 1)) (p_bif (decide (w.category = 1)) (k e.2.1 L (v :: w :: v :: w :: r) ij) none) none
    | _ => none)
  | .pop => (match st with
    | v :: r => p_bif (decide (v.category = 1)) (k e.2.1 L r ij) none
    | _ => none)
  | .ifCond cd _ => p_if1 cd st (fun st => k e.2.2.1 L st ij) (fun st => k e.2.1 L st ij)
  | .if_icmp cd _ => p_if2 cd st (fun st => k e.2.2.1 L st ij) (fun st => k e.2.1 L st ij)
  | .goto _ => k e.2.2.1 L st ij
  | .tableswitch _ _ _ _ => (match st with
    | .int x :: r => p_sw (fun t => k t L r ij) e.2.2.1 x e.2.2.2.1 e.2.2.2.2.2
    | _ => none)
  | .iaload => p_ald X T ij st (fun st => k e.2.1 L st ij)
  | .baload => p_bld T ij st (fun st => k e.2.1 L st ij)
  | .laload => p_lld T ij st (fun st => k e.2.1 L st ij)
  | .aaload => p_qld T st (fun st => k e.2.1 L st ij)
  | .iastore => p_ast T ij st (fun st ij => k e.2.1 L st ij)
  | .bastore => p_bst T ij st (fun st ij => k e.2.1 L st ij)
  | .lastore => p_lst T ij st (fun st ij => k e.2.1 L st ij)
  | .arraylength => p_len X T st (fun st => k e.2.1 L st ij)
  | .getfield _ => p_get T ij e.2.2.1 e.2.2.2.1 st (fun st => k e.2.1 L st ij)
  | .putfield _ => p_put T ij e.2.2.1 e.2.2.2.1 st (fun st ij => k e.2.1 L st ij)
  | .invokevirtual _ => p_bif (decide (L.length = nL)) (p_inw O T ij e.2.2.1 e.2.2.2.1 e.2.2.2.2.2 st (fun st ij => k e.2.1 L st ij)) none
  | .invokestatic _ => p_bif (decide (L.length = nL)) (p_inv O T ij e.2.2.1 e.2.2.2.1 e.2.2.2.2.2 st (fun st ij => k e.2.1 L st ij)) none
  | .ireturn => (match st with
    | [.int v] => rt (some (.int v)) ij
    | _ => none)
  | .lreturn => (match st with
    | [.long v] => rt (some (.long v)) ij
    | _ => none)
  | .return_ => (match st with
    | [] => rt none ij
    | _ => none)
  | _ => none
/-- from a place to the next cuts: K goes on there -/
def blkS {α : Type} (O : Ora) (X : PX) (nL : Nat) (T : PT) (C : Nat → Option PE) (cuts : Nat → Option (List Bool)) (K : Nat → List Value → List Value → IJ → Option α) (rt : Option Value → IJ → Option α) (n : Nat) : Nat → List Value → List Value → IJ → Option α :=
  Nat.rec (fun _ _ _ _ => none) (fun _ ih pc L st ij => match C pc with
    | none => none
    | some e => stpS O X nL T e L st ij (fun pc L st ij => match cuts pc with
      | some km => p_bif (decide (km.length = L.length)) (K pc (p_msk km L) st ij) none
      | none => ih pc L st ij) rt) n
/-- n cuts at most -/
def runS {α : Type} (O : Ora) (X : PX) (nL : Nat) (T : PT) (C : Nat → Option PE) (cuts : Nat → Option (List Bool)) (rt : Option Value → IJ → Option α) (f n : Nat) : Nat → List Value → List Value → IJ → Option α :=
  Nat.rec (fun _ _ _ _ => none) (fun _ ih => blkS O X nL T C cuts ih rt f) n
end
section
/-! ===== the pure machine stands for the machine: words ===== -/
def sv (ad : Nat → Nat) : Value → Value
  | .ref k => .ref (ad k)
  | v => v
theorem sv_cat (ad : Nat → Nat) (v : Value) : (sv ad v).category = v.category := by cases v <;> rfl
theorem sv_words (ad : Nat → Nat) (st : List Value) : ((st.map (sv ad)).map fun v => v.category).sum = p_words st := by
  unfold p_words
  rw [List.map_map]
  congr 1
  exact List.map_congr_left (fun v _ => sv_cat ad v)
def pl_has (ad : Nat → Nat) (ls : Array Slot) (L : List Value) : Prop := ls.size = L.length ∧ lv_wf ls ∧ ∀ (i : Nat) (v : Value), L[i]? = some v → (∀ n, v ≠ .retAddr n) → ls[i]? = some (.val (sv ad v))
def pl_one (ad : Nat → Nat) (i : Nat) : Option Value → Option (Nat × Value)
  | some (.retAddr _) => none
  | some v => some (i, sv ad v)
  | none => none
def pl_lv (ad : Nat → Nat) (L : List Value) : List (Nat × Value) := (List.range L.length).filterMap (fun i => pl_one ad i L[i]?)
theorem pl_one_some {ad : Nat → Nat} {i : Nat} {v : Value} (h : ∀ n, v ≠ .retAddr n) : pl_one ad i (some v) = some (i, sv ad v) := by
  cases v with
  | retAddr n => exact absurd rfl (h n)
  | _ => rfl
theorem pl_one_of {ad : Nat → Nat} {i : Nat} {o : Option Value} {q : Nat × Value} (h : pl_one ad i o = some q) : ∃ v, o = some v ∧ (∀ n, v ≠ .retAddr n) ∧ q = (i, sv ad v) := by
  cases o with
  | none => cases h
  | some v =>
    cases v with
    | retAddr n => cases h
    | _ => cases h; exact ⟨_, rfl, (fun n h => by cases h), rfl⟩
theorem pl_to {ad : Nat → Nat} {ls : Array Slot} {L : List Value} (h : pl_has ad ls L) : lv_has ls L.length (pl_lv ad L) := by
  refine ⟨h.1, h.2.1, fun q hq => ?_⟩
  obtain ⟨i, -, hi⟩ := List.mem_filterMap.mp hq
  obtain ⟨v, h1, h2, rfl⟩ := pl_one_of hi
  exact h.2.2 i v h1 h2
theorem pl_in {ad : Nat → Nat} {L : List Value} {i : Nat} {v : Value} (h : L[i]? = some v) (hv : ∀ n, v ≠ .retAddr n) : (i, sv ad v) ∈ pl_lv ad L := by
  have hi : i < L.length := (List.getElem?_eq_some_iff.mp h).1
  exact List.mem_filterMap.mpr ⟨i, List.mem_range.mpr hi, by rw [h]; exact pl_one_some hv⟩
theorem clr_len (L : List Value) (i : Nat) : (p_clr L i).length = L.length := by
  unfold p_clr
  split
  · rfl
  · split
    · split
      · simp
      · rfl
    · rfl
theorem clr_get {L : List Value} {i j : Nat} {w : Value} (h : (p_clr L i)[j]? = some w) (hw : ∀ n, w ≠ .retAddr n) : L[j]? = some w ∧ ¬ (j + 1 = i ∧ w.category = 2) := by
  unfold p_clr at h
  split at h
  · exact ⟨h, fun q => by omega⟩
  · rename_i j'
    split at h
    · rename_i v hv
      split at h
      · rename_i hc
        by_cases e : j' = j
        · subst e
          rw [List.getElem?_set_self (List.getElem?_eq_some_iff.mp hv).1] at h
          cases h
          exact absurd rfl (hw 0)
        · rw [List.getElem?_set_ne e] at h
          exact ⟨h, fun q => by omega⟩
      · rename_i hc
        refine ⟨h, fun q => ?_⟩
        have : j' = j := by omega
        subst this
        rw [hv] at h
        cases h
        exact hc q.2
    · rename_i hn
      refine ⟨h, fun q => ?_⟩
      have : j' = j := by omega
      subst this
      rw [hn] at h
      cases h
theorem pl_of1 {ad : Nat → Nat} {ls : Array Slot} {L : List Value} {i : Nat} {v : Value} (hi : i < L.length) (h : lv_has ls L.length ((i, sv ad v) :: (pl_lv ad L).filter (fun q => !(q.1 == i) && !(q.1 + 1 == i && q.2.category == 2)))) : pl_has ad ls (p_st1 L i v) := by
  refine ⟨by rw [h.1]; unfold p_st1; rw [List.length_set, clr_len], h.2.1, fun j w hj hw => ?_⟩
  unfold p_st1 at hj
  by_cases e : i = j
  · subst e
    rw [List.getElem?_set_self (by rw [clr_len]; exact hi)] at hj
    cases hj
    exact h.2.2 _ List.mem_cons_self
  · rw [List.getElem?_set_ne e] at hj
    obtain ⟨h1, h2⟩ := clr_get hj hw
    refine h.2.2 (j, sv ad w) (List.mem_cons_of_mem _ (List.mem_filter.mpr ⟨pl_in h1 hw, ?_⟩))
    simp only [Bool.and_eq_true, Bool.not_eq_true', beq_eq_false_iff_ne, ne_eq, Bool.and_eq_false_iff]
    refine ⟨fun q => e q.symm, ?_⟩
    by_cases q : j + 1 = i
    · right
      intro hc
      rw [sv_cat] at hc
      exact h2 ⟨q, hc⟩
    · left
      exact q
theorem pl_of2 {ad : Nat → Nat} {ls : Array Slot} {L : List Value} {i : Nat} {v : Value} (hi : i + 1 < L.length) (h : lv_has ls L.length ((i, sv ad v) :: (pl_lv ad L).filter (fun q => !(q.1 == i) && (!(q.1 == i + 1) && !(q.1 + 1 == i && q.2.category == 2))))) : pl_has ad ls (p_st2 L i v) := by
  refine ⟨by rw [h.1]; unfold p_st2; rw [List.length_set, List.length_set, clr_len], h.2.1, fun j w hj hw => ?_⟩
  unfold p_st2 at hj
  by_cases e : i = j
  · subst e
    rw [List.getElem?_set_self (by rw [List.length_set, clr_len]; omega)] at hj
    cases hj
    exact h.2.2 _ List.mem_cons_self
  · rw [List.getElem?_set_ne e] at hj
    by_cases e2 : i + 1 = j
    · subst e2
      rw [List.getElem?_set_self (by rw [clr_len]; exact hi)] at hj
      cases hj
      exact absurd rfl (hw 0)
    · rw [List.getElem?_set_ne e2] at hj
      obtain ⟨h1, h2⟩ := clr_get hj hw
      refine h.2.2 (j, sv ad w) (List.mem_cons_of_mem _ (List.mem_filter.mpr ⟨pl_in h1 hw, ?_⟩))
      simp only [Bool.and_eq_true, Bool.not_eq_true', beq_eq_false_iff_ne, ne_eq, Bool.and_eq_false_iff]
      refine ⟨fun q => e q.symm, fun q => e2 q.symm, ?_⟩
      by_cases q : j + 1 = i
      · right
        intro hc
        rw [sv_cat] at hc
        exact h2 ⟨q, hc⟩
      · left
        exact q
theorem pl_msk {ad : Nat → Nat} {ls : Array Slot} {L : List Value} {km : List Bool} (hk : km.length = L.length) (h : pl_has ad ls L) : pl_has ad ls (p_msk km L) := by
  refine ⟨by rw [h.1]; simp [p_msk, hk], h.2.1, fun j w hj hw => ?_⟩
  unfold p_msk at hj
  rw [List.getElem?_zipWith] at hj
  split at hj
  · rename_i b v hb hv
    cases hj
    cases b with
    | true => exact h.2.2 j v hv hw
    | false => exact absurd rfl (hw 0)
  · cases hj
/-! ===== goals: the machine at a pure state ===== -/
def GW (Wf : Heap → List Loc → Nat → Nat → JFrame → Prop) (m : MethodId) (okp : PT → IJ → (Nat → Nat) → Heap → List Loc → Nat → Nat → Prop) (pc : Nat) (L st : List Value) (T : PT) (ij : IJ) : Prop :=
  ∀ (ad : Nat → Nat) (H : Heap) (locs : List Loc) (cells slots : Nat) (ls : Array Slot), okp T ij ad H locs cells slots → pl_has ad ls L → Wf H locs cells slots (F0 m pc ls (st.map (sv ad)))
section PS
variable {Wf : Heap → List Loc → Nat → Nat → JFrame → Prop} {m : MethodId} {okp : PT → IJ → (Nat → Nat) → Heap → List Loc → Nat → Nat → Prop} {pc nx : Nat} {L st : List Value} {T : PT} {ij : IJ} {α : Type} {r : α}
theorem g_push {v : Value} (hv : ∀ ad, sv ad v = v) (hrow : ∀ H locs cells slots ls rest, Wf H locs cells slots (F0 m nx ls (v :: rest)) → Wf H locs cells slots (F0 m pc ls rest)) (hk : GW Wf m okp nx L (v :: st) T ij) : GW Wf m okp pc L st T ij := by
  intro ad H locs cells slots ls ho hl
  have h1 := hk ad H locs cells slots ls ho hl
  rw [List.map_cons, hv] at h1
  exact hrow _ _ _ _ _ _ h1
theorem g_b1 {f : Int32 → Value} {k : List Value → Option α} (hf : ∀ ad x, sv ad (f x) = f x) (hrow : ∀ H locs cells slots ls x rest, Wf H locs cells slots (F0 m nx ls (f x :: rest)) → Wf H locs cells slots (F0 m pc ls (.int x :: rest)))
    (h : p_b1 st f k = some r) (hk : ∀ st', k st' = some r → GW Wf m okp nx L st' T ij) : GW Wf m okp pc L st T ij := by
  unfold p_b1 at h
  split at h
  · intro ad H locs cells slots ls ho hl
    have h1 := hk _ h ad H locs cells slots ls ho hl
    rw [List.map_cons, hf] at h1
    exact hrow _ _ _ _ _ _ _ h1
  · cases h
theorem g_b2 {f : Int32 → Int32 → Value} {k : List Value → Option α} (hf : ∀ ad x y, sv ad (f x y) = f x y) (hrow : ∀ H locs cells slots ls x y rest, Wf H locs cells slots (F0 m nx ls (f x y :: rest)) → Wf H locs cells slots (F0 m pc ls (.int y :: .int x :: rest)))
    (h : p_b2 st f k = some r) (hk : ∀ st', k st' = some r → GW Wf m okp nx L st' T ij) : GW Wf m okp pc L st T ij := by
  unfold p_b2 at h
  split at h
  · intro ad H locs cells slots ls ho hl
    have h1 := hk _ h ad H locs cells slots ls ho hl
    rw [List.map_cons, hf] at h1
    exact hrow _ _ _ _ _ _ _ _ h1
  · cases h
theorem g_l1 {f : Int64 → Value} {k : List Value → Option α} (hf : ∀ ad x, sv ad (f x) = f x) (hrow : ∀ H locs cells slots ls x rest, Wf H locs cells slots (F0 m nx ls (f x :: rest)) → Wf H locs cells slots (F0 m pc ls (.long x :: rest)))
    (h : p_l1 st f k = some r) (hk : ∀ st', k st' = some r → GW Wf m okp nx L st' T ij) : GW Wf m okp pc L st T ij := by
  unfold p_l1 at h
  split at h
  · intro ad H locs cells slots ls ho hl
    have h1 := hk _ h ad H locs cells slots ls ho hl
    rw [List.map_cons, hf] at h1
    exact hrow _ _ _ _ _ _ _ h1
  · cases h
theorem g_l2 {f : Int64 → Int64 → Value} {k : List Value → Option α} (hf : ∀ ad x y, sv ad (f x y) = f x y) (hrow : ∀ H locs cells slots ls x y rest, Wf H locs cells slots (F0 m nx ls (f x y :: rest)) → Wf H locs cells slots (F0 m pc ls (.long y :: .long x :: rest)))
    (h : p_l2 st f k = some r) (hk : ∀ st', k st' = some r → GW Wf m okp nx L st' T ij) : GW Wf m okp pc L st T ij := by
  unfold p_l2 at h
  split at h
  · intro ad H locs cells slots ls ho hl
    have h1 := hk _ h ad H locs cells slots ls ho hl
    rw [List.map_cons, hf] at h1
    exact hrow _ _ _ _ _ _ _ _ h1
  · cases h
theorem g_ldi {i : Nat} {k : List Value → Option α} (hrow : ∀ H locs cells slots (ls : Array Slot) x rest, ls[i]? = some (.val (.int x)) → Wf H locs cells slots (F0 m nx ls (.int x :: rest)) → Wf H locs cells slots (F0 m pc ls rest))
    (h : p_ldi L i st k = some r) (hk : ∀ st', k st' = some r → GW Wf m okp nx L st' T ij) : GW Wf m okp pc L st T ij := by
  unfold p_ldi at h
  split at h
  · rename_i x hx
    intro ad H locs cells slots ls ho hl
    exact hrow _ _ _ _ _ x _ (hl.2.2 i _ hx (fun n q => by cases q)) (hk _ h ad H locs cells slots ls ho hl)
  · cases h
theorem g_ldl {i : Nat} {k : List Value → Option α} (hrow : ∀ H locs cells slots (ls : Array Slot) x rest, ls[i]? = some (.val (.long x)) → Wf H locs cells slots (F0 m nx ls (.long x :: rest)) → Wf H locs cells slots (F0 m pc ls rest))
    (h : p_ldl L i st k = some r) (hk : ∀ st', k st' = some r → GW Wf m okp nx L st' T ij) : GW Wf m okp pc L st T ij := by
  unfold p_ldl at h
  split at h
  · rename_i x hx
    intro ad H locs cells slots ls ho hl
    exact hrow _ _ _ _ _ x _ (hl.2.2 i _ hx (fun n q => by cases q)) (hk _ h ad H locs cells slots ls ho hl)
  · cases h
theorem g_lda {i : Nat} {k : List Value → Option α} (hrow : ∀ H locs cells slots (ls : Array Slot) x rest, ls[i]? = some (.val (.ref x)) → Wf H locs cells slots (F0 m nx ls (.ref x :: rest)) → Wf H locs cells slots (F0 m pc ls rest))
    (h : p_lda L i st k = some r) (hk : ∀ st', k st' = some r → GW Wf m okp nx L st' T ij) : GW Wf m okp pc L st T ij := by
  unfold p_lda at h
  split at h
  · rename_i x hx
    intro ad H locs cells slots ls ho hl
    exact hrow _ _ _ _ _ (ad x) _ (hl.2.2 i _ hx (fun n q => by cases q)) (hk _ h ad H locs cells slots ls ho hl)
  · cases h
theorem g_sti {i : Nat} {k : List Value → List Value → Option α} (hrow : ∀ H locs cells slots (ls : Array Slot) (nL : Nat) (lv : List (Nat × Value)) x rest, lv_has ls nL lv → i < nL → (∀ ls' : Array Slot, lv_has ls' nL ((i, Value.int x) :: lv.filter (fun q => !(q.1 == i) && !(q.1 + 1 == i && q.2.category == 2))) → Wf H locs cells slots (F0 m nx ls' rest)) → Wf H locs cells slots (F0 m pc ls (.int x :: rest)))
    (h : p_sti L i st k = some r) (hk : ∀ L' st', k L' st' = some r → GW Wf m okp nx L' st' T ij) : GW Wf m okp pc L st T ij := by
  unfold p_sti at h
  simp only [p_bif_dec] at h
  split at h
  · split at h
    · rename_i x r' hi
      intro ad H locs cells slots ls ho hl
      exact hrow _ _ _ _ _ _ _ x _ (pl_to hl) hi (fun ls' hl' => hk _ _ h ad H locs cells slots ls' ho (pl_of1 (ad := ad) (v := .int x) hi hl'))
    · cases h
  · cases h
theorem g_sta {i : Nat} {k : List Value → List Value → Option α} (hrow : ∀ H locs cells slots (ls : Array Slot) (nL : Nat) (lv : List (Nat × Value)) x rest, lv_has ls nL lv → i < nL → (∀ ls' : Array Slot, lv_has ls' nL ((i, Value.ref x) :: lv.filter (fun q => !(q.1 == i) && !(q.1 + 1 == i && q.2.category == 2))) → Wf H locs cells slots (F0 m nx ls' rest)) → Wf H locs cells slots (F0 m pc ls (.ref x :: rest)))
    (h : p_sta L i st k = some r) (hk : ∀ L' st', k L' st' = some r → GW Wf m okp nx L' st' T ij) : GW Wf m okp pc L st T ij := by
  unfold p_sta at h
  simp only [p_bif_dec] at h
  split at h
  · split at h
    · rename_i x r' hi
      intro ad H locs cells slots ls ho hl
      exact hrow _ _ _ _ _ _ _ (ad x) _ (pl_to hl) hi (fun ls' hl' => hk _ _ h ad H locs cells slots ls' ho (pl_of1 (ad := ad) (v := .ref x) hi hl'))
    · cases h
  · cases h
theorem g_stl {i : Nat} {k : List Value → List Value → Option α} (hrow : ∀ H locs cells slots (ls : Array Slot) (nL : Nat) (lv : List (Nat × Value)) x rest, lv_has ls nL lv → i + 1 < nL → (∀ ls' : Array Slot, lv_has ls' nL ((i, Value.long x) :: lv.filter (fun q => !(q.1 == i) && (!(q.1 == i + 1) && !(q.1 + 1 == i && q.2.category == 2)))) → Wf H locs cells slots (F0 m nx ls' rest)) → Wf H locs cells slots (F0 m pc ls (.long x :: rest)))
    (h : p_stl L i st k = some r) (hk : ∀ L' st', k L' st' = some r → GW Wf m okp nx L' st' T ij) : GW Wf m okp pc L st T ij := by
  unfold p_stl at h
  simp only [p_bif_dec] at h
  split at h
  · split at h
    · rename_i x r' hi
      intro ad H locs cells slots ls ho hl
      exact hrow _ _ _ _ _ _ _ x _ (pl_to hl) hi (fun ls' hl' => hk _ _ h ad H locs cells slots ls' ho (pl_of2 (ad := ad) (v := .long x) hi hl'))
    · cases h
  · cases h
theorem g_inc {i : Nat} {v : Int32} {k : List Value → Option α} (hrow : ∀ H locs cells slots (ls : Array Slot) (nL kk : Nat) (lv : List (Nat × Value)) x rest, lv_has ls nL lv → i < nL → lv[kk]? = some (i, .int x) → (∀ ls' : Array Slot, lv_has ls' nL ((i, Value.int (x + v)) :: lv.filter (fun q => !(q.1 == i) && !(q.1 + 1 == i && q.2.category == 2))) → Wf H locs cells slots (F0 m nx ls' rest)) → Wf H locs cells slots (F0 m pc ls rest))
    (h : p_inc L i v k = some r) (hk : ∀ L', k L' = some r → GW Wf m okp nx L' st T ij) : GW Wf m okp pc L st T ij := by
  unfold p_inc at h
  split at h
  · rename_i x hx
    intro ad H locs cells slots ls ho hl
    have hi : i < L.length := (List.getElem?_eq_some_iff.mp hx).1
    obtain ⟨kk, hkk⟩ := List.getElem?_of_mem (pl_in (ad := ad) hx (fun n q => by cases q))
    exact hrow _ _ _ _ _ _ kk _ x _ (pl_to hl) hi hkk (fun ls' hl' => hk _ h ad H locs cells slots ls' ho (pl_of1 (ad := ad) (v := .int (x + v)) hi hl'))
  · cases h
end PS
end
section
/-! ===== the world of a pure state ===== -/
def p_rv (ad : Nat → Nat) (r : Nat) : Value := match r with
  | 0 => .null
  | r + 1 => .ref (ad r)
def p_ro (ad : Nat → Nat) (r : Nat) : Option Nat := match r with
  | 0 => none
  | r + 1 => some (ad r)
def p_fv (ad : Nat → Nat) (T : PT) (ij : IJ) (k ci j : Nat) : Value := if p_fk ci j = 2 then p_rv ad (T.2.2.2 k j) else .int (ij.1 k j)
def p_obj (ad : Nat → Nat) (T : PT) (ij : IJ) (k ci n : Nat) : List Value := (List.range n).map (p_fv ad T ij k ci)
def p_cell (aT : Nat → ClassId) (ad : Nat → Nat) (T : PT) (ij : IJ) (k : Nat) : va_E :=
  if (T.2.2.1 k).1 < 100 then .inr ((T.2.2.1 k).1, p_obj ad T ij k (T.2.2.1 k).1 (T.2.2.1 k).2)
  else if (T.2.2.1 k).1 = 103 then .inl (aT 103, (T.2.2.1 k).2, .inr (.inl (ij.2 k)))
  else if (T.2.2.1 k).1 = 104 then .inl (aT 104, (T.2.2.1 k).2, .inr (.inr (.inr (.inr (fun j => p_ro ad (T.2.2.2 k j))))))
  else .inl (aT (T.2.2.1 k).1, (T.2.2.1 k).2, .inl (ij.1 k))
def p_ws (aT : Nat → ClassId) (ad : Nat → Nat) (T : PT) (ij : IJ) : va_W := (List.range T.1).map (fun k => (ad k, p_cell aT ad T ij k))
def p_tys (aT : Nat → ClassId) : List (ClassId × FieldType) := [(aT 100, .int), (aT 101, .byte), (aT 102, .boolean), (aT 103, .long), (aT 104, .object "SewnRoads$State")]
theorem ws_get {aT : Nat → ClassId} {ad : Nat → Nat} {T : PT} {ij : IJ} {k : Nat} (h : k < T.1) : (p_ws aT ad T ij)[k]? = some (ad k, p_cell aT ad T ij k) := by
  unfold p_ws
  rw [List.getElem?_map, List.getElem?_range h]
  rfl
theorem ws_out {aT : Nat → ClassId} {ad : Nat → Nat} {T : PT} {ij : IJ} {k : Nat} (h : ¬ k < T.1) : (p_ws aT ad T ij)[k]? = none := by
  unfold p_ws
  rw [List.getElem?_map, List.getElem?_eq_none (by rw [List.length_range]; omega)]
  rfl
theorem kd_in {T : PT} {k n : Nat} (h : (p_kd T k).1 = n) (hn : n ≠ 999) : k < T.1 ∧ T.2.2.1 k = p_kd T k := by
  unfold p_kd at h ⊢
  by_cases hk : k < T.1 ∧ (T.2.2.1 k).2 < 100000
  · rw [if_pos hk] at h ⊢
    exact ⟨hk.1, rfl⟩
  · rw [if_neg hk] at h
    exact absurd h.symm hn
theorem kd_lt (T : PT) (k : Nat) : (p_kd T k).2 < 100000 := by
  unfold p_kd
  by_cases hk : k < T.1 ∧ (T.2.2.1 k).2 < 100000
  · rw [if_pos hk]; exact hk.2
  · rw [if_neg hk]; exact (by decide : 0 < 100000)
theorem ws_set {aT : Nat → ClassId} {ad : Nat → Nat} {T : PT} {ij ij' : IJ} {k : Nat} {E : va_E} (hk : k < T.1) (h1 : p_cell aT ad T ij' k = E) (h2 : ∀ j, j ≠ k → p_cell aT ad T ij' j = p_cell aT ad T ij j) : (p_ws aT ad T ij).set k (ad k, E) = p_ws aT ad T ij' := by
  apply List.ext_getElem?
  intro j
  by_cases hj : j < T.1
  · rw [ws_get hj]
    by_cases e : k = j
    · subst e
      rw [List.getElem?_set_self (by unfold p_ws; simpa using hk), h1]
    · rw [List.getElem?_set_ne e, ws_get hj, h2 j (fun q => e q.symm)]
  · rw [ws_out hj, List.getElem?_set_ne (by omega), ws_out hj]
theorem wr_ne {I : Nat → Nat → Int32} {k j : Nat} {x : Int32} {a : Nat} (h : a ≠ k) : p_wr I k j x a = I a := by unfold p_wr; rw [if_neg h]
theorem wr_eq {I : Nat → Nat → Int32} {k j : Nat} {x : Int32} : p_wr I k j x k = upd (I k) j x := by unfold p_wr; rw [if_pos rfl]
theorem wrJ_ne {I : Nat → Nat → Int64} {k j : Nat} {x : Int64} {a : Nat} (h : a ≠ k) : p_wrJ I k j x a = I a := by unfold p_wrJ; rw [if_neg h]
theorem wrJ_eq {I : Nat → Nat → Int64} {k j : Nat} {x : Int64} : p_wrJ I k j x k = vp_updL (I k) j x := by unfold p_wrJ; rw [if_pos rfl]
theorem cell_same {aT : Nat → ClassId} {ad : Nat → Nat} {T : PT} {ij ij' : IJ} {j : Nat} (h1 : ij'.1 j = ij.1 j) (h2 : ij'.2 j = ij.2 j) : p_cell aT ad T ij' j = p_cell aT ad T ij j := by
  unfold p_cell p_obj p_fv
  rw [h1, h2]
theorem small_toInt {i : Int32} (h : i.toUInt32.toNat < 2147483648) : i.toInt = (i.toUInt32.toNat : Int) := by
  show i.toBitVec.toInt = (i.toBitVec.toNat : Int)
  have h' : i.toBitVec.toNat < 2147483648 := h
  exact BitVec.toInt_eq_toNat_of_lt (by omega)
theorem in_lt {i : Int32} {n : Nat} (hn : n < 100000) (h : p_in i n = true) : vp_in i n := by
  unfold p_in at h
  rw [Nat.blt_eq] at h
  rw [vp_in_iff, small_toInt (by omega)]
  omega
theorem in_of {T : PT} {k : Nat} {i : Int32} (h : p_in i (p_kd T k).2 = true) : vp_in i (p_kd T k).2 := in_lt (kd_lt T k) h
theorem nz_ne {y : Int32} (h : p_nz y = true) : ¬ y = 0 := by
  intro e
  subst e
  revert h
  decide
theorem p01_or {x : Int32} (h : p_01 x = true) : x = 0 ∨ x = 1 := by
  unfold p_01 at h
  rw [Nat.blt_eq] at h
  have h2 := small_toInt (i := x) (by omega)
  have h3 : x.toUInt32.toNat = 0 ∨ x.toUInt32.toNat = 1 := by omega
  rcases h3 with h3 | h3
  · left
    apply Int32.toInt_inj.mp
    rw [h2, h3]
    rfl
  · right
    apply Int32.toInt_inj.mp
    rw [h2, h3]
    rfl
theorem p01_nar {x : Int32} (h : p_01 x = true) : vp_nar .boolean x = x := by
  rcases p01_or h with h | h <;> subst h <;> rfl
/-- all that holds at a pure state -/
def p_ok (D : va_G) (aT : Nat → ClassId) (A : Nat → Prop) (H0 : Heap) (ad0 : Nat → Nat) (N0 S0 : Nat) (T : PT) (ij : IJ) (ad : Nat → Nat) (H : Heap) (locs : List Loc) (cells slots : Nat) : Prop :=
  va_P D vwCl (p_ws aT ad T ij) H ∧ va_D A (p_ws aT ad T ij) ∧ (∀ k j, T.2.2.2 k j ≤ T.1) ∧ va_S A H0 H locs ∧ cells + N0 = T.1 ∧ slots + S0 = T.2.1 ∧ ∀ k, k < N0 ∨ 100000 ≤ k → ad k = ad0 k
section PW
variable {p : Program} {l : Launch} {e : Env} {R : Room} {s : State} {m : MethodId} {args : Array Value} {below : List Frame} {meth : Method} {c : Code} {Q : State → Prop} {cc : ByteArray} {own : String}
variable {D : va_G} {aT : Nat → ClassId} {A : Nat → Prop} {H0 : Heap} {ad0 : Nat → Nat} {N0 S0 : Nat} {pc : Nat} {L st : List Value} {T : PT} {ij : IJ} {α : Type} {r : α}
theorem g_ald {X : PX} {k : List Value → Option α} (hx : p.tables.exec = Jvm.exec) (hb : c.code = cc) (hK : va_K D vwCl (p_tys aT) s) (hX : ∀ X', X = some X' → va_X (ad0 100000) X'.1 X'.2 s H0 ∧ ad0 100000 < H0.size ∧ ¬ A (ad0 100000) ∧ X'.1 < 100000) (hd : decode cc pc = .ok (.iaload, 1))
    (h : p_ald X T ij st k = some r) (hk : ∀ st', k st' = some r → GW (fun H locs cells slots g => W p l e R s m args below meth c H locs cells slots Q g) m (p_ok D aT A H0 ad0 N0 S0) (pc + 1) L st' T ij) : GW (fun H locs cells slots g => W p l e R s m args below meth c H locs cells slots Q g) m (p_ok D aT A H0 ad0 N0 S0) pc L st T ij := by
  unfold p_ald at h
  simp only [p_bif_dec, p_chk_ite] at h
  split at h
  · rename_i i q r'
    split at h
    · rename_i hq
      split at h
      · rename_i X' hX'
        split at h
        · rename_i hin
          obtain ⟨x1, x2, x3, x4⟩ := hX _ rfl
          intro ad H locs cells slots ls ho hl
          have h1 := hk _ h ad H locs cells slots ls ho hl
          have he : ad q = ad0 100000 := by rw [hq]; exact ho.2.2.2.2.2.2 _ (Or.inr (Nat.le_refl _))
          show W p l e R s m args below meth c H locs cells slots Q (F0 m pc ls (.int i :: .ref (ad q) :: r'.map (sv ad)))
          rw [he]
          exact va_sld hx hb x1 x2 x3 ho.2.2.2.1 (in_lt x4 hin) hd h1
        · cases h
      · cases h
    · split at h
      · rename_i hq hkd
        split at h
        · rename_i hin
          intro ad H locs cells slots ls ho hl
          obtain ⟨k1, k2⟩ := kd_in hkd (by decide)
          have hc : (p_ws aT ad T ij)[q]? = some (ad q, .inl (aT 100, (p_kd T q).2, .inl (ij.1 q))) := by
            rw [ws_get k1]; unfold p_cell; rw [k2, hkd, if_neg (by decide), if_neg (by decide), if_neg (by decide)]
          exact va_iald hx hb hK ho.1 q 0 hc rfl (in_of hin) hd (hk _ h ad H locs cells slots ls ho hl)
        · cases h
      · cases h
  · cases h
theorem g_bld {k : List Value → Option α} (hx : p.tables.exec = Jvm.exec) (hb : c.code = cc) (hK : va_K D vwCl (p_tys aT) s) (hd : decode cc pc = .ok (.baload, 1))
    (h : p_bld T ij st k = some r) (hk : ∀ st', k st' = some r → GW (fun H locs cells slots g => W p l e R s m args below meth c H locs cells slots Q g) m (p_ok D aT A H0 ad0 N0 S0) (pc + 1) L st' T ij) : GW (fun H locs cells slots g => W p l e R s m args below meth c H locs cells slots Q g) m (p_ok D aT A H0 ad0 N0 S0) pc L st T ij := by
  unfold p_bld at h
  simp only [p_bif_dec, p_chk_ite] at h
  split at h
  · rename_i i q r'
    split at h
    · rename_i hkd
      split at h
      · rename_i hin
        intro ad H locs cells slots ls ho hl
        rcases hkd with hkd | hkd
        · obtain ⟨k1, k2⟩ := kd_in hkd (by decide)
          have hc : (p_ws aT ad T ij)[q]? = some (ad q, .inl (aT 101, (p_kd T q).2, .inl (ij.1 q))) := by
            rw [ws_get k1]; unfold p_cell; rw [k2, hkd, if_neg (by decide), if_neg (by decide), if_neg (by decide)]
          exact va_bald hx hb hK ho.1 q 1 hc rfl (in_of hin) hd (hk _ h ad H locs cells slots ls ho hl)
        · obtain ⟨k1, k2⟩ := kd_in hkd (by decide)
          have hc : (p_ws aT ad T ij)[q]? = some (ad q, .inl (aT 102, (p_kd T q).2, .inl (ij.1 q))) := by
            rw [ws_get k1]; unfold p_cell; rw [k2, hkd, if_neg (by decide), if_neg (by decide), if_neg (by decide)]
          exact va_zald hx hb hK ho.1 q 2 hc rfl (in_of hin) hd (hk _ h ad H locs cells slots ls ho hl)
      · cases h
    · cases h
  · cases h
theorem g_lld {k : List Value → Option α} (hx : p.tables.exec = Jvm.exec) (hb : c.code = cc) (hK : va_K D vwCl (p_tys aT) s) (hd : decode cc pc = .ok (.laload, 1))
    (h : p_lld T ij st k = some r) (hk : ∀ st', k st' = some r → GW (fun H locs cells slots g => W p l e R s m args below meth c H locs cells slots Q g) m (p_ok D aT A H0 ad0 N0 S0) (pc + 1) L st' T ij) : GW (fun H locs cells slots g => W p l e R s m args below meth c H locs cells slots Q g) m (p_ok D aT A H0 ad0 N0 S0) pc L st T ij := by
  unfold p_lld at h
  simp only [p_bif_dec, p_chk_ite] at h
  split at h
  · rename_i i q r'
    split at h
    · rename_i hkd
      split at h
      · rename_i hin
        intro ad H locs cells slots ls ho hl
        obtain ⟨k1, k2⟩ := kd_in hkd (by decide)
        have hc : (p_ws aT ad T ij)[q]? = some (ad q, .inl (aT 103, (p_kd T q).2, .inr (.inl (ij.2 q)))) := by
          rw [ws_get k1]; unfold p_cell; rw [k2, hkd, if_neg (by decide), if_pos rfl]
        exact va_lald hx hb hK ho.1 q 3 hc rfl (in_of hin) hd (hk _ h ad H locs cells slots ls ho hl)
      · cases h
    · cases h
  · cases h
theorem g_qld {k : List Value → Option α} (hx : p.tables.exec = Jvm.exec) (hb : c.code = cc) (hK : va_K D vwCl (p_tys aT) s) (hd : decode cc pc = .ok (.aaload, 1))
    (h : p_qld T st k = some r) (hk : ∀ st', k st' = some r → GW (fun H locs cells slots g => W p l e R s m args below meth c H locs cells slots Q g) m (p_ok D aT A H0 ad0 N0 S0) (pc + 1) L st' T ij) : GW (fun H locs cells slots g => W p l e R s m args below meth c H locs cells slots Q g) m (p_ok D aT A H0 ad0 N0 S0) pc L st T ij := by
  unfold p_qld at h
  simp only [p_bif_dec, p_chk_ite] at h
  split at h
  · rename_i i q r'
    split at h
    · rename_i hkd
      split at h
      · rename_i hin
        split at h
        · cases h
        · rename_i t ht
          intro ad H locs cells slots ls ho hl
          obtain ⟨k1, k2⟩ := kd_in hkd (by decide)
          have hc : (p_ws aT ad T ij)[q]? = some (ad q, .inl (aT 104, (p_kd T q).2, .inr (.inr (.inr (.inr (fun j => p_ro ad (T.2.2.2 q j))))))) := by
            rw [ws_get k1]; unfold p_cell; rw [k2, hkd, if_neg (by decide), if_neg (by decide), if_pos rfl]
          have h1 := hk _ h ad H locs cells slots ls ho hl
          refine va_aldq hx hb hK ho.1 q 4 hc rfl (in_of hin) hd ?_
          show W p l e R s m args below meth c H locs cells slots Q (F0 m (pc + 1) ls (va_rf (p_ro ad (T.2.2.2 q i.toNatClampNeg)) :: r'.map (sv ad)))
          rw [ht]
          exact h1
      · cases h
    · cases h
  · cases h
theorem g_ast {k : List Value → IJ → Option α} (hx : p.tables.exec = Jvm.exec) (hb : c.code = cc) (hK : va_K D vwCl (p_tys aT) s) (hd : decode cc pc = .ok (.iastore, 1))
    (h : p_ast T ij st k = some r) (hk : ∀ st' ij', k st' ij' = some r → GW (fun H locs cells slots g => W p l e R s m args below meth c H locs cells slots Q g) m (p_ok D aT A H0 ad0 N0 S0) (pc + 1) L st' T ij') : GW (fun H locs cells slots g => W p l e R s m args below meth c H locs cells slots Q g) m (p_ok D aT A H0 ad0 N0 S0) pc L st T ij := by
  unfold p_ast at h
  simp only [p_bif_dec, p_chk_ite] at h
  split at h
  · rename_i x i q r'
    split at h
    · rename_i hkd
      split at h
      · rename_i hin
        intro ad H locs cells slots ls ho hl
        obtain ⟨k1, k2⟩ := kd_in hkd (by decide)
        have hc : (p_ws aT ad T ij)[q]? = some (ad q, .inl (aT 100, (p_kd T q).2, .inl (ij.1 q))) := by
          rw [ws_get k1]; unfold p_cell; rw [k2, hkd, if_neg (by decide), if_neg (by decide), if_neg (by decide)]
        refine va_iast hx hb hK ho.1 ho.2.1 ho.2.2.2.1 q 0 hc rfl (in_of hin) hd (fun H1 locs1 hP hD hS => ?_)
        have he := ws_set (ij := ij) (aT := aT) (ad := ad) (ij' := (p_wr ij.1 q i.toNatClampNeg x, ij.2)) (E := .inl (aT 100, (p_kd T q).2, .inl (upd (ij.1 q) i.toNatClampNeg x))) k1 (by unfold p_cell; rw [k2, hkd, if_neg (by decide), if_neg (by decide), if_neg (by decide)]; simp only [wr_eq]) (fun j hj => cell_same (wr_ne hj) rfl)
        rw [he] at hP hD
        exact hk _ _ h ad H1 locs1 cells slots ls ⟨hP, hD, ho.2.2.1, hS, ho.2.2.2.2⟩ hl
      · cases h
    · cases h
  · cases h
theorem g_bst {k : List Value → IJ → Option α} (hx : p.tables.exec = Jvm.exec) (hb : c.code = cc) (hK : va_K D vwCl (p_tys aT) s) (hd : decode cc pc = .ok (.bastore, 1))
    (h : p_bst T ij st k = some r) (hk : ∀ st' ij', k st' ij' = some r → GW (fun H locs cells slots g => W p l e R s m args below meth c H locs cells slots Q g) m (p_ok D aT A H0 ad0 N0 S0) (pc + 1) L st' T ij') : GW (fun H locs cells slots g => W p l e R s m args below meth c H locs cells slots Q g) m (p_ok D aT A H0 ad0 N0 S0) pc L st T ij := by
  unfold p_bst at h
  simp only [p_bif_dec, p_chk_ite] at h
  split at h
  · rename_i x i q r'
    split at h
    · rename_i hkd
      split at h
      · rename_i hin
        intro ad H locs cells slots ls ho hl
        obtain ⟨k1, k2⟩ := kd_in hkd (by decide)
        have hc : (p_ws aT ad T ij)[q]? = some (ad q, .inl (aT 101, (p_kd T q).2, .inl (ij.1 q))) := by
          rw [ws_get k1]; unfold p_cell; rw [k2, hkd, if_neg (by decide), if_neg (by decide), if_neg (by decide)]
        refine va_bast hx hb hK ho.1 ho.2.1 ho.2.2.2.1 q 1 hc rfl (in_of hin) hd (fun H1 locs1 hP hD hS => ?_)
        have he := ws_set (ij := ij) (aT := aT) (ad := ad) (ij' := (p_wr ij.1 q i.toNatClampNeg (vp_nar .byte x), ij.2)) (E := .inl (aT 101, (p_kd T q).2, .inl (upd (ij.1 q) i.toNatClampNeg (vp_nar .byte x)))) k1 (by unfold p_cell; rw [k2, hkd, if_neg (by decide), if_neg (by decide), if_neg (by decide)]; simp only [wr_eq]) (fun j hj => cell_same (wr_ne hj) rfl)
        rw [he] at hP hD
        exact hk _ _ h ad H1 locs1 cells slots ls ⟨hP, hD, ho.2.2.1, hS, ho.2.2.2.2⟩ hl
      · cases h
    · split at h
      · rename_i hn hkd
        split at h
        · rename_i hin
          intro ad H locs cells slots ls ho hl
          obtain ⟨k1, k2⟩ := kd_in hkd (by decide)
          have hc : (p_ws aT ad T ij)[q]? = some (ad q, .inl (aT 102, (p_kd T q).2, .inl (ij.1 q))) := by
            rw [ws_get k1]; unfold p_cell; rw [k2, hkd, if_neg (by decide), if_neg (by decide), if_neg (by decide)]
          refine va_zast hx hb hK ho.1 ho.2.1 ho.2.2.2.1 q 2 hc rfl (in_of hin) hd (fun H1 locs1 hP hD hS => ?_)
          have he := ws_set (ij := ij) (aT := aT) (ad := ad) (ij' := (p_wr ij.1 q i.toNatClampNeg (vp_nar .boolean x), ij.2)) (E := .inl (aT 102, (p_kd T q).2, .inl (upd (ij.1 q) i.toNatClampNeg (vp_nar .boolean x)))) k1 (by unfold p_cell; rw [k2, hkd, if_neg (by decide), if_neg (by decide), if_neg (by decide)]; simp only [wr_eq]) (fun j hj => cell_same (wr_ne hj) rfl)
          rw [he] at hP hD
          exact hk _ _ h ad H1 locs1 cells slots ls ⟨hP, hD, ho.2.2.1, hS, ho.2.2.2.2⟩ hl
        · cases h
      · cases h
  · cases h
theorem g_lst {k : List Value → IJ → Option α} (hx : p.tables.exec = Jvm.exec) (hb : c.code = cc) (hK : va_K D vwCl (p_tys aT) s) (hd : decode cc pc = .ok (.lastore, 1))
    (h : p_lst T ij st k = some r) (hk : ∀ st' ij', k st' ij' = some r → GW (fun H locs cells slots g => W p l e R s m args below meth c H locs cells slots Q g) m (p_ok D aT A H0 ad0 N0 S0) (pc + 1) L st' T ij') : GW (fun H locs cells slots g => W p l e R s m args below meth c H locs cells slots Q g) m (p_ok D aT A H0 ad0 N0 S0) pc L st T ij := by
  unfold p_lst at h
  simp only [p_bif_dec, p_chk_ite] at h
  split at h
  · rename_i x i q r'
    split at h
    · rename_i hkd
      split at h
      · rename_i hin
        intro ad H locs cells slots ls ho hl
        obtain ⟨k1, k2⟩ := kd_in hkd (by decide)
        have hc : (p_ws aT ad T ij)[q]? = some (ad q, .inl (aT 103, (p_kd T q).2, .inr (.inl (ij.2 q)))) := by
          rw [ws_get k1]; unfold p_cell; rw [k2, hkd, if_neg (by decide), if_pos rfl]
        refine va_last hx hb hK ho.1 ho.2.1 ho.2.2.2.1 q 3 hc rfl (in_of hin) hd (fun H1 locs1 hP hD hS => ?_)
        have he := ws_set (ij := ij) (aT := aT) (ad := ad) (ij' := (ij.1, p_wrJ ij.2 q i.toNatClampNeg x)) (E := .inl (aT 103, (p_kd T q).2, .inr (.inl (vp_updL (ij.2 q) i.toNatClampNeg x)))) k1 (by unfold p_cell; rw [k2, hkd, if_neg (by decide), if_pos rfl]; simp only [wrJ_eq]) (fun j hj => cell_same rfl (wrJ_ne hj))
        rw [he] at hP hD
        exact hk _ _ h ad H1 locs1 cells slots ls ⟨hP, hD, ho.2.2.1, hS, ho.2.2.2.2⟩ hl
      · cases h
    · cases h
  · cases h
theorem g_len {X : PX} {k : List Value → Option α} (hx : p.tables.exec = Jvm.exec) (hb : c.code = cc) (hK : va_K D vwCl (p_tys aT) s) (hX : ∀ X', X = some X' → va_X (ad0 100000) X'.1 X'.2 s H0 ∧ ad0 100000 < H0.size ∧ ¬ A (ad0 100000) ∧ X'.1 < 100000) (hd : decode cc pc = .ok (.arraylength, 1))
    (h : p_len X T st k = some r) (hk : ∀ st', k st' = some r → GW (fun H locs cells slots g => W p l e R s m args below meth c H locs cells slots Q g) m (p_ok D aT A H0 ad0 N0 S0) (pc + 1) L st' T ij) : GW (fun H locs cells slots g => W p l e R s m args below meth c H locs cells slots Q g) m (p_ok D aT A H0 ad0 N0 S0) pc L st T ij := by
  unfold p_len at h
  simp only [p_bif_dec, p_chk_ite] at h
  split at h
  · rename_i q r'
    split at h
    · rename_i hq
      split at h
      · rename_i X' hX'
        obtain ⟨x1, x2, x3, x4⟩ := hX _ rfl
        intro ad H locs cells slots ls ho hl
        have h1 := hk _ h ad H locs cells slots ls ho hl
        have he : ad q = ad0 100000 := by rw [hq]; exact ho.2.2.2.2.2.2 _ (Or.inr (Nat.le_refl _))
        show W p l e R s m args below meth c H locs cells slots Q (F0 m pc ls (.ref (ad q) :: r'.map (sv ad)))
        rw [he]
        exact va_slen hx hb x1 x2 x3 ho.2.2.2.1 hd h1
      · cases h
    · split at h
      · rename_i hq hkd
        intro ad H locs cells slots ls ho hl
        have h1 := hk _ h ad H locs cells slots ls ho hl
        obtain ⟨k1, k2⟩ := kd_in (T := T) (k := q) rfl (by omega)
        have hj : (p_kd T q).1 = 100 ∨ (p_kd T q).1 = 101 ∨ (p_kd T q).1 = 102 ∨ (p_kd T q).1 = 103 := by omega
        rcases hj with hj | hj | hj | hj
        · have hc : (p_ws aT ad T ij)[q]? = some (ad q, .inl (aT 100, (p_kd T q).2, .inl (ij.1 q))) := by
            rw [ws_get k1]; unfold p_cell; rw [k2, hj, if_neg (by decide), if_neg (by decide), if_neg (by decide)]
          exact va_alen hx hb hK ho.1 q 0 hc rfl rfl hd h1
        · have hc : (p_ws aT ad T ij)[q]? = some (ad q, .inl (aT 101, (p_kd T q).2, .inl (ij.1 q))) := by
            rw [ws_get k1]; unfold p_cell; rw [k2, hj, if_neg (by decide), if_neg (by decide), if_neg (by decide)]
          exact va_alen hx hb hK ho.1 q 1 hc rfl rfl hd h1
        · have hc : (p_ws aT ad T ij)[q]? = some (ad q, .inl (aT 102, (p_kd T q).2, .inl (ij.1 q))) := by
            rw [ws_get k1]; unfold p_cell; rw [k2, hj, if_neg (by decide), if_neg (by decide), if_neg (by decide)]
          exact va_alen hx hb hK ho.1 q 2 hc rfl rfl hd h1
        · have hc : (p_ws aT ad T ij)[q]? = some (ad q, .inl (aT 103, (p_kd T q).2, .inr (.inl (ij.2 q)))) := by
            rw [ws_get k1]; unfold p_cell; rw [k2, hj, if_neg (by decide), if_pos rfl]
          exact va_alen hx hb hK ho.1 q 3 hc rfl rfl hd h1
      · cases h
  · cases h
end PW
end
section
/-! ===== fields, copies, calls ===== -/
theorem obj_get {ad : Nat → Nat} {T : PT} {ij : IJ} {k ci n b : Nat} (h : b < n) : (p_obj ad T ij k ci n)[b]? = some (p_fv ad T ij k ci b) := by
  unfold p_obj
  rw [List.getElem?_map, List.getElem?_range h]
  rfl
theorem obj_set {ad : Nat → Nat} {T : PT} {ij : IJ} {k ci n b : Nat} {x : Int32} (h : b < n) (hf : p_fk ci b ≠ 2) : p_obj ad T (p_wr ij.1 k b x, ij.2) k ci n = (p_obj ad T ij k ci n).set b (.int x) := by
  apply List.ext_getElem?
  intro j
  by_cases hj : j < n
  · rw [obj_get hj]
    by_cases e : b = j
    · subst e
      rw [List.getElem?_set_self (by unfold p_obj; simpa using h)]
      unfold p_fv
      rw [if_neg hf]
      simp only [wr_eq, upd, if_true]
    · rw [List.getElem?_set_ne e, obj_get hj]
      unfold p_fv
      simp only [wr_eq]
      have e2 : ¬ j = b := fun q => e q.symm
      simp only [upd, if_neg e2]
  · rw [List.getElem?_eq_none (by unfold p_obj; simp; omega), List.getElem?_eq_none (by unfold p_obj; simp; omega)]
section PF
variable {p : Program} {l : Launch} {e : Env} {R : Room} {s : State} {m : MethodId} {args : Array Value} {below : List Frame} {meth : Method} {c : Code} {Q : State → Prop} {cc : ByteArray} {own : String}
variable {D : va_G} {aT : Nat → ClassId} {A : Nat → Prop} {H0 : Heap} {ad0 : Nat → Nat} {N0 S0 : Nat} {pc : Nat} {L st : List Value} {T : PT} {ij : IJ} {α : Type} {r : α}
theorem g_get {k : List Value → Option α} {a b idx : Nat} (hx : p.tables.exec = Jvm.exec) (hb : c.code = cc) (hown : s.vm.findClass own = some m.cls) (hts : ∀ w ∈ gtb, w.before args s = true) (hK : va_K D vwCl (p_tys aT) s) (hN : ∀ w ∈ nws, va_Nw w s) (ha : a < 13) (hbN : b < (cT a).2.2)
    (hlk : Cond.fieldLink own idx ((cT a).2.1 b).1 ((cT a).2.1 b).2.1 ((cT a).2.1 b).2.2.1 ∈ gtb ∨ ∃ host, Cond.fieldLinkNest own idx ((cT a).2.1 b).1 ((cT a).2.1 b).2.1 ((cT a).2.1 b).2.2.1 host ∈ nws) (hd : decode cc pc = .ok (.getfield idx, 3))
    (h : p_get T ij a b st k = some r) (hk : ∀ st', k st' = some r → GW (fun H locs cells slots g => W p l e R s m args below meth c H locs cells slots Q g) m (p_ok D aT A H0 ad0 N0 S0) (pc + 3) L st' T ij) : GW (fun H locs cells slots g => W p l e R s m args below meth c H locs cells slots Q g) m (p_ok D aT A H0 ad0 N0 S0) pc L st T ij := by
  unfold p_get at h
  simp only [p_bif_dec, p_chk_ite] at h
  split at h
  · rename_i q r'
    split at h
    · rename_i hkd
      split at h
      · rename_i hbn
        intro ad H locs cells slots ls ho hl
        obtain ⟨k1, k2⟩ := kd_in hkd (by omega)
        obtain ⟨ty0, f1, f2, f3, f4, f5, f6⟩ := cf_all a ha
        have hc : (p_ws aT ad T ij)[q]? = some (ad q, .inr (a, p_obj ad T ij q a (p_kd T q).2)) := by
          rw [ws_get k1]; unfold p_cell; rw [k2, hkd, if_pos (by omega)]
        have hgo : ∀ v, p_fv ad T ij q a b = v → W p l e R s m args below meth c H locs cells slots Q (F0 m (pc + 3) ls (v :: r'.map (sv ad))) → W p l e R s m args below meth c H locs cells slots Q (F0 m pc ls (.ref (ad q) :: r'.map (sv ad))) := by
          intro v hv hw
          subst hv
          rcases hlk with hlk | ⟨host, hlk⟩
          · exact va_get hx hb hts f2 hown hK ho.1 q hc f1 b hbN (hts _ hlk) (fun _ h9 => h9) (obj_get hbn) hd hw
          · exact va_getN hx hb hts f2 hown hK ho.1 q hc f1 b hbN (va_Nw.use rfl (hN _ hlk)) (fun _ h9 => h9) (obj_get hbn) hd hw
        split at h
        · rename_i hfk
          split at h
          · cases h
          · rename_i t ht
            have h1 := hk _ h ad H locs cells slots ls ho hl
            exact hgo (.ref (ad t)) (by unfold p_fv; rw [if_pos hfk, ht]; rfl) h1
        · rename_i hfk
          have h1 := hk _ h ad H locs cells slots ls ho hl
          exact hgo (.int (ij.1 q b)) (by unfold p_fv; rw [if_neg hfk]) h1
      · cases h
    · cases h
  · cases h
theorem nar_b {x : Int32} (h : vp_nar .boolean x = x) : narrow .boolean (.int x) = .int x := by
  unfold vp_nar at h
  simp only [narrow] at h ⊢
  rw [h]
theorem fit_b {x : Int32} (h : vp_nar .boolean x = x) : fits .boolean (.int x) = true := by
  have h1 := nar_b h
  obtain ⟨j, hj, he⟩ := pk_andE x (m := 1) 1 rfl
  simp only [narrow] at h1
  have h2 : x &&& 1 = x := by first | exact Value.int.inj h1 | simpa using h1
  rw [he] at h2
  have hj2 : j = 0 ∨ j = 1 := by omega
  rcases hj2 with rfl | rfl
  · rw [← h2]; rfl
  · rw [← h2]; rfl
theorem g_put {k : List Value → IJ → Option α} {a b idx : Nat} (hx : p.tables.exec = Jvm.exec) (hb : c.code = cc) (hown : s.vm.findClass own = some m.cls) (hts : ∀ w ∈ gtb, w.before args s = true) (hK : va_K D vwCl (p_tys aT) s) (ha : a < 13) (hbN : b < (cT a).2.2)
    (hlk : Cond.fieldLink own idx ((cT a).2.1 b).1 ((cT a).2.1 b).2.1 ((cT a).2.1 b).2.2.1 ∈ gtb) (hd : decode cc pc = .ok (.putfield idx, 3))
    (h : p_put T ij a b st k = some r) (hk : ∀ st' ij', k st' ij' = some r → GW (fun H locs cells slots g => W p l e R s m args below meth c H locs cells slots Q g) m (p_ok D aT A H0 ad0 N0 S0) (pc + 3) L st' T ij') : GW (fun H locs cells slots g => W p l e R s m args below meth c H locs cells slots Q g) m (p_ok D aT A H0 ad0 N0 S0) pc L st T ij := by
  unfold p_put at h
  simp only [p_bif_dec, p_chk_ite] at h
  split at h
  · rename_i x q r'
    split at h
    · rename_i hkd
      split at h
      · rename_i hbn
        obtain ⟨k1, k2⟩ := kd_in hkd (by omega)
        obtain ⟨ty0, f1, f2, f3, f4, f5, f6⟩ := cf_all a ha
        have hgo : p_fk a b ≠ 2 → ((cT a).2.1 b).2.2.2 = false → narrow (ty0 b) (.int x) = .int x → fits (ty0 b) (.int x) = true → k r' (p_wr ij.1 q b x, ij.2) = some r → GW (fun H locs cells slots g => W p l e R s m args below meth c H locs cells slots Q g) m (p_ok D aT A H0 ad0 N0 S0) pc L (.int x :: .ref q :: r') T ij := by
          intro hf hfin hn hfit h
          intro ad H locs cells slots ls ho hl
          have hc : (p_ws aT ad T ij)[q]? = some (ad q, .inr (a, p_obj ad T ij q a (p_kd T q).2)) := by
            rw [ws_get k1]; unfold p_cell; rw [k2, hkd, if_pos (by omega)]
          refine va_put (v := .int x) hx hb hts f2 ty0 f3 f4 hown hK ho.1 ho.2.1 ho.2.2.2.1 q hc f1 b hbN (hts _ hlk) (fun _ h9 => h9) hfin (f3 b hbN) hn hfit (by unfold p_obj; simpa using hbn) hd (fun H1 locs1 hP hD hS => ?_)
          have he := ws_set (ij := ij) (aT := aT) (ad := ad) (ij' := (p_wr ij.1 q b x, ij.2)) (E := .inr (a, (p_obj ad T ij q a (p_kd T q).2).set b (.int x))) k1 (by unfold p_cell; rw [k2, hkd, if_pos (by omega), obj_set hbn hf]) (fun j hj => cell_same (wr_ne hj) rfl)
          rw [he] at hP hD
          exact hk _ _ h ad H1 locs1 cells slots ls ⟨hP, hD, ho.2.2.1, hS, ho.2.2.2.2⟩ hl
        split at h
        · rename_i hfk
          exact hgo (by rw [hfk]; decide) (f5 b hbN hfk).2 (by rw [(f5 b hbN hfk).1]; exact vp_nar_int x) (by rw [(f5 b hbN hfk).1]; rfl) h
        · rename_i hfk
          split at h
          · rename_i hn
            have hn := p01_nar hn
            exact hgo (by rw [hfk]; decide) (f6 b hbN hfk).2 (by rw [(f6 b hbN hfk).1]; exact nar_b hn) (by rw [(f6 b hbN hfk).1]; exact fit_b hn) h
          · cases h
        · cases h
      · cases h
    · cases h
  · cases h
theorem g_acp {k : List Value → IJ → Option α} {idx : Nat} (hx : p.tables.exec = Jvm.exec) (hb : c.code = cc) (hml : c.maxLocals = L.length) (hown : s.vm.findClass own = some m.cls) (hts : ∀ w ∈ gtb, w.before args s = true) (hK : va_K D vwCl (p_tys aT) s)
    (hlk : Cond.methodLink own idx arraycopyName ∈ gtb ∧ Cond.native arraycopyName ∈ gtb ∧ Cond.static arraycopyName ∈ gtb ∧ Cond.initialized "java/lang/System" ∈ gtb) (hR : 1 ≤ R.frames ∧ 64 ≤ R.locals) (hd : decode cc pc = .ok (.invokestatic idx, 3))
    (h : p_acp T ij st k = some r) (hk : ∀ st' ij', k st' ij' = some r → GW (fun H locs cells slots g => W p l e R s m args below meth c H locs cells slots Q g) m (p_ok D aT A H0 ad0 N0 S0) (pc + 3) L st' T ij') : GW (fun H locs cells slots g => W p l e R s m args below meth c H locs cells slots Q g) m (p_ok D aT A H0 ad0 N0 S0) pc L st T ij := by
  unfold p_acp at h
  simp only [p_bif_dec, p_chk_ite] at h
  split at h
  · rename_i n dp q1 sp q0 r'
    split at h
    · rename_i hk0
      split at h
      · rename_i hk1
        split at h
        · rename_i hcd
          obtain ⟨c1, c2, c3, c4, c5, c6⟩ := hcd
          obtain ⟨a1, a2⟩ := kd_in hk0 (by decide)
          obtain ⟨b1, b2⟩ := kd_in hk1 (by decide)
          intro ad H locs cells slots ls ho hl
          have hc0 : (p_ws aT ad T ij)[q0]? = some (ad q0, .inl (aT 100, (p_kd T q0).2, .inl (ij.1 q0))) := by
            rw [ws_get a1]; unfold p_cell; rw [a2, hk0, if_neg (by decide), if_neg (by decide), if_neg (by decide)]
          have hc1 : (p_ws aT ad T ij)[q1]? = some (ad q1, .inl (aT 100, (p_kd T q1).2, .inl (ij.1 q1))) := by
            rw [ws_get b1]; unfold p_cell; rw [b2, hk1, if_neg (by decide), if_neg (by decide), if_neg (by decide)]
          refine va_copyi hx hb (by rw [hml, hl.1]) hown (hts _ hlk.1) (hts _ hlk.2.1) (hts _ hlk.2.2.1) (hts _ hlk.2.2.2) hK ho.1 ho.2.1 ho.2.2.2.1 q0 q1 0 0 hc0 hc1 rfl rfl rfl (Int32.not_lt.mpr c1) (Int32.not_lt.mpr c2) (Int32.not_lt.mpr c3) c4 c5 (fun _ _ => rfl) hR.1 ?_ hd (fun H1 locs1 hP hD hS => ?_)
          · have hw := sv_words ad r'
            have hn : nativeFrameWords "java/lang/System" "arraycopy" 5 + 11 ≤ 56 := by decide +kernel
            show ((r'.map (sv ad)).map fun v => v.category).sum + _ ≤ _
            omega
          · have he := ws_set (ij := ij) (aT := aT) (ad := ad) (ij' := (p_cp ij.1 q0 q1 sp.toNatClampNeg dp.toNatClampNeg n.toNatClampNeg, ij.2)) (E := .inl (aT 100, (p_kd T q1).2, .inl (va_cpy (ij.1 q0) (ij.1 q1) sp.toNatClampNeg dp.toNatClampNeg n.toNatClampNeg))) b1 (by unfold p_cell; rw [b2, hk1, if_neg (by decide), if_neg (by decide), if_neg (by decide)]; simp only [p_cp, if_true]) (fun j hj => cell_same (by simp only [p_cp, if_neg hj]) rfl)
            rw [he] at hP hD
            exact hk _ _ h ad H1 locs1 cells slots ls ⟨hP, hD, ho.2.2.1, hS, ho.2.2.2.2⟩ hl
        · cases h
      · cases h
    · cases h
  · cases h
end PF
end
section
/-! ===== calls of methods that have a contract ===== -/
def p_wd (D : va_G) (aT : Nat → ClassId) (ad : Nat → Nat) (T : PT) (ij : IJ) (U : State) : Prop := va_P D vwCl (p_ws aT ad T ij) U.heap ∧ va_K D vwCl (p_tys aT) U ∧ va_D (fun _ => True) (p_ws aT ad T ij) ∧ (∀ k j, T.2.2.2 k j ≤ T.1) ∧ ∀ w ∈ nws, va_Nw w U
def p_B (D : va_G) (aT : Nat → ClassId) (ad : Nat → Nat) (T : PT) (A1 : Nat → Prop) (ij : IJ) (_ : Unit) (t : State) : Prop := va_P D vwCl (p_ws aT ad T ij) t.heap ∧ va_D A1 (p_ws aT ad T ij)
def p_Q (D : va_G) (aT : Nat → ClassId) (ad : Nat → Nat) (T : PT) (A1 : Nat → Prop) (r : Rs) : Array Value → State → Outcome → State → Prop := match r.1 with
  | none => va_Qv (fun _ => True) (p_B D aT ad T A1 r.2) A1
  | some (.int v) => va_Qi (fun x _ => x = v) (p_B D aT ad T A1 r.2) A1
  | some (.long v) => va_Ql (fun x _ => x = v) (p_B D aT ad T A1 r.2) A1
  | _ => fun _ _ _ _ => False
def p_rm (d : Nat) : Room := { frames := d, cells := 0, slots := 0, locals := 64 * d }
/-- the contract of method y at height d: in the world of T, ij, with these arguments it returns r -/
def MetC (l : Launch) (d y : Nat) (T : PT) (as : List Value) (ij : IJ) (r : Rs) : Prop := ∀ (D : va_G) (aT : Nat → ClassId) (ad : Nat → Nat) (sz : Nat),
  Met l (mN y) (Cond.code (mN y) (mB y) (mL y) (mR y) :: gtb) (p_rm d) (va_Pc (as.map (sv ad)) (fun U => U.heap.size = sz ∧ p_wd D aT ad T ij U)) (p_Q D aT ad T (va_A (p_ws aT ad T ij) sz) r) 0 0 (va_A (p_ws aT ad T ij) sz)
theorem gtb_cons {y : Nat} (h : mF y) : GoodIn gtb (Cond.code (mN y) (mB y) (mL y) (mR y) :: gtb) := by
  intro w hw
  rcases List.mem_cons.mp hw with rfl | hw
  · exact gtb_good _ h.1
  · exact gtb_good _ hw
section PC
variable {p : Program} {l : Launch} {e : Env} {R : Room} {s : State} {m : MethodId} {args : Array Value} {below : List Frame} {meth : Method} {c : Code} {Q : State → Prop} {cc : ByteArray} {own : String}
variable {D : va_G} {aT : Nat → ClassId} {A : Nat → Prop} {H0 : Heap} {ad0 : Nat → Nat} {N0 S0 : Nat} {pc : Nat} {L st : List Value} {T : PT} {ij : IJ} {α : Type} {r : α} {d : Nat}
theorem blind_wd {av : List Value} {sz : Nat} : FrameBlind (va_Pc av (fun U => U.heap.size = sz ∧ p_wd D aT ad0 T ij U)) := by
  intro a U g mk q
  obtain ⟨q0, q1, qP, qK, qD, qT, qN⟩ := q
  exact ⟨q0, q1, qP, va_K.moved (u := U) (U := U.calling g mk a) (Vm.Alike.refl U.vm) qK, qD, qT, nws_same (u := U) (U := U.calling g mk a) rfl qN⟩
theorem in_A {ad : Nat → Nat} {H : Heap} {locs : List Loc} (hAq : ∀ q, H0.size ≤ q → A q) (hD : va_D A (p_ws aT ad T ij)) (hS : va_S A H0 H locs) : ∀ q, va_A (p_ws aT ad T ij) H.size q → A q := by
  intro q hq
  rcases hq with ⟨k, E, hk⟩ | hq
  · exact hD.2 k _ hk
  · exact hAq q (Nat.le_trans hS.1 hq)
theorem g_out {k : List Value → IJ → Option α} {rk : Nat} {o : Option Rs} {rest : List Value} (hAq : ∀ q, H0.size ≤ q → A q)
    (hrun : ∀ r0, o = some r0 → ∀ ad H locs cells slots ls, p_ok D aT A H0 ad0 N0 S0 T ij ad H locs cells slots → pl_has ad ls L → ∃ a9 : Array Value, va_Run p l e R s m args below meth c H locs cells slots 0 0 (F0 m pc ls (st.map (sv ad))) (rest.map (sv ad)) (p_Q D aT ad T (va_A (p_ws aT ad T ij) H.size) r0 a9) (va_A (p_ws aT ad T ij) H.size))
    (h : p_out k rk o rest = some r) (hk : ∀ st' ij', k st' ij' = some r → GW (fun H locs cells slots g => W p l e R s m args below meth c H locs cells slots Q g) m (p_ok D aT A H0 ad0 N0 S0) (pc + 3) L st' T ij') : GW (fun H locs cells slots g => W p l e R s m args below meth c H locs cells slots Q g) m (p_ok D aT A H0 ad0 N0 S0) pc L st T ij := by
  unfold p_out at h
  split at h
  · unfold p_cv at h
    split at h
    · rename_i ij'
      intro ad H locs cells slots ls ho hl
      obtain ⟨a9, hr⟩ := hrun _ rfl ad H locs cells slots ls ho hl
      have hr' : va_Run p l e R s m args below meth c H locs cells slots 0 0 (F0 m pc ls (st.map (sv ad))) (rest.map (sv ad)) (va_Qv (fun _ => True) (p_B D aT ad T (va_A (p_ws aT ad T ij) H.size) ij') (va_A (p_ws aT ad T ij) H.size) a9) (va_A (p_ws aT ad T ij) H.size) := hr
      have hin := in_A hAq ho.2.1 ho.2.2.2.1
      refine va_callv hr' ho.2.2.2.1 (fun q _ h => hin q h) hin (fun u t H1 locs1 ht hvm hp hB hz hk1 hS => ?_)
      obtain ⟨hP, hD⟩ := hB
      rw [ht] at hP
      exact hk _ _ h ad H1 locs1 cells slots ls ⟨hP, hD.weaken (fun _ q _ hq => hin q.1 hq), ho.2.2.1, hS, ho.2.2.2.2⟩ hl
    · cases h
  · unfold p_ci at h
    split at h
    · rename_i v ij'
      intro ad H locs cells slots ls ho hl
      obtain ⟨a9, hr⟩ := hrun _ rfl ad H locs cells slots ls ho hl
      have hr' : va_Run p l e R s m args below meth c H locs cells slots 0 0 (F0 m pc ls (st.map (sv ad))) (rest.map (sv ad)) (va_Qi (fun x _ => x = v) (p_B D aT ad T (va_A (p_ws aT ad T ij) H.size) ij') (va_A (p_ws aT ad T ij) H.size) a9) (va_A (p_ws aT ad T ij) H.size) := hr
      have hin := in_A hAq ho.2.1 ho.2.2.2.1
      refine va_calli hr' ho.2.2.2.1 (fun q _ h => hin q h) hin (fun x u t H1 locs1 ht hvm hp hB hz hk1 hS => ?_)
      obtain ⟨hP, hD⟩ := hB
      rw [ht] at hP
      subst hp
      exact hk _ _ h ad H1 locs1 cells slots ls ⟨hP, hD.weaken (fun _ q _ hq => hin q.1 hq), ho.2.2.1, hS, ho.2.2.2.2⟩ hl
    · cases h
  · unfold p_cl at h
    split at h
    · rename_i v ij'
      intro ad H locs cells slots ls ho hl
      obtain ⟨a9, hr⟩ := hrun _ rfl ad H locs cells slots ls ho hl
      have hr' : va_Run p l e R s m args below meth c H locs cells slots 0 0 (F0 m pc ls (st.map (sv ad))) (rest.map (sv ad)) (va_Ql (fun x _ => x = v) (p_B D aT ad T (va_A (p_ws aT ad T ij) H.size) ij') (va_A (p_ws aT ad T ij) H.size) a9) (va_A (p_ws aT ad T ij) H.size) := hr
      have hin := in_A hAq ho.2.1 ho.2.2.2.1
      refine va_calll hr' ho.2.2.2.1 (fun q _ h => hin q h) hin (fun x u t H1 locs1 ht hvm hp hB hz hk1 hS => ?_)
      obtain ⟨hP, hD⟩ := hB
      rw [ht] at hP
      subst hp
      exact hk _ _ h ad H1 locs1 cells slots ls ⟨hP, hD.weaken (fun _ q _ hq => hin q.1 hq), ho.2.2.1, hS, ho.2.2.2.2⟩ hl
    · cases h
theorem st_split {ad : Nat → Nat} {b : Nat} : st.map (sv ad) = ((st.take b).reverse.map (sv ad)).reverse ++ (st.drop b).map (sv ad) := by
  rw [← List.map_reverse, List.reverse_reverse, ← List.map_append, List.take_append_drop]
theorem mc_room {y : Nat} (h : mF y) (hR : d + 1 ≤ R.frames ∧ 64 * (d + 1) ≤ R.locals) : (p_rm d).frames + 1 ≤ R.frames ∧ 8 + (mL y + 11) + (p_rm d).locals ≤ R.locals := by
  have h4 := h.2.2.2.1
  show d + 1 ≤ R.frames ∧ 8 + (mL y + 11) + 64 * d ≤ R.locals
  omega
theorem g_callS {O : Ora} {k : List Value → IJ → Option α} {y b rk idx : Nat} (hx : p.tables.exec = Jvm.exec) (hb : c.code = cc) (hml : c.maxLocals = L.length) (hown : s.vm.findClass own = some m.cls) (hts : ∀ w ∈ gtb, w.before args s = true) (hK : va_K D vwCl (p_tys aT) s) (hN : ∀ w ∈ nws, va_Nw w s) (hAq : ∀ q, H0.size ≤ q → A q)
    (hR : d + 1 ≤ R.frames ∧ 64 * (d + 1) ≤ R.locals) (hRc : T.1 ≤ N0 + R.cells ∧ T.2.1 ≤ S0 + R.slots) (hO : ∀ r0, O T y (st.take b).reverse ij = some r0 → MetC l d y T (st.take b).reverse ij r0)
    (hF : mF y) (hkd : mK y = 0) (hn : mP y b) (hlk : Cond.methodLink own idx (mN y) ∈ gtb ∨ ∃ host, Cond.methodLinkNest own idx (mN y) host ∈ nws) (hd : decode cc pc = .ok (.invokestatic idx, 3))
    (h : p_call O T ij y b rk st k = some r) (hk : ∀ st' ij', k st' ij' = some r → GW (fun H locs cells slots g => W p l e R s m args below meth c H locs cells slots Q g) m (p_ok D aT A H0 ad0 N0 S0) (pc + 3) L st' T ij') : GW (fun H locs cells slots g => W p l e R s m args below meth c H locs cells slots Q g) m (p_ok D aT A H0 ad0 N0 S0) pc L st T ij := by
  unfold p_call at h
  simp only [p_bif_dec] at h
  split at h
  · rename_i hbl
    split at h
    · rename_i hwd
      refine g_out hAq (fun r0 hr0 ad H locs cells slots ls ho hl => ?_) h hk
      have hM := hO r0 hr0 D aT ad H.size
      have hp : PreS s H (va_Pc ((st.take b).reverse.map (sv ad)) (fun U => U.heap.size = H.size ∧ p_wd D aT ad T ij U)) ((st.take b).reverse.map (sv ad)) :=
        ⟨blind_wd, fun U hU hW => ⟨rfl, by rw [hU], by rw [hU]; exact ho.1, va_K.moved hW.alike hK, ho.2.1.weaken (fun _ _ _ _ => trivial), ho.2.2.1, nws_warm hW hN⟩⟩
      have hlen : ((st.take b).reverse.map (sv ad)).length = b := by simp; omega
      have hw8 : 2 * (F0 m pc ls (st.map (sv ad))).monitorRoom + (((st.drop b).map (sv ad)).map fun v => v.category).sum ≤ 8 := lv_room (by rw [sv_words]; exact hwd)
      have hf : cells + 0 ≤ R.cells ∧ slots + 0 ≤ R.slots := by
        have h5 := ho.2.2.2.2.1
        have h6 := ho.2.2.2.2.2.1
        omega
      rcases hlk with hlk | ⟨host, hlk⟩
      · exact ⟨_, va_runS ⟨hx, hb, hml, hown, hts⟩ hM ⟨callB_of b hts (gtb_cons hF) rfl rfl rfl (hts _ hF.2.1) (hts _ hlk) ⟨hF.2.2.1.1, hF.2.2.1.2, hn⟩ (mc_room hF hR), hts _ (hF.2.2.2.2.2.1 hkd)⟩ hp rfl hlen hl.1 st_split hw8 hd hf⟩
      · exact ⟨_, va_runSN ⟨hx, hb, hml, hown, hts⟩ hM ⟨va_cnB b hts (gtb_cons hF) rfl rfl rfl (hN _ hlk) (hts _ hF.2.1) ⟨hF.2.2.1.1, hF.2.2.1.2, hn⟩ (mc_room hF hR), hts _ (hF.2.2.2.2.2.1 hkd), trivial⟩ hp rfl hlen hl.1 st_split hw8 hd hf⟩
    · cases h
  · cases h
theorem g_callV {O : Ora} {k : List Value → IJ → Option α} {y b rk idx cn : Nat} (hx : p.tables.exec = Jvm.exec) (hb : c.code = cc) (hml : c.maxLocals = L.length) (hown : s.vm.findClass own = some m.cls) (hts : ∀ w ∈ gtb, w.before args s = true) (hK : va_K D vwCl (p_tys aT) s) (hN : ∀ w ∈ nws, va_Nw w s) (hAq : ∀ q, H0.size ≤ q → A q)
    (hR : d + 1 ≤ R.frames ∧ 64 * (d + 1) ≤ R.locals) (hRc : T.1 ≤ N0 + R.cells ∧ T.2.1 ≤ S0 + R.slots) (hO : ∀ r0, O T y (st.take b).reverse ij = some r0 → MetC l d y T (st.take b).reverse ij r0)
    (hF : mF y) (hkd : mK y = cn + 1) (hb1 : 1 ≤ b) (hn : mP y (b - 1)) (hlk : Cond.methodLink own idx (mN y) ∈ gtb) (hd : decode cc pc = .ok (.invokevirtual idx, 3))
    (h : p_inw O T ij y b [rk, cn] st k = some r) (hk : ∀ st' ij', k st' ij' = some r → GW (fun H locs cells slots g => W p l e R s m args below meth c H locs cells slots Q g) m (p_ok D aT A H0 ad0 N0 S0) (pc + 3) L st' T ij') : GW (fun H locs cells slots g => W p l e R s m args below meth c H locs cells slots Q g) m (p_ok D aT A H0 ad0 N0 S0) pc L st T ij := by
  unfold p_inw at h
  dsimp only at h
  simp only [p_bif_dec] at h
  split at h
  · rename_i q as' has
    split at h
    · rename_i hq
      unfold p_call at h
      simp only [p_bif_dec] at h
      split at h
      · rename_i hbl
        split at h
        · rename_i hwd
          refine g_out hAq (fun r0 hr0 ad H locs cells slots ls ho hl => ?_) h hk
          have hM := hO r0 hr0 D aT ad H.size
          rw [has] at hM
          obtain ⟨k1, k2⟩ := kd_in hq (by have := (hF.2.2.2.2.2.2 cn hkd).2.2; omega)
          obtain ⟨ty0, f1, -⟩ := cf_all cn (hF.2.2.2.2.2.2 cn hkd).2.2
          have hc : (p_ws aT ad T ij)[q]? = some (ad q, .inr (cn, p_obj ad T ij q cn (p_kd T q).2)) := by
            rw [ws_get k1]; unfold p_cell; rw [k2, hq, if_pos (by have := (hF.2.2.2.2.2.2 cn hkd).2.2; omega)]
          have hp : PreV s H (cT cn).1 (ad q) (va_Pc ((Value.ref q :: as').map (sv ad)) (fun U => U.heap.size = H.size ∧ p_wd D aT ad T ij U)) (as'.map (sv ad)) :=
            ⟨blind_wd, va_recv hK ho.1 f1 hc, fun U hU hW => ⟨rfl, by rw [hU], by rw [hU]; exact ho.1, va_K.moved hW.alike hK, ho.2.1.weaken (fun _ _ _ _ => trivial), ho.2.2.1, nws_warm hW hN⟩⟩
          have hlen : (as'.map (sv ad)).length = b - 1 := by
            have h9 : (st.take b).reverse.length = b := by simp; omega
            rw [has] at h9
            simp only [List.length_cons] at h9
            simp; omega
          have hw8 : 2 * (F0 m pc ls (st.map (sv ad))).monitorRoom + (((st.drop b).map (sv ad)).map fun v => v.category).sum ≤ 8 := lv_room (by rw [sv_words]; exact hwd)
          have hstk : st.map (sv ad) = (as'.map (sv ad)).reverse ++ .ref (ad q) :: (st.drop b).map (sv ad) := by
            rw [st_split (b := b), has]
            simp [sv]
          have hf : cells + 0 ≤ R.cells ∧ slots + 0 ≤ R.slots := by
            have h5 := ho.2.2.2.2.1
            have h6 := ho.2.2.2.2.2.1
            omega
          exact ⟨_, va_runV ⟨hx, hb, hml, hown, hts⟩ hM ⟨callB_of (b - 1) hts (gtb_cons hF) rfl rfl rfl (hts _ hF.2.1) (hts _ hlk) ⟨hF.2.2.1.1, hF.2.2.1.2, hn⟩ (mc_room hF hR), hts _ (hF.2.2.2.2.2.2 cn hkd).1, hts _ (hF.2.2.2.2.2.2 cn hkd).2.1⟩ hp rfl hlen hl.1 hstk hw8 hd hf⟩
        · cases h
      · cases h
    · cases h
  · cases h
end PC
end
section
/-! ===== a step of the pure machine is a step of the machine ===== -/
def ck1 (o pc : Nat) (E : PE) : Bool := match E.1 with
  | .iconst n => decide (E.2.1 = pc + 1) && decide (Int32.ofInt n = E.2.2.2.2.1)
  | .bipush n => decide (E.2.1 = pc + 2) && decide ((Int8.ofInt n).toInt32 = E.2.2.2.2.1)
  | .sipush n => decide (E.2.1 = pc + 3) && decide ((Int16.ofInt n).toInt32 = E.2.2.2.2.1)
  | .ldc idx => decide (E.2.1 = pc + 2) && (cIk o).any (fun q => decide (q.1 = idx ∧ q.2.1 = E.2.2.2.2.1))
  | .ldc_w idx => decide (E.2.1 = pc + 3) && (cIk o).any (fun q => decide (q.1 = idx ∧ q.2.1 = E.2.2.2.2.1))
  | .lconst n => decide (E.2.1 = pc + 1) && decide (E.2.2.1 = n.val)
  | .ldc2_w idx => decide (E.2.1 = pc + 3) && (cJk o).any (fun q => decide (q.1 = idx ∧ q.2.1 = E.2.2.1))
  | .iload _ => decide (E.2.1 = pc + 2)
  | .lload _ => decide (E.2.1 = pc + 2)
  | .aload _ => decide (E.2.1 = pc + 2)
  | .istore _ => decide (E.2.1 = pc + 2)
  | .lstore _ => decide (E.2.1 = pc + 2)
  | .astore _ => decide (E.2.1 = pc + 2)
  | .iinc _ n => decide (E.2.1 = pc + 3) && decide (Int32.ofInt n = E.2.2.2.2.1)
  | .ifCond _ off => decide (E.2.1 = pc + 3) && decide ((pc : Int) + off = (E.2.2.1 : Int))
  | .if_icmp _ off => decide (E.2.1 = pc + 3) && decide ((pc : Int) + off = (E.2.2.1 : Int))
  | .goto off => decide (E.2.1 = pc + 3) && decide ((pc : Int) + off = (E.2.2.1 : Int))
  | .tableswitch dflt lo hi offs => decide ((pc : Int) + dflt = (E.2.2.1 : Int)) && (decide (lo = (E.2.2.2.1 : Int)) && (decide (hi + 1 = (E.2.2.2.1 : Int) + E.2.2.2.2.2.length) && (decide (offs.toList = E.2.2.2.2.2.map (fun (t : Nat) => (t : Int) - (pc : Int))) && decide (E.2.2.2.1 + E.2.2.2.2.2.length < 100000))))
  | .getfield idx => decide (E.2.1 = pc + 3) && ((flk o).any (fun q => decide (q.1 = idx ∧ q.2.1 = E.2.2.1 ∧ q.2.2.1 = E.2.2.2.1)) || (fnk o).any (fun q => decide (q.1 = idx ∧ q.2.1 = E.2.2.1 ∧ q.2.2.1 = E.2.2.2.1)))
  | .putfield idx => decide (E.2.1 = pc + 3) && (flk o).any (fun q => decide (q.1 = idx ∧ q.2.1 = E.2.2.1 ∧ q.2.2.1 = E.2.2.2.1))
  | .invokevirtual idx => decide (E.2.1 = pc + 3) && (match E.2.2.2.2.2 with
    | [_, cn] => decide (mK E.2.2.1 = cn + 1) && (decide (1 ≤ E.2.2.2.1) && (mlk o).any (fun q => decide (q.1 = idx ∧ q.2.1 = E.2.2.1 ∧ q.2.2.1 = E.2.2.2.1 - 1)))
    | _ => false)
  | .invokestatic idx => decide (E.2.1 = pc + 3) && (match E.2.2.2.2.2 with
    | [_] => decide (mK E.2.2.1 = 0) && ((mlk o).any (fun q => decide (q.1 = idx ∧ q.2.1 = E.2.2.1 ∧ q.2.2.1 = E.2.2.2.1)) || (mnk o).any (fun q => decide (q.1 = idx ∧ q.2.1 = E.2.2.1 ∧ q.2.2.1 = E.2.2.2.1)))
    | [_, k] => (spk o).any (fun q => decide (q.1 = idx ∧ q.2.1 = k))
    | _ => false)
  | _ => decide (E.2.1 = pc + 1)
def ckI (o : Nat) (cc : ByteArray) (pc : Nat) (E : PE) : Bool := decide (decode cc pc = .ok (E.1, E.2.1 - pc)) && ck1 o pc E
def retI : Option Value → Instr
  | none => .return_
  | some (.long _) => .lreturn
  | _ => .ireturn
theorem any_q {β : Type} {l : List β} {P : β → Prop} {f : β → Bool} (h : l.any f = true) (hf : ∀ q ∈ l, f q = true → P q) : ∃ q ∈ l, P q := by
  obtain ⟨q, h1, h2⟩ := List.any_eq_true.mp h
  exact ⟨q, h1, hf q h1 h2⟩
theorem p_sw_of {α : Type} {k : Nat → Option α} {dd : Nat} {x : Int32} {r : α} : ∀ (ts : List Nat) (n : Nat), p_sw k dd x n ts = some r → (∃ i t, ts[i]? = some t ∧ x = nI (n + i) ∧ k t = some r) ∨ ((∀ i, i < ts.length → x ≠ nI (n + i)) ∧ k dd = some r)
  | [], n, h => Or.inr ⟨fun i hi => absurd hi (Nat.not_lt_zero _), h⟩
  | t :: ts, n, h => by
    unfold p_sw at h
    split at h
    · rename_i hx
      exact Or.inl ⟨0, t, rfl, hx, h⟩
    · rename_i hx
      rcases p_sw_of ts (n + 1) h with ⟨i, t', h1, h2, h3⟩ | ⟨h1, h2⟩
      · exact Or.inl ⟨i + 1, t', h1, by rw [h2]; congr 1; omega, h3⟩
      · refine Or.inr ⟨fun i hi => ?_, h2⟩
        cases i with
        | zero => exact hx
        | succ i =>
          have h5 := h1 i (by simp only [List.length_cons] at hi; omega)
          intro h6
          exact h5 (by rw [h6]; congr 1; omega)
section PMain
variable {p : Program} {l : Launch} {e : Env} {R : Room} {s : State} {m : MethodId} {args : Array Value} {below : List Frame} {meth : Method} {c : Code} {Q : State → Prop} {cc : ByteArray} {o : Nat}
variable {D : va_G} {aT : Nat → ClassId} {A : Nat → Prop} {H0 : Heap} {ad0 : Nat → Nat} {N0 S0 : Nat} {pc : Nat} {L st : List Value} {T : PT} {ij : IJ} {α : Type} {r : α} {d nL : Nat}
/-- at an end -/
def RWr (Wf : Heap → List Loc → Nat → Nat → JFrame → Prop) (m : MethodId) (cc : ByteArray) (okp : PT → IJ → (Nat → Nat) → Heap → List Loc → Nat → Nat → Prop) (T : PT) (v : Option Value) (ij : IJ) : Prop :=
  ∀ (pc : Nat), decode cc pc = .ok (retI v, 1) → ∀ ad H locs cells slots (ls : Array Slot), okp T ij ad H locs cells slots → Wf H locs cells slots (F0 m pc ls v.toList)
theorem sw_sound {X : Int32} {rest : List Value} {dflt lo hi : Int} {offs : Array Int} {len : Nat} {a b : Nat} {ts : List Nat} {k : Nat → Option α} (hx : p.tables.exec = Jvm.exec) (hb : c.code = cc) (hdg : decode cc pc = .ok (.tableswitch dflt lo hi offs, len))
    (h1 : (pc : Int) + dflt = (a : Int)) (h2 : lo = (b : Int)) (h3 : hi + 1 = (b : Int) + ts.length) (h4 : offs.toList = ts.map (fun (t : Nat) => (t : Int) - (pc : Int))) (h5 : b + ts.length < 100000)
    (h : p_sw k a X b ts = some r) (hk : ∀ t, k t = some r → GW (fun H locs cells slots g => W p l e R s m args below meth c H locs cells slots Q g) m (p_ok D aT A H0 ad0 N0 S0) t L rest T ij) : GW (fun H locs cells slots g => W p l e R s m args below meth c H locs cells slots Q g) m (p_ok D aT A H0 ad0 N0 S0) pc L (.int X :: rest) T ij := by
  intro ad H locs cells slots ls ho hl
  rcases p_sw_of ts b h with ⟨i, t, e1, e2, e3⟩ | ⟨e1, e2⟩
  · have hi2 : i < ts.length := (List.getElem?_eq_some_iff.mp e1).1
    have hX : X.toInt = (b + i : Nat) := by rw [e2, nI_toInt (by omega)]
    refine lv_tableIn (off := (t : Int) - pc) (tgt := t) hx hb hdg (by omega) (by omega) ?_ (by omega) (hk t e3 ad H locs cells slots ls ho hl)
    have e4 : (X.toInt - lo).toNat = i := by omega
    rw [e4, ← Array.getElem?_toList, h4, List.getElem?_map, e1]
    rfl
  · refine lv_tableOut (tgt := a) hx hb hdg ?_ h1 (hk a e2 ad H locs cells slots ls ho hl)
    by_cases q1 : X.toInt < lo
    · exact Or.inl q1
    · right
      refine Int.not_le.mp (fun q2 => ?_)
      refine e1 (X.toInt - lo).toNat (by omega) ?_
      apply Int32.toInt_inj.mp
      rw [nI_toInt (by omega)]
      omega
theorem g_if1 {cd : ClassFile.Cond} {off : Int} {tgt : Nat} {kt kf : List Value → Option α} (hx : p.tables.exec = Jvm.exec) (hb : c.code = cc) (hd : decode cc pc = .ok (.ifCond cd off, 3)) (ht : (pc : Int) + off = (tgt : Int))
    (h : p_if1 cd st kt kf = some r) (hkt : ∀ st', kt st' = some r → GW (fun H locs cells slots g => W p l e R s m args below meth c H locs cells slots Q g) m (p_ok D aT A H0 ad0 N0 S0) tgt L st' T ij) (hkf : ∀ st', kf st' = some r → GW (fun H locs cells slots g => W p l e R s m args below meth c H locs cells slots Q g) m (p_ok D aT A H0 ad0 N0 S0) (pc + 3) L st' T ij) : GW (fun H locs cells slots g => W p l e R s m args below meth c H locs cells slots Q g) m (p_ok D aT A H0 ad0 N0 S0) pc L st T ij := by
  unfold p_if1 at h
  split at h
  · rename_i x rest
    intro ad H locs cells slots ls ho hl
    have h1 := fun hh => hkt rest hh ad H locs cells slots ls ho hl
    have h2 := fun hh => hkf rest hh ad H locs cells slots ls ho hl
    cases cd with
    | eq =>
      unfold p_br1 at h
      dsimp only at h
      exact lv_if_eq hx hb hd ht (fun q => h1 (by rw [if_pos q] at h; exact h)) (fun q => h2 (by rw [if_neg q] at h; exact h))
    | ne =>
      unfold p_br1 at h
      dsimp only at h
      exact lv_if_ne hx hb hd ht (fun q => h1 (by rw [if_neg q] at h; exact h)) (fun q => h2 (by rw [if_pos q] at h; exact h))
    | lt =>
      unfold p_br1 at h
      dsimp only at h
      exact lv_if_lt hx hb hd ht (fun q => h1 (by rw [if_pos q] at h; exact h)) (fun q => h2 (by rw [if_neg q] at h; exact h))
    | ge =>
      unfold p_br1 at h
      dsimp only at h
      exact lv_if_ge hx hb hd ht (fun q => h1 (by rw [if_pos q] at h; exact h)) (fun q => h2 (by rw [if_neg q] at h; exact h))
    | gt =>
      unfold p_br1 at h
      dsimp only at h
      exact lv_if_gt hx hb hd ht (fun q => h1 (by rw [if_pos q] at h; exact h)) (fun q => h2 (by rw [if_neg q] at h; exact h))
    | le =>
      unfold p_br1 at h
      dsimp only at h
      exact lv_if_le hx hb hd ht (fun q => h1 (by rw [if_pos q] at h; exact h)) (fun q => h2 (by rw [if_neg q] at h; exact h))
  · cases h
theorem g_if2 {cd : ClassFile.Cond} {off : Int} {tgt : Nat} {kt kf : List Value → Option α} (hx : p.tables.exec = Jvm.exec) (hb : c.code = cc) (hd : decode cc pc = .ok (.if_icmp cd off, 3)) (ht : (pc : Int) + off = (tgt : Int))
    (h : p_if2 cd st kt kf = some r) (hkt : ∀ st', kt st' = some r → GW (fun H locs cells slots g => W p l e R s m args below meth c H locs cells slots Q g) m (p_ok D aT A H0 ad0 N0 S0) tgt L st' T ij) (hkf : ∀ st', kf st' = some r → GW (fun H locs cells slots g => W p l e R s m args below meth c H locs cells slots Q g) m (p_ok D aT A H0 ad0 N0 S0) (pc + 3) L st' T ij) : GW (fun H locs cells slots g => W p l e R s m args below meth c H locs cells slots Q g) m (p_ok D aT A H0 ad0 N0 S0) pc L st T ij := by
  unfold p_if2 at h
  split at h
  · rename_i y x rest
    intro ad H locs cells slots ls ho hl
    have h1 := fun hh => hkt rest hh ad H locs cells slots ls ho hl
    have h2 := fun hh => hkf rest hh ad H locs cells slots ls ho hl
    cases cd with
    | eq =>
      unfold p_br2 at h
      dsimp only at h
      exact lv_icmp_eq hx hb hd ht (fun q => h1 (by rw [if_pos q] at h; exact h)) (fun q => h2 (by rw [if_neg q] at h; exact h))
    | ne =>
      unfold p_br2 at h
      dsimp only at h
      exact lv_icmp_ne hx hb hd ht (fun q => h1 (by rw [if_neg q] at h; exact h)) (fun q => h2 (by rw [if_pos q] at h; exact h))
    | lt =>
      unfold p_br2 at h
      dsimp only at h
      exact lv_icmp_lt hx hb hd ht (fun q => h1 (by rw [if_pos q] at h; exact h)) (fun q => h2 (by rw [if_neg q] at h; exact h))
    | ge =>
      unfold p_br2 at h
      dsimp only at h
      exact lv_icmp_ge hx hb hd ht (fun q => h1 (by rw [if_pos q] at h; exact h)) (fun q => h2 (by rw [if_neg q] at h; exact h))
    | gt =>
      unfold p_br2 at h
      dsimp only at h
      exact lv_icmp_gt hx hb hd ht (fun q => h1 (by rw [if_pos q] at h; exact h)) (fun q => h2 (by rw [if_neg q] at h; exact h))
    | le =>
      unfold p_br2 at h
      dsimp only at h
      exact lv_icmp_le hx hb hd ht (fun q => h1 (by rw [if_pos q] at h; exact h)) (fun q => h2 (by rw [if_neg q] at h; exact h))
  · cases h
theorem ckd {nx a b : Nat} {v : Int32} {ts : List Nat} {ins : Instr} (h : ckI o cc pc (ins, nx, a, b, v, ts) = true) : decode cc pc = .ok (ins, nx - pc) ∧ ck1 o pc (ins, nx, a, b, v, ts) = true := by
  unfold ckI at h
  rw [Bool.and_eq_true] at h
  exact ⟨of_decide_eq_true h.1, h.2⟩
theorem dec_n {nx k : Nat} {ins : Instr} (h : decode cc pc = .ok (ins, nx - pc)) (hn : nx = pc + k) : decode cc pc = .ok (ins, k) := by
  rw [hn, Nat.add_sub_cancel_left] at h
  exact h
set_option maxHeartbeats 4000000 in
theorem stpS_sound {O : Ora} {X : PX} {E : PE} {k : Nat → List Value → List Value → IJ → Option α} {rt : Option Value → IJ → Option α} (hx : p.tables.exec = Jvm.exec) (hb : c.code = cc) (hml : c.maxLocals = nL) (hown : s.vm.findClass (oN o) = some m.cls) (hts : ∀ w ∈ gtb, w.before args s = true) (hK : va_K D vwCl (p_tys aT) s) (hN : ∀ w ∈ nws, va_Nw w s)
    (hX : ∀ X', X = some X' → va_X (ad0 100000) X'.1 X'.2 s H0 ∧ ad0 100000 < H0.size ∧ ¬ A (ad0 100000) ∧ X'.1 < 100000) (hAq : ∀ q, H0.size ≤ q → A q) (hR : d + 1 ≤ R.frames ∧ 64 * (d + 1) ≤ R.locals) (hRc : T.1 ≤ N0 + R.cells ∧ T.2.1 ≤ S0 + R.slots) (hO : ∀ y as ij r0, O T y as ij = some r0 → MetC l d y T as ij r0)
    (hck : ckI o cc pc E = true) (h : stpS O X nL T E L st ij k rt = some r) (hk : ∀ pc' L' st' ij', k pc' L' st' ij' = some r → GW (fun H locs cells slots g => W p l e R s m args below meth c H locs cells slots Q g) m (p_ok D aT A H0 ad0 N0 S0) pc' L' st' T ij')
    (hrt : ∀ v ij', rt v ij' = some r → RWr (fun H locs cells slots g => W p l e R s m args below meth c H locs cells slots Q g) m cc (p_ok D aT A H0 ad0 N0 S0) T v ij') : GW (fun H locs cells slots g => W p l e R s m args below meth c H locs cells slots Q g) m (p_ok D aT A H0 ad0 N0 S0) pc L st T ij := by
  obtain ⟨ins, nx, a, b, v, ts⟩ := E
  obtain ⟨hd, hc⟩ := ckd hck
  cases ins with
  | iconst n =>
    have hc' := (Bool.and_eq_true _ _).mp hc
    have hn : nx = pc + 1 := of_decide_eq_true hc'.1
    have hv := of_decide_eq_true hc'.2
    subst hn
    have hd := dec_n hd rfl
    simp only [stpS, p_bif_dec, p_chk_ite] at h
    exact g_push (fun _ => rfl) (fun H locs cells slots ls rest hw => lv_iconst hx hb hd hv hw) (hk _ _ _ _ h)
  | bipush n =>
    have hc' := (Bool.and_eq_true _ _).mp hc
    have hn : nx = pc + 2 := of_decide_eq_true hc'.1
    have hv := of_decide_eq_true hc'.2
    subst hn
    have hd := dec_n hd rfl
    simp only [stpS, p_bif_dec, p_chk_ite] at h
    exact g_push (fun _ => rfl) (fun H locs cells slots ls rest hw => lv_bipush hx hb hd hv hw) (hk _ _ _ _ h)
  | sipush n =>
    have hc' := (Bool.and_eq_true _ _).mp hc
    have hn : nx = pc + 3 := of_decide_eq_true hc'.1
    have hv := of_decide_eq_true hc'.2
    subst hn
    have hd := dec_n hd rfl
    simp only [stpS, p_bif_dec, p_chk_ite] at h
    exact g_push (fun _ => rfl) (fun H locs cells slots ls rest hw => lv_sipush hx hb hd hv hw) (hk _ _ _ _ h)
  | ldc idx =>
    have hc' := (Bool.and_eq_true _ _).mp hc
    have hn : nx = pc + 2 := of_decide_eq_true hc'.1
    obtain ⟨q, hq, hv⟩ := List.any_eq_true.mp hc'.2
    obtain ⟨e1, e2⟩ := of_decide_eq_true hv
    subst hn
    have hd := dec_n hd rfl
    simp only [stpS, p_bif_dec, p_chk_ite] at h
    have hw9 := cI_all o q hq
    rw [e1, e2] at hw9
    exact g_push (fun _ => rfl) (fun H locs cells slots ls rest hw => lv_ldc hx hb hown (hts _ hw9) hd hw) (hk _ _ _ _ h)
  | ldc_w idx =>
    have hc' := (Bool.and_eq_true _ _).mp hc
    have hn : nx = pc + 3 := of_decide_eq_true hc'.1
    obtain ⟨q, hq, hv⟩ := List.any_eq_true.mp hc'.2
    obtain ⟨e1, e2⟩ := of_decide_eq_true hv
    subst hn
    have hd := dec_n hd rfl
    simp only [stpS, p_bif_dec, p_chk_ite] at h
    have hw9 := cI_all o q hq
    rw [e1, e2] at hw9
    exact g_push (fun _ => rfl) (fun H locs cells slots ls rest hw => lv_ldcw hx hb hown (hts _ hw9) hd hw) (hk _ _ _ _ h)
  | ldc2_w idx =>
    have hc' := (Bool.and_eq_true _ _).mp hc
    have hn : nx = pc + 3 := of_decide_eq_true hc'.1
    obtain ⟨q, hq, hv⟩ := List.any_eq_true.mp hc'.2
    obtain ⟨e1, e2⟩ := of_decide_eq_true hv
    subst hn
    have hd := dec_n hd rfl
    simp only [stpS, p_bif_dec, p_chk_ite] at h
    have hw9 := cJ_all o q hq
    rw [e1, e2] at hw9
    exact g_push (fun _ => rfl) (fun H locs cells slots ls rest hw => lv_ldc2 hx hb hown (hts _ hw9) hd hw) (hk _ _ _ _ h)
  | lconst n =>
    have hc' := (Bool.and_eq_true _ _).mp hc
    have hn : nx = pc + 1 := of_decide_eq_true hc'.1
    have hv := of_decide_eq_true hc'.2
    subst hn
    have hd := dec_n hd rfl
    simp only [stpS, p_bif_dec, p_chk_ite] at h
    exact g_push (v := .long (Int64.ofNat a)) (fun _ => rfl) (fun H locs cells slots ls rest hw => lv_lconst hx hb hd (by have hv : a = n.val := hv; rw [hv]) hw) (hk _ _ _ _ h)
  | iload i =>
    have hn : nx = pc + 2 := of_decide_eq_true hc
    subst hn
    have hd := dec_n hd rfl
    simp only [stpS, p_bif_dec, p_chk_ite] at h
    exact g_ldi (fun H locs cells slots ls x rest hl hw => lv_iload hx hb hd hl hw) h (fun st' hh => hk _ _ _ _ hh)
  | iload_n i =>
    have hn : nx = pc + 1 := of_decide_eq_true hc
    subst hn
    have hd := dec_n hd rfl
    simp only [stpS, p_bif_dec, p_chk_ite] at h
    exact g_ldi (fun H locs cells slots ls x rest hl hw => lv_iload_n hx hb hd rfl hl hw) h (fun st' hh => hk _ _ _ _ hh)
  | lload i =>
    have hn : nx = pc + 2 := of_decide_eq_true hc
    subst hn
    have hd := dec_n hd rfl
    simp only [stpS, p_bif_dec, p_chk_ite] at h
    exact g_ldl (fun H locs cells slots ls x rest hl hw => lv_lload hx hb hd hl hw) h (fun st' hh => hk _ _ _ _ hh)
  | lload_n i =>
    have hn : nx = pc + 1 := of_decide_eq_true hc
    subst hn
    have hd := dec_n hd rfl
    simp only [stpS, p_bif_dec, p_chk_ite] at h
    exact g_ldl (fun H locs cells slots ls x rest hl hw => lv_lload_n hx hb hd rfl hl hw) h (fun st' hh => hk _ _ _ _ hh)
  | aload i =>
    have hn : nx = pc + 2 := of_decide_eq_true hc
    subst hn
    have hd := dec_n hd rfl
    simp only [stpS, p_bif_dec, p_chk_ite] at h
    exact g_lda (fun H locs cells slots ls x rest hl hw => lv_aload hx hb hd hl hw) h (fun st' hh => hk _ _ _ _ hh)
  | aload_n i =>
    have hn : nx = pc + 1 := of_decide_eq_true hc
    subst hn
    have hd := dec_n hd rfl
    simp only [stpS, p_bif_dec, p_chk_ite] at h
    exact g_lda (fun H locs cells slots ls x rest hl hw => lv_aload_n hx hb hd rfl hl hw) h (fun st' hh => hk _ _ _ _ hh)
  | istore i =>
    have hn : nx = pc + 2 := of_decide_eq_true hc
    subst hn
    have hd := dec_n hd rfl
    simp only [stpS, p_bif_dec, p_chk_ite] at h
    exact g_sti (fun H locs cells slots ls nL lv x rest hl hi hw => lv_istore hx hb hd hl hi rfl hw) h (fun L' st' hh => hk _ _ _ _ hh)
  | istore_n i =>
    have hn : nx = pc + 1 := of_decide_eq_true hc
    subst hn
    have hd := dec_n hd rfl
    simp only [stpS, p_bif_dec, p_chk_ite] at h
    exact g_sti (fun H locs cells slots ls nL lv x rest hl hi hw => lv_istore_n hx hb hd rfl hl hi rfl hw) h (fun L' st' hh => hk _ _ _ _ hh)
  | lstore i =>
    have hn : nx = pc + 2 := of_decide_eq_true hc
    subst hn
    have hd := dec_n hd rfl
    simp only [stpS, p_bif_dec, p_chk_ite] at h
    exact g_stl (fun H locs cells slots ls nL lv x rest hl hi hw => lv_lstore hx hb hd hl hi rfl hw) h (fun L' st' hh => hk _ _ _ _ hh)
  | lstore_n i =>
    have hn : nx = pc + 1 := of_decide_eq_true hc
    subst hn
    have hd := dec_n hd rfl
    simp only [stpS, p_bif_dec, p_chk_ite] at h
    exact g_stl (fun H locs cells slots ls nL lv x rest hl hi hw => lv_lstore_n hx hb hd rfl hl hi rfl hw) h (fun L' st' hh => hk _ _ _ _ hh)
  | astore i =>
    have hn : nx = pc + 2 := of_decide_eq_true hc
    subst hn
    have hd := dec_n hd rfl
    simp only [stpS, p_bif_dec, p_chk_ite] at h
    exact g_sta (fun H locs cells slots ls nL lv x rest hl hi hw => lv_astore hx hb hd hl hi rfl hw) h (fun L' st' hh => hk _ _ _ _ hh)
  | astore_n i =>
    have hn : nx = pc + 1 := of_decide_eq_true hc
    subst hn
    have hd := dec_n hd rfl
    simp only [stpS, p_bif_dec, p_chk_ite] at h
    exact g_sta (fun H locs cells slots ls nL lv x rest hl hi hw => lv_astore_n hx hb hd rfl hl hi rfl hw) h (fun L' st' hh => hk _ _ _ _ hh)
  | iinc i n =>
    have hc' := (Bool.and_eq_true _ _).mp hc
    have hn : nx = pc + 3 := of_decide_eq_true hc'.1
    have hv := of_decide_eq_true hc'.2
    subst hn
    have hd := dec_n hd rfl
    simp only [stpS, p_bif_dec, p_chk_ite] at h
    exact g_inc (fun H locs cells slots ls nL kk lv x rest hl hi hkk hw => lv_iinc hx hb hd hl hkk (by rw [hv]) hi rfl hw) h (fun L' hh => hk _ _ _ _ hh)
  | iadd =>
    have hn : nx = pc + 1 := of_decide_eq_true hc
    subst hn
    have hd := dec_n hd rfl
    simp only [stpS, p_bif_dec, p_chk_ite] at h
    exact g_b2 (fun _ _ _ => rfl) (fun H locs cells slots ls x y rest hw => lv_iadd hx hb hd hw) h (fun st' hh => hk _ _ _ _ hh)
  | isub =>
    have hn : nx = pc + 1 := of_decide_eq_true hc
    subst hn
    have hd := dec_n hd rfl
    simp only [stpS, p_bif_dec, p_chk_ite] at h
    exact g_b2 (fun _ _ _ => rfl) (fun H locs cells slots ls x y rest hw => lv_isub hx hb hd hw) h (fun st' hh => hk _ _ _ _ hh)
  | imul =>
    have hn : nx = pc + 1 := of_decide_eq_true hc
    subst hn
    have hd := dec_n hd rfl
    simp only [stpS, p_bif_dec, p_chk_ite] at h
    exact g_b2 (fun _ _ _ => rfl) (fun H locs cells slots ls x y rest hw => lv_imul hx hb hd hw) h (fun st' hh => hk _ _ _ _ hh)
  | iand =>
    have hn : nx = pc + 1 := of_decide_eq_true hc
    subst hn
    have hd := dec_n hd rfl
    simp only [stpS, p_bif_dec, p_chk_ite] at h
    exact g_b2 (fun _ _ _ => rfl) (fun H locs cells slots ls x y rest hw => lv_iand hx hb hd hw) h (fun st' hh => hk _ _ _ _ hh)
  | ior =>
    have hn : nx = pc + 1 := of_decide_eq_true hc
    subst hn
    have hd := dec_n hd rfl
    simp only [stpS, p_bif_dec, p_chk_ite] at h
    exact g_b2 (fun _ _ _ => rfl) (fun H locs cells slots ls x y rest hw => lv_ior hx hb hd hw) h (fun st' hh => hk _ _ _ _ hh)
  | ixor =>
    have hn : nx = pc + 1 := of_decide_eq_true hc
    subst hn
    have hd := dec_n hd rfl
    simp only [stpS, p_bif_dec, p_chk_ite] at h
    exact g_b2 (fun _ _ _ => rfl) (fun H locs cells slots ls x y rest hw => lv_ixor hx hb hd hw) h (fun st' hh => hk _ _ _ _ hh)
  | ishl =>
    have hn : nx = pc + 1 := of_decide_eq_true hc
    subst hn
    have hd := dec_n hd rfl
    simp only [stpS, p_bif_dec, p_chk_ite] at h
    exact g_b2 (fun _ _ _ => rfl) (fun H locs cells slots ls x y rest hw => lv_ishl hx hb hd hw) h (fun st' hh => hk _ _ _ _ hh)
  | ishr =>
    have hn : nx = pc + 1 := of_decide_eq_true hc
    subst hn
    have hd := dec_n hd rfl
    simp only [stpS, p_bif_dec, p_chk_ite] at h
    exact g_b2 (fun _ _ _ => rfl) (fun H locs cells slots ls x y rest hw => lv_ishr hx hb hd hw) h (fun st' hh => hk _ _ _ _ hh)
  | iushr =>
    have hn : nx = pc + 1 := of_decide_eq_true hc
    subst hn
    have hd := dec_n hd rfl
    simp only [stpS, p_bif_dec, p_chk_ite] at h
    exact g_b2 (fun _ _ _ => rfl) (fun H locs cells slots ls x y rest hw => lv_iushr hx hb hd rfl hw) h (fun st' hh => hk _ _ _ _ hh)
  | ineg =>
    have hn : nx = pc + 1 := of_decide_eq_true hc
    subst hn
    have hd := dec_n hd rfl
    simp only [stpS, p_bif_dec, p_chk_ite] at h
    exact g_b1 (fun _ _ => rfl) (fun H locs cells slots ls x rest hw => lv_ineg hx hb hd hw) h (fun st' hh => hk _ _ _ _ hh)
  | i2l =>
    have hn : nx = pc + 1 := of_decide_eq_true hc
    subst hn
    have hd := dec_n hd rfl
    simp only [stpS, p_bif_dec, p_chk_ite] at h
    exact g_b1 (fun _ _ => rfl) (fun H locs cells slots ls x rest hw => lv_i2l hx hb hd rfl hw) h (fun st' hh => hk _ _ _ _ hh)
  | i2b =>
    have hn : nx = pc + 1 := of_decide_eq_true hc
    subst hn
    have hd := dec_n hd rfl
    simp only [stpS, p_bif_dec, p_chk_ite] at h
    exact g_b1 (fun _ _ => rfl) (fun H locs cells slots ls x rest hw => lv_i2b hx hb hd rfl hw) h (fun st' hh => hk _ _ _ _ hh)
  | i2c =>
    have hn : nx = pc + 1 := of_decide_eq_true hc
    subst hn
    have hd := dec_n hd rfl
    simp only [stpS, p_bif_dec, p_chk_ite] at h
    exact g_b1 (fun _ _ => rfl) (fun H locs cells slots ls x rest hw => lv_i2c hx hb hd rfl hw) h (fun st' hh => hk _ _ _ _ hh)
  | l2i =>
    have hn : nx = pc + 1 := of_decide_eq_true hc
    subst hn
    have hd := dec_n hd rfl
    simp only [stpS, p_bif_dec, p_chk_ite] at h
    exact g_l1 (fun _ _ => rfl) (fun H locs cells slots ls x rest hw => lv_l2i hx hb hd rfl hw) h (fun st' hh => hk _ _ _ _ hh)
  | ladd =>
    have hn : nx = pc + 1 := of_decide_eq_true hc
    subst hn
    have hd := dec_n hd rfl
    simp only [stpS, p_bif_dec, p_chk_ite] at h
    exact g_l2 (fun _ _ _ => rfl) (fun H locs cells slots ls x y rest hw => lv_ladd hx hb hd hw) h (fun st' hh => hk _ _ _ _ hh)
  | lsub =>
    have hn : nx = pc + 1 := of_decide_eq_true hc
    subst hn
    have hd := dec_n hd rfl
    simp only [stpS, p_bif_dec, p_chk_ite] at h
    exact g_l2 (fun _ _ _ => rfl) (fun H locs cells slots ls x y rest hw => lv_lsub hx hb hd hw) h (fun st' hh => hk _ _ _ _ hh)
  | lmul =>
    have hn : nx = pc + 1 := of_decide_eq_true hc
    subst hn
    have hd := dec_n hd rfl
    simp only [stpS, p_bif_dec, p_chk_ite] at h
    exact g_l2 (fun _ _ _ => rfl) (fun H locs cells slots ls x y rest hw => lv_lmul hx hb hd hw) h (fun st' hh => hk _ _ _ _ hh)
  | lcmp =>
    have hn : nx = pc + 1 := of_decide_eq_true hc
    subst hn
    have hd := dec_n hd rfl
    simp only [stpS, p_bif_dec, p_chk_ite] at h
    exact g_l2 (fun _ _ _ => rfl) (fun H locs cells slots ls x y rest hw => W.lcmp hx hb hd hw) h (fun st' hh => hk _ _ _ _ hh)
  | idiv =>
    have hn : nx = pc + 1 := of_decide_eq_true hc
    subst hn
    have hd := dec_n hd rfl
    simp only [stpS, p_bif_dec, p_chk_ite] at h
    split at h
    · split at h
      · rename_i hne
        intro ad H locs cells slots ls ho hl
        exact lv_idiv hx hb hd (nz_ne hne) (hk _ _ _ _ h ad H locs cells slots ls ho hl)
      · cases h
    · cases h
  | irem =>
    have hn : nx = pc + 1 := of_decide_eq_true hc
    subst hn
    have hd := dec_n hd rfl
    simp only [stpS, p_bif_dec, p_chk_ite] at h
    split at h
    · split at h
      · rename_i hne
        intro ad H locs cells slots ls ho hl
        exact lv_irem hx hb hd (nz_ne hne) (hk _ _ _ _ h ad H locs cells slots ls ho hl)
      · cases h
    · cases h
  | dup =>
    have hn : nx = pc + 1 := of_decide_eq_true hc
    subst hn
    have hd := dec_n hd rfl
    simp only [stpS, p_bif_dec, p_chk_ite] at h
    split at h
    · split at h
      · rename_i w r9 hcat
        intro ad H locs cells slots ls ho hl
        exact lv_dup hx hb hd (by rw [sv_cat]; exact hcat) (hk _ _ _ _ h ad H locs cells slots ls ho hl)
      · cases h
    · cases h
  | pop =>
    have hn : nx = pc + 1 := of_decide_eq_true hc
    subst hn
    have hd := dec_n hd rfl
    simp only [stpS, p_bif_dec, p_chk_ite] at h
    split at h
    · split at h
      · rename_i w r9 hcat
        intro ad H locs cells slots ls ho hl
        exact lv_pop hx hb hd (by rw [sv_cat]; exact hcat) (hk _ _ _ _ h ad H locs cells slots ls ho hl)
      · cases h
    · cases h
  | dup2 =>
    have hn : nx = pc + 1 := of_decide_eq_true hc
    subst hn
    have hd := dec_n hd rfl
    simp only [stpS, p_bif_dec, p_chk_ite] at h
    split at h
    · split at h
      · split at h
        · rename_i w w2 r9 hcat hcat2
          intro ad H locs cells slots ls ho hl
          exact lv_dup2_11 hx hb hd (by rw [sv_cat]; exact hcat) (by rw [sv_cat]; exact hcat2) (hk _ _ _ _ h ad H locs cells slots ls ho hl)
        · cases h
      · cases h
    · cases h
  | ifCond cd off =>
    have hc' := (Bool.and_eq_true _ _).mp hc
    have hn : nx = pc + 3 := of_decide_eq_true hc'.1
    have hv := of_decide_eq_true hc'.2
    subst hn
    have hd := dec_n hd rfl
    simp only [stpS, p_bif_dec, p_chk_ite] at h
    exact g_if1 hx hb hd hv h (fun st' hh => hk _ _ _ _ hh) (fun st' hh => hk _ _ _ _ hh)
  | if_icmp cd off =>
    have hc' := (Bool.and_eq_true _ _).mp hc
    have hn : nx = pc + 3 := of_decide_eq_true hc'.1
    have hv := of_decide_eq_true hc'.2
    subst hn
    have hd := dec_n hd rfl
    simp only [stpS, p_bif_dec, p_chk_ite] at h
    exact g_if2 hx hb hd hv h (fun st' hh => hk _ _ _ _ hh) (fun st' hh => hk _ _ _ _ hh)
  | goto off =>
    have hc' := (Bool.and_eq_true _ _).mp hc
    have hn : nx = pc + 3 := of_decide_eq_true hc'.1
    have hv := of_decide_eq_true hc'.2
    subst hn
    have hd := dec_n hd rfl
    simp only [stpS, p_bif_dec, p_chk_ite] at h
    intro ad H locs cells slots ls ho hl
    exact lv_goto hx hb hd hv (hk _ _ _ _ h ad H locs cells slots ls ho hl)
  | tableswitch dflt lo hi offs =>
    simp only [ck1, Bool.and_eq_true, decide_eq_true_eq] at hc
    obtain ⟨c1, c2, c3, c4, c5⟩ := hc
    simp only [stpS, p_bif_dec, p_chk_ite] at h
    split at h
    · exact sw_sound hx hb hd c1 c2 c3 c4 c5 h (fun t hh => hk _ _ _ _ hh)
    · cases h
  | iaload =>
    have hn : nx = pc + 1 := of_decide_eq_true hc
    subst hn
    have hd := dec_n hd rfl
    simp only [stpS, p_bif_dec, p_chk_ite] at h
    exact g_ald hx hb hK hX hd h (fun st' hh => hk _ _ _ _ hh)
  | baload =>
    have hn : nx = pc + 1 := of_decide_eq_true hc
    subst hn
    have hd := dec_n hd rfl
    simp only [stpS, p_bif_dec, p_chk_ite] at h
    exact g_bld hx hb hK hd h (fun st' hh => hk _ _ _ _ hh)
  | laload =>
    have hn : nx = pc + 1 := of_decide_eq_true hc
    subst hn
    have hd := dec_n hd rfl
    simp only [stpS, p_bif_dec, p_chk_ite] at h
    exact g_lld hx hb hK hd h (fun st' hh => hk _ _ _ _ hh)
  | aaload =>
    have hn : nx = pc + 1 := of_decide_eq_true hc
    subst hn
    have hd := dec_n hd rfl
    simp only [stpS, p_bif_dec, p_chk_ite] at h
    exact g_qld hx hb hK hd h (fun st' hh => hk _ _ _ _ hh)
  | iastore =>
    have hn : nx = pc + 1 := of_decide_eq_true hc
    subst hn
    have hd := dec_n hd rfl
    simp only [stpS, p_bif_dec, p_chk_ite] at h
    exact g_ast hx hb hK hd h (fun st' ij' hh => hk _ _ _ _ hh)
  | bastore =>
    have hn : nx = pc + 1 := of_decide_eq_true hc
    subst hn
    have hd := dec_n hd rfl
    simp only [stpS, p_bif_dec, p_chk_ite] at h
    exact g_bst hx hb hK hd h (fun st' ij' hh => hk _ _ _ _ hh)
  | lastore =>
    have hn : nx = pc + 1 := of_decide_eq_true hc
    subst hn
    have hd := dec_n hd rfl
    simp only [stpS, p_bif_dec, p_chk_ite] at h
    exact g_lst hx hb hK hd h (fun st' ij' hh => hk _ _ _ _ hh)
  | arraylength =>
    have hn : nx = pc + 1 := of_decide_eq_true hc
    subst hn
    have hd := dec_n hd rfl
    simp only [stpS, p_bif_dec, p_chk_ite] at h
    exact g_len hx hb hK hX hd h (fun st' hh => hk _ _ _ _ hh)
  | getfield idx =>
    have hc' := (Bool.and_eq_true _ _).mp hc
    have hn : nx = pc + 3 := of_decide_eq_true hc'.1
    subst hn
    have hd := dec_n hd rfl
    simp only [stpS, p_bif_dec, p_chk_ite] at h
    rcases (Bool.or_eq_true _ _).mp hc'.2 with hq | hq
    · obtain ⟨q, hq, hv⟩ := List.any_eq_true.mp hq
      obtain ⟨e1, e2, e3⟩ := of_decide_eq_true hv
      obtain ⟨⟨f1, f2⟩, f3⟩ := fl_all o q hq
      rw [e2] at f1 f2
      rw [e3] at f2
      rw [e1, e2, e3] at f3
      exact g_get hx hb hown hts hK hN f1 f2 (Or.inl f3) hd h (fun st' hh => hk _ _ _ _ hh)
    · obtain ⟨q, hq, hv⟩ := List.any_eq_true.mp hq
      obtain ⟨e1, e2, e3⟩ := of_decide_eq_true hv
      obtain ⟨⟨f1, f2⟩, f3⟩ := fn_all o q hq
      rw [e2] at f1 f2
      rw [e3] at f2
      rw [e1, e2, e3] at f3
      exact g_get hx hb hown hts hK hN f1 f2 (Or.inr ⟨_, f3⟩) hd h (fun st' hh => hk _ _ _ _ hh)
  | putfield idx =>
    have hc' := (Bool.and_eq_true _ _).mp hc
    have hn : nx = pc + 3 := of_decide_eq_true hc'.1
    subst hn
    have hd := dec_n hd rfl
    simp only [stpS, p_bif_dec, p_chk_ite] at h
    obtain ⟨q, hq, hv⟩ := List.any_eq_true.mp hc'.2
    obtain ⟨e1, e2, e3⟩ := of_decide_eq_true hv
    obtain ⟨⟨f1, f2⟩, f3⟩ := fl_all o q hq
    rw [e2] at f1 f2
    rw [e3] at f2
    rw [e1, e2, e3] at f3
    exact g_put hx hb hown hts hK f1 f2 f3 hd h (fun st' ij' hh => hk _ _ _ _ hh)
  | invokevirtual idx =>
    have hc' := (Bool.and_eq_true _ _).mp hc
    have hn : nx = pc + 3 := of_decide_eq_true hc'.1
    subst hn
    have hd := dec_n hd rfl
    have hc2 := hc'.2
    simp only [stpS, p_bif_dec, p_chk_ite] at h
    split at h
    · rename_i hLn
      dsimp only at hc2
      split at hc2
      · rename_i rk cn
        obtain ⟨g1, g2⟩ := (Bool.and_eq_true _ _).mp hc2
        obtain ⟨g2, g3⟩ := (Bool.and_eq_true _ _).mp g2
        obtain ⟨q, hq, hv⟩ := List.any_eq_true.mp g3
        obtain ⟨e1, e2, e3⟩ := of_decide_eq_true hv
        obtain ⟨f1, f2, f3⟩ := ml_all o q hq
        rw [e2] at f1 f2
        rw [e3] at f1
        rw [e1, e2] at f3
        exact g_callV hx hb (hml.trans hLn.symm) hown hts hK hN hAq hR hRc (fun r0 hr0 => hO _ _ _ _ hr0) f2 (of_decide_eq_true g1) (of_decide_eq_true g2) f1 f3 hd h (fun st' ij' hh => hk _ _ _ _ hh)
      · cases hc2
    · cases h
  | invokestatic idx =>
    have hc' := (Bool.and_eq_true _ _).mp hc
    have hn : nx = pc + 3 := of_decide_eq_true hc'.1
    subst hn
    have hd := dec_n hd rfl
    have hc2 := hc'.2
    simp only [stpS, p_bif_dec, p_chk_ite] at h
    split at h
    · rename_i hLn
      dsimp only at hc2
      split at hc2
      · rename_i rk
        obtain ⟨g1, g2⟩ := (Bool.and_eq_true _ _).mp hc2
        rcases (Bool.or_eq_true _ _).mp g2 with g3 | g3
        · obtain ⟨q, hq, hv⟩ := List.any_eq_true.mp g3
          obtain ⟨e1, e2, e3⟩ := of_decide_eq_true hv
          obtain ⟨f1, f2, f3⟩ := ml_all o q hq
          rw [e2] at f1 f2
          rw [e3] at f1
          rw [e1, e2] at f3
          exact g_callS hx hb (hml.trans hLn.symm) hown hts hK hN hAq hR hRc (fun r0 hr0 => hO _ _ _ _ hr0) f2 (of_decide_eq_true g1) f1 (Or.inl f3) hd h (fun st' ij' hh => hk _ _ _ _ hh)
        · obtain ⟨q, hq, hv⟩ := List.any_eq_true.mp g3
          obtain ⟨e1, e2, e3⟩ := of_decide_eq_true hv
          obtain ⟨f1, f2, f3⟩ := mn_all o q hq
          rw [e2] at f1 f2
          rw [e3] at f1
          rw [e1, e2] at f3
          exact g_callS hx hb (hml.trans hLn.symm) hown hts hK hN hAq hR hRc (fun r0 hr0 => hO _ _ _ _ hr0) f2 (of_decide_eq_true g1) f1 (Or.inr ⟨_, f3⟩) hd h (fun st' ij' hh => hk _ _ _ _ hh)
      · rename_i rk kd
        obtain ⟨q, hq, hv⟩ := List.any_eq_true.mp hc2
        obtain ⟨e1, e2⟩ := of_decide_eq_true hv
        have f3 := sp_all o q hq
        rw [e1, e2] at f3
        unfold p_inv at h
        simp only [p_bif_dec] at h
        split at h
        · rename_i heq
          cases heq
        · rename_i heq
          cases heq
          split at h
          · rename_i hw8
            unfold p_b2 at h
            split at h
            · intro ad H locs cells slots ls ho hl
              have hw := sv_words ad
              refine va_mmax hx hb (by rw [hml, ← hLn, hl.1]) hown (hts _ f3) (hts _ w_mxs) (hts _ w_mai) (hts _ w_mxc) (by omega) ?_ (by have h5 := ho.2.2.2.2.1; omega) (by have h6 := ho.2.2.2.2.2.1; omega) hd (hk _ _ _ _ h ad H locs cells slots ls ho hl)
              rename_i r9
              have hw9 := hw r9
              have hw7 : p_words r9 ≤ 8 := by
                unfold p_words at hw8 ⊢
                rw [List.map_cons, List.map_cons, List.sum_cons, List.sum_cons] at hw8
                omega
              omega
            · cases h
          · cases h
        · rename_i heq
          cases heq
          split at h
          · rename_i hw8
            unfold p_b2 at h
            split at h
            · intro ad H locs cells slots ls ho hl
              have hw := sv_words ad
              refine va_mmin hx hb (by rw [hml, ← hLn, hl.1]) hown (hts _ f3) (hts _ w_mis) (hts _ w_mai) (hts _ w_mic) (by omega) ?_ (by have h5 := ho.2.2.2.2.1; omega) (by have h6 := ho.2.2.2.2.2.1; omega) hd (hk _ _ _ _ h ad H locs cells slots ls ho hl)
              rename_i r9
              have hw9 := hw r9
              have hw7 : p_words r9 ≤ 8 := by
                unfold p_words at hw8 ⊢
                rw [List.map_cons, List.map_cons, List.sum_cons, List.sum_cons] at hw8
                omega
              omega
            · cases h
          · cases h
        · rename_i heq
          cases heq
          exact g_acp hx hb (hml.trans hLn.symm) hown hts hK ⟨f3, w_acn, w_acs, w_aci⟩ (by omega) hd h (fun st' ij' hh => hk _ _ _ _ hh)
        · cases h
      · cases hc2
    · cases h
  | ireturn =>
    have hn : nx = pc + 1 := of_decide_eq_true hc
    subst hn
    have hd := dec_n hd rfl
    simp only [stpS, p_bif_dec, p_chk_ite] at h
    split at h
    · intro ad H locs cells slots ls ho hl
      exact hrt _ _ h pc hd ad H locs cells slots ls ho
    · cases h
  | lreturn =>
    have hn : nx = pc + 1 := of_decide_eq_true hc
    subst hn
    have hd := dec_n hd rfl
    simp only [stpS, p_bif_dec, p_chk_ite] at h
    split at h
    · intro ad H locs cells slots ls ho hl
      exact hrt _ _ h pc hd ad H locs cells slots ls ho
    · cases h
  | return_ =>
    have hn : nx = pc + 1 := of_decide_eq_true hc
    subst hn
    have hd := dec_n hd rfl
    simp only [stpS, p_bif_dec, p_chk_ite] at h
    split at h
    · intro ad H locs cells slots ls ho hl
      exact hrt _ _ h pc hd ad H locs cells slots ls ho
    · cases h
  | _ =>
    have h' : (none : Option α) = some r := h
    cases h'
end PMain
end
section
/-! ===== runs of the pure machine are runs of the machine; a method's contract ===== -/
def rtV (v : Option Value) (ij : IJ) : Option Rs := match v with
  | none => some (none, ij)
  | _ => none
def rtI (v : Option Value) (ij : IJ) : Option Rs := match v with
  | some (.int x) => some (some (.int x), ij)
  | _ => none
def rtJ (v : Option Value) (ij : IJ) : Option Rs := match v with
  | some (.long x) => some (some (.long x), ij)
  | _ => none
def rtZ (v : Option Value) (ij : IJ) : Option Rs := match v with
  | some (.int x) => p_chk (p_01 x) (some (some (.int x), ij))
  | _ => none
def p_rt (ret : Option FieldType) : Option Value → IJ → Option Rs := match ret with
  | none => rtV
  | some .int => rtI
  | some .long => rtJ
  | some .boolean => rtZ
  | _ => fun _ _ => none
def p_slots : List Value → List Value
  | [] => []
  | v :: vs => if v.category = 2 then v :: un :: p_slots vs else v :: p_slots vs
def p_init (n : Nat) (as : List Value) : List Value := p_slots as ++ List.replicate (n - (p_slots as).length) un
theorem slots_sl (ad : Nat → Nat) : ∀ as : List Value, (lg_sl (as.map (sv ad))).length = (p_slots as).length
  | [] => rfl
  | v :: vs => by
    have h := slots_sl ad vs
    unfold lg_sl at h ⊢
    simp only [List.map_cons, List.flatMap_cons, List.length_append, p_slots, sv_cat]
    by_cases hc : v.category = 2
    · rw [if_pos hc, if_pos hc, h]; simp only [List.length_cons, List.length_nil]; omega
    · rw [if_neg hc, if_neg hc, h]; simp only [List.length_cons, List.length_nil]; omega
theorem slots_at (ad : Nat → Nat) : ∀ (as : List Value) (i k : Nat) (v : Value), (p_slots as)[i]? = some v → (∀ n, v ≠ .retAddr n) → (k + i, sv ad v) ∈ lv_args k (as.map (sv ad))
  | [], i, k, v, h, hv => by simp [p_slots] at h
  | w :: vs, i, k, v, h, hv => by
    unfold p_slots at h
    unfold lv_args
    simp only [List.map_cons, sv_cat]
    by_cases hc : w.category = 2
    · rw [if_pos hc] at h
      match i, h with
      | 0, h => cases h; exact List.mem_cons_self
      | 1, h => cases h; exact absurd rfl (hv 0)
      | i + 2, h =>
        have h2 := slots_at ad vs i (k + 2) v h hv
        refine List.mem_cons_of_mem _ ?_
        rw [hc]
        have e : k + 2 + i = k + (i + 2) := by omega
        rw [e] at h2
        exact h2
    · rw [if_neg hc] at h
      match i, h with
      | 0, h => cases h; exact List.mem_cons_self
      | i + 1, h =>
        have h2 := slots_at ad vs i (k + 1) v h hv
        refine List.mem_cons_of_mem _ ?_
        have hc1 : w.category = 1 := by rcases lv_cat w with q | q <;> omega
        rw [hc1]
        have e : k + 1 + i = k + (i + 1) := by omega
        rw [e] at h2
        exact h2
theorem init_has {ad : Nat → Nat} {n : Nat} {as : List Value} (h : (p_slots as).length ≤ n) : pl_has ad ((lg_sl (as.map (sv ad)) ++ List.replicate (n - (lg_sl (as.map (sv ad))).length) Slot.unset).toArray) (p_init n as) := by
  have h0 := lv_entry (as.map (sv ad)) (n := n) (by rw [slots_sl]; exact h)
  refine ⟨by rw [h0.1]; unfold p_init; simp; omega, h0.2.1, fun i v hi hv => ?_⟩
  unfold p_init at hi
  by_cases hlt : i < (p_slots as).length
  · rw [List.getElem?_append_left hlt] at hi
    have h1 := slots_at ad as i 0 v hi hv
    rw [Nat.zero_add] at h1
    exact h0.2.2 _ h1
  · rw [List.getElem?_append_right (by omega)] at hi
    have h2 := List.mem_of_getElem? hi
    rw [List.mem_replicate] at h2
    exact absurd h2.2 (hv 0)
section PR
variable {p : Program} {l : Launch} {e : Env} {R : Room} {s : State} {m : MethodId} {args : Array Value} {below : List Frame} {meth : Method} {c : Code} {Q : State → Prop} {cc : ByteArray} {o : Nat}
variable {D : va_G} {aT : Nat → ClassId} {A : Nat → Prop} {H0 : Heap} {ad0 : Nat → Nat} {N0 S0 : Nat} {T : PT} {α : Type} {r : α} {d nL : Nat}
theorem blk_sound {O : Ora} {X : PX} {C : Nat → Option PE} {cuts : Nat → Option (List Bool)} {K : Nat → List Value → List Value → IJ → Option α} {rt : Option Value → IJ → Option α} (hx : p.tables.exec = Jvm.exec) (hb : c.code = cc) (hml : c.maxLocals = nL) (hown : s.vm.findClass (oN o) = some m.cls) (hts : ∀ w ∈ gtb, w.before args s = true) (hK : va_K D vwCl (p_tys aT) s) (hN : ∀ w ∈ nws, va_Nw w s)
    (hX : ∀ X', X = some X' → va_X (ad0 100000) X'.1 X'.2 s H0 ∧ ad0 100000 < H0.size ∧ ¬ A (ad0 100000) ∧ X'.1 < 100000) (hAq : ∀ q, H0.size ≤ q → A q) (hR : d + 1 ≤ R.frames ∧ 64 * (d + 1) ≤ R.locals) (hRc : T.1 ≤ N0 + R.cells ∧ T.2.1 ≤ S0 + R.slots) (hO : ∀ y as ij r0, O T y as ij = some r0 → MetC l d y T as ij r0)
    (hC : ∀ pc E, C pc = some E → ckI o cc pc E = true)
    (hK1 : ∀ pc' L' st' ij', K pc' L' st' ij' = some r → GW (fun H locs cells slots g => W p l e R s m args below meth c H locs cells slots Q g) m (p_ok D aT A H0 ad0 N0 S0) pc' L' st' T ij')
    (hrt : ∀ v ij', rt v ij' = some r → RWr (fun H locs cells slots g => W p l e R s m args below meth c H locs cells slots Q g) m cc (p_ok D aT A H0 ad0 N0 S0) T v ij') :
    ∀ (f pc : Nat) (L st : List Value) (ij : IJ), blkS O X nL T C cuts K rt f pc L st ij = some r → GW (fun H locs cells slots g => W p l e R s m args below meth c H locs cells slots Q g) m (p_ok D aT A H0 ad0 N0 S0) pc L st T ij := by
  intro f
  induction f with
  | zero =>
    intro pc L st ij h
    have h' : (none : Option α) = some r := h
    cases h'
  | succ f ih =>
    intro pc L st ij h
    have h' : (match C pc with
      | none => none
      | some E => stpS O X nL T E L st ij (fun pc L st ij => match cuts pc with
        | some km => p_bif (decide (km.length = L.length)) (K pc (p_msk km L) st ij) none
        | none => blkS O X nL T C cuts K rt f pc L st ij) rt) = some r := h
    cases hE : C pc with
    | none => rw [hE] at h'; cases h'
    | some E =>
      rw [hE] at h'
      refine stpS_sound hx hb hml hown hts hK hN hX hAq hR hRc hO (hC pc E hE) h' (fun pc' L' st' ij' hk => ?_) hrt
      split at hk
      · rw [p_bif_dec] at hk
        split at hk
        · rename_i km _ hkm
          intro ad H locs cells slots ls ho hl
          exact hK1 _ _ _ _ hk ad H locs cells slots ls ho (pl_msk hkm hl)
        · cases hk
      · exact ih _ _ _ _ hk
theorem run_sound {O : Ora} {X : PX} {C : Nat → Option PE} {cuts : Nat → Option (List Bool)} {rt : Option Value → IJ → Option α} {f : Nat} (hx : p.tables.exec = Jvm.exec) (hb : c.code = cc) (hml : c.maxLocals = nL) (hown : s.vm.findClass (oN o) = some m.cls) (hts : ∀ w ∈ gtb, w.before args s = true) (hK : va_K D vwCl (p_tys aT) s) (hN : ∀ w ∈ nws, va_Nw w s)
    (hX : ∀ X', X = some X' → va_X (ad0 100000) X'.1 X'.2 s H0 ∧ ad0 100000 < H0.size ∧ ¬ A (ad0 100000) ∧ X'.1 < 100000) (hAq : ∀ q, H0.size ≤ q → A q) (hR : d + 1 ≤ R.frames ∧ 64 * (d + 1) ≤ R.locals) (hRc : T.1 ≤ N0 + R.cells ∧ T.2.1 ≤ S0 + R.slots) (hO : ∀ y as ij r0, O T y as ij = some r0 → MetC l d y T as ij r0)
    (hC : ∀ pc E, C pc = some E → ckI o cc pc E = true)
    (hrt : ∀ v ij', rt v ij' = some r → RWr (fun H locs cells slots g => W p l e R s m args below meth c H locs cells slots Q g) m cc (p_ok D aT A H0 ad0 N0 S0) T v ij') :
    ∀ (n pc : Nat) (L st : List Value) (ij : IJ), runS O X nL T C cuts rt f n pc L st ij = some r → GW (fun H locs cells slots g => W p l e R s m args below meth c H locs cells slots Q g) m (p_ok D aT A H0 ad0 N0 S0) pc L st T ij := by
  intro n
  induction n with
  | zero =>
    intro pc L st ij h
    have h' : (none : Option α) = some r := h
    cases h'
  | succ n ih =>
    intro pc L st ij h
    exact blk_sound (K := runS O X nL T C cuts rt f n) hx hb hml hown hts hK hN hX hAq hR hRc hO hC (fun _ _ _ _ hk => ih _ _ _ _ hk) hrt f pc L st ij h
end PR
/-- a method's contract out of a run of the pure machine -/
theorem met_of {l : Launch} {d y o : Nat} {T : PT} {O : Ora} {C : Nat → Option PE} {cuts : Nat → Option (List Bool)} {f n : Nat} {as : List Value} {ij : IJ} {r : Rs} (hF : mF y) (ho : (mN y).cls = oN o) (hC : ∀ pc E, C pc = some E → ckI o (mB y) pc E = true) (hrk : mR y = none ∨ mR y = some .int ∨ mR y = some .long ∨ mR y = some .boolean)
    (hO : ∀ y as ij r0, O T y as ij = some r0 → MetC l d y T as ij r0) (hlen : (p_slots as).length ≤ mL y) (h : runS O none (mL y) T C cuts (p_rt (mR y)) f n 0 (p_init (mL y) as) [] ij = some r) : MetC l (d + 1) y T as ij r := by
  intro D aT ad sz
  refine Met.ofW (cc := mB y) (maxL := mL y) (ret := mR y) hF.2.2.2.2.1 rfl ?_
  intro p e s m args below meth c s₁ B hml hv
  obtain ⟨rfl, hsz, hP, hK, hD0, hT, hN⟩ := hv
  have hx := B.exec
  have hb := B.bytes
  have hr := B.returns
  have hts := atoms_spec (ws := Cond.code (mN y) (mB y) (mL y) (mR y) :: gtb) B.pre
  have hown : s.vm.findClass (oN o) = some m.cls := by rw [← ho]; exact findClass_of_methodNamed B.named
  have hlocks := B.notSynchronized
  subst hsz
  have hD : va_D (va_A (p_ws aT ad T ij) s.heap.size) (p_ws aT ad T ij) := hD0.self (sz := s.heap.size)
  rw [lg_entry_eq]
  refine run_sound (A := va_A (p_ws aT ad T ij) s.heap.size) (H0 := s.heap) (ad0 := ad) (N0 := T.1) (S0 := T.2.1) (D := D) (aT := aT) (d := d) hx hb hml hown (fun w hw => hts w (List.mem_cons_of_mem _ hw)) hK hN (fun X' hX' => by cases hX') (fun q hq => Or.inr hq) ⟨Nat.le_refl _, Nat.le_refl _⟩ ⟨Nat.le_add_right _ _, Nat.le_add_right _ _⟩ hO hC ?_ n 0 _ [] ij h ad s.heap [] 0 0 _ ⟨hP, hD, hT, va_S.rf, Nat.zero_add _, Nat.zero_add _, fun _ _ => rfl⟩ (init_has hlen)
  intro v ij' hv pc hdec ad' H' locs' cells' slots' ls' hok
  have c0 : cells' = 0 := by have := hok.2.2.2.2.1; omega
  have s0 : slots' = 0 := by have := hok.2.2.2.2.2.1; omega
  subst c0; subst s0
  have hS := hok.2.2.2.1
  have hpost : ∀ t : State, t.heap = H' → p_B D aT ad T (va_A (p_ws aT ad T ij) s.heap.size) ij' () t := by
    intro t ht
    have e1 : p_ws aT ad' T ij' = p_ws aT ad T ij' := by
      have h2 := hok.2.2.2.2.2.2
      unfold p_ws
      apply List.map_congr_left
      intro k hk
      have hk2 : k < T.1 := List.mem_range.mp hk
      rw [h2 k (Or.inl hk2)]
      have h3 : ∀ k j, p_ro ad' (T.2.2.2 k j) = p_ro ad (T.2.2.2 k j) := by
        intro k j
        have h4 := hT k j
        unfold p_ro
        split
        · rfl
        · rename_i r9 hr9
          rw [h2 r9 (Or.inl (by omega))]
      have h5 : ∀ k j, p_rv ad' (T.2.2.2 k j) = p_rv ad (T.2.2.2 k j) := by
        intro k j
        have h4 := hT k j
        unfold p_rv
        split
        · rfl
        · rename_i r9 hr9
          rw [h2 r9 (Or.inl (by omega))]
      unfold p_cell p_obj p_fv
      simp only [h3, h5]
    unfold p_B
    rw [← e1, ht]
    exact ⟨hok.1, hok.2.1⟩
  rcases hrk with hrk | hrk | hrk | hrk
  · rw [hrk] at hv
    have hv' : rtV v ij' = some r := hv
    unfold rtV at hv'
    split at hv'
    · cases hv'
      exact W.vret hx hb (hr.trans hrk) (fun t ht hW => ⟨⟨(), rfl, trivial, hpost t ht⟩, hS.F ht⟩) hS.2.2 hdec
    · cases hv'
  · rw [hrk] at hv
    have hv' : rtI v ij' = some r := hv
    unfold rtI at hv'
    split at hv'
    · rename_i x
      cases hv'
      exact W.iret (v := x) hx hb (hr.trans hrk) (fun t ht hW => ⟨⟨x, (), rfl, rfl, hpost t ht⟩, hS.F ht⟩) hS.2.2 hdec
    · cases hv'
  · rw [hrk] at hv
    have hv' : rtJ v ij' = some r := hv
    unfold rtJ at hv'
    split at hv'
    · rename_i x
      cases hv'
      exact W.lret (v := x) hx hb (hr.trans hrk) (fun t ht hW => ⟨⟨x, (), rfl, rfl, hpost t ht⟩, hS.F ht⟩) hS.2.2 hdec
    · cases hv'
  · rw [hrk] at hv
    have hv' : rtZ v ij' = some r := hv
    unfold rtZ at hv'
    split at hv'
    · rename_i x
      rw [p_chk_ite] at hv'
      split at hv'
      · rename_i hn
        have hn := p01_nar hn
        cases hv'
        exact W.zret (v := x) (ty := .boolean) hx hb (hr.trans hrk) (nar_b hn) (fun t ht hW => ⟨⟨x, (), rfl, rfl, hpost t ht⟩, hS.F ht⟩) hS.2.2 hdec
      · cases hv'
    · cases hv'
def ckT (o : Nat) (cc : ByteArray) (C : Nat → Option PE) (pc : Nat) : Bool := match C pc with
  | some E => ckI o cc pc E
  | none => true
theorem ck_tab {o : Nat} {cc : ByteArray} {C : Nat → Option PE} {n : Nat} (h : (List.range n).all (ckT o cc C) = true) (hn : ∀ pc, ¬ pc < n → C pc = none) : ∀ pc E, C pc = some E → ckI o cc pc E = true := by
  intro pc E hE
  by_cases hp : pc < n
  · have h1 := List.all_eq_true.mp h pc (List.mem_range.mpr hp)
    unfold ckT at h1
    rw [hE] at h1
    exact h1
  · rw [hn pc hp] at hE
    cases hE
end
section
/-- the cells behind both constructors: kinds and lengths, references (one more than the cell's number; 0: none) -/
def t_sh (k : Nat) : Nat × Nat := (if k < 121 then (if k < 60 then (if k < 30 then (if k < 15 then (if k < 7 then (if k < 3 then (if k < 1 then (11, 13) else (if k < 2 then (9, 2) else (101, 2000))) else (if k < 5 then (if k < 4 then (4, 11) else (3, 18)) else (100, 10))) else (if k < 11 then (100, 10) else (if k < 13 then (100, 4) else (if k < 14 then (100, 4) else (0, 4))))) else (if k < 22 then (if k < 18 then (if k < 16 then (100, 408) else (if k < 17 then (100, 32) else (100, 4))) else (if k < 20 then (if k < 19 then (10, 5) else (100, 401)) else (if k < 21 then (100, 401) else (103, 401)))) else (if k < 26 then (if k < 24 then (if k < 23 then (103, 23) else (103, 14)) else (if k < 25 then (100, 14) else (3, 18))) else (100, 10)))) else (if k < 45 then (if k < 37 then (if k < 33 then (if k < 31 then (100, 10) else (if k < 32 then (100, 10) else (100, 4))) else (if k < 35 then (100, 4) else (if k < 36 then (0, 4) else (100, 408)))) else (if k < 41 then (if k < 39 then (if k < 38 then (100, 32) else (100, 4)) else (if k < 40 then (8, 4) else (100, 10))) else (if k < 43 then (if k < 42 then (100, 20) else (8, 4)) else (if k < 44 then (100, 10) else (100, 20))))) else (if k < 52 then (if k < 48 then (if k < 46 then (2, 3) else (if k < 47 then (104, 40) else (8, 4))) else (if k < 50 then (if k < 49 then (100, 10) else (100, 20)) else (if k < 51 then (8, 4) else (100, 10)))) else (if k < 56 then (if k < 54 then (if k < 53 then (100, 20) else (8, 4)) else (if k < 55 then (100, 10) else (100, 20))) else (if k < 58 then (if k < 57 then (8, 4) else (100, 10)) else (if k < 59 then (100, 20) else (8, 4))))))) else (if k < 90 then (if k < 75 then (if k < 67 then (if k < 63 then (if k < 61 then (100, 10) else (if k < 62 then (100, 20) else (8, 4))) else (if k < 65 then (if k < 64 then (100, 10) else (100, 20)) else (if k < 66 then (8, 4) else (100, 10)))) else (if k < 71 then (if k < 69 then (if k < 68 then (100, 20) else (8, 4)) else (if k < 70 then (100, 10) else (100, 20))) else (if k < 73 then (if k < 72 then (8, 4) else (100, 10)) else (if k < 74 then (100, 20) else (8, 4))))) else (if k < 82 then (if k < 78 then (if k < 76 then (100, 10) else (if k < 77 then (100, 20) else (8, 4))) else (if k < 80 then (if k < 79 then (100, 10) else (100, 20)) else (if k < 81 then (8, 4) else (100, 10)))) else (if k < 86 then (if k < 84 then (if k < 83 then (100, 20) else (8, 4)) else (if k < 85 then (100, 10) else (100, 20))) else (if k < 88 then (if k < 87 then (8, 4) else (100, 10)) else (if k < 89 then (100, 20) else (8, 4)))))) else (if k < 105 then (if k < 97 then (if k < 93 then (if k < 91 then (100, 10) else (if k < 92 then (100, 20) else (8, 4))) else (if k < 95 then (if k < 94 then (100, 10) else (100, 20)) else (if k < 96 then (8, 4) else (100, 10)))) else (if k < 101 then (if k < 99 then (if k < 98 then (100, 20) else (8, 4)) else (if k < 100 then (100, 10) else (100, 20))) else (if k < 103 then (if k < 102 then (8, 4) else (100, 10)) else (if k < 104 then (100, 20) else (8, 4))))) else (if k < 113 then (if k < 109 then (if k < 107 then (if k < 106 then (100, 10) else (100, 20)) else (if k < 108 then (8, 4) else (100, 10))) else (if k < 111 then (if k < 110 then (100, 20) else (8, 4)) else (if k < 112 then (100, 10) else (100, 20)))) else (if k < 117 then (if k < 115 then (if k < 114 then (8, 4) else (100, 10)) else (if k < 116 then (100, 20) else (8, 4))) else (if k < 119 then (if k < 118 then (100, 10) else (100, 20)) else (if k < 120 then (8, 4) else (100, 10)))))))) else (if k < 182 then (if k < 151 then (if k < 136 then (if k < 128 then (if k < 124 then (if k < 122 then (100, 20) else (if k < 123 then (8, 4) else (100, 10))) else (if k < 126 then (if k < 125 then (100, 20) else (8, 4)) else (if k < 127 then (100, 10) else (100, 20)))) else (if k < 132 then (if k < 130 then (if k < 129 then (8, 4) else (100, 10)) else (if k < 131 then (100, 20) else (8, 4))) else (if k < 134 then (if k < 133 then (100, 10) else (100, 20)) else (if k < 135 then (8, 4) else (100, 10))))) else (if k < 143 then (if k < 139 then (if k < 137 then (100, 20) else (if k < 138 then (8, 4) else (100, 10))) else (if k < 141 then (if k < 140 then (100, 20) else (8, 4)) else (if k < 142 then (100, 10) else (100, 20)))) else (if k < 147 then (if k < 145 then (if k < 144 then (8, 4) else (100, 10)) else (if k < 146 then (100, 20) else (8, 4))) else (if k < 149 then (if k < 148 then (100, 10) else (100, 20)) else (if k < 150 then (8, 4) else (100, 10)))))) else (if k < 166 then (if k < 158 then (if k < 154 then (if k < 152 then (100, 20) else (if k < 153 then (8, 4) else (100, 10))) else (if k < 156 then (if k < 155 then (100, 20) else (8, 4)) else (if k < 157 then (100, 10) else (100, 20)))) else (if k < 162 then (if k < 160 then (if k < 159 then (8, 4) else (100, 10)) else (if k < 161 then (100, 20) else (8, 4))) else (if k < 164 then (if k < 163 then (100, 10) else (100, 20)) else (if k < 165 then (8, 4) else (100, 10))))) else (if k < 174 then (if k < 170 then (if k < 168 then (if k < 167 then (100, 20) else (104, 3)) else (if k < 169 then (102, 3) else (5, 3))) else (if k < 172 then (if k < 171 then (100, 9) else (100, 1024)) else (if k < 173 then (1, 2) else (100, 7)))) else (if k < 178 then (if k < 176 then (if k < 175 then (7, 6) else (100, 10)) else (100, 10)) else (if k < 180 then (if k < 179 then (6, 7) else (100, 20)) else (100, 20)))))) else (if k < 212 then (if k < 197 then (if k < 189 then (if k < 185 then (if k < 183 then (100, 490) else (if k < 184 then (8, 4) else (100, 10))) else (if k < 187 then (if k < 186 then (100, 20) else (8, 4)) else (if k < 188 then (100, 10) else (100, 20)))) else (if k < 193 then (if k < 191 then (if k < 190 then (8, 4) else (100, 10)) else (if k < 192 then (100, 20) else (12, 72))) else (if k < 195 then (101, 2000) else (100, 403)))) else (if k < 204 then (if k < 200 then (if k < 198 then (100, 403) else (if k < 199 then (103, 403) else (103, 23))) else (if k < 202 then (if k < 201 then (103, 14) else (100, 14)) else (100, 2))) else (if k < 208 then (100, 20) else (if k < 210 then (100, 2) else (if k < 211 then (100, 2) else (100, 8)))))) else (if k < 227 then (if k < 219 then (if k < 215 then (if k < 213 then (100, 8) else (if k < 214 then (100, 8) else (100, 2))) else (if k < 217 then (100, 2) else (100, 8))) else (if k < 223 then (if k < 221 then (if k < 220 then (102, 260) else (100, 260)) else (100, 260)) else (if k < 225 then (if k < 224 then (100, 260) else (100, 840)) else (if k < 226 then (100, 840) else (100, 64))))) else (if k < 235 then (if k < 231 then (if k < 229 then (if k < 228 then (100, 9) else (100, 400)) else (100, 32)) else (if k < 233 then (if k < 232 then (100, 7) else (100, 10)) else (100, 10))) else (if k < 239 then (if k < 237 then (if k < 236 then (100, 1280) else (100, 10)) else (100, 20)) else (if k < 241 then (if k < 240 then (100, 20) else (100, 10)) else (if k < 242 then (102, 3) else (100, 96)))))))))
def t_rf (k j : Nat) : Nat := (if k < 121 then (if k < 60 then (if k < 30 then (if k < 15 then (if k < 7 then (if k < 3 then (if k < 1 then (if j < 6 then (if j < 3 then (if j < 1 then 2 else (if j < 2 then 4 else 26)) else (if j < 4 then 40 else (if j < 5 then 43 else 46))) else (if j < 9 then (if j < 7 then 168 else (if j < 8 then 169 else 170)) else (if j < 11 then (if j < 10 then 173 else 175) else (if j < 12 then 179 else 0)))) else (if k < 2 then (if j < 1 then 3 else 0) else 0)) else (if k < 5 then (if k < 4 then (if j < 5 then (if j < 2 then (if j < 1 then 5 else 0) else (if j < 3 then 19 else (if j < 4 then 24 else 25))) else 0) else (if j < 9 then (if j < 4 then 0 else (if j < 6 then 0 else (if j < 7 then 0 else (if j < 8 then 0 else 6)))) else (if j < 13 then (if j < 11 then (if j < 10 then 7 else 8) else (if j < 12 then 9 else 10)) else (if j < 15 then (if j < 14 then 11 else 12) else (if j < 16 then 13 else (if j < 17 then 14 else 15)))))) else 0)) else (if k < 11 then 0 else (if k < 13 then 0 else (if k < 14 then 0 else (if j < 2 then (if j < 1 then 16 else 17) else (if j < 3 then 18 else 0)))))) else (if k < 22 then (if k < 18 then 0 else (if k < 20 then (if k < 19 then (if j < 2 then (if j < 1 then 20 else 21) else (if j < 3 then 22 else (if j < 4 then 23 else 0))) else 0) else 0)) else (if k < 26 then (if k < 24 then 0 else (if k < 25 then 0 else (if j < 9 then (if j < 4 then 0 else (if j < 6 then 0 else (if j < 7 then 0 else (if j < 8 then 0 else 27)))) else (if j < 13 then (if j < 11 then (if j < 10 then 28 else 29) else (if j < 12 then 30 else 31)) else (if j < 15 then (if j < 14 then 32 else 33) else (if j < 16 then 34 else (if j < 17 then 35 else 36))))))) else 0))) else (if k < 45 then (if k < 37 then (if k < 33 then 0 else (if k < 35 then 0 else (if k < 36 then (if j < 2 then (if j < 1 then 37 else 38) else (if j < 3 then 39 else 0)) else 0))) else (if k < 41 then (if k < 39 then 0 else (if k < 40 then (if j < 2 then 0 else (if j < 3 then 41 else 42)) else 0)) else (if k < 43 then (if k < 42 then 0 else (if j < 2 then 0 else (if j < 3 then 44 else 45))) else 0))) else (if k < 52 then (if k < 48 then (if k < 46 then (if j < 1 then 47 else 0) else (if k < 47 then (if j < 20 then (if j < 10 then (if j < 5 then (if j < 2 then (if j < 1 then 48 else 51) else (if j < 3 then 54 else (if j < 4 then 57 else 60))) else (if j < 7 then (if j < 6 then 63 else 66) else (if j < 8 then 69 else (if j < 9 then 72 else 75)))) else (if j < 15 then (if j < 12 then (if j < 11 then 78 else 81) else (if j < 13 then 84 else (if j < 14 then 87 else 90))) else (if j < 17 then (if j < 16 then 93 else 96) else (if j < 18 then 99 else (if j < 19 then 102 else 105))))) else (if j < 30 then (if j < 25 then (if j < 22 then (if j < 21 then 108 else 111) else (if j < 23 then 114 else (if j < 24 then 117 else 120))) else (if j < 27 then (if j < 26 then 123 else 126) else (if j < 28 then 129 else (if j < 29 then 132 else 135)))) else (if j < 35 then (if j < 32 then (if j < 31 then 138 else 141) else (if j < 33 then 144 else (if j < 34 then 147 else 150))) else (if j < 37 then (if j < 36 then 153 else 156) else (if j < 38 then 159 else (if j < 39 then 162 else 165)))))) else (if j < 2 then 0 else (if j < 3 then 49 else 50)))) else (if k < 50 then 0 else (if k < 51 then (if j < 2 then 0 else (if j < 3 then 52 else 53)) else 0))) else (if k < 56 then (if k < 54 then (if k < 53 then 0 else (if j < 2 then 0 else (if j < 3 then 55 else 56))) else 0) else (if k < 58 then (if k < 57 then (if j < 2 then 0 else (if j < 3 then 58 else 59)) else 0) else (if k < 59 then 0 else (if j < 2 then 0 else (if j < 3 then 61 else 62)))))))) else (if k < 90 then (if k < 75 then (if k < 67 then (if k < 63 then (if k < 61 then 0 else (if k < 62 then 0 else (if j < 2 then 0 else (if j < 3 then 64 else 65)))) else (if k < 65 then 0 else (if k < 66 then (if j < 2 then 0 else (if j < 3 then 67 else 68)) else 0))) else (if k < 71 then (if k < 69 then (if k < 68 then 0 else (if j < 2 then 0 else (if j < 3 then 70 else 71))) else 0) else (if k < 73 then (if k < 72 then (if j < 2 then 0 else (if j < 3 then 73 else 74)) else 0) else (if k < 74 then 0 else (if j < 2 then 0 else (if j < 3 then 76 else 77)))))) else (if k < 82 then (if k < 78 then (if k < 76 then 0 else (if k < 77 then 0 else (if j < 2 then 0 else (if j < 3 then 79 else 80)))) else (if k < 80 then 0 else (if k < 81 then (if j < 2 then 0 else (if j < 3 then 82 else 83)) else 0))) else (if k < 86 then (if k < 84 then (if k < 83 then 0 else (if j < 2 then 0 else (if j < 3 then 85 else 86))) else 0) else (if k < 88 then (if k < 87 then (if j < 2 then 0 else (if j < 3 then 88 else 89)) else 0) else (if k < 89 then 0 else (if j < 2 then 0 else (if j < 3 then 91 else 92))))))) else (if k < 105 then (if k < 97 then (if k < 93 then (if k < 91 then 0 else (if k < 92 then 0 else (if j < 2 then 0 else (if j < 3 then 94 else 95)))) else (if k < 95 then 0 else (if k < 96 then (if j < 2 then 0 else (if j < 3 then 97 else 98)) else 0))) else (if k < 101 then (if k < 99 then (if k < 98 then 0 else (if j < 2 then 0 else (if j < 3 then 100 else 101))) else 0) else (if k < 103 then (if k < 102 then (if j < 2 then 0 else (if j < 3 then 103 else 104)) else 0) else (if k < 104 then 0 else (if j < 2 then 0 else (if j < 3 then 106 else 107)))))) else (if k < 113 then (if k < 109 then (if k < 107 then 0 else (if k < 108 then (if j < 2 then 0 else (if j < 3 then 109 else 110)) else 0)) else (if k < 111 then (if k < 110 then 0 else (if j < 2 then 0 else (if j < 3 then 112 else 113))) else 0)) else (if k < 117 then (if k < 115 then (if k < 114 then (if j < 2 then 0 else (if j < 3 then 115 else 116)) else 0) else (if k < 116 then 0 else (if j < 2 then 0 else (if j < 3 then 118 else 119)))) else (if k < 119 then 0 else (if k < 120 then (if j < 2 then 0 else (if j < 3 then 121 else 122)) else 0))))))) else (if k < 182 then (if k < 151 then (if k < 136 then (if k < 128 then (if k < 124 then (if k < 122 then 0 else (if k < 123 then (if j < 2 then 0 else (if j < 3 then 124 else 125)) else 0)) else (if k < 126 then (if k < 125 then 0 else (if j < 2 then 0 else (if j < 3 then 127 else 128))) else 0)) else (if k < 132 then (if k < 130 then (if k < 129 then (if j < 2 then 0 else (if j < 3 then 130 else 131)) else 0) else (if k < 131 then 0 else (if j < 2 then 0 else (if j < 3 then 133 else 134)))) else (if k < 134 then 0 else (if k < 135 then (if j < 2 then 0 else (if j < 3 then 136 else 137)) else 0)))) else (if k < 143 then (if k < 139 then (if k < 137 then 0 else (if k < 138 then (if j < 2 then 0 else (if j < 3 then 139 else 140)) else 0)) else (if k < 141 then (if k < 140 then 0 else (if j < 2 then 0 else (if j < 3 then 142 else 143))) else 0)) else (if k < 147 then (if k < 145 then (if k < 144 then (if j < 2 then 0 else (if j < 3 then 145 else 146)) else 0) else (if k < 146 then 0 else (if j < 2 then 0 else (if j < 3 then 148 else 149)))) else (if k < 149 then 0 else (if k < 150 then (if j < 2 then 0 else (if j < 3 then 151 else 152)) else 0))))) else (if k < 166 then (if k < 158 then (if k < 154 then (if k < 152 then 0 else (if k < 153 then (if j < 2 then 0 else (if j < 3 then 154 else 155)) else 0)) else (if k < 156 then (if k < 155 then 0 else (if j < 2 then 0 else (if j < 3 then 157 else 158))) else 0)) else (if k < 162 then (if k < 160 then (if k < 159 then (if j < 2 then 0 else (if j < 3 then 160 else 161)) else 0) else (if k < 161 then 0 else (if j < 2 then 0 else (if j < 3 then 163 else 164)))) else (if k < 164 then 0 else (if k < 165 then (if j < 2 then 0 else (if j < 3 then 166 else 167)) else 0)))) else (if k < 174 then (if k < 170 then (if k < 168 then (if k < 167 then 0 else (if j < 1 then 184 else (if j < 2 then 187 else 190))) else (if k < 169 then 0 else (if j < 1 then 26 else (if j < 2 then 171 else 172)))) else (if k < 172 then 0 else (if k < 173 then (if j < 1 then 26 else 174) else 0))) else (if k < 178 then (if k < 176 then (if k < 175 then (if j < 3 then (if j < 1 then 26 else (if j < 2 then 170 else 173)) else (if j < 4 then 176 else (if j < 5 then 177 else 178))) else 0) else 0) else (if k < 180 then (if k < 179 then (if j < 3 then (if j < 1 then 26 else (if j < 2 then 173 else 180)) else (if j < 5 then (if j < 4 then 181 else 182) else (if j < 6 then 183 else 0))) else 0) else 0))))) else (if k < 212 then (if k < 197 then (if k < 189 then (if k < 185 then (if k < 183 then 0 else (if k < 184 then (if j < 2 then 0 else (if j < 3 then 185 else 186)) else 0)) else (if k < 187 then (if k < 186 then 0 else (if j < 2 then 0 else (if j < 3 then 188 else 189))) else 0)) else (if k < 193 then (if k < 191 then (if k < 190 then (if j < 2 then 0 else (if j < 3 then 191 else 192)) else 0) else (if k < 192 then 0 else (if j < 36 then (if j < 18 then (if j < 9 then (if j < 4 then (if j < 2 then (if j < 1 then 0 else 194) else (if j < 3 then 0 else 195)) else (if j < 6 then (if j < 5 then 0 else 196) else (if j < 7 then 197 else (if j < 8 then 198 else 199)))) else (if j < 13 then (if j < 11 then (if j < 10 then 200 else 0) else 0) else 0)) else (if j < 27 then (if j < 22 then (if j < 20 then 0 else (if j < 21 then 0 else 201)) else (if j < 24 then (if j < 23 then 202 else 203) else (if j < 25 then 204 else (if j < 26 then 205 else 206)))) else (if j < 31 then (if j < 29 then (if j < 28 then 207 else 208) else (if j < 30 then 209 else 210)) else (if j < 33 then (if j < 32 then 211 else 212) else (if j < 34 then 213 else (if j < 35 then 214 else 215)))))) else (if j < 54 then (if j < 45 then (if j < 40 then (if j < 38 then (if j < 37 then 216 else 217) else (if j < 39 then 218 else 219)) else (if j < 42 then (if j < 41 then 0 else 220) else (if j < 43 then 221 else (if j < 44 then 222 else 223)))) else (if j < 49 then (if j < 47 then (if j < 46 then 224 else 0) else (if j < 48 then 225 else 226)) else (if j < 51 then (if j < 50 then 227 else 0) else (if j < 52 then 228 else (if j < 53 then 229 else 0))))) else (if j < 63 then (if j < 58 then (if j < 56 then (if j < 55 then 230 else 231) else 0) else (if j < 60 then (if j < 59 then 232 else 233) else (if j < 61 then 234 else (if j < 62 then 235 else 0)))) else (if j < 67 then (if j < 65 then (if j < 64 then 236 else 237) else (if j < 66 then 0 else 238)) else (if j < 69 then (if j < 68 then 239 else 240) else (if j < 70 then 241 else (if j < 71 then 242 else 243))))))))) else 0)) else 0) else 0)))
def T0 : PT := (243, 18462, t_sh, t_rf)
end
section
def C_X1_spread (pc : Nat) : Option PE := if pc < 62 then (if pc < 33 then (if pc < 14 then (if pc < 5 then (if pc < 2 then (if pc < 1 then (if pc = 0 then some ((.iload_n 2), 1, 0, 0, 0, []) else none) else (if pc = 1 then some ((.istore_n 3), 2, 0, 0, 0, []) else none)) else (if pc < 3 then (if pc = 2 then some ((.iconst 0), 3, 0, 0, 0, []) else none) else (if pc = 3 then some ((.istore 4), 5, 0, 0, 0, []) else none))) else (if pc < 8 then (if pc < 7 then (if pc = 5 then some ((.iload 4), 7, 0, 0, 0, []) else none) else (if pc = 7 then some ((.aload_n 0), 8, 0, 0, 0, []) else none)) else (if pc < 11 then (if pc = 8 then some ((.getfield 15), 11, 1, 0, 0, []) else none) else (if pc = 11 then some ((.getfield 19), 14, 3, 1, 0, []) else none)))) else (if pc < 23 then (if pc < 18 then (if pc < 17 then (if pc = 14 then some ((.if_icmp .ge 46), 17, 60, 0, 0, []) else none) else (if pc = 17 then some ((.iload_n 1), 18, 0, 0, 0, []) else none)) else (if pc < 20 then (if pc = 18 then some ((.iload 4), 20, 0, 0, 0, []) else none) else (if pc = 20 then some ((.invokestatic 25), 23, 165, 2, 0, [1]) else none))) else (if pc < 27 then (if pc < 26 then (if pc = 23 then some ((.ifCond .eq 31), 26, 54, 0, 0, []) else none) else (if pc = 26 then some ((.aload_n 0), 27, 0, 0, 0, []) else none)) else (if pc < 30 then (if pc = 27 then some ((.getfield 15), 30, 1, 0, 0, []) else none) else (if pc = 30 then some ((.getfield 29), 33, 3, 10, 0, []) else none))))) else (if pc < 46 then (if pc < 38 then (if pc < 36 then (if pc < 35 then (if pc = 33 then some ((.iload 4), 35, 0, 0, 0, []) else none) else (if pc = 35 then some (.iaload, 36, 0, 0, 0, []) else none)) else (if pc < 37 then (if pc = 36 then some ((.iload_n 2), 37, 0, 0, 0, []) else none) else (if pc = 37 then some (.iand, 38, 0, 0, 0, []) else none))) else (if pc < 42 then (if pc < 41 then (if pc = 38 then some ((.ifCond .eq 16), 41, 54, 0, 0, []) else none) else (if pc = 41 then some ((.iload_n 3), 42, 0, 0, 0, []) else none)) else (if pc < 43 then (if pc = 42 then some ((.aload_n 0), 43, 0, 0, 0, []) else none) else (if pc = 43 then some ((.getfield 15), 46, 1, 0, 0, []) else none)))) else (if pc < 53 then (if pc < 51 then (if pc < 49 then (if pc = 46 then some ((.getfield 29), 49, 3, 10, 0, []) else none) else (if pc = 49 then some ((.iload 4), 51, 0, 0, 0, []) else none)) else (if pc < 52 then (if pc = 51 then some (.iaload, 52, 0, 0, 0, []) else none) else (if pc = 52 then some (.ior, 53, 0, 0, 0, []) else none))) else (if pc < 57 then (if pc < 54 then (if pc = 53 then some ((.istore_n 3), 54, 0, 0, 0, []) else none) else (if pc = 54 then some ((.iinc 4 1), 57, 0, 0, 1, []) else none)) else (if pc < 60 then (if pc = 57 then some ((.goto (-52)), 60, 5, 0, 0, []) else none) else (if pc < 61 then (if pc = 60 then some ((.iload_n 3), 61, 0, 0, 0, []) else none) else (if pc = 61 then some (.ireturn, 62, 0, 0, 0, []) else none))))))) else none
set_option maxRecDepth 100000 in
theorem ck_X1_spread : ∀ pc E, C_X1_spread pc = some E → ckI 1 (mB 11) pc E = true := ck_tab (n := 62) (by decide +kernel) (fun pc h => by unfold C_X1_spread; rw [if_neg h])
def k_X1_spread (pc : Nat) : Option (List Bool) := if pc = 5 then some [true, true, true, true, true] else none
abbrev f_X1_spread : Nat := 27
set_option maxRecDepth 100000 in
set_option maxHeartbeats 4000000 in
theorem s_X1_spread_0 {α : Type} (O : Ora) (I : Nat → Nat → Int32) (J : Nat → Nat → Int64) (K : Nat → List Value → List Value → IJ → Option α) (rt : Option Value → IJ → Option α) (a1 a2 : Int32) :
  blkS O none 5 T0 C_X1_spread k_X1_spread K rt f_X1_spread 0 [.ref 172, .int a1, .int a2, un, un] [] (I, J) = K 5 [.ref 172, .int a1, .int a2, .int a2, .int 0] [] (I, J) := rfl
set_option maxRecDepth 100000 in
set_option maxHeartbeats 4000000 in
theorem s_X1_spread_5 {α : Type} (O : Ora) (I : Nat → Nat → Int32) (J : Nat → Nat → Int64) (K : Nat → List Value → List Value → IJ → Option α) (rt : Option Value → IJ → Option α) (x1 x2 x3 x4 : Int32) :
  blkS O none 5 T0 C_X1_spread k_X1_spread K rt f_X1_spread 5 [.ref 172, .int x1, .int x2, .int x3, .int x4] [] (I, J) = if (I 25 1) ≤ x4 then (rt (some (.int x3)) (I, J)) else (p_ci (O T0 165 [.int x1, .int x4] (I, J)) (fun v2 z1 => if v2 = 0 then (K 5 [.ref 172, .int x1, .int x2, .int x3, .int (x4 + 1)] [] z1) else (p_chk (p_in x4 10) (if ((z1.1 28 x4.toNatClampNeg) &&& x2) = 0 then (K 5 [.ref 172, .int x1, .int x2, .int x3, .int (x4 + 1)] [] z1) else (p_chk (p_in x4 10) (K 5 [.ref 172, .int x1, .int x2, .int (x3 ||| (z1.1 28 x4.toNatClampNeg)), .int (x4 + 1)] [] z1)))))) := rfl
def C_X1_reach (pc : Nat) : Option PE := if pc < 40 then (if pc < 18 then (if pc < 7 then (if pc < 2 then (if pc < 1 then (if pc = 0 then some ((.iload_n 2), 1, 0, 0, 0, []) else none) else (if pc = 1 then some ((.istore_n 3), 2, 0, 0, 0, []) else none)) else (if pc < 3 then (if pc = 2 then some ((.iconst 0), 3, 0, 0, 0, []) else none) else (if pc < 5 then (if pc = 3 then some ((.istore 4), 5, 0, 0, 0, []) else none) else (if pc = 5 then some ((.iload 4), 7, 0, 0, 0, []) else none)))) else (if pc < 13 then (if pc < 9 then (if pc = 7 then some ((.bipush 7), 9, 0, 0, 7, []) else none) else (if pc < 12 then (if pc = 9 then some ((.if_icmp .ge 29), 12, 38, 0, 0, []) else none) else (if pc = 12 then some ((.aload_n 0), 13, 0, 0, 0, []) else none))) else (if pc < 14 then (if pc = 13 then some ((.iload_n 1), 14, 0, 0, 0, []) else none) else (if pc < 15 then (if pc = 14 then some ((.iload_n 3), 15, 0, 0, 0, []) else none) else (if pc = 15 then some ((.invokevirtual 32), 18, 11, 3, 0, [1, 1]) else none))))) else (if pc < 29 then (if pc < 22 then (if pc < 20 then (if pc = 18 then some ((.istore 5), 20, 0, 0, 0, []) else none) else (if pc = 20 then some ((.iload 5), 22, 0, 0, 0, []) else none)) else (if pc < 23 then (if pc = 22 then some ((.iload_n 3), 23, 0, 0, 0, []) else none) else (if pc < 26 then (if pc = 23 then some ((.if_icmp .ne 6), 26, 29, 0, 0, []) else none) else (if pc = 26 then some ((.goto 12), 29, 38, 0, 0, []) else none)))) else (if pc < 35 then (if pc < 31 then (if pc = 29 then some ((.iload 5), 31, 0, 0, 0, []) else none) else (if pc < 32 then (if pc = 31 then some ((.istore_n 3), 32, 0, 0, 0, []) else none) else (if pc = 32 then some ((.iinc 4 1), 35, 0, 0, 1, []) else none))) else (if pc < 38 then (if pc = 35 then some ((.goto (-30)), 38, 5, 0, 0, []) else none) else (if pc < 39 then (if pc = 38 then some ((.iload_n 3), 39, 0, 0, 0, []) else none) else (if pc = 39 then some (.ireturn, 40, 0, 0, 0, []) else none)))))) else none
set_option maxRecDepth 100000 in
theorem ck_X1_reach : ∀ pc E, C_X1_reach pc = some E → ckI 1 (mB 12) pc E = true := ck_tab (n := 40) (by decide +kernel) (fun pc h => by unfold C_X1_reach; rw [if_neg h])
def k_X1_reach (pc : Nat) : Option (List Bool) := if pc = 5 then some [true, true, false, true, true, false] else none
abbrev f_X1_reach : Nat := 15
set_option maxRecDepth 100000 in
set_option maxHeartbeats 4000000 in
theorem s_X1_reach_0 {α : Type} (O : Ora) (I : Nat → Nat → Int32) (J : Nat → Nat → Int64) (K : Nat → List Value → List Value → IJ → Option α) (rt : Option Value → IJ → Option α) (a1 a2 : Int32) :
  blkS O none 6 T0 C_X1_reach k_X1_reach K rt f_X1_reach 0 [.ref 172, .int a1, .int a2, un, un, un] [] (I, J) = K 5 [.ref 172, .int a1, un, .int a2, .int 0, un] [] (I, J) := rfl
set_option maxRecDepth 100000 in
set_option maxHeartbeats 4000000 in
theorem s_X1_reach_5 {α : Type} (O : Ora) (I : Nat → Nat → Int32) (J : Nat → Nat → Int64) (K : Nat → List Value → List Value → IJ → Option α) (rt : Option Value → IJ → Option α) (x1 x3 x4 : Int32) :
  blkS O none 6 T0 C_X1_reach k_X1_reach K rt f_X1_reach 5 [.ref 172, .int x1, un, .int x3, .int x4, un] [] (I, J) = if 7 ≤ x4 then (rt (some (.int x3)) (I, J)) else (p_ci (O T0 11 [.ref 172, .int x1, .int x3] (I, J)) (fun v2 z1 => if v2 = x3 then (rt (some (.int x3)) z1) else (K 5 [.ref 172, .int x1, un, .int v2, .int (x4 + 1), un] [] z1))) := rfl
def C_X1_joins (pc : Nat) : Option PE := if pc < 13 then (if pc < 4 then (if pc < 2 then (if pc < 1 then (if pc = 0 then some ((.aload_n 0), 1, 0, 0, 0, []) else none) else (if pc = 1 then some ((.iload_n 1), 2, 0, 0, 0, []) else none)) else (if pc < 3 then (if pc = 2 then some ((.iconst 1), 3, 0, 0, 1, []) else none) else (if pc = 3 then some ((.iload_n 2), 4, 0, 0, 0, []) else none))) else (if pc < 8 then (if pc < 5 then (if pc = 4 then some (.ishl, 5, 0, 0, 0, []) else none) else (if pc = 5 then some ((.invokevirtual 36), 8, 12, 3, 0, [1, 1]) else none)) else (if pc < 9 then (if pc = 8 then some ((.iload_n 3), 9, 0, 0, 0, []) else none) else (if pc < 12 then (if pc = 9 then some ((.invokestatic 25), 12, 165, 2, 0, [1]) else none) else (if pc = 12 then some (.ireturn, 13, 0, 0, 0, []) else none))))) else none
set_option maxRecDepth 100000 in
theorem ck_X1_joins : ∀ pc E, C_X1_joins pc = some E → ckI 1 (mB 13) pc E = true := ck_tab (n := 13) (by decide +kernel) (fun pc h => by unfold C_X1_joins; rw [if_neg h])
def k_X1_joins (pc : Nat) : Option (List Bool) := none
abbrev f_X1_joins : Nat := 9
set_option maxRecDepth 100000 in
set_option maxHeartbeats 4000000 in
theorem s_X1_joins_0 {α : Type} (O : Ora) (I : Nat → Nat → Int32) (J : Nat → Nat → Int64) (K : Nat → List Value → List Value → IJ → Option α) (rt : Option Value → IJ → Option α) (a1 a2 a3 : Int32) :
  blkS O none 4 T0 C_X1_joins k_X1_joins K rt f_X1_joins 0 [.ref 172, .int a1, .int a2, .int a3] [] (I, J) = p_ci (O T0 12 [.ref 172, .int a1, .int (1 <<< (a2 &&& 31))] (I, J)) (fun v2 z1 => p_ci (O T0 165 [.int v2, .int a3] z1) (fun v4 z3 => rt (some (.int v4)) z3)) := rfl
def C_X1_measure (pc : Nat) : Option PE := if pc < 140 then (if pc < 71 then (if pc < 34 then (if pc < 16 then (if pc < 9 then (if pc < 4 then (if pc < 1 then (if pc = 0 then some ((.aload_n 0), 1, 0, 0, 0, []) else none) else (if pc = 1 then some ((.getfield 9), 4, 1, 1, 0, []) else none)) else (if pc < 6 then (if pc = 4 then some ((.ldc 39), 6, 0, 0, 1000000, []) else none) else (if pc = 6 then some ((.invokestatic 40), 9, 300, 2, 0, [0]) else none))) else (if pc < 13 then (if pc < 10 then (if pc = 9 then some ((.aload_n 0), 10, 0, 0, 0, []) else none) else (if pc = 10 then some ((.getfield 9), 13, 1, 1, 0, []) else none)) else (if pc < 14 then (if pc = 13 then some ((.iload_n 3), 14, 0, 0, 0, []) else none) else (if pc < 15 then (if pc = 14 then some ((.iconst 0), 15, 0, 0, 0, []) else none) else (if pc = 15 then some (.iastore, 16, 0, 0, 0, []) else none))))) else (if pc < 22 then (if pc < 19 then (if pc < 17 then (if pc = 16 then some ((.iconst 1), 17, 0, 0, 1, []) else none) else (if pc = 17 then some ((.istore 4), 19, 0, 0, 0, []) else none)) else (if pc < 20 then (if pc = 19 then some ((.iconst 0), 20, 0, 0, 0, []) else none) else (if pc = 20 then some ((.istore 5), 22, 0, 0, 0, []) else none))) else (if pc < 26 then (if pc < 24 then (if pc = 22 then some ((.iload 5), 24, 0, 0, 0, []) else none) else (if pc = 24 then some ((.bipush 7), 26, 0, 0, 7, []) else none)) else (if pc < 29 then (if pc = 26 then some ((.if_icmp .ge 113), 29, 139, 0, 0, []) else none) else (if pc < 31 then (if pc = 29 then some ((.iload 4), 31, 0, 0, 0, []) else none) else (if pc = 31 then some ((.ifCond .eq 108), 34, 139, 0, 0, []) else none)))))) else (if pc < 52 then (if pc < 40 then (if pc < 37 then (if pc < 35 then (if pc = 34 then some ((.iconst 0), 35, 0, 0, 0, []) else none) else (if pc = 35 then some ((.istore 4), 37, 0, 0, 0, []) else none)) else (if pc < 38 then (if pc = 37 then some ((.iconst 0), 38, 0, 0, 0, []) else none) else (if pc = 38 then some ((.istore 6), 40, 0, 0, 0, []) else none))) else (if pc < 43 then (if pc < 42 then (if pc = 40 then some ((.iload 6), 42, 0, 0, 0, []) else none) else (if pc = 42 then some ((.aload_n 0), 43, 0, 0, 0, []) else none)) else (if pc < 46 then (if pc = 43 then some ((.getfield 15), 46, 1, 0, 0, []) else none) else (if pc < 49 then (if pc = 46 then some ((.getfield 19), 49, 3, 1, 0, []) else none) else (if pc = 49 then some ((.if_icmp .ge 84), 52, 133, 0, 0, []) else none))))) else (if pc < 61 then (if pc < 55 then (if pc < 53 then (if pc = 52 then some ((.iload_n 1), 53, 0, 0, 0, []) else none) else (if pc = 53 then some ((.iload 6), 55, 0, 0, 0, []) else none)) else (if pc < 58 then (if pc = 55 then some ((.invokestatic 25), 58, 165, 2, 0, [1]) else none) else (if pc = 58 then some ((.ifCond .eq 69), 61, 127, 0, 0, []) else none))) else (if pc < 64 then (if pc < 63 then (if pc = 61 then some ((.iload 4), 63, 0, 0, 0, []) else none) else (if pc = 63 then some ((.aload_n 0), 64, 0, 0, 0, []) else none)) else (if pc < 65 then (if pc = 64 then some ((.aload_n 0), 65, 0, 0, 0, []) else none) else (if pc < 68 then (if pc = 65 then some ((.getfield 15), 68, 1, 0, 0, []) else none) else (if pc = 68 then some ((.getfield 46), 71, 3, 8, 0, []) else none))))))) else (if pc < 104 then (if pc < 87 then (if pc < 78 then (if pc < 74 then (if pc < 73 then (if pc = 71 then some ((.iload 6), 73, 0, 0, 0, []) else none) else (if pc = 73 then some (.iaload, 74, 0, 0, 0, []) else none)) else (if pc < 75 then (if pc = 74 then some ((.aload_n 0), 75, 0, 0, 0, []) else none) else (if pc = 75 then some ((.getfield 15), 78, 1, 0, 0, []) else none))) else (if pc < 83 then (if pc < 81 then (if pc = 78 then some ((.getfield 49), 81, 3, 9, 0, []) else none) else (if pc = 81 then some ((.iload 6), 83, 0, 0, 0, []) else none)) else (if pc < 84 then (if pc = 83 then some (.iaload, 84, 0, 0, 0, []) else none) else (if pc < 85 then (if pc = 84 then some ((.aload_n 2), 85, 0, 0, 0, []) else none) else (if pc = 85 then some ((.iload 6), 87, 0, 0, 0, []) else none))))) else (if pc < 94 then (if pc < 91 then (if pc < 88 then (if pc = 87 then some (.iaload, 88, 0, 0, 0, []) else none) else (if pc = 88 then some ((.invokevirtual 52), 91, 22, 4, 0, [1, 1]) else none)) else (if pc < 92 then (if pc = 91 then some (.ior, 92, 0, 0, 0, []) else none) else (if pc = 92 then some ((.istore 4), 94, 0, 0, 0, []) else none))) else (if pc < 97 then (if pc < 96 then (if pc = 94 then some ((.iload 4), 96, 0, 0, 0, []) else none) else (if pc = 96 then some ((.aload_n 0), 97, 0, 0, 0, []) else none)) else (if pc < 98 then (if pc = 97 then some ((.aload_n 0), 98, 0, 0, 0, []) else none) else (if pc < 101 then (if pc = 98 then some ((.getfield 15), 101, 1, 0, 0, []) else none) else (if pc = 101 then some ((.getfield 49), 104, 3, 9, 0, []) else none)))))) else (if pc < 120 then (if pc < 111 then (if pc < 107 then (if pc < 106 then (if pc = 104 then some ((.iload 6), 106, 0, 0, 0, []) else none) else (if pc = 106 then some (.iaload, 107, 0, 0, 0, []) else none)) else (if pc < 108 then (if pc = 107 then some ((.aload_n 0), 108, 0, 0, 0, []) else none) else (if pc = 108 then some ((.getfield 15), 111, 1, 0, 0, []) else none))) else (if pc < 116 then (if pc < 114 then (if pc = 111 then some ((.getfield 46), 114, 3, 8, 0, []) else none) else (if pc = 114 then some ((.iload 6), 116, 0, 0, 0, []) else none)) else (if pc < 117 then (if pc = 116 then some (.iaload, 117, 0, 0, 0, []) else none) else (if pc < 118 then (if pc = 117 then some ((.aload_n 2), 118, 0, 0, 0, []) else none) else (if pc = 118 then some ((.iload 6), 120, 0, 0, 0, []) else none))))) else (if pc < 127 then (if pc < 124 then (if pc < 121 then (if pc = 120 then some (.iaload, 121, 0, 0, 0, []) else none) else (if pc = 121 then some ((.invokevirtual 52), 124, 22, 4, 0, [1, 1]) else none)) else (if pc < 125 then (if pc = 124 then some (.ior, 125, 0, 0, 0, []) else none) else (if pc = 125 then some ((.istore 4), 127, 0, 0, 0, []) else none))) else (if pc < 133 then (if pc < 130 then (if pc = 127 then some ((.iinc 6 1), 130, 0, 0, 1, []) else none) else (if pc = 130 then some ((.goto (-90)), 133, 40, 0, 0, []) else none)) else (if pc < 136 then (if pc = 133 then some ((.iinc 5 1), 136, 0, 0, 1, []) else none) else (if pc < 139 then (if pc = 136 then some ((.goto (-114)), 139, 22, 0, 0, []) else none) else (if pc = 139 then some (.return_, 140, 0, 0, 0, []) else none)))))))) else none
set_option maxRecDepth 100000 in
theorem ck_X1_measure : ∀ pc E, C_X1_measure pc = some E → ckI 1 (mB 14) pc E = true := ck_tab (n := 140) (by decide +kernel) (fun pc h => by unfold C_X1_measure; rw [if_neg h])
def k_X1_measure (pc : Nat) : Option (List Bool) := if pc = 22 then some [true, true, true, false, true, true, false] else if pc = 40 then some [true, true, true, false, true, true, true] else none
abbrev f_X1_measure : Nat := 47
set_option maxRecDepth 100000 in
set_option maxHeartbeats 4000000 in
theorem s_X1_measure_0 {α : Type} (O : Ora) (I : Nat → Nat → Int32) (J : Nat → Nat → Int64) (K : Nat → List Value → List Value → IJ → Option α) (rt : Option Value → IJ → Option α) (a1 a3 : Int32) :
  blkS O none 7 T0 C_X1_measure k_X1_measure K rt f_X1_measure 0 [.ref 172, .int a1, .ref 176, .int a3, un, un, un] [] (I, J) = p_cv (O T0 300 [.ref 173, .int 1000000] (I, J)) (fun z1 => p_chk (p_in a3 7) (K 22 [.ref 172, .int a1, .ref 176, un, .int 1, .int 0, un] [] ((p_wr z1.1 173 a3.toNatClampNeg 0), z1.2))) := rfl
set_option maxRecDepth 100000 in
set_option maxHeartbeats 4000000 in
theorem s_X1_measure_22 {α : Type} (O : Ora) (I : Nat → Nat → Int32) (J : Nat → Nat → Int64) (K : Nat → List Value → List Value → IJ → Option α) (rt : Option Value → IJ → Option α) (x1 x4 x5 : Int32) :
  blkS O none 7 T0 C_X1_measure k_X1_measure K rt f_X1_measure 22 [.ref 172, .int x1, .ref 176, un, .int x4, .int x5, un] [] (I, J) = if 7 ≤ x5 then (rt none (I, J)) else (if x4 = 0 then (rt none (I, J)) else (K 40 [.ref 172, .int x1, .ref 176, un, .int 0, .int x5, .int 0] [] (I, J))) := rfl
set_option maxRecDepth 100000 in
set_option maxHeartbeats 4000000 in
theorem s_X1_measure_40 {α : Type} (O : Ora) (I : Nat → Nat → Int32) (J : Nat → Nat → Int64) (K : Nat → List Value → List Value → IJ → Option α) (rt : Option Value → IJ → Option α) (x1 x4 x5 x6 : Int32) :
  blkS O none 7 T0 C_X1_measure k_X1_measure K rt f_X1_measure 40 [.ref 172, .int x1, .ref 176, un, .int x4, .int x5, .int x6] [] (I, J) = if (I 25 1) ≤ x6 then (K 22 [.ref 172, .int x1, .ref 176, un, .int x4, .int (x5 + 1), un] [] (I, J)) else (p_ci (O T0 165 [.int x1, .int x6] (I, J)) (fun v2 z1 => if v2 = 0 then (K 40 [.ref 172, .int x1, .ref 176, un, .int x4, .int x5, .int (x6 + 1)] [] z1) else (p_chk (p_in x6 10) (p_chk (p_in x6 10) (p_chk (p_in x6 10) (p_ci (O T0 22 [.ref 172, .int (z1.1 26 x6.toNatClampNeg), .int (z1.1 27 x6.toNatClampNeg), .int (z1.1 176 x6.toNatClampNeg)] z1) (fun v4 z3 => p_chk (p_in x6 10) (p_chk (p_in x6 10) (p_chk (p_in x6 10) (p_ci (O T0 22 [.ref 172, .int (z3.1 27 x6.toNatClampNeg), .int (z3.1 26 x6.toNatClampNeg), .int (z3.1 176 x6.toNatClampNeg)] z3) (fun v6 z5 => K 40 [.ref 172, .int x1, .ref 176, un, .int ((x4 ||| v4) ||| v6), .int x5, .int (x6 + 1)] [] z5))))))))))) := rfl
def C_X1_isReached (pc : Nat) : Option PE := if pc < 17 then (if pc < 8 then (if pc < 4 then (if pc < 1 then (if pc = 0 then some ((.aload_n 0), 1, 0, 0, 0, []) else none) else (if pc = 1 then some ((.getfield 9), 4, 1, 1, 0, []) else none)) else (if pc < 5 then (if pc = 4 then some ((.iload_n 1), 5, 0, 0, 0, []) else none) else (if pc < 6 then (if pc = 5 then some (.iaload, 6, 0, 0, 0, []) else none) else (if pc = 6 then some ((.ldc 39), 8, 0, 0, 1000000, []) else none)))) else (if pc < 12 then (if pc < 11 then (if pc = 8 then some ((.if_icmp .ge 7), 11, 15, 0, 0, []) else none) else (if pc = 11 then some ((.iconst 1), 12, 0, 0, 1, []) else none)) else (if pc < 15 then (if pc = 12 then some ((.goto 4), 15, 16, 0, 0, []) else none) else (if pc < 16 then (if pc = 15 then some ((.iconst 0), 16, 0, 0, 0, []) else none) else (if pc = 16 then some (.ireturn, 17, 0, 0, 0, []) else none))))) else none
set_option maxRecDepth 100000 in
theorem ck_X1_isReached : ∀ pc E, C_X1_isReached pc = some E → ckI 1 (mB 15) pc E = true := ck_tab (n := 17) (by decide +kernel) (fun pc h => by unfold C_X1_isReached; rw [if_neg h])
def k_X1_isReached (pc : Nat) : Option (List Bool) := none
abbrev f_X1_isReached : Nat := 9
set_option maxRecDepth 100000 in
set_option maxHeartbeats 4000000 in
theorem s_X1_isReached_0 {α : Type} (O : Ora) (I : Nat → Nat → Int32) (J : Nat → Nat → Int64) (K : Nat → List Value → List Value → IJ → Option α) (rt : Option Value → IJ → Option α) (a1 : Int32) :
  blkS O none 2 T0 C_X1_isReached k_X1_isReached K rt f_X1_isReached 0 [.ref 172, .int a1] [] (I, J) = p_chk (p_in a1 7) (if 1000000 ≤ (I 173 a1.toNatClampNeg) then (rt (some (.int 0)) (I, J)) else (rt (some (.int 1)) (I, J))) := rfl
def C_X1_widest (pc : Nat) : Option PE := if pc < 60 then (if pc < 29 then (if pc < 15 then (if pc < 6 then (if pc < 3 then (if pc < 1 then (if pc = 0 then some ((.iconst 0), 1, 0, 0, 0, []) else none) else (if pc = 1 then some ((.istore 4), 3, 0, 0, 0, []) else none)) else (if pc < 4 then (if pc = 3 then some ((.iconst 0), 4, 0, 0, 0, []) else none) else (if pc = 4 then some ((.istore 5), 6, 0, 0, 0, []) else none))) else (if pc < 9 then (if pc < 8 then (if pc = 6 then some ((.iload 5), 8, 0, 0, 0, []) else none) else (if pc = 8 then some ((.aload_n 0), 9, 0, 0, 0, []) else none)) else (if pc < 12 then (if pc = 9 then some ((.getfield 15), 12, 1, 0, 0, []) else none) else (if pc = 12 then some ((.getfield 19), 15, 3, 1, 0, []) else none)))) else (if pc < 22 then (if pc < 19 then (if pc < 18 then (if pc = 15 then some ((.if_icmp .ge 42), 18, 57, 0, 0, []) else none) else (if pc = 18 then some ((.aload_n 1), 19, 0, 0, 0, []) else none)) else (if pc < 21 then (if pc = 19 then some ((.iload 5), 21, 0, 0, 0, []) else none) else (if pc = 21 then some (.iaload, 22, 0, 0, 0, []) else none))) else (if pc < 27 then (if pc < 24 then (if pc = 22 then some ((.iload 4), 24, 0, 0, 0, []) else none) else (if pc = 24 then some ((.if_icmp .le 27), 27, 51, 0, 0, []) else none)) else (if pc < 28 then (if pc = 27 then some ((.aload_n 0), 28, 0, 0, 0, []) else none) else (if pc = 28 then some ((.aload_n 0), 29, 0, 0, 0, []) else none))))) else (if pc < 42 then (if pc < 34 then (if pc < 31 then (if pc < 30 then (if pc = 29 then some ((.aload_n 1), 30, 0, 0, 0, []) else none) else (if pc = 30 then some ((.aload_n 1), 31, 0, 0, 0, []) else none)) else (if pc < 33 then (if pc = 31 then some ((.iload 5), 33, 0, 0, 0, []) else none) else (if pc = 33 then some (.iaload, 34, 0, 0, 0, []) else none))) else (if pc < 38 then (if pc < 37 then (if pc = 34 then some ((.invokevirtual 56), 37, 21, 3, 0, [1, 1]) else none) else (if pc = 37 then some ((.iload_n 2), 38, 0, 0, 0, []) else none)) else (if pc < 39 then (if pc = 38 then some ((.iload_n 3), 39, 0, 0, 0, []) else none) else (if pc = 39 then some ((.invokevirtual 60), 42, 13, 4, 0, [1, 1]) else none)))) else (if pc < 49 then (if pc < 46 then (if pc < 45 then (if pc = 42 then some ((.ifCond .eq 9), 45, 51, 0, 0, []) else none) else (if pc = 45 then some ((.aload_n 1), 46, 0, 0, 0, []) else none)) else (if pc < 48 then (if pc = 46 then some ((.iload 5), 48, 0, 0, 0, []) else none) else (if pc = 48 then some (.iaload, 49, 0, 0, 0, []) else none))) else (if pc < 54 then (if pc < 51 then (if pc = 49 then some ((.istore 4), 51, 0, 0, 0, []) else none) else (if pc = 51 then some ((.iinc 5 1), 54, 0, 0, 1, []) else none)) else (if pc < 57 then (if pc = 54 then some ((.goto (-48)), 57, 6, 0, 0, []) else none) else (if pc < 59 then (if pc = 57 then some ((.iload 4), 59, 0, 0, 0, []) else none) else (if pc = 59 then some (.ireturn, 60, 0, 0, 0, []) else none))))))) else none
set_option maxRecDepth 100000 in
theorem ck_X1_widest : ∀ pc E, C_X1_widest pc = some E → ckI 1 (mB 16) pc E = true := ck_tab (n := 60) (by decide +kernel) (fun pc h => by unfold C_X1_widest; rw [if_neg h])
def k_X1_widest (pc : Nat) : Option (List Bool) := if pc = 6 then some [true, true, true, true, true, true] else none
abbrev f_X1_widest : Nat := 27
set_option maxRecDepth 100000 in
set_option maxHeartbeats 4000000 in
theorem s_X1_widest_40_0 {α : Type} (O : Ora) (I : Nat → Nat → Int32) (J : Nat → Nat → Int64) (K : Nat → List Value → List Value → IJ → Option α) (rt : Option Value → IJ → Option α) (a2 a3 : Int32) :
  blkS O none 6 T0 C_X1_widest k_X1_widest K rt f_X1_widest 0 [.ref 172, .ref 40, .int a2, .int a3, un, un] [] (I, J) = K 6 [.ref 172, .ref 40, .int a2, .int a3, .int 0, .int 0] [] (I, J) := rfl
set_option maxRecDepth 100000 in
set_option maxHeartbeats 4000000 in
theorem s_X1_widest_40_6 {α : Type} (O : Ora) (I : Nat → Nat → Int32) (J : Nat → Nat → Int64) (K : Nat → List Value → List Value → IJ → Option α) (rt : Option Value → IJ → Option α) (x2 x3 x4 x5 : Int32) :
  blkS O none 6 T0 C_X1_widest k_X1_widest K rt f_X1_widest 6 [.ref 172, .ref 40, .int x2, .int x3, .int x4, .int x5] [] (I, J) = if (I 25 1) ≤ x5 then (rt (some (.int x4)) (I, J)) else (p_chk (p_in x5 10) (if (I 40 x5.toNatClampNeg) ≤ x4 then (K 6 [.ref 172, .ref 40, .int x2, .int x3, .int x4, .int (x5 + 1)] [] (I, J)) else (p_chk (p_in x5 10) (p_ci (O T0 21 [.ref 172, .ref 40, .int (I 40 x5.toNatClampNeg)] (I, J)) (fun v2 z1 => p_ci (O T0 13 [.ref 172, .int v2, .int x2, .int x3] z1) (fun v4 z3 => if v4 = 0 then (K 6 [.ref 172, .ref 40, .int x2, .int x3, .int x4, .int (x5 + 1)] [] z3) else (p_chk (p_in x5 10) (K 6 [.ref 172, .ref 40, .int x2, .int x3, .int (z3.1 40 x5.toNatClampNeg), .int (x5 + 1)] [] z3)))))))) := rfl
set_option maxRecDepth 100000 in
set_option maxHeartbeats 4000000 in
theorem s_X1_widest_177_0 {α : Type} (O : Ora) (I : Nat → Nat → Int32) (J : Nat → Nat → Int64) (K : Nat → List Value → List Value → IJ → Option α) (rt : Option Value → IJ → Option α) (a2 a3 : Int32) :
  blkS O none 6 T0 C_X1_widest k_X1_widest K rt f_X1_widest 0 [.ref 172, .ref 177, .int a2, .int a3, un, un] [] (I, J) = K 6 [.ref 172, .ref 177, .int a2, .int a3, .int 0, .int 0] [] (I, J) := rfl
set_option maxRecDepth 100000 in
set_option maxHeartbeats 4000000 in
theorem s_X1_widest_177_6 {α : Type} (O : Ora) (I : Nat → Nat → Int32) (J : Nat → Nat → Int64) (K : Nat → List Value → List Value → IJ → Option α) (rt : Option Value → IJ → Option α) (x2 x3 x4 x5 : Int32) :
  blkS O none 6 T0 C_X1_widest k_X1_widest K rt f_X1_widest 6 [.ref 172, .ref 177, .int x2, .int x3, .int x4, .int x5] [] (I, J) = if (I 25 1) ≤ x5 then (rt (some (.int x4)) (I, J)) else (p_chk (p_in x5 10) (if (I 177 x5.toNatClampNeg) ≤ x4 then (K 6 [.ref 172, .ref 177, .int x2, .int x3, .int x4, .int (x5 + 1)] [] (I, J)) else (p_chk (p_in x5 10) (p_ci (O T0 21 [.ref 172, .ref 177, .int (I 177 x5.toNatClampNeg)] (I, J)) (fun v2 z1 => p_ci (O T0 13 [.ref 172, .int v2, .int x2, .int x3] z1) (fun v4 z3 => if v4 = 0 then (K 6 [.ref 172, .ref 177, .int x2, .int x3, .int x4, .int (x5 + 1)] [] z3) else (p_chk (p_in x5 10) (K 6 [.ref 172, .ref 177, .int x2, .int x3, .int (z3.1 177 x5.toNatClampNeg), .int (x5 + 1)] [] z3)))))))) := rfl
def C_X1_cheapestSeams (pc : Nat) : Option PE := if pc < 80 then (if pc < 37 then (if pc < 14 then (if pc < 5 then (if pc < 2 then (if pc < 1 then (if pc = 0 then some ((.iload_n 2), 1, 0, 0, 0, []) else none) else (if pc = 1 then some ((.iload_n 2), 2, 0, 0, 0, []) else none)) else (if pc < 3 then (if pc = 2 then some (.ineg, 3, 0, 0, 0, []) else none) else (if pc < 4 then (if pc = 3 then some (.iand, 4, 0, 0, 0, []) else none) else (if pc = 4 then some ((.istore_n 3), 5, 0, 0, 0, []) else none)))) else (if pc < 9 then (if pc < 6 then (if pc = 5 then some ((.iconst (-1)), 6, 0, 0, (-1), []) else none) else (if pc < 8 then (if pc = 6 then some ((.istore 4), 8, 0, 0, 0, []) else none) else (if pc = 8 then some ((.iconst 0), 9, 0, 0, 0, []) else none))) else (if pc < 11 then (if pc = 9 then some ((.istore 5), 11, 0, 0, 0, []) else none) else (if pc < 13 then (if pc = 11 then some ((.iload 5), 13, 0, 0, 0, []) else none) else (if pc = 13 then some ((.iconst 1), 14, 0, 0, 1, []) else none))))) else (if pc < 27 then (if pc < 21 then (if pc < 15 then (if pc = 14 then some ((.aload_n 0), 15, 0, 0, 0, []) else none) else (if pc < 18 then (if pc = 15 then some ((.getfield 15), 18, 1, 0, 0, []) else none) else (if pc = 18 then some ((.getfield 19), 21, 3, 1, 0, []) else none))) else (if pc < 22 then (if pc = 21 then some (.ishl, 22, 0, 0, 0, []) else none) else (if pc < 25 then (if pc = 22 then some ((.if_icmp .ge 55), 25, 77, 0, 0, []) else none) else (if pc = 25 then some ((.iload 4), 27, 0, 0, 0, []) else none)))) else (if pc < 33 then (if pc < 30 then (if pc = 27 then some ((.ifCond .lt 14), 30, 41, 0, 0, []) else none) else (if pc < 31 then (if pc = 30 then some ((.aload_n 1), 31, 0, 0, 0, []) else none) else (if pc = 31 then some ((.iload 5), 33, 0, 0, 0, []) else none))) else (if pc < 34 then (if pc = 33 then some (.iaload, 34, 0, 0, 0, []) else none) else (if pc < 35 then (if pc = 34 then some ((.aload_n 1), 35, 0, 0, 0, []) else none) else (if pc = 35 then some ((.iload 4), 37, 0, 0, 0, []) else none)))))) else (if pc < 57 then (if pc < 46 then (if pc < 41 then (if pc < 38 then (if pc = 37 then some (.iaload, 38, 0, 0, 0, []) else none) else (if pc = 38 then some ((.if_icmp .ge 7), 41, 45, 0, 0, []) else none)) else (if pc < 42 then (if pc = 41 then some ((.iconst 1), 42, 0, 0, 1, []) else none) else (if pc < 45 then (if pc = 42 then some ((.goto 4), 45, 46, 0, 0, []) else none) else (if pc = 45 then some ((.iconst 0), 46, 0, 0, 0, []) else none)))) else (if pc < 53 then (if pc < 48 then (if pc = 46 then some ((.istore 6), 48, 0, 0, 0, []) else none) else (if pc < 50 then (if pc = 48 then some ((.iload 6), 50, 0, 0, 0, []) else none) else (if pc = 50 then some ((.ifCond .eq 21), 53, 71, 0, 0, []) else none))) else (if pc < 54 then (if pc = 53 then some ((.iload_n 2), 54, 0, 0, 0, []) else none) else (if pc < 55 then (if pc = 54 then some ((.aload_n 0), 55, 0, 0, 0, []) else none) else (if pc = 55 then some ((.iload 5), 57, 0, 0, 0, []) else none))))) else (if pc < 67 then (if pc < 62 then (if pc < 58 then (if pc = 57 then some ((.iload_n 3), 58, 0, 0, 0, []) else none) else (if pc < 61 then (if pc = 58 then some ((.invokevirtual 36), 61, 12, 3, 0, [1, 1]) else none) else (if pc = 61 then some ((.iconst (-1)), 62, 0, 0, (-1), []) else none))) else (if pc < 63 then (if pc = 62 then some (.ixor, 63, 0, 0, 0, []) else none) else (if pc < 64 then (if pc = 63 then some (.iand, 64, 0, 0, 0, []) else none) else (if pc = 64 then some ((.ifCond .ne 7), 67, 71, 0, 0, []) else none)))) else (if pc < 74 then (if pc < 69 then (if pc = 67 then some ((.iload 5), 69, 0, 0, 0, []) else none) else (if pc < 71 then (if pc = 69 then some ((.istore 4), 71, 0, 0, 0, []) else none) else (if pc = 71 then some ((.iinc 5 1), 74, 0, 0, 1, []) else none))) else (if pc < 77 then (if pc = 74 then some ((.goto (-63)), 77, 11, 0, 0, []) else none) else (if pc < 79 then (if pc = 77 then some ((.iload 4), 79, 0, 0, 0, []) else none) else (if pc = 79 then some (.ireturn, 80, 0, 0, 0, []) else none))))))) else none
set_option maxRecDepth 100000 in
theorem ck_X1_cheapestSeams : ∀ pc E, C_X1_cheapestSeams pc = some E → ckI 1 (mB 17) pc E = true := ck_tab (n := 80) (by decide +kernel) (fun pc h => by unfold C_X1_cheapestSeams; rw [if_neg h])
def k_X1_cheapestSeams (pc : Nat) : Option (List Bool) := if pc = 11 then some [true, true, true, true, true, true, false] else none
abbrev f_X1_cheapestSeams : Nat := 34
set_option maxRecDepth 100000 in
set_option maxHeartbeats 4000000 in
theorem s_X1_cheapestSeams_0 {α : Type} (O : Ora) (I : Nat → Nat → Int32) (J : Nat → Nat → Int64) (K : Nat → List Value → List Value → IJ → Option α) (rt : Option Value → IJ → Option α) (a2 : Int32) :
  blkS O none 7 T0 C_X1_cheapestSeams k_X1_cheapestSeams K rt f_X1_cheapestSeams 0 [.ref 172, .ref 171, .int a2, un, un, un, un] [] (I, J) = K 11 [.ref 172, .ref 171, .int a2, .int (a2 &&& (-a2)), .int (-1), .int 0, un] [] (I, J) := rfl
set_option maxRecDepth 100000 in
set_option maxHeartbeats 4000000 in
theorem s_X1_cheapestSeams_11 {α : Type} (O : Ora) (I : Nat → Nat → Int32) (J : Nat → Nat → Int64) (K : Nat → List Value → List Value → IJ → Option α) (rt : Option Value → IJ → Option α) (x2 x3 x4 x5 : Int32) :
  blkS O none 7 T0 C_X1_cheapestSeams k_X1_cheapestSeams K rt f_X1_cheapestSeams 11 [.ref 172, .ref 171, .int x2, .int x3, .int x4, .int x5, un] [] (I, J) = if (1 <<< ((I 25 1) &&& 31)) ≤ x5 then (rt (some (.int x4)) (I, J)) else (if x4 < 0 then (p_ci (O T0 12 [.ref 172, .int x5, .int x3] (I, J)) (fun v2 z1 => if (x2 &&& (v2 ^^^ (-1))) = 0 then (K 11 [.ref 172, .ref 171, .int x2, .int x3, .int x5, .int (x5 + 1), un] [] z1) else (K 11 [.ref 172, .ref 171, .int x2, .int x3, .int x4, .int (x5 + 1), un] [] z1))) else (p_chk (p_in x5 1024) (p_chk (p_in x4 1024) (if (I 171 x4.toNatClampNeg) ≤ (I 171 x5.toNatClampNeg) then (K 11 [.ref 172, .ref 171, .int x2, .int x3, .int x4, .int (x5 + 1), un] [] (I, J)) else (p_ci (O T0 12 [.ref 172, .int x5, .int x3] (I, J)) (fun v6 z5 => if (x2 &&& (v6 ^^^ (-1))) = 0 then (K 11 [.ref 172, .ref 171, .int x2, .int x3, .int x5, .int (x5 + 1), un] [] z5) else (K 11 [.ref 172, .ref 171, .int x2, .int x3, .int x4, .int (x5 + 1), un] [] z5))))))) := rfl
def C_X1_bridges (pc : Nat) : Option PE := if pc < 73 then (if pc < 33 then (if pc < 17 then (if pc < 5 then (if pc < 2 then (if pc < 1 then (if pc = 0 then some ((.iconst 0), 1, 0, 0, 0, []) else none) else (if pc = 1 then some ((.istore_n 2), 2, 0, 0, 0, []) else none)) else (if pc < 3 then (if pc = 2 then some ((.iconst 0), 3, 0, 0, 0, []) else none) else (if pc < 4 then (if pc = 3 then some ((.istore_n 3), 4, 0, 0, 0, []) else none) else (if pc = 4 then some ((.iload_n 3), 5, 0, 0, 0, []) else none)))) else (if pc < 12 then (if pc < 6 then (if pc = 5 then some ((.aload_n 0), 6, 0, 0, 0, []) else none) else (if pc < 9 then (if pc = 6 then some ((.getfield 15), 9, 1, 0, 0, []) else none) else (if pc = 9 then some ((.getfield 19), 12, 3, 1, 0, []) else none))) else (if pc < 15 then (if pc = 12 then some ((.if_icmp .ge 59), 15, 71, 0, 0, []) else none) else (if pc < 16 then (if pc = 15 then some ((.iload_n 1), 16, 0, 0, 0, []) else none) else (if pc = 16 then some ((.iconst 1), 17, 0, 0, 1, []) else none))))) else (if pc < 22 then (if pc < 19 then (if pc < 18 then (if pc = 17 then some ((.iload_n 3), 18, 0, 0, 0, []) else none) else (if pc = 18 then some (.ishl, 19, 0, 0, 0, []) else none)) else (if pc < 20 then (if pc = 19 then some ((.iconst (-1)), 20, 0, 0, (-1), []) else none) else (if pc < 21 then (if pc = 20 then some (.ixor, 21, 0, 0, 0, []) else none) else (if pc = 21 then some (.iand, 22, 0, 0, 0, []) else none)))) else (if pc < 26 then (if pc < 24 then (if pc = 22 then some ((.istore 4), 24, 0, 0, 0, []) else none) else (if pc < 25 then (if pc = 24 then some ((.iload_n 1), 25, 0, 0, 0, []) else none) else (if pc = 25 then some ((.iload_n 3), 26, 0, 0, 0, []) else none))) else (if pc < 29 then (if pc = 26 then some ((.invokestatic 25), 29, 165, 2, 0, [1]) else none) else (if pc < 32 then (if pc = 29 then some ((.ifCond .eq 36), 32, 65, 0, 0, []) else none) else (if pc = 32 then some ((.aload_n 0), 33, 0, 0, 0, []) else none)))))) else (if pc < 53 then (if pc < 43 then (if pc < 36 then (if pc < 35 then (if pc = 33 then some ((.iload 4), 35, 0, 0, 0, []) else none) else (if pc = 35 then some ((.aload_n 0), 36, 0, 0, 0, []) else none)) else (if pc < 39 then (if pc = 36 then some ((.getfield 15), 39, 1, 0, 0, []) else none) else (if pc < 42 then (if pc = 39 then some ((.getfield 46), 42, 3, 8, 0, []) else none) else (if pc = 42 then some ((.iload_n 3), 43, 0, 0, 0, []) else none)))) else (if pc < 48 then (if pc < 44 then (if pc = 43 then some (.iaload, 44, 0, 0, 0, []) else none) else (if pc < 45 then (if pc = 44 then some ((.aload_n 0), 45, 0, 0, 0, []) else none) else (if pc = 45 then some ((.getfield 15), 48, 1, 0, 0, []) else none))) else (if pc < 51 then (if pc = 48 then some ((.getfield 49), 51, 3, 9, 0, []) else none) else (if pc < 52 then (if pc = 51 then some ((.iload_n 3), 52, 0, 0, 0, []) else none) else (if pc = 52 then some (.iaload, 53, 0, 0, 0, []) else none))))) else (if pc < 63 then (if pc < 60 then (if pc < 56 then (if pc = 53 then some ((.invokevirtual 60), 56, 13, 4, 0, [1, 1]) else none) else (if pc < 59 then (if pc = 56 then some ((.ifCond .ne 9), 59, 65, 0, 0, []) else none) else (if pc = 59 then some ((.iload_n 2), 60, 0, 0, 0, []) else none))) else (if pc < 61 then (if pc = 60 then some ((.iconst 1), 61, 0, 0, 1, []) else none) else (if pc < 62 then (if pc = 61 then some ((.iload_n 3), 62, 0, 0, 0, []) else none) else (if pc = 62 then some (.ishl, 63, 0, 0, 0, []) else none)))) else (if pc < 68 then (if pc < 64 then (if pc = 63 then some (.ior, 64, 0, 0, 0, []) else none) else (if pc < 65 then (if pc = 64 then some ((.istore_n 2), 65, 0, 0, 0, []) else none) else (if pc = 65 then some ((.iinc 3 1), 68, 0, 0, 1, []) else none))) else (if pc < 71 then (if pc = 68 then some ((.goto (-64)), 71, 4, 0, 0, []) else none) else (if pc < 72 then (if pc = 71 then some ((.iload_n 2), 72, 0, 0, 0, []) else none) else (if pc = 72 then some (.ireturn, 73, 0, 0, 0, []) else none))))))) else none
set_option maxRecDepth 100000 in
theorem ck_X1_bridges : ∀ pc E, C_X1_bridges pc = some E → ckI 1 (mB 18) pc E = true := ck_tab (n := 73) (by decide +kernel) (fun pc h => by unfold C_X1_bridges; rw [if_neg h])
def k_X1_bridges (pc : Nat) : Option (List Bool) := if pc = 4 then some [true, true, true, true, false] else none
abbrev f_X1_bridges : Nat := 39
set_option maxRecDepth 100000 in
set_option maxHeartbeats 4000000 in
theorem s_X1_bridges_0 {α : Type} (O : Ora) (I : Nat → Nat → Int32) (J : Nat → Nat → Int64) (K : Nat → List Value → List Value → IJ → Option α) (rt : Option Value → IJ → Option α) (a1 : Int32) :
  blkS O none 5 T0 C_X1_bridges k_X1_bridges K rt f_X1_bridges 0 [.ref 172, .int a1, un, un, un] [] (I, J) = K 4 [.ref 172, .int a1, .int 0, .int 0, un] [] (I, J) := rfl
set_option maxRecDepth 100000 in
set_option maxHeartbeats 4000000 in
theorem s_X1_bridges_4 {α : Type} (O : Ora) (I : Nat → Nat → Int32) (J : Nat → Nat → Int64) (K : Nat → List Value → List Value → IJ → Option α) (rt : Option Value → IJ → Option α) (x1 x2 x3 : Int32) :
  blkS O none 5 T0 C_X1_bridges k_X1_bridges K rt f_X1_bridges 4 [.ref 172, .int x1, .int x2, .int x3, un] [] (I, J) = if (I 25 1) ≤ x3 then (rt (some (.int x2)) (I, J)) else (p_ci (O T0 165 [.int x1, .int x3] (I, J)) (fun v2 z1 => if v2 = 0 then (K 4 [.ref 172, .int x1, .int x2, .int (x3 + 1), un] [] z1) else (p_chk (p_in x3 10) (p_chk (p_in x3 10) (p_ci (O T0 13 [.ref 172, .int (x1 &&& ((1 <<< (x3 &&& 31)) ^^^ (-1))), .int (z1.1 26 x3.toNatClampNeg), .int (z1.1 27 x3.toNatClampNeg)] z1) (fun v4 z3 => if v4 = 0 then (K 4 [.ref 172, .int x1, .int (x2 ||| (1 <<< (x3 &&& 31))), .int (x3 + 1), un] [] z3) else (K 4 [.ref 172, .int x1, .int x2, .int (x3 + 1), un] [] z3))))))) := rfl
def C_X1_walks (pc : Nat) : Option PE := if pc < 77 then (if pc < 40 then (if pc < 19 then (if pc < 5 then (if pc < 2 then (if pc < 1 then (if pc = 0 then some ((.iconst 0), 1, 0, 0, 0, []) else none) else (if pc = 1 then some ((.istore_n 2), 2, 0, 0, 0, []) else none)) else (if pc < 3 then (if pc = 2 then some ((.iconst 0), 3, 0, 0, 0, []) else none) else (if pc < 4 then (if pc = 3 then some ((.istore_n 3), 4, 0, 0, 0, []) else none) else (if pc = 4 then some ((.iconst 0), 5, 0, 0, 0, []) else none)))) else (if pc < 10 then (if pc < 7 then (if pc = 5 then some ((.istore 4), 7, 0, 0, 0, []) else none) else (if pc < 9 then (if pc = 7 then some ((.iload 4), 9, 0, 0, 0, []) else none) else (if pc = 9 then some ((.aload_n 0), 10, 0, 0, 0, []) else none))) else (if pc < 13 then (if pc = 10 then some ((.getfield 15), 13, 1, 0, 0, []) else none) else (if pc < 16 then (if pc = 13 then some ((.getfield 63), 16, 3, 0, 0, []) else none) else (if pc = 16 then some ((.if_icmp .ge 59), 19, 75, 0, 0, []) else none))))) else (if pc < 30 then (if pc < 25 then (if pc < 20 then (if pc = 19 then some ((.iload_n 3), 20, 0, 0, 0, []) else none) else (if pc < 22 then (if pc = 20 then some ((.iload 4), 22, 0, 0, 0, []) else none) else (if pc = 22 then some ((.invokestatic 25), 25, 165, 2, 0, [1]) else none))) else (if pc < 28 then (if pc = 25 then some ((.ifCond .ne 44), 28, 69, 0, 0, []) else none) else (if pc < 29 then (if pc = 28 then some ((.aload_n 0), 29, 0, 0, 0, []) else none) else (if pc = 29 then some ((.iload_n 1), 30, 0, 0, 0, []) else none)))) else (if pc < 34 then (if pc < 31 then (if pc = 30 then some ((.iconst 1), 31, 0, 0, 1, []) else none) else (if pc < 33 then (if pc = 31 then some ((.iload 4), 33, 0, 0, 0, []) else none) else (if pc = 33 then some (.ishl, 34, 0, 0, 0, []) else none))) else (if pc < 37 then (if pc = 34 then some ((.invokevirtual 36), 37, 12, 3, 0, [1, 1]) else none) else (if pc < 39 then (if pc = 37 then some ((.istore 5), 39, 0, 0, 0, []) else none) else (if pc = 39 then some ((.iload_n 3), 40, 0, 0, 0, []) else none)))))) else (if pc < 56 then (if pc < 47 then (if pc < 43 then (if pc < 42 then (if pc = 40 then some ((.iload 5), 42, 0, 0, 0, []) else none) else (if pc = 42 then some (.ior, 43, 0, 0, 0, []) else none)) else (if pc < 44 then (if pc = 43 then some ((.istore_n 3), 44, 0, 0, 0, []) else none) else (if pc < 46 then (if pc = 44 then some ((.iload 5), 46, 0, 0, 0, []) else none) else (if pc = 46 then some ((.iconst 1), 47, 0, 0, 1, []) else none)))) else (if pc < 53 then (if pc < 49 then (if pc = 47 then some ((.iload 4), 49, 0, 0, 0, []) else none) else (if pc < 50 then (if pc = 49 then some (.ishl, 50, 0, 0, 0, []) else none) else (if pc = 50 then some ((.if_icmp .eq 19), 53, 69, 0, 0, []) else none))) else (if pc < 54 then (if pc = 53 then some ((.iload_n 2), 54, 0, 0, 0, []) else none) else (if pc < 55 then (if pc = 54 then some ((.iconst 1), 55, 0, 0, 1, []) else none) else (if pc = 55 then some ((.aload_n 0), 56, 0, 0, 0, []) else none))))) else (if pc < 67 then (if pc < 62 then (if pc < 57 then (if pc = 56 then some ((.iload_n 1), 57, 0, 0, 0, []) else none) else (if pc < 59 then (if pc = 57 then some ((.iload 5), 59, 0, 0, 0, []) else none) else (if pc = 59 then some ((.invokevirtual 66), 62, 20, 3, 0, [1, 1]) else none))) else (if pc < 63 then (if pc = 62 then some ((.iconst 2), 63, 0, 0, 2, []) else none) else (if pc < 64 then (if pc = 63 then some (.idiv, 64, 0, 0, 0, []) else none) else (if pc = 64 then some ((.invokestatic 69), 67, 9000, 0, 0, [1, 1]) else none)))) else (if pc < 72 then (if pc < 68 then (if pc = 67 then some (.iadd, 68, 0, 0, 0, []) else none) else (if pc < 69 then (if pc = 68 then some ((.istore_n 2), 69, 0, 0, 0, []) else none) else (if pc = 69 then some ((.iinc 4 1), 72, 0, 0, 1, []) else none))) else (if pc < 75 then (if pc = 72 then some ((.goto (-65)), 75, 7, 0, 0, []) else none) else (if pc < 76 then (if pc = 75 then some ((.iload_n 2), 76, 0, 0, 0, []) else none) else (if pc = 76 then some (.ireturn, 77, 0, 0, 0, []) else none))))))) else none
set_option maxRecDepth 100000 in
theorem ck_X1_walks : ∀ pc E, C_X1_walks pc = some E → ckI 1 (mB 19) pc E = true := ck_tab (n := 77) (by decide +kernel) (fun pc h => by unfold C_X1_walks; rw [if_neg h])
def k_X1_walks (pc : Nat) : Option (List Bool) := if pc = 7 then some [true, true, true, true, true, false] else none
abbrev f_X1_walks : Nat := 38
set_option maxRecDepth 100000 in
set_option maxHeartbeats 4000000 in
theorem s_X1_walks_0 {α : Type} (O : Ora) (I : Nat → Nat → Int32) (J : Nat → Nat → Int64) (K : Nat → List Value → List Value → IJ → Option α) (rt : Option Value → IJ → Option α) (a1 : Int32) :
  blkS O none 6 T0 C_X1_walks k_X1_walks K rt f_X1_walks 0 [.ref 172, .int a1, un, un, un, un] [] (I, J) = K 7 [.ref 172, .int a1, .int 0, .int 0, .int 0, un] [] (I, J) := rfl
set_option maxRecDepth 100000 in
set_option maxHeartbeats 4000000 in
theorem s_X1_walks_7 {α : Type} (O : Ora) (I : Nat → Nat → Int32) (J : Nat → Nat → Int64) (K : Nat → List Value → List Value → IJ → Option α) (rt : Option Value → IJ → Option α) (x1 x2 x3 x4 : Int32) :
  blkS O none 6 T0 C_X1_walks k_X1_walks K rt f_X1_walks 7 [.ref 172, .int x1, .int x2, .int x3, .int x4, un] [] (I, J) = if (I 25 0) ≤ x4 then (rt (some (.int x2)) (I, J)) else (p_ci (O T0 165 [.int x3, .int x4] (I, J)) (fun v2 z1 => if v2 = 0 then (p_ci (O T0 12 [.ref 172, .int x1, .int (1 <<< (x4 &&& 31))] z1) (fun v4 z3 => if v4 = (1 <<< (x4 &&& 31)) then (K 7 [.ref 172, .int x1, .int x2, .int (x3 ||| v4), .int (x4 + 1), un] [] z3) else (p_ci (O T0 20 [.ref 172, .int x1, .int v4] z3) (fun v6 z5 => K 7 [.ref 172, .int x1, .int (x2 + (if (1 : Int32) < (v6 / 2) then (v6 / 2) else 1)), .int (x3 ||| v4), .int (x4 + 1), un] [] z5)))) else (K 7 [.ref 172, .int x1, .int x2, .int x3, .int (x4 + 1), un] [] z1))) := rfl
def C_X1_oddTowns (pc : Nat) : Option PE := if pc < 52 then (if pc < 27 then (if pc < 11 then (if pc < 3 then (if pc < 1 then (if pc = 0 then some ((.iconst 0), 1, 0, 0, 0, []) else none) else (if pc < 2 then (if pc = 1 then some ((.istore_n 3), 2, 0, 0, 0, []) else none) else (if pc = 2 then some ((.iconst 0), 3, 0, 0, 0, []) else none))) else (if pc < 7 then (if pc < 5 then (if pc = 3 then some ((.istore 4), 5, 0, 0, 0, []) else none) else (if pc = 5 then some ((.iload 4), 7, 0, 0, 0, []) else none)) else (if pc < 8 then (if pc = 7 then some ((.aload_n 0), 8, 0, 0, 0, []) else none) else (if pc = 8 then some ((.getfield 15), 11, 1, 0, 0, []) else none)))) else (if pc < 18 then (if pc < 14 then (if pc = 11 then some ((.getfield 19), 14, 3, 1, 0, []) else none) else (if pc < 17 then (if pc = 14 then some ((.if_icmp .ge 31), 17, 45, 0, 0, []) else none) else (if pc = 17 then some ((.iload_n 1), 18, 0, 0, 0, []) else none))) else (if pc < 23 then (if pc < 20 then (if pc = 18 then some ((.iload 4), 20, 0, 0, 0, []) else none) else (if pc = 20 then some ((.invokestatic 25), 23, 165, 2, 0, [1]) else none)) else (if pc < 26 then (if pc = 23 then some ((.ifCond .eq 16), 26, 39, 0, 0, []) else none) else (if pc = 26 then some ((.iload_n 3), 27, 0, 0, 0, []) else none))))) else (if pc < 39 then (if pc < 34 then (if pc < 28 then (if pc = 27 then some ((.aload_n 0), 28, 0, 0, 0, []) else none) else (if pc < 31 then (if pc = 28 then some ((.getfield 15), 31, 1, 0, 0, []) else none) else (if pc = 31 then some ((.getfield 29), 34, 3, 10, 0, []) else none))) else (if pc < 37 then (if pc < 36 then (if pc = 34 then some ((.iload 4), 36, 0, 0, 0, []) else none) else (if pc = 36 then some (.iaload, 37, 0, 0, 0, []) else none)) else (if pc < 38 then (if pc = 37 then some (.ixor, 38, 0, 0, 0, []) else none) else (if pc = 38 then some ((.istore_n 3), 39, 0, 0, 0, []) else none)))) else (if pc < 46 then (if pc < 42 then (if pc = 39 then some ((.iinc 4 1), 42, 0, 0, 1, []) else none) else (if pc < 45 then (if pc = 42 then some ((.goto (-37)), 45, 5, 0, 0, []) else none) else (if pc = 45 then some ((.iload_n 3), 46, 0, 0, 0, []) else none))) else (if pc < 48 then (if pc < 47 then (if pc = 46 then some ((.iload_n 2), 47, 0, 0, 0, []) else none) else (if pc = 47 then some (.iand, 48, 0, 0, 0, []) else none)) else (if pc < 51 then (if pc = 48 then some ((.invokestatic 74), 51, 276, 1, 0, [1]) else none) else (if pc = 51 then some (.ireturn, 52, 0, 0, 0, []) else none)))))) else none
set_option maxRecDepth 100000 in
theorem ck_X1_oddTowns : ∀ pc E, C_X1_oddTowns pc = some E → ckI 1 (mB 20) pc E = true := ck_tab (n := 52) (by decide +kernel) (fun pc h => by unfold C_X1_oddTowns; rw [if_neg h])
def k_X1_oddTowns (pc : Nat) : Option (List Bool) := if pc = 5 then some [true, true, true, true, true] else none
abbrev f_X1_oddTowns : Nat := 19
set_option maxRecDepth 100000 in
set_option maxHeartbeats 4000000 in
theorem s_X1_oddTowns_0 {α : Type} (O : Ora) (I : Nat → Nat → Int32) (J : Nat → Nat → Int64) (K : Nat → List Value → List Value → IJ → Option α) (rt : Option Value → IJ → Option α) (a1 a2 : Int32) :
  blkS O none 5 T0 C_X1_oddTowns k_X1_oddTowns K rt f_X1_oddTowns 0 [.ref 172, .int a1, .int a2, un, un] [] (I, J) = K 5 [.ref 172, .int a1, .int a2, .int 0, .int 0] [] (I, J) := rfl
set_option maxRecDepth 100000 in
set_option maxHeartbeats 4000000 in
theorem s_X1_oddTowns_5 {α : Type} (O : Ora) (I : Nat → Nat → Int32) (J : Nat → Nat → Int64) (K : Nat → List Value → List Value → IJ → Option α) (rt : Option Value → IJ → Option α) (x1 x2 x3 x4 : Int32) :
  blkS O none 5 T0 C_X1_oddTowns k_X1_oddTowns K rt f_X1_oddTowns 5 [.ref 172, .int x1, .int x2, .int x3, .int x4] [] (I, J) = if (I 25 1) ≤ x4 then (p_ci (O T0 276 [.int (x3 &&& x2)] (I, J)) (fun v2 z1 => rt (some (.int v2)) z1)) else (p_ci (O T0 165 [.int x1, .int x4] (I, J)) (fun v4 z3 => if v4 = 0 then (K 5 [.ref 172, .int x1, .int x2, .int x3, .int (x4 + 1)] [] z3) else (p_chk (p_in x4 10) (K 5 [.ref 172, .int x1, .int x2, .int (x3 ^^^ (z3.1 28 x4.toNatClampNeg)), .int (x4 + 1)] [] z3)))) := rfl
def C_X1_seamsAsWide (pc : Nat) : Option PE := if pc < 40 then (if pc < 21 then (if pc < 8 then (if pc < 3 then (if pc < 1 then (if pc = 0 then some ((.iconst 0), 1, 0, 0, 0, []) else none) else (if pc < 2 then (if pc = 1 then some ((.istore_n 3), 2, 0, 0, 0, []) else none) else (if pc = 2 then some ((.iconst 0), 3, 0, 0, 0, []) else none))) else (if pc < 5 then (if pc = 3 then some ((.istore 4), 5, 0, 0, 0, []) else none) else (if pc < 7 then (if pc = 5 then some ((.iload 4), 7, 0, 0, 0, []) else none) else (if pc = 7 then some ((.aload_n 0), 8, 0, 0, 0, []) else none)))) else (if pc < 17 then (if pc < 11 then (if pc = 8 then some ((.getfield 15), 11, 1, 0, 0, []) else none) else (if pc < 14 then (if pc = 11 then some ((.getfield 19), 14, 3, 1, 0, []) else none) else (if pc = 14 then some ((.if_icmp .ge 24), 17, 38, 0, 0, []) else none))) else (if pc < 18 then (if pc = 17 then some ((.aload_n 1), 18, 0, 0, 0, []) else none) else (if pc < 20 then (if pc = 18 then some ((.iload 4), 20, 0, 0, 0, []) else none) else (if pc = 20 then some (.iaload, 21, 0, 0, 0, []) else none))))) else (if pc < 30 then (if pc < 26 then (if pc < 22 then (if pc = 21 then some ((.iload_n 2), 22, 0, 0, 0, []) else none) else (if pc < 25 then (if pc = 22 then some ((.if_icmp .lt 10), 25, 32, 0, 0, []) else none) else (if pc = 25 then some ((.iload_n 3), 26, 0, 0, 0, []) else none))) else (if pc < 27 then (if pc = 26 then some ((.iconst 1), 27, 0, 0, 1, []) else none) else (if pc < 29 then (if pc = 27 then some ((.iload 4), 29, 0, 0, 0, []) else none) else (if pc = 29 then some (.ishl, 30, 0, 0, 0, []) else none)))) else (if pc < 35 then (if pc < 31 then (if pc = 30 then some (.ior, 31, 0, 0, 0, []) else none) else (if pc < 32 then (if pc = 31 then some ((.istore_n 3), 32, 0, 0, 0, []) else none) else (if pc = 32 then some ((.iinc 4 1), 35, 0, 0, 1, []) else none))) else (if pc < 38 then (if pc = 35 then some ((.goto (-30)), 38, 5, 0, 0, []) else none) else (if pc < 39 then (if pc = 38 then some ((.iload_n 3), 39, 0, 0, 0, []) else none) else (if pc = 39 then some (.ireturn, 40, 0, 0, 0, []) else none)))))) else none
set_option maxRecDepth 100000 in
theorem ck_X1_seamsAsWide : ∀ pc E, C_X1_seamsAsWide pc = some E → ckI 1 (mB 21) pc E = true := ck_tab (n := 40) (by decide +kernel) (fun pc h => by unfold C_X1_seamsAsWide; rw [if_neg h])
def k_X1_seamsAsWide (pc : Nat) : Option (List Bool) := if pc = 5 then some [true, true, true, true, true] else none
abbrev f_X1_seamsAsWide : Nat := 18
set_option maxRecDepth 100000 in
set_option maxHeartbeats 4000000 in
theorem s_X1_seamsAsWide_40_0 {α : Type} (O : Ora) (I : Nat → Nat → Int32) (J : Nat → Nat → Int64) (K : Nat → List Value → List Value → IJ → Option α) (rt : Option Value → IJ → Option α) (a2 : Int32) :
  blkS O none 5 T0 C_X1_seamsAsWide k_X1_seamsAsWide K rt f_X1_seamsAsWide 0 [.ref 172, .ref 40, .int a2, un, un] [] (I, J) = K 5 [.ref 172, .ref 40, .int a2, .int 0, .int 0] [] (I, J) := rfl
set_option maxRecDepth 100000 in
set_option maxHeartbeats 4000000 in
theorem s_X1_seamsAsWide_40_5 {α : Type} (O : Ora) (I : Nat → Nat → Int32) (J : Nat → Nat → Int64) (K : Nat → List Value → List Value → IJ → Option α) (rt : Option Value → IJ → Option α) (x2 x3 x4 : Int32) :
  blkS O none 5 T0 C_X1_seamsAsWide k_X1_seamsAsWide K rt f_X1_seamsAsWide 5 [.ref 172, .ref 40, .int x2, .int x3, .int x4] [] (I, J) = if (I 25 1) ≤ x4 then (rt (some (.int x3)) (I, J)) else (p_chk (p_in x4 10) (if (I 40 x4.toNatClampNeg) < x2 then (K 5 [.ref 172, .ref 40, .int x2, .int x3, .int (x4 + 1)] [] (I, J)) else (K 5 [.ref 172, .ref 40, .int x2, .int (x3 ||| (1 <<< (x4 &&& 31))), .int (x4 + 1)] [] (I, J)))) := rfl
set_option maxRecDepth 100000 in
set_option maxHeartbeats 4000000 in
theorem s_X1_seamsAsWide_177_0 {α : Type} (O : Ora) (I : Nat → Nat → Int32) (J : Nat → Nat → Int64) (K : Nat → List Value → List Value → IJ → Option α) (rt : Option Value → IJ → Option α) (a2 : Int32) :
  blkS O none 5 T0 C_X1_seamsAsWide k_X1_seamsAsWide K rt f_X1_seamsAsWide 0 [.ref 172, .ref 177, .int a2, un, un] [] (I, J) = K 5 [.ref 172, .ref 177, .int a2, .int 0, .int 0] [] (I, J) := rfl
set_option maxRecDepth 100000 in
set_option maxHeartbeats 4000000 in
theorem s_X1_seamsAsWide_177_5 {α : Type} (O : Ora) (I : Nat → Nat → Int32) (J : Nat → Nat → Int64) (K : Nat → List Value → List Value → IJ → Option α) (rt : Option Value → IJ → Option α) (x2 x3 x4 : Int32) :
  blkS O none 5 T0 C_X1_seamsAsWide k_X1_seamsAsWide K rt f_X1_seamsAsWide 5 [.ref 172, .ref 177, .int x2, .int x3, .int x4] [] (I, J) = if (I 25 1) ≤ x4 then (rt (some (.int x3)) (I, J)) else (p_chk (p_in x4 10) (if (I 177 x4.toNatClampNeg) < x2 then (K 5 [.ref 172, .ref 177, .int x2, .int x3, .int (x4 + 1)] [] (I, J)) else (K 5 [.ref 172, .ref 177, .int x2, .int (x3 ||| (1 <<< (x4 &&& 31))), .int (x4 + 1)] [] (I, J)))) := rfl
def C_X1_shorten (pc : Nat) : Option PE := if pc < 43 then (if pc < 22 then (if pc < 13 then (if pc < 5 then (if pc < 1 then (if pc = 0 then some ((.aload_n 0), 1, 0, 0, 0, []) else none) else (if pc < 2 then (if pc = 1 then some ((.iload_n 1), 2, 0, 0, 0, []) else none) else (if pc = 2 then some ((.invokevirtual 80), 5, 15, 2, 0, [1, 1]) else none))) else (if pc < 9 then (if pc < 8 then (if pc = 5 then some ((.ifCond .eq 36), 8, 41, 0, 0, []) else none) else (if pc = 8 then some ((.aload_n 0), 9, 0, 0, 0, []) else none)) else (if pc < 12 then (if pc = 9 then some ((.getfield 9), 12, 1, 1, 0, []) else none) else (if pc = 12 then some ((.iload_n 1), 13, 0, 0, 0, []) else none)))) else (if pc < 16 then (if pc < 14 then (if pc = 13 then some (.iaload, 14, 0, 0, 0, []) else none) else (if pc < 15 then (if pc = 14 then some ((.iload_n 3), 15, 0, 0, 0, []) else none) else (if pc = 15 then some (.iadd, 16, 0, 0, 0, []) else none))) else (if pc < 20 then (if pc < 17 then (if pc = 16 then some ((.aload_n 0), 17, 0, 0, 0, []) else none) else (if pc = 17 then some ((.getfield 9), 20, 1, 1, 0, []) else none)) else (if pc < 21 then (if pc = 20 then some ((.iload_n 2), 21, 0, 0, 0, []) else none) else (if pc = 21 then some (.iaload, 22, 0, 0, 0, []) else none))))) else (if pc < 35 then (if pc < 29 then (if pc < 25 then (if pc = 22 then some ((.if_icmp .ge 19), 25, 41, 0, 0, []) else none) else (if pc < 26 then (if pc = 25 then some ((.aload_n 0), 26, 0, 0, 0, []) else none) else (if pc = 26 then some ((.getfield 9), 29, 1, 1, 0, []) else none))) else (if pc < 31 then (if pc < 30 then (if pc = 29 then some ((.iload_n 2), 30, 0, 0, 0, []) else none) else (if pc = 30 then some ((.aload_n 0), 31, 0, 0, 0, []) else none)) else (if pc < 34 then (if pc = 31 then some ((.getfield 9), 34, 1, 1, 0, []) else none) else (if pc = 34 then some ((.iload_n 1), 35, 0, 0, 0, []) else none)))) else (if pc < 39 then (if pc < 37 then (if pc < 36 then (if pc = 35 then some (.iaload, 36, 0, 0, 0, []) else none) else (if pc = 36 then some ((.iload_n 3), 37, 0, 0, 0, []) else none)) else (if pc < 38 then (if pc = 37 then some (.iadd, 38, 0, 0, 0, []) else none) else (if pc = 38 then some (.iastore, 39, 0, 0, 0, []) else none))) else (if pc < 41 then (if pc < 40 then (if pc = 39 then some ((.iconst 1), 40, 0, 0, 1, []) else none) else (if pc = 40 then some (.ireturn, 41, 0, 0, 0, []) else none)) else (if pc < 42 then (if pc = 41 then some ((.iconst 0), 42, 0, 0, 0, []) else none) else (if pc = 42 then some (.ireturn, 43, 0, 0, 0, []) else none)))))) else none
set_option maxRecDepth 100000 in
theorem ck_X1_shorten : ∀ pc E, C_X1_shorten pc = some E → ckI 1 (mB 22) pc E = true := ck_tab (n := 43) (by decide +kernel) (fun pc h => by unfold C_X1_shorten; rw [if_neg h])
def k_X1_shorten (pc : Nat) : Option (List Bool) := none
abbrev f_X1_shorten : Nat := 27
set_option maxRecDepth 100000 in
set_option maxHeartbeats 4000000 in
theorem s_X1_shorten_0 {α : Type} (O : Ora) (I : Nat → Nat → Int32) (J : Nat → Nat → Int64) (K : Nat → List Value → List Value → IJ → Option α) (rt : Option Value → IJ → Option α) (a1 a2 a3 : Int32) :
  blkS O none 4 T0 C_X1_shorten k_X1_shorten K rt f_X1_shorten 0 [.ref 172, .int a1, .int a2, .int a3] [] (I, J) = p_ci (O T0 15 [.ref 172, .int a1] (I, J)) (fun v2 z1 => if v2 = 0 then (rt (some (.int 0)) z1) else (p_chk (p_in a1 7) (p_chk (p_in a2 7) (if (z1.1 173 a2.toNatClampNeg) ≤ ((z1.1 173 a1.toNatClampNeg) + a3) then (rt (some (.int 0)) z1) else (p_chk (p_in a1 7) (p_chk (p_in a2 7) (rt (some (.int 1)) ((p_wr z1.1 173 a2.toNatClampNeg ((z1.1 173 a1.toNatClampNeg) + a3)), z1.2)))))))) := rfl
end
section
def C_X0_clear (pc : Nat) : Option PE := if pc < 34 then (if pc < 16 then (if pc < 8 then (if pc < 5 then (if pc < 1 then (if pc = 0 then some ((.aload_n 0), 1, 0, 0, 0, []) else none) else (if pc < 2 then (if pc = 1 then some ((.iconst 0), 2, 0, 0, 0, []) else none) else (if pc = 2 then some ((.putfield 21), 5, 0, 3, 0, []) else none))) else (if pc < 6 then (if pc = 5 then some ((.aload_n 0), 6, 0, 0, 0, []) else none) else (if pc < 7 then (if pc = 6 then some ((.iconst 0), 7, 0, 0, 0, []) else none) else (if pc = 7 then some ((.iconst 1), 8, 0, 0, 1, []) else none)))) else (if pc < 13 then (if pc < 9 then (if pc = 8 then some ((.iconst 1), 9, 0, 0, 1, []) else none) else (if pc < 12 then (if pc = 9 then some ((.invokevirtual 28), 12, 9, 4, 0, [0, 0]) else none) else (if pc = 12 then some ((.aload_n 0), 13, 0, 0, 0, []) else none))) else (if pc < 14 then (if pc = 13 then some ((.iconst 1), 14, 0, 0, 1, []) else none) else (if pc < 15 then (if pc = 14 then some ((.iconst 1), 15, 0, 0, 1, []) else none) else (if pc = 15 then some ((.iconst 1), 16, 0, 0, 1, []) else none))))) else (if pc < 26 then (if pc < 21 then (if pc < 19 then (if pc = 16 then some ((.invokevirtual 28), 19, 9, 4, 0, [0, 0]) else none) else (if pc < 20 then (if pc = 19 then some ((.aload_n 0), 20, 0, 0, 0, []) else none) else (if pc = 20 then some ((.iconst 2), 21, 0, 0, 2, []) else none))) else (if pc < 22 then (if pc = 21 then some ((.iconst 1), 22, 0, 0, 1, []) else none) else (if pc < 23 then (if pc = 22 then some ((.iconst 0), 23, 0, 0, 0, []) else none) else (if pc = 23 then some ((.invokevirtual 28), 26, 9, 4, 0, [0, 0]) else none)))) else (if pc < 29 then (if pc < 27 then (if pc = 26 then some ((.aload_n 0), 27, 0, 0, 0, []) else none) else (if pc < 28 then (if pc = 27 then some ((.iconst 3), 28, 0, 0, 3, []) else none) else (if pc = 28 then some ((.iconst 2), 29, 0, 0, 2, []) else none))) else (if pc < 30 then (if pc = 29 then some ((.iconst 0), 30, 0, 0, 0, []) else none) else (if pc < 33 then (if pc = 30 then some ((.invokevirtual 28), 33, 9, 4, 0, [0, 0]) else none) else (if pc = 33 then some (.return_, 34, 0, 0, 0, []) else none)))))) else none
set_option maxRecDepth 100000 in
theorem ck_X0_clear : ∀ pc E, C_X0_clear pc = some E → ckI 0 (mB 1) pc E = true := ck_tab (n := 34) (by decide +kernel) (fun pc h => by unfold C_X0_clear; rw [if_neg h])
def k_X0_clear (pc : Nat) : Option (List Bool) := none
abbrev f_X0_clear : Nat := 24
set_option maxRecDepth 100000 in
set_option maxHeartbeats 4000000 in
theorem s_X0_clear_0 {α : Type} (O : Ora) (I : Nat → Nat → Int32) (J : Nat → Nat → Int64) (K : Nat → List Value → List Value → IJ → Option α) (rt : Option Value → IJ → Option α) :
  blkS O none 1 T0 C_X0_clear k_X0_clear K rt f_X0_clear 0 [.ref 14] [] (I, J) = p_cv (O T0 9 [.ref 14, .int 0, .int 1, .int 1] ((p_wr I 14 3 0), J)) (fun z1 => p_cv (O T0 9 [.ref 14, .int 1, .int 1, .int 1] z1) (fun z2 => p_cv (O T0 9 [.ref 14, .int 2, .int 1, .int 0] z2) (fun z3 => p_cv (O T0 9 [.ref 14, .int 3, .int 2, .int 0] z3) (fun z4 => rt none z4)))) := rfl
def C_X0_copyFrom (pc : Nat) : Option PE := if pc < 39 then (if pc < 20 then (if pc < 9 then (if pc < 4 then (if pc < 1 then (if pc = 0 then some ((.aload_n 1), 1, 0, 0, 0, []) else none) else (if pc = 1 then some ((.getfield 11), 4, 0, 0, 0, []) else none)) else (if pc < 5 then (if pc = 4 then some ((.iconst 0), 5, 0, 0, 0, []) else none) else (if pc < 6 then (if pc = 5 then some ((.aload_n 0), 6, 0, 0, 0, []) else none) else (if pc = 6 then some ((.getfield 11), 9, 0, 0, 0, []) else none)))) else (if pc < 13 then (if pc < 10 then (if pc = 9 then some ((.iconst 0), 10, 0, 0, 0, []) else none) else (if pc = 10 then some ((.sipush 408), 13, 0, 0, 408, []) else none)) else (if pc < 16 then (if pc = 13 then some ((.invokestatic 32), 16, 9000, 0, 0, [0, 3]) else none) else (if pc < 17 then (if pc = 16 then some ((.aload_n 1), 17, 0, 0, 0, []) else none) else (if pc = 17 then some ((.getfield 18), 20, 0, 2, 0, []) else none))))) else (if pc < 27 then (if pc < 22 then (if pc < 21 then (if pc = 20 then some ((.iconst 0), 21, 0, 0, 0, []) else none) else (if pc = 21 then some ((.aload_n 0), 22, 0, 0, 0, []) else none)) else (if pc < 25 then (if pc = 22 then some ((.getfield 18), 25, 0, 2, 0, []) else none) else (if pc < 26 then (if pc = 25 then some ((.iconst 0), 26, 0, 0, 0, []) else none) else (if pc = 26 then some ((.iconst 4), 27, 0, 0, 4, []) else none)))) else (if pc < 32 then (if pc < 30 then (if pc = 27 then some ((.invokestatic 32), 30, 9000, 0, 0, [0, 3]) else none) else (if pc < 31 then (if pc = 30 then some ((.aload_n 0), 31, 0, 0, 0, []) else none) else (if pc = 31 then some ((.aload_n 1), 32, 0, 0, 0, []) else none))) else (if pc < 35 then (if pc = 32 then some ((.getfield 21), 35, 0, 3, 0, []) else none) else (if pc < 38 then (if pc = 35 then some ((.putfield 21), 38, 0, 3, 0, []) else none) else (if pc = 38 then some (.return_, 39, 0, 0, 0, []) else none)))))) else none
set_option maxRecDepth 100000 in
theorem ck_X0_copyFrom : ∀ pc E, C_X0_copyFrom pc = some E → ckI 0 (mB 2) pc E = true := ck_tab (n := 39) (by decide +kernel) (fun pc h => by unfold C_X0_copyFrom; rw [if_neg h])
def k_X0_copyFrom (pc : Nat) : Option (List Bool) := none
abbrev f_X0_copyFrom : Nat := 21
set_option maxRecDepth 100000 in
set_option maxHeartbeats 4000000 in
theorem s_X0_copyFrom_0 {α : Type} (O : Ora) (I : Nat → Nat → Int32) (J : Nat → Nat → Int64) (K : Nat → List Value → List Value → IJ → Option α) (rt : Option Value → IJ → Option α) :
  blkS O none 2 T0 C_X0_copyFrom k_X0_copyFrom K rt f_X0_copyFrom 0 [.ref 35, .ref 14] [] (I, J) = rt none ((p_wr (p_cp (p_cp I 15 36 0 0 408) 17 38 0 0 4) 35 3 (I 14 3)), J) := rfl
def C_X0_nextStep (pc : Nat) : Option PE := if pc < 5 then (if pc < 1 then (if pc = 0 then some ((.aload_n 0), 1, 0, 0, 0, []) else none) else (if pc < 4 then (if pc = 1 then some ((.getfield 21), 4, 0, 3, 0, []) else none) else (if pc = 4 then some (.ireturn, 5, 0, 0, 0, []) else none))) else none
set_option maxRecDepth 100000 in
theorem ck_X0_nextStep : ∀ pc E, C_X0_nextStep pc = some E → ckI 0 (mB 3) pc E = true := ck_tab (n := 5) (by decide +kernel) (fun pc h => by unfold C_X0_nextStep; rw [if_neg h])
def k_X0_nextStep (pc : Nat) : Option (List Bool) := none
abbrev f_X0_nextStep : Nat := 3
set_option maxRecDepth 100000 in
set_option maxHeartbeats 4000000 in
theorem s_X0_nextStep_0 {α : Type} (O : Ora) (I : Nat → Nat → Int32) (J : Nat → Nat → Int64) (K : Nat → List Value → List Value → IJ → Option α) (rt : Option Value → IJ → Option α) :
  blkS O none 1 T0 C_X0_nextStep k_X0_nextStep K rt f_X0_nextStep 0 [.ref 14] [] (I, J) = rt (some (.int (I 14 3))) (I, J) := rfl
def C_X0_beginLaw (pc : Nat) : Option PE := if pc < 17 then (if pc < 9 then (if pc < 2 then (if pc < 1 then (if pc = 0 then some ((.iload_n 1), 1, 0, 0, 0, []) else none) else (if pc = 1 then some ((.iconst 0), 2, 0, 0, 0, []) else none)) else (if pc < 3 then (if pc = 2 then some ((.iconst 3), 3, 0, 0, 3, []) else none) else (if pc < 6 then (if pc = 3 then some ((.invokestatic 38), 6, 164, 3, 0, [1]) else none) else (if pc = 6 then some ((.ifCond .eq 10), 9, 16, 0, 0, []) else none)))) else (if pc < 14 then (if pc < 10 then (if pc = 9 then some ((.aload_n 0), 10, 0, 0, 0, []) else none) else (if pc < 13 then (if pc = 10 then some ((.getfield 18), 13, 0, 2, 0, []) else none) else (if pc = 13 then some ((.iload_n 1), 14, 0, 0, 0, []) else none))) else (if pc < 15 then (if pc = 14 then some ((.iload_n 2), 15, 0, 0, 0, []) else none) else (if pc < 16 then (if pc = 15 then some (.iastore, 16, 0, 0, 0, []) else none) else (if pc = 16 then some (.return_, 17, 0, 0, 0, []) else none))))) else none
set_option maxRecDepth 100000 in
theorem ck_X0_beginLaw : ∀ pc E, C_X0_beginLaw pc = some E → ckI 0 (mB 4) pc E = true := ck_tab (n := 17) (by decide +kernel) (fun pc h => by unfold C_X0_beginLaw; rw [if_neg h])
def k_X0_beginLaw (pc : Nat) : Option (List Bool) := none
abbrev f_X0_beginLaw : Nat := 11
set_option maxRecDepth 100000 in
set_option maxHeartbeats 4000000 in
theorem s_X0_beginLaw_0 {α : Type} (O : Ora) (I : Nat → Nat → Int32) (J : Nat → Nat → Int64) (K : Nat → List Value → List Value → IJ → Option α) (rt : Option Value → IJ → Option α) (a1 a2 : Int32) :
  blkS O none 3 T0 C_X0_beginLaw k_X0_beginLaw K rt f_X0_beginLaw 0 [.ref 14, .int a1, .int a2] [] (I, J) = p_ci (O T0 164 [.int a1, .int 0, .int 3] (I, J)) (fun v2 z1 => if v2 = 0 then (rt none z1) else (p_chk (p_in a1 4) (rt none ((p_wr z1.1 17 a1.toNatClampNeg a2), z1.2)))) := rfl
def C_X0_addStep (pc : Nat) : Option PE := if pc < 36 then (if pc < 21 then (if pc < 11 then (if pc < 4 then (if pc < 1 then (if pc = 0 then some ((.aload_n 0), 1, 0, 0, 0, []) else none) else (if pc = 1 then some ((.getfield 21), 4, 0, 3, 0, []) else none)) else (if pc < 7 then (if pc = 4 then some ((.sipush 408), 7, 0, 0, 408, []) else none) else (if pc < 10 then (if pc = 7 then some ((.if_icmp .ge 28), 10, 35, 0, 0, []) else none) else (if pc = 10 then some ((.aload_n 0), 11, 0, 0, 0, []) else none)))) else (if pc < 15 then (if pc < 14 then (if pc = 11 then some ((.getfield 11), 14, 0, 0, 0, []) else none) else (if pc = 14 then some ((.aload_n 0), 15, 0, 0, 0, []) else none)) else (if pc < 18 then (if pc = 15 then some ((.getfield 21), 18, 0, 3, 0, []) else none) else (if pc < 19 then (if pc = 18 then some ((.iload_n 2), 19, 0, 0, 0, []) else none) else (if pc = 19 then some ((.bipush 64), 21, 0, 0, 64, []) else none))))) else (if pc < 26 then (if pc < 23 then (if pc < 22 then (if pc = 21 then some (.imul, 22, 0, 0, 0, []) else none) else (if pc = 22 then some ((.iload_n 1), 23, 0, 0, 0, []) else none)) else (if pc < 24 then (if pc = 23 then some (.iadd, 24, 0, 0, 0, []) else none) else (if pc < 25 then (if pc = 24 then some (.iastore, 25, 0, 0, 0, []) else none) else (if pc = 25 then some ((.aload_n 0), 26, 0, 0, 0, []) else none)))) else (if pc < 31 then (if pc < 27 then (if pc = 26 then some (.dup, 27, 0, 0, 0, []) else none) else (if pc < 30 then (if pc = 27 then some ((.getfield 21), 30, 0, 3, 0, []) else none) else (if pc = 30 then some ((.iconst 1), 31, 0, 0, 1, []) else none))) else (if pc < 32 then (if pc = 31 then some (.iadd, 32, 0, 0, 0, []) else none) else (if pc < 35 then (if pc = 32 then some ((.putfield 21), 35, 0, 3, 0, []) else none) else (if pc = 35 then some (.return_, 36, 0, 0, 0, []) else none)))))) else none
set_option maxRecDepth 100000 in
theorem ck_X0_addStep : ∀ pc E, C_X0_addStep pc = some E → ckI 0 (mB 5) pc E = true := ck_tab (n := 36) (by decide +kernel) (fun pc h => by unfold C_X0_addStep; rw [if_neg h])
def k_X0_addStep (pc : Nat) : Option (List Bool) := none
abbrev f_X0_addStep : Nat := 21
set_option maxRecDepth 100000 in
set_option maxHeartbeats 4000000 in
theorem s_X0_addStep_0 {α : Type} (O : Ora) (I : Nat → Nat → Int32) (J : Nat → Nat → Int64) (K : Nat → List Value → List Value → IJ → Option α) (rt : Option Value → IJ → Option α) (a1 a2 : Int32) :
  blkS O none 3 T0 C_X0_addStep k_X0_addStep K rt f_X0_addStep 0 [.ref 14, .int a1, .int a2] [] (I, J) = if 408 ≤ (I 14 3) then (rt none (I, J)) else (p_chk (p_in (I 14 3) 408) (rt none ((p_wr (p_wr I 15 ((I 14 3).toNatClampNeg) ((a2 * 64) + a1)) 14 3 ((I 14 3) + 1)), J))) := rfl
def C_X0_leadHere (pc : Nat) : Option PE := if pc < 28 then (if pc < 16 then (if pc < 6 then (if pc < 4 then (if pc < 1 then (if pc = 0 then some ((.iload_n 1), 1, 0, 0, 0, []) else none) else (if pc = 1 then some ((.ifCond .lt 26), 4, 27, 0, 0, []) else none)) else (if pc < 5 then (if pc = 4 then some ((.iload_n 1), 5, 0, 0, 0, []) else none) else (if pc = 5 then some ((.aload_n 0), 6, 0, 0, 0, []) else none))) else (if pc < 12 then (if pc < 9 then (if pc = 6 then some ((.getfield 21), 9, 0, 3, 0, []) else none) else (if pc = 9 then some ((.if_icmp .ge 18), 12, 27, 0, 0, []) else none)) else (if pc < 13 then (if pc = 12 then some ((.aload_n 0), 13, 0, 0, 0, []) else none) else (if pc = 13 then some ((.getfield 11), 16, 0, 0, 0, []) else none)))) else (if pc < 23 then (if pc < 18 then (if pc < 17 then (if pc = 16 then some ((.iload_n 1), 17, 0, 0, 0, []) else none) else (if pc = 17 then some ((.aload_n 0), 18, 0, 0, 0, []) else none)) else (if pc < 21 then (if pc = 18 then some ((.getfield 21), 21, 0, 3, 0, []) else none) else (if pc = 21 then some ((.bipush 64), 23, 0, 0, 64, []) else none))) else (if pc < 25 then (if pc < 24 then (if pc = 23 then some (.imul, 24, 0, 0, 0, []) else none) else (if pc = 24 then some ((.iconst 3), 25, 0, 0, 3, []) else none)) else (if pc < 26 then (if pc = 25 then some (.iadd, 26, 0, 0, 0, []) else none) else (if pc < 27 then (if pc = 26 then some (.iastore, 27, 0, 0, 0, []) else none) else (if pc = 27 then some (.return_, 28, 0, 0, 0, []) else none)))))) else none
set_option maxRecDepth 100000 in
theorem ck_X0_leadHere : ∀ pc E, C_X0_leadHere pc = some E → ckI 0 (mB 6) pc E = true := ck_tab (n := 28) (by decide +kernel) (fun pc h => by unfold C_X0_leadHere; rw [if_neg h])
def k_X0_leadHere (pc : Nat) : Option (List Bool) := none
abbrev f_X0_leadHere : Nat := 17
set_option maxRecDepth 100000 in
set_option maxHeartbeats 4000000 in
theorem s_X0_leadHere_0 {α : Type} (O : Ora) (I : Nat → Nat → Int32) (J : Nat → Nat → Int64) (K : Nat → List Value → List Value → IJ → Option α) (rt : Option Value → IJ → Option α) (a1 : Int32) :
  blkS O none 2 T0 C_X0_leadHere k_X0_leadHere K rt f_X0_leadHere 0 [.ref 14, .int a1] [] (I, J) = if a1 < 0 then (rt none (I, J)) else (if (I 14 3) ≤ a1 then (rt none (I, J)) else (p_chk (p_in a1 408) (rt none ((p_wr I 15 a1.toNatClampNeg (((I 14 3) * 64) + 3)), J)))) := rfl
def C_X0_say (pc : Nat) : Option PE := if pc < 246 then (if pc < 128 then (if pc < 63 then (if pc < 31 then (if pc < 11 then (if pc < 6 then (if pc < 2 then (if pc < 1 then (if pc = 0 then some ((.iconst 0), 1, 0, 0, 0, []) else none) else (if pc = 1 then some ((.istore_n 3), 2, 0, 0, 0, []) else none)) else (if pc < 3 then (if pc = 2 then some ((.aload_n 0), 3, 0, 0, 0, []) else none) else (if pc = 3 then some ((.getfield 18), 6, 0, 2, 0, []) else none))) else (if pc < 8 then (if pc < 7 then (if pc = 6 then some ((.iload_n 1), 7, 0, 0, 0, []) else none) else (if pc = 7 then some (.iaload, 8, 0, 0, 0, []) else none)) else (if pc < 10 then (if pc = 8 then some ((.istore 4), 10, 0, 0, 0, []) else none) else (if pc = 10 then some ((.iconst 0), 11, 0, 0, 0, []) else none)))) else (if pc < 21 then (if pc < 15 then (if pc < 13 then (if pc = 11 then some ((.istore 5), 13, 0, 0, 0, []) else none) else (if pc = 13 then some ((.iload 5), 15, 0, 0, 0, []) else none)) else (if pc < 18 then (if pc = 15 then some ((.sipush 408), 18, 0, 0, 408, []) else none) else (if pc = 18 then some ((.if_icmp .ge 226), 21, 244, 0, 0, []) else none))) else (if pc < 24 then (if pc < 23 then (if pc = 21 then some ((.iload 4), 23, 0, 0, 0, []) else none) else (if pc = 23 then some ((.aload_n 0), 24, 0, 0, 0, []) else none)) else (if pc < 27 then (if pc = 24 then some ((.getfield 21), 27, 0, 3, 0, []) else none) else (if pc < 30 then (if pc = 27 then some ((.if_icmp .ge 217), 30, 244, 0, 0, []) else none) else (if pc = 30 then some ((.aload_n 0), 31, 0, 0, 0, []) else none)))))) else (if pc < 46 then (if pc < 39 then (if pc < 36 then (if pc < 34 then (if pc = 31 then some ((.getfield 11), 34, 0, 0, 0, []) else none) else (if pc = 34 then some ((.iload 4), 36, 0, 0, 0, []) else none)) else (if pc < 37 then (if pc = 36 then some (.iaload, 37, 0, 0, 0, []) else none) else (if pc = 37 then some ((.bipush 64), 39, 0, 0, 64, []) else none))) else (if pc < 42 then (if pc < 40 then (if pc = 39 then some (.irem, 40, 0, 0, 0, []) else none) else (if pc = 40 then some ((.istore 6), 42, 0, 0, 0, []) else none)) else (if pc < 43 then (if pc = 42 then some ((.aload_n 0), 43, 0, 0, 0, []) else none) else (if pc = 43 then some ((.getfield 11), 46, 0, 0, 0, []) else none)))) else (if pc < 52 then (if pc < 49 then (if pc < 48 then (if pc = 46 then some ((.iload 4), 48, 0, 0, 0, []) else none) else (if pc = 48 then some (.iaload, 49, 0, 0, 0, []) else none)) else (if pc < 51 then (if pc = 49 then some ((.bipush 64), 51, 0, 0, 64, []) else none) else (if pc = 51 then some (.idiv, 52, 0, 0, 0, []) else none))) else (if pc < 57 then (if pc < 54 then (if pc = 52 then some ((.istore 7), 54, 0, 0, 0, []) else none) else (if pc = 54 then some ((.iinc 4 1), 57, 0, 0, 1, []) else none)) else (if pc < 59 then (if pc = 57 then some ((.iload 6), 59, 0, 0, 0, []) else none) else (if pc < 60 then (if pc = 59 then some ((.iconst 1), 60, 0, 0, 1, []) else none) else (if pc = 60 then some ((.if_icmp .eq 9), 63, 69, 0, 0, []) else none))))))) else (if pc < 95 then (if pc < 78 then (if pc < 70 then (if pc < 66 then (if pc < 65 then (if pc = 63 then some ((.iload 6), 65, 0, 0, 0, []) else none) else (if pc = 65 then some ((.iconst 2), 66, 0, 0, 2, []) else none)) else (if pc < 69 then (if pc = 66 then some ((.if_icmp .ne 51), 69, 117, 0, 0, []) else none) else (if pc = 69 then some ((.iload_n 3), 70, 0, 0, 0, []) else none))) else (if pc < 75 then (if pc < 72 then (if pc = 70 then some ((.bipush 32), 72, 0, 0, 32, []) else none) else (if pc = 72 then some ((.if_icmp .ge 16), 75, 88, 0, 0, []) else none)) else (if pc < 77 then (if pc = 75 then some ((.iload 6), 77, 0, 0, 0, []) else none) else (if pc = 77 then some ((.iconst 2), 78, 0, 0, 2, []) else none)))) else (if pc < 88 then (if pc < 83 then (if pc < 81 then (if pc = 78 then some ((.if_icmp .ne 12), 81, 90, 0, 0, []) else none) else (if pc = 81 then some ((.iload 7), 83, 0, 0, 0, []) else none)) else (if pc < 85 then (if pc = 83 then some ((.bipush 9), 85, 0, 0, 9, []) else none) else (if pc = 85 then some ((.if_icmp .lt 5), 88, 90, 0, 0, []) else none))) else (if pc < 90 then (if pc < 89 then (if pc = 88 then some ((.iconst 0), 89, 0, 0, 0, []) else none) else (if pc = 89 then some (.ireturn, 90, 0, 0, 0, []) else none)) else (if pc < 91 then (if pc = 90 then some ((.aload_n 0), 91, 0, 0, 0, []) else none) else (if pc < 94 then (if pc = 91 then some ((.getfield 15), 94, 0, 1, 0, []) else none) else (if pc = 94 then some ((.iload_n 3), 95, 0, 0, 0, []) else none)))))) else (if pc < 110 then (if pc < 103 then (if pc < 98 then (if pc < 97 then (if pc = 95 then some ((.iload 6), 97, 0, 0, 0, []) else none) else (if pc = 97 then some ((.iconst 1), 98, 0, 0, 1, []) else none)) else (if pc < 101 then (if pc = 98 then some ((.if_icmp .ne 8), 101, 106, 0, 0, []) else none) else (if pc = 101 then some ((.iload 7), 103, 0, 0, 0, []) else none))) else (if pc < 107 then (if pc < 106 then (if pc = 103 then some ((.goto 7), 106, 110, 0, 0, []) else none) else (if pc = 106 then some ((.aload_n 2), 107, 0, 0, 0, []) else none)) else (if pc < 109 then (if pc = 107 then some ((.iload 7), 109, 0, 0, 0, []) else none) else (if pc = 109 then some (.iaload, 110, 0, 0, 0, []) else none)))) else (if pc < 119 then (if pc < 114 then (if pc < 111 then (if pc = 110 then some (.iastore, 111, 0, 0, 0, []) else none) else (if pc = 111 then some ((.iinc 3 1), 114, 0, 0, 1, []) else none)) else (if pc < 117 then (if pc = 114 then some ((.goto 124), 117, 238, 0, 0, []) else none) else (if pc = 117 then some ((.iload 6), 119, 0, 0, 0, []) else none))) else (if pc < 123 then (if pc < 120 then (if pc = 119 then some ((.iconst 4), 120, 0, 0, 4, []) else none) else (if pc = 120 then some ((.if_icmp .ne 20), 123, 140, 0, 0, []) else none)) else (if pc < 124 then (if pc = 123 then some ((.iload_n 3), 124, 0, 0, 0, []) else none) else (if pc < 127 then (if pc = 124 then some ((.ifCond .le 14), 127, 138, 0, 0, []) else none) else (if pc = 127 then some ((.aload_n 0), 128, 0, 0, 0, []) else none)))))))) else (if pc < 185 then (if pc < 157 then (if pc < 140 then (if pc < 134 then (if pc < 132 then (if pc < 131 then (if pc = 128 then some ((.getfield 15), 131, 0, 1, 0, []) else none) else (if pc = 131 then some ((.iload_n 3), 132, 0, 0, 0, []) else none)) else (if pc < 133 then (if pc = 132 then some ((.iconst 1), 133, 0, 0, 1, []) else none) else (if pc = 133 then some (.isub, 134, 0, 0, 0, []) else none))) else (if pc < 138 then (if pc < 135 then (if pc = 134 then some (.iaload, 135, 0, 0, 0, []) else none) else (if pc = 135 then some ((.goto 4), 138, 139, 0, 0, []) else none)) else (if pc < 139 then (if pc = 138 then some ((.iconst 0), 139, 0, 0, 0, []) else none) else (if pc = 139 then some (.ireturn, 140, 0, 0, 0, []) else none)))) else (if pc < 147 then (if pc < 142 then (if pc < 141 then (if pc = 140 then some ((.iload_n 3), 141, 0, 0, 0, []) else none) else (if pc = 141 then some ((.iconst 2), 142, 0, 0, 2, []) else none)) else (if pc < 145 then (if pc = 142 then some ((.if_icmp .lt 21), 145, 163, 0, 0, []) else none) else (if pc = 145 then some ((.iload 6), 147, 0, 0, 0, []) else none))) else (if pc < 152 then (if pc < 149 then (if pc = 147 then some ((.bipush 47), 149, 0, 0, 47, []) else none) else (if pc = 149 then some ((.if_icmp .ne 16), 152, 165, 0, 0, []) else none)) else (if pc < 153 then (if pc = 152 then some ((.aload_n 0), 153, 0, 0, 0, []) else none) else (if pc < 156 then (if pc = 153 then some ((.getfield 15), 156, 0, 1, 0, []) else none) else (if pc = 156 then some ((.iload_n 3), 157, 0, 0, 0, []) else none)))))) else (if pc < 168 then (if pc < 163 then (if pc < 159 then (if pc < 158 then (if pc = 157 then some ((.iconst 1), 158, 0, 0, 1, []) else none) else (if pc = 158 then some (.isub, 159, 0, 0, 0, []) else none)) else (if pc < 160 then (if pc = 159 then some (.iaload, 160, 0, 0, 0, []) else none) else (if pc = 160 then some ((.ifCond .ne 5), 163, 165, 0, 0, []) else none))) else (if pc < 165 then (if pc < 164 then (if pc = 163 then some ((.iconst 0), 164, 0, 0, 0, []) else none) else (if pc = 164 then some (.ireturn, 165, 0, 0, 0, []) else none)) else (if pc < 167 then (if pc = 165 then some ((.iload 6), 167, 0, 0, 0, []) else none) else (if pc = 167 then some ((.iconst 3), 168, 0, 0, 3, []) else none)))) else (if pc < 178 then (if pc < 174 then (if pc < 171 then (if pc = 168 then some ((.if_icmp .ne 40), 171, 208, 0, 0, []) else none) else (if pc = 171 then some ((.iinc 3 (-2)), 174, 0, 0, (-2), []) else none)) else (if pc < 175 then (if pc = 174 then some ((.aload_n 0), 175, 0, 0, 0, []) else none) else (if pc = 175 then some ((.getfield 15), 178, 0, 1, 0, []) else none))) else (if pc < 180 then (if pc < 179 then (if pc = 178 then some ((.iload_n 3), 179, 0, 0, 0, []) else none) else (if pc = 179 then some (.iaload, 180, 0, 0, 0, []) else none)) else (if pc < 181 then (if pc = 180 then some ((.aload_n 0), 181, 0, 0, 0, []) else none) else (if pc < 184 then (if pc = 181 then some ((.getfield 15), 184, 0, 1, 0, []) else none) else (if pc = 184 then some ((.iload_n 3), 185, 0, 0, 0, []) else none))))))) else (if pc < 218 then (if pc < 200 then (if pc < 191 then (if pc < 187 then (if pc < 186 then (if pc = 185 then some ((.iconst 1), 186, 0, 0, 1, []) else none) else (if pc = 186 then some (.iadd, 187, 0, 0, 0, []) else none)) else (if pc < 188 then (if pc = 187 then some (.iaload, 188, 0, 0, 0, []) else none) else (if pc = 188 then some ((.if_icmp .ge 8), 191, 196, 0, 0, []) else none))) else (if pc < 196 then (if pc < 193 then (if pc = 191 then some ((.iload 4), 193, 0, 0, 0, []) else none) else (if pc = 193 then some ((.goto 10), 196, 203, 0, 0, []) else none)) else (if pc < 198 then (if pc = 196 then some ((.iload 4), 198, 0, 0, 0, []) else none) else (if pc = 198 then some ((.iload 7), 200, 0, 0, 0, []) else none)))) else (if pc < 211 then (if pc < 205 then (if pc < 203 then (if pc = 200 then some ((.invokestatic 42), 203, 9000, 0, 0, [1, 1]) else none) else (if pc = 203 then some ((.istore 4), 205, 0, 0, 0, []) else none)) else (if pc < 208 then (if pc = 205 then some ((.goto 33), 208, 238, 0, 0, []) else none) else (if pc = 208 then some ((.iinc 3 (-1)), 211, 0, 0, (-1), []) else none))) else (if pc < 215 then (if pc < 212 then (if pc = 211 then some ((.aload_n 0), 212, 0, 0, 0, []) else none) else (if pc = 212 then some ((.getfield 15), 215, 0, 1, 0, []) else none)) else (if pc < 216 then (if pc = 215 then some ((.iload_n 3), 216, 0, 0, 0, []) else none) else (if pc < 217 then (if pc = 216 then some ((.iconst 1), 217, 0, 0, 1, []) else none) else (if pc = 217 then some (.isub, 218, 0, 0, 0, []) else none)))))) else (if pc < 229 then (if pc < 225 then (if pc < 221 then (if pc < 220 then (if pc = 218 then some ((.iload 6), 220, 0, 0, 0, []) else none) else (if pc = 220 then some ((.aload_n 0), 221, 0, 0, 0, []) else none)) else (if pc < 224 then (if pc = 221 then some ((.getfield 15), 224, 0, 1, 0, []) else none) else (if pc = 224 then some ((.iload_n 3), 225, 0, 0, 0, []) else none))) else (if pc < 227 then (if pc < 226 then (if pc = 225 then some ((.iconst 1), 226, 0, 0, 1, []) else none) else (if pc = 226 then some (.isub, 227, 0, 0, 0, []) else none)) else (if pc < 228 then (if pc = 227 then some (.iaload, 228, 0, 0, 0, []) else none) else (if pc = 228 then some ((.aload_n 0), 229, 0, 0, 0, []) else none)))) else (if pc < 237 then (if pc < 233 then (if pc < 232 then (if pc = 229 then some ((.getfield 15), 232, 0, 1, 0, []) else none) else (if pc = 232 then some ((.iload_n 3), 233, 0, 0, 0, []) else none)) else (if pc < 234 then (if pc = 233 then some (.iaload, 234, 0, 0, 0, []) else none) else (if pc = 234 then some ((.invokestatic 48), 237, 8, 3, 0, [1]) else none))) else (if pc < 241 then (if pc < 238 then (if pc = 237 then some (.iastore, 238, 0, 0, 0, []) else none) else (if pc = 238 then some ((.iinc 5 1), 241, 0, 0, 1, []) else none)) else (if pc < 244 then (if pc = 241 then some ((.goto (-228)), 244, 13, 0, 0, []) else none) else (if pc < 245 then (if pc = 244 then some ((.iconst 0), 245, 0, 0, 0, []) else none) else (if pc = 245 then some (.ireturn, 246, 0, 0, 0, []) else none))))))))) else none
set_option maxRecDepth 100000 in
theorem ck_X0_say : ∀ pc E, C_X0_say pc = some E → ckI 0 (mB 7) pc E = true := ck_tab (n := 246) (by decide +kernel) (fun pc h => by unfold C_X0_say; rw [if_neg h])
def k_X0_say (pc : Nat) : Option (List Bool) := if pc = 13 then some [true, false, true, true, true, true, false, false] else if pc = 57 then some [true, false, true, true, true, true, true, true] else if pc = 69 then some [true, false, true, true, true, true, true, true] else if pc = 90 then some [true, false, true, true, true, true, true, true] else if pc = 117 then some [true, false, true, true, true, true, true, true] else if pc = 140 then some [true, false, true, true, true, true, true, true] else if pc = 165 then some [true, false, true, true, true, true, true, true] else if pc = 174 then some [true, false, true, true, true, true, false, true] else if pc = 203 then some [true, false, true, true, false, true, false, false] else if pc = 211 then some [true, false, true, true, true, true, true, false] else none
abbrev f_X0_say : Nat := 22
set_option maxRecDepth 100000 in
set_option maxHeartbeats 4000000 in
theorem s_X0_say_0 {α : Type} (O : Ora) (I : Nat → Nat → Int32) (J : Nat → Nat → Int64) (K : Nat → List Value → List Value → IJ → Option α) (rt : Option Value → IJ → Option α) (a1 : Int32) :
  blkS O none 8 T0 C_X0_say k_X0_say K rt f_X0_say 0 [.ref 35, .int a1, .ref 170, un, un, un, un, un] [] (I, J) = p_chk (p_in a1 4) (K 13 [.ref 35, un, .ref 170, .int 0, .int (I 38 a1.toNatClampNeg), .int 0, un, un] [] (I, J)) := rfl
set_option maxRecDepth 100000 in
set_option maxHeartbeats 4000000 in
theorem s_X0_say_13 {α : Type} (O : Ora) (I : Nat → Nat → Int32) (J : Nat → Nat → Int64) (K : Nat → List Value → List Value → IJ → Option α) (rt : Option Value → IJ → Option α) (x3 x4 x5 : Int32) :
  blkS O none 8 T0 C_X0_say k_X0_say K rt f_X0_say 13 [.ref 35, un, .ref 170, .int x3, .int x4, .int x5, un, un] [] (I, J) = if 408 ≤ x5 then (rt (some (.int 0)) (I, J)) else (if (I 35 3) ≤ x4 then (rt (some (.int 0)) (I, J)) else (p_chk (p_in x4 408) (p_chk (p_in x4 408) (K 57 [.ref 35, un, .ref 170, .int x3, .int (x4 + 1), .int x5, .int ((I 36 x4.toNatClampNeg) - (I 36 x4.toNatClampNeg) / 64 * 64), .int ((I 36 x4.toNatClampNeg) / 64)] [] (I, J))))) := rfl
set_option maxRecDepth 100000 in
set_option maxHeartbeats 4000000 in
theorem s_X0_say_57 {α : Type} (O : Ora) (I : Nat → Nat → Int32) (J : Nat → Nat → Int64) (K : Nat → List Value → List Value → IJ → Option α) (rt : Option Value → IJ → Option α) (x3 x4 x5 x6 x7 : Int32) :
  blkS O none 8 T0 C_X0_say k_X0_say K rt f_X0_say 57 [.ref 35, un, .ref 170, .int x3, .int x4, .int x5, .int x6, .int x7] [] (I, J) = if x6 = 1 then (K 69 [.ref 35, un, .ref 170, .int x3, .int x4, .int x5, .int x6, .int x7] [] (I, J)) else (if x6 = 2 then (K 69 [.ref 35, un, .ref 170, .int x3, .int x4, .int x5, .int x6, .int x7] [] (I, J)) else (K 117 [.ref 35, un, .ref 170, .int x3, .int x4, .int x5, .int x6, .int x7] [] (I, J))) := rfl
set_option maxRecDepth 100000 in
set_option maxHeartbeats 4000000 in
theorem s_X0_say_69 {α : Type} (O : Ora) (I : Nat → Nat → Int32) (J : Nat → Nat → Int64) (K : Nat → List Value → List Value → IJ → Option α) (rt : Option Value → IJ → Option α) (x3 x4 x5 x6 x7 : Int32) :
  blkS O none 8 T0 C_X0_say k_X0_say K rt f_X0_say 69 [.ref 35, un, .ref 170, .int x3, .int x4, .int x5, .int x6, .int x7] [] (I, J) = if 32 ≤ x3 then (rt (some (.int 0)) (I, J)) else (if x6 = 2 then (if x7 < 9 then (K 90 [.ref 35, un, .ref 170, .int x3, .int x4, .int x5, .int x6, .int x7] [] (I, J)) else (rt (some (.int 0)) (I, J))) else (K 90 [.ref 35, un, .ref 170, .int x3, .int x4, .int x5, .int x6, .int x7] [] (I, J))) := rfl
set_option maxRecDepth 100000 in
set_option maxHeartbeats 4000000 in
theorem s_X0_say_90 {α : Type} (O : Ora) (I : Nat → Nat → Int32) (J : Nat → Nat → Int64) (K : Nat → List Value → List Value → IJ → Option α) (rt : Option Value → IJ → Option α) (x3 x4 x5 x6 x7 : Int32) :
  blkS O none 8 T0 C_X0_say k_X0_say K rt f_X0_say 90 [.ref 35, un, .ref 170, .int x3, .int x4, .int x5, .int x6, .int x7] [] (I, J) = if x6 = 1 then (p_chk (p_in x3 32) (K 13 [.ref 35, un, .ref 170, .int (x3 + 1), .int x4, .int (x5 + 1), un, un] [] ((p_wr I 37 x3.toNatClampNeg x7), J))) else (p_chk (p_in x7 9) (p_chk (p_in x3 32) (K 13 [.ref 35, un, .ref 170, .int (x3 + 1), .int x4, .int (x5 + 1), un, un] [] ((p_wr I 37 x3.toNatClampNeg (I 170 x7.toNatClampNeg)), J)))) := rfl
set_option maxRecDepth 100000 in
set_option maxHeartbeats 4000000 in
theorem s_X0_say_117 {α : Type} (O : Ora) (I : Nat → Nat → Int32) (J : Nat → Nat → Int64) (K : Nat → List Value → List Value → IJ → Option α) (rt : Option Value → IJ → Option α) (x3 x4 x5 x6 x7 : Int32) :
  blkS O none 8 T0 C_X0_say k_X0_say K rt f_X0_say 117 [.ref 35, un, .ref 170, .int x3, .int x4, .int x5, .int x6, .int x7] [] (I, J) = if x6 = 4 then (if x3 ≤ 0 then (rt (some (.int 0)) (I, J)) else (p_chk (p_in (x3 - 1) 32) (rt (some (.int (I 37 ((x3 - 1).toNatClampNeg)))) (I, J)))) else (K 140 [.ref 35, un, .ref 170, .int x3, .int x4, .int x5, .int x6, .int x7] [] (I, J)) := rfl
set_option maxRecDepth 100000 in
set_option maxHeartbeats 4000000 in
theorem s_X0_say_140 {α : Type} (O : Ora) (I : Nat → Nat → Int32) (J : Nat → Nat → Int64) (K : Nat → List Value → List Value → IJ → Option α) (rt : Option Value → IJ → Option α) (x3 x4 x5 x6 x7 : Int32) :
  blkS O none 8 T0 C_X0_say k_X0_say K rt f_X0_say 140 [.ref 35, un, .ref 170, .int x3, .int x4, .int x5, .int x6, .int x7] [] (I, J) = if x3 < 2 then (rt (some (.int 0)) (I, J)) else (if x6 = 47 then (p_chk (p_in (x3 - 1) 32) (if (I 37 ((x3 - 1).toNatClampNeg)) = 0 then (rt (some (.int 0)) (I, J)) else (K 165 [.ref 35, un, .ref 170, .int x3, .int x4, .int x5, .int x6, .int x7] [] (I, J)))) else (K 165 [.ref 35, un, .ref 170, .int x3, .int x4, .int x5, .int x6, .int x7] [] (I, J))) := rfl
set_option maxRecDepth 100000 in
set_option maxHeartbeats 4000000 in
theorem s_X0_say_165 {α : Type} (O : Ora) (I : Nat → Nat → Int32) (J : Nat → Nat → Int64) (K : Nat → List Value → List Value → IJ → Option α) (rt : Option Value → IJ → Option α) (x3 x4 x5 x6 x7 : Int32) :
  blkS O none 8 T0 C_X0_say k_X0_say K rt f_X0_say 165 [.ref 35, un, .ref 170, .int x3, .int x4, .int x5, .int x6, .int x7] [] (I, J) = if x6 = 3 then (K 174 [.ref 35, un, .ref 170, .int (x3 + (-2)), .int x4, .int x5, un, .int x7] [] (I, J)) else (K 211 [.ref 35, un, .ref 170, .int (x3 + (-1)), .int x4, .int x5, .int x6, un] [] (I, J)) := rfl
set_option maxRecDepth 100000 in
set_option maxHeartbeats 4000000 in
theorem s_X0_say_174 {α : Type} (O : Ora) (I : Nat → Nat → Int32) (J : Nat → Nat → Int64) (K : Nat → List Value → List Value → IJ → Option α) (rt : Option Value → IJ → Option α) (x3 x4 x5 x7 : Int32) :
  blkS O none 8 T0 C_X0_say k_X0_say K rt f_X0_say 174 [.ref 35, un, .ref 170, .int x3, .int x4, .int x5, un, .int x7] [] (I, J) = p_chk (p_in x3 32) (p_chk (p_in (x3 + 1) 32) (if (I 37 ((x3 + 1).toNatClampNeg)) ≤ (I 37 x3.toNatClampNeg) then (K 203 [.ref 35, un, .ref 170, .int x3, un, .int x5, un, un] [.int (if x4 < x7 then x7 else x4)] (I, J)) else (K 203 [.ref 35, un, .ref 170, .int x3, un, .int x5, un, un] [.int x4] (I, J)))) := rfl
set_option maxRecDepth 100000 in
set_option maxHeartbeats 4000000 in
theorem s_X0_say_203 {α : Type} (O : Ora) (I : Nat → Nat → Int32) (J : Nat → Nat → Int64) (K : Nat → List Value → List Value → IJ → Option α) (rt : Option Value → IJ → Option α) (x3 x5 t0 : Int32) :
  blkS O none 8 T0 C_X0_say k_X0_say K rt f_X0_say 203 [.ref 35, un, .ref 170, .int x3, un, .int x5, un, un] [.int t0] (I, J) = K 13 [.ref 35, un, .ref 170, .int x3, .int t0, .int (x5 + 1), un, un] [] (I, J) := rfl
set_option maxRecDepth 100000 in
set_option maxHeartbeats 4000000 in
theorem s_X0_say_211 {α : Type} (O : Ora) (I : Nat → Nat → Int32) (J : Nat → Nat → Int64) (K : Nat → List Value → List Value → IJ → Option α) (rt : Option Value → IJ → Option α) (x3 x4 x5 x6 : Int32) :
  blkS O none 8 T0 C_X0_say k_X0_say K rt f_X0_say 211 [.ref 35, un, .ref 170, .int x3, .int x4, .int x5, .int x6, un] [] (I, J) = p_chk (p_in (x3 - 1) 32) (p_chk (p_in x3 32) (p_ci (O T0 8 [.int x6, .int (I 37 ((x3 - 1).toNatClampNeg)), .int (I 37 x3.toNatClampNeg)] (I, J)) (fun v2 z1 => p_chk (p_in (x3 - 1) 32) (K 13 [.ref 35, un, .ref 170, .int x3, .int x4, .int (x5 + 1), un, un] [] ((p_wr z1.1 37 ((x3 - 1).toNatClampNeg) v2), z1.2))))) := rfl
def C_X0_reckon (pc : Nat) : Option PE := if pc < 56 then (if pc < 41 then (if pc < 35 then (if pc < 32 then (if pc < 1 then (if pc = 0 then some ((.iload_n 0), 1, 0, 0, 0, []) else none) else (if pc = 1 then some ((.tableswitch 43 42 45 #[39, 31, 43, 35]), 32, 44, 42, 0, [40, 32, 44, 36]) else none)) else (if pc < 33 then (if pc = 32 then some ((.iload_n 1), 33, 0, 0, 0, []) else none) else (if pc < 34 then (if pc = 33 then some ((.iload_n 2), 34, 0, 0, 0, []) else none) else (if pc = 34 then some (.iadd, 35, 0, 0, 0, []) else none)))) else (if pc < 38 then (if pc < 36 then (if pc = 35 then some (.ireturn, 36, 0, 0, 0, []) else none) else (if pc < 37 then (if pc = 36 then some ((.iload_n 1), 37, 0, 0, 0, []) else none) else (if pc = 37 then some ((.iload_n 2), 38, 0, 0, 0, []) else none))) else (if pc < 39 then (if pc = 38 then some (.isub, 39, 0, 0, 0, []) else none) else (if pc < 40 then (if pc = 39 then some (.ireturn, 40, 0, 0, 0, []) else none) else (if pc = 40 then some ((.iload_n 1), 41, 0, 0, 0, []) else none))))) else (if pc < 48 then (if pc < 43 then (if pc < 42 then (if pc = 41 then some ((.iload_n 2), 42, 0, 0, 0, []) else none) else (if pc = 42 then some (.imul, 43, 0, 0, 0, []) else none)) else (if pc < 44 then (if pc = 43 then some (.ireturn, 44, 0, 0, 0, []) else none) else (if pc < 45 then (if pc = 44 then some ((.iload_n 2), 45, 0, 0, 0, []) else none) else (if pc = 45 then some ((.ifCond .ne 7), 48, 52, 0, 0, []) else none)))) else (if pc < 53 then (if pc < 49 then (if pc = 48 then some ((.iconst 0), 49, 0, 0, 0, []) else none) else (if pc < 52 then (if pc = 49 then some ((.goto 6), 52, 55, 0, 0, []) else none) else (if pc = 52 then some ((.iload_n 1), 53, 0, 0, 0, []) else none))) else (if pc < 54 then (if pc = 53 then some ((.iload_n 2), 54, 0, 0, 0, []) else none) else (if pc < 55 then (if pc = 54 then some (.idiv, 55, 0, 0, 0, []) else none) else (if pc = 55 then some (.ireturn, 56, 0, 0, 0, []) else none)))))) else none
set_option maxRecDepth 100000 in
theorem ck_X0_reckon : ∀ pc E, C_X0_reckon pc = some E → ckI 0 (mB 8) pc E = true := ck_tab (n := 56) (by decide +kernel) (fun pc h => by unfold C_X0_reckon; rw [if_neg h])
def k_X0_reckon (pc : Nat) : Option (List Bool) := none
abbrev f_X0_reckon : Nat := 8
set_option maxRecDepth 100000 in
set_option maxHeartbeats 4000000 in
theorem s_X0_reckon_0 {α : Type} (O : Ora) (I : Nat → Nat → Int32) (J : Nat → Nat → Int64) (K : Nat → List Value → List Value → IJ → Option α) (rt : Option Value → IJ → Option α) (a0 a1 a2 : Int32) :
  blkS O none 3 T0 C_X0_reckon k_X0_reckon K rt f_X0_reckon 0 [.int a0, .int a1, .int a2] [] (I, J) = if a0 = nI 42 then (rt (some (.int (a1 * a2))) (I, J)) else if a0 = nI 43 then (rt (some (.int (a1 + a2))) (I, J)) else if a0 = nI 44 then (if a2 = 0 then (rt (some (.int 0)) (I, J)) else (p_chk (p_nz a2) (rt (some (.int (a1 / a2))) (I, J)))) else if a0 = nI 45 then (rt (some (.int (a1 - a2))) (I, J)) else (if a2 = 0 then (rt (some (.int 0)) (I, J)) else (p_chk (p_nz a2) (rt (some (.int (a1 / a2))) (I, J)))) := rfl
def C_X0_addDefault (pc : Nat) : Option PE := if pc < 23 then (if pc < 11 then (if pc < 5 then (if pc < 1 then (if pc = 0 then some ((.aload_n 0), 1, 0, 0, 0, []) else none) else (if pc < 4 then (if pc = 1 then some ((.getfield 18), 4, 0, 2, 0, []) else none) else (if pc = 4 then some ((.iload_n 1), 5, 0, 0, 0, []) else none))) else (if pc < 9 then (if pc < 6 then (if pc = 5 then some ((.aload_n 0), 6, 0, 0, 0, []) else none) else (if pc = 6 then some ((.getfield 21), 9, 0, 3, 0, []) else none)) else (if pc < 10 then (if pc = 9 then some (.iastore, 10, 0, 0, 0, []) else none) else (if pc = 10 then some ((.aload_n 0), 11, 0, 0, 0, []) else none)))) else (if pc < 17 then (if pc < 13 then (if pc < 12 then (if pc = 11 then some ((.iload_n 2), 12, 0, 0, 0, []) else none) else (if pc = 12 then some ((.iload_n 3), 13, 0, 0, 0, []) else none)) else (if pc < 16 then (if pc = 13 then some ((.invokevirtual 52), 16, 5, 3, 0, [0, 0]) else none) else (if pc = 16 then some ((.aload_n 0), 17, 0, 0, 0, []) else none))) else (if pc < 19 then (if pc < 18 then (if pc = 17 then some ((.iconst 4), 18, 0, 0, 4, []) else none) else (if pc = 18 then some ((.iconst 0), 19, 0, 0, 0, []) else none)) else (if pc < 22 then (if pc = 19 then some ((.invokevirtual 52), 22, 5, 3, 0, [0, 0]) else none) else (if pc = 22 then some (.return_, 23, 0, 0, 0, []) else none))))) else none
set_option maxRecDepth 100000 in
theorem ck_X0_addDefault : ∀ pc E, C_X0_addDefault pc = some E → ckI 0 (mB 9) pc E = true := ck_tab (n := 23) (by decide +kernel) (fun pc h => by unfold C_X0_addDefault; rw [if_neg h])
def k_X0_addDefault (pc : Nat) : Option (List Bool) := none
abbrev f_X0_addDefault : Nat := 15
set_option maxRecDepth 100000 in
set_option maxHeartbeats 4000000 in
theorem s_X0_addDefault_0 {α : Type} (O : Ora) (I : Nat → Nat → Int32) (J : Nat → Nat → Int64) (K : Nat → List Value → List Value → IJ → Option α) (rt : Option Value → IJ → Option α) (a1 a2 a3 : Int32) :
  blkS O none 4 T0 C_X0_addDefault k_X0_addDefault K rt f_X0_addDefault 0 [.ref 14, .int a1, .int a2, .int a3] [] (I, J) = p_chk (p_in a1 4) (p_cv (O T0 5 [.ref 14, .int a2, .int a3] ((p_wr I 17 a1.toNatClampNeg (I 14 3)), J)) (fun z1 => p_cv (O T0 5 [.ref 14, .int 4, .int 0] z1) (fun z2 => rt none z2))) := rfl
def C_X5_stitchCost (pc : Nat) : Option PE := if pc < 42 then (if pc < 18 then (if pc < 7 then (if pc < 2 then (if pc < 1 then (if pc = 0 then some ((.aload_n 0), 1, 0, 0, 0, []) else none) else (if pc = 1 then some ((.iload_n 1), 2, 0, 0, 0, []) else none)) else (if pc < 3 then (if pc = 2 then some ((.iload_n 2), 3, 0, 0, 0, []) else none) else (if pc < 4 then (if pc = 3 then some ((.iload_n 3), 4, 0, 0, 0, []) else none) else (if pc = 4 then some ((.invokevirtual 22), 7, 61, 4, 0, [0, 5]) else none)))) else (if pc < 13 then (if pc < 8 then (if pc = 7 then some ((.aload_n 0), 8, 0, 0, 0, []) else none) else (if pc < 11 then (if pc = 8 then some ((.getfield 9), 11, 5, 1, 0, []) else none) else (if pc = 11 then some ((.bipush 7), 13, 0, 0, 7, []) else none))) else (if pc < 14 then (if pc = 13 then some ((.iload_n 2), 14, 0, 0, 0, []) else none) else (if pc < 17 then (if pc = 14 then some ((.ifCond .ne 7), 17, 21, 0, 0, []) else none) else (if pc = 17 then some ((.iconst 1), 18, 0, 0, 1, []) else none))))) else (if pc < 30 then (if pc < 23 then (if pc < 21 then (if pc = 18 then some ((.goto 4), 21, 22, 0, 0, []) else none) else (if pc < 22 then (if pc = 21 then some ((.iconst 0), 22, 0, 0, 0, []) else none) else (if pc = 22 then some (.iastore, 23, 0, 0, 0, []) else none))) else (if pc < 24 then (if pc = 23 then some ((.aload_n 0), 24, 0, 0, 0, []) else none) else (if pc < 27 then (if pc = 24 then some ((.getfield 18), 27, 5, 0, 0, []) else none) else (if pc = 27 then some ((.getfield 26), 30, 3, 17, 0, []) else none)))) else (if pc < 35 then (if pc < 31 then (if pc = 30 then some ((.iconst 0), 31, 0, 0, 0, []) else none) else (if pc < 32 then (if pc = 31 then some ((.aload_n 0), 32, 0, 0, 0, []) else none) else (if pc = 32 then some ((.getfield 9), 35, 5, 1, 0, []) else none))) else (if pc < 38 then (if pc = 35 then some ((.invokevirtual 32), 38, 7, 3, 0, [1, 0]) else none) else (if pc < 41 then (if pc = 38 then some ((.invokestatic 38), 41, 62, 1, 0, [1]) else none) else (if pc = 41 then some (.ireturn, 42, 0, 0, 0, []) else none)))))) else none
set_option maxRecDepth 100000 in
theorem ck_X5_stitchCost : ∀ pc E, C_X5_stitchCost pc = some E → ckI 5 (mB 54) pc E = true := ck_tab (n := 42) (by decide +kernel) (fun pc h => by unfold C_X5_stitchCost; rw [if_neg h])
def k_X5_stitchCost (pc : Nat) : Option (List Bool) := none
abbrev f_X5_stitchCost : Nat := 22
set_option maxRecDepth 100000 in
set_option maxHeartbeats 4000000 in
theorem s_X5_stitchCost_0 {α : Type} (O : Ora) (I : Nat → Nat → Int32) (J : Nat → Nat → Int64) (K : Nat → List Value → List Value → IJ → Option α) (rt : Option Value → IJ → Option α) (a1 a2 a3 : Int32) :
  blkS O none 4 T0 C_X5_stitchCost k_X5_stitchCost K rt f_X5_stitchCost 0 [.ref 169, .int a1, .int a2, .int a3] [] (I, J) = p_cv (O T0 61 [.ref 169, .int a1, .int a2, .int a3] (I, J)) (fun z1 => if a2 = 0 then (p_ci (O T0 7 [.ref 35, .int 0, .ref 170] ((p_wr z1.1 170 7 1), z1.2)) (fun v7 z6 => p_ci (O T0 62 [.int v7] z6) (fun v9 z8 => rt (some (.int v9)) z8))) else (p_ci (O T0 7 [.ref 35, .int 0, .ref 170] ((p_wr z1.1 170 7 0), z1.2)) (fun v3 z2 => p_ci (O T0 62 [.int v3] z2) (fun v5 z4 => rt (some (.int v5)) z4)))) := rfl
def C_X5_wear (pc : Nat) : Option PE := if pc < 42 then (if pc < 19 then (if pc < 8 then (if pc < 3 then (if pc < 1 then (if pc = 0 then some ((.aload_n 0), 1, 0, 0, 0, []) else none) else (if pc < 2 then (if pc = 1 then some ((.iload_n 1), 2, 0, 0, 0, []) else none) else (if pc = 2 then some ((.iload_n 2), 3, 0, 0, 0, []) else none))) else (if pc < 4 then (if pc = 3 then some ((.iload_n 3), 4, 0, 0, 0, []) else none) else (if pc < 7 then (if pc = 4 then some ((.invokevirtual 22), 7, 61, 4, 0, [0, 5]) else none) else (if pc = 7 then some ((.aload_n 0), 8, 0, 0, 0, []) else none)))) else (if pc < 14 then (if pc < 11 then (if pc = 8 then some ((.getfield 9), 11, 5, 1, 0, []) else none) else (if pc < 12 then (if pc = 11 then some ((.iconst 3), 12, 0, 0, 3, []) else none) else (if pc = 12 then some ((.iload 4), 14, 0, 0, 0, []) else none))) else (if pc < 15 then (if pc = 14 then some (.iastore, 15, 0, 0, 0, []) else none) else (if pc < 16 then (if pc = 15 then some ((.aload_n 0), 16, 0, 0, 0, []) else none) else (if pc = 16 then some ((.getfield 9), 19, 5, 1, 0, []) else none))))) else (if pc < 30 then (if pc < 23 then (if pc < 20 then (if pc = 19 then some ((.iconst 4), 20, 0, 0, 4, []) else none) else (if pc < 22 then (if pc = 20 then some ((.iload 5), 22, 0, 0, 0, []) else none) else (if pc = 22 then some (.iastore, 23, 0, 0, 0, []) else none))) else (if pc < 24 then (if pc = 23 then some ((.aload_n 0), 24, 0, 0, 0, []) else none) else (if pc < 27 then (if pc = 24 then some ((.getfield 18), 27, 5, 0, 0, []) else none) else (if pc = 27 then some ((.getfield 26), 30, 3, 17, 0, []) else none)))) else (if pc < 35 then (if pc < 31 then (if pc = 30 then some ((.iconst 1), 31, 0, 0, 1, []) else none) else (if pc < 32 then (if pc = 31 then some ((.aload_n 0), 32, 0, 0, 0, []) else none) else (if pc = 32 then some ((.getfield 9), 35, 5, 1, 0, []) else none))) else (if pc < 38 then (if pc = 35 then some ((.invokevirtual 32), 38, 7, 3, 0, [1, 0]) else none) else (if pc < 41 then (if pc = 38 then some ((.invokestatic 38), 41, 62, 1, 0, [1]) else none) else (if pc = 41 then some (.ireturn, 42, 0, 0, 0, []) else none)))))) else none
set_option maxRecDepth 100000 in
theorem ck_X5_wear : ∀ pc E, C_X5_wear pc = some E → ckI 5 (mB 55) pc E = true := ck_tab (n := 42) (by decide +kernel) (fun pc h => by unfold C_X5_wear; rw [if_neg h])
def k_X5_wear (pc : Nat) : Option (List Bool) := none
abbrev f_X5_wear : Nat := 24
set_option maxRecDepth 100000 in
set_option maxHeartbeats 4000000 in
theorem s_X5_wear_0 {α : Type} (O : Ora) (I : Nat → Nat → Int32) (J : Nat → Nat → Int64) (K : Nat → List Value → List Value → IJ → Option α) (rt : Option Value → IJ → Option α) (a1 a2 a3 a4 a5 : Int32) :
  blkS O none 6 T0 C_X5_wear k_X5_wear K rt f_X5_wear 0 [.ref 169, .int a1, .int a2, .int a3, .int a4, .int a5] [] (I, J) = p_cv (O T0 61 [.ref 169, .int a1, .int a2, .int a3] (I, J)) (fun z1 => p_ci (O T0 7 [.ref 35, .int 1, .ref 170] ((p_wr (p_wr z1.1 170 3 a4) 170 4 a5), z1.2)) (fun v3 z2 => p_ci (O T0 62 [.int v3] z2) (fun v5 z4 => rt (some (.int v5)) z4))) := rfl
def C_X5_wayLong (pc : Nat) : Option PE := if pc < 40 then (if pc < 17 then (if pc < 7 then (if pc < 2 then (if pc < 1 then (if pc = 0 then some ((.aload_n 0), 1, 0, 0, 0, []) else none) else (if pc = 1 then some ((.iload_n 1), 2, 0, 0, 0, []) else none)) else (if pc < 3 then (if pc = 2 then some ((.iload_n 2), 3, 0, 0, 0, []) else none) else (if pc < 4 then (if pc = 3 then some ((.iload_n 3), 4, 0, 0, 0, []) else none) else (if pc = 4 then some ((.invokevirtual 22), 7, 61, 4, 0, [0, 5]) else none)))) else (if pc < 12 then (if pc < 8 then (if pc = 7 then some ((.iconst 1), 8, 0, 0, 1, []) else none) else (if pc < 9 then (if pc = 8 then some ((.aload_n 0), 9, 0, 0, 0, []) else none) else (if pc = 9 then some ((.getfield 18), 12, 5, 0, 0, []) else none))) else (if pc < 15 then (if pc = 12 then some ((.getfield 42), 15, 3, 11, 0, []) else none) else (if pc < 16 then (if pc = 15 then some ((.iload_n 1), 16, 0, 0, 0, []) else none) else (if pc = 16 then some (.iaload, 17, 0, 0, 0, []) else none))))) else (if pc < 26 then (if pc < 21 then (if pc < 18 then (if pc = 17 then some ((.aload_n 0), 18, 0, 0, 0, []) else none) else (if pc = 18 then some ((.getfield 18), 21, 5, 0, 0, []) else none)) else (if pc < 24 then (if pc = 21 then some ((.getfield 26), 24, 3, 17, 0, []) else none) else (if pc < 25 then (if pc = 24 then some ((.iconst 2), 25, 0, 0, 2, []) else none) else (if pc = 25 then some ((.aload_n 0), 26, 0, 0, 0, []) else none)))) else (if pc < 35 then (if pc < 29 then (if pc = 26 then some ((.getfield 9), 29, 5, 1, 0, []) else none) else (if pc < 32 then (if pc = 29 then some ((.invokevirtual 32), 32, 7, 3, 0, [1, 0]) else none) else (if pc = 32 then some ((.invokestatic 38), 35, 62, 1, 0, [1]) else none))) else (if pc < 36 then (if pc = 35 then some (.isub, 36, 0, 0, 0, []) else none) else (if pc < 39 then (if pc = 36 then some ((.invokestatic 45), 39, 9000, 0, 0, [1, 1]) else none) else (if pc = 39 then some (.ireturn, 40, 0, 0, 0, []) else none)))))) else none
set_option maxRecDepth 100000 in
theorem ck_X5_wayLong : ∀ pc E, C_X5_wayLong pc = some E → ckI 5 (mB 56) pc E = true := ck_tab (n := 40) (by decide +kernel) (fun pc h => by unfold C_X5_wayLong; rw [if_neg h])
def k_X5_wayLong (pc : Nat) : Option (List Bool) := none
abbrev f_X5_wayLong : Nat := 22
set_option maxRecDepth 100000 in
set_option maxHeartbeats 4000000 in
theorem s_X5_wayLong_0 {α : Type} (O : Ora) (I : Nat → Nat → Int32) (J : Nat → Nat → Int64) (K : Nat → List Value → List Value → IJ → Option α) (rt : Option Value → IJ → Option α) (a1 a2 a3 : Int32) :
  blkS O none 4 T0 C_X5_wayLong k_X5_wayLong K rt f_X5_wayLong 0 [.ref 169, .int a1, .int a2, .int a3] [] (I, J) = p_cv (O T0 61 [.ref 169, .int a1, .int a2, .int a3] (I, J)) (fun z1 => p_chk (p_in a1 10) (p_ci (O T0 7 [.ref 35, .int 2, .ref 170] z1) (fun v3 z2 => p_ci (O T0 62 [.int v3] z2) (fun v5 z4 => rt (some (.int (if (1 : Int32) < ((z1.1 29 a1.toNatClampNeg) - v5) then ((z1.1 29 a1.toNatClampNeg) - v5) else 1))) z4)))) := rfl
def C_X5_tollFor (pc : Nat) : Option PE := if pc < 35 then (if pc < 15 then (if pc < 4 then (if pc < 2 then (if pc < 1 then (if pc = 0 then some ((.aload_n 0), 1, 0, 0, 0, []) else none) else (if pc = 1 then some ((.iload_n 1), 2, 0, 0, 0, []) else none)) else (if pc < 3 then (if pc = 2 then some ((.iload_n 2), 3, 0, 0, 0, []) else none) else (if pc = 3 then some ((.iload_n 3), 4, 0, 0, 0, []) else none))) else (if pc < 8 then (if pc < 7 then (if pc = 4 then some ((.invokevirtual 22), 7, 61, 4, 0, [0, 5]) else none) else (if pc = 7 then some ((.aload_n 0), 8, 0, 0, 0, []) else none)) else (if pc < 11 then (if pc = 8 then some ((.getfield 9), 11, 5, 1, 0, []) else none) else (if pc < 13 then (if pc = 11 then some ((.bipush 6), 13, 0, 0, 6, []) else none) else (if pc = 13 then some ((.iload 4), 15, 0, 0, 0, []) else none))))) else (if pc < 24 then (if pc < 17 then (if pc < 16 then (if pc = 15 then some (.iastore, 16, 0, 0, 0, []) else none) else (if pc = 16 then some ((.aload_n 0), 17, 0, 0, 0, []) else none)) else (if pc < 20 then (if pc = 17 then some ((.getfield 18), 20, 5, 0, 0, []) else none) else (if pc < 23 then (if pc = 20 then some ((.getfield 26), 23, 3, 17, 0, []) else none) else (if pc = 23 then some ((.iconst 3), 24, 0, 0, 3, []) else none)))) else (if pc < 28 then (if pc < 25 then (if pc = 24 then some ((.aload_n 0), 25, 0, 0, 0, []) else none) else (if pc = 25 then some ((.getfield 9), 28, 5, 1, 0, []) else none)) else (if pc < 31 then (if pc = 28 then some ((.invokevirtual 32), 31, 7, 3, 0, [1, 0]) else none) else (if pc < 34 then (if pc = 31 then some ((.invokestatic 38), 34, 62, 1, 0, [1]) else none) else (if pc = 34 then some (.ireturn, 35, 0, 0, 0, []) else none)))))) else none
set_option maxRecDepth 100000 in
theorem ck_X5_tollFor : ∀ pc E, C_X5_tollFor pc = some E → ckI 5 (mB 57) pc E = true := ck_tab (n := 35) (by decide +kernel) (fun pc h => by unfold C_X5_tollFor; rw [if_neg h])
def k_X5_tollFor (pc : Nat) : Option (List Bool) := none
abbrev f_X5_tollFor : Nat := 19
set_option maxRecDepth 100000 in
set_option maxHeartbeats 4000000 in
theorem s_X5_tollFor_0 {α : Type} (O : Ora) (I : Nat → Nat → Int32) (J : Nat → Nat → Int64) (K : Nat → List Value → List Value → IJ → Option α) (rt : Option Value → IJ → Option α) (a1 a2 a3 a4 : Int32) :
  blkS O none 5 T0 C_X5_tollFor k_X5_tollFor K rt f_X5_tollFor 0 [.ref 169, .int a1, .int a2, .int a3, .int a4] [] (I, J) = p_cv (O T0 61 [.ref 169, .int a1, .int a2, .int a3] (I, J)) (fun z1 => p_ci (O T0 7 [.ref 35, .int 3, .ref 170] ((p_wr z1.1 170 6 a4), z1.2)) (fun v3 z2 => p_ci (O T0 62 [.int v3] z2) (fun v5 z4 => rt (some (.int v5)) z4))) := rfl
def C_X5_canStitch (pc : Nat) : Option PE := if pc < 36 then (if pc < 15 then (if pc < 7 then (if pc < 4 then (if pc < 1 then (if pc = 0 then some ((.aload_n 2), 1, 0, 0, 0, []) else none) else (if pc = 1 then some ((.getfield 51), 4, 8, 2, 0, []) else none)) else (if pc < 5 then (if pc = 4 then some ((.iload_n 1), 5, 0, 0, 0, []) else none) else (if pc < 6 then (if pc = 5 then some (.iaload, 6, 0, 0, 0, []) else none) else (if pc = 6 then some ((.istore_n 3), 7, 0, 0, 0, []) else none)))) else (if pc < 10 then (if pc < 8 then (if pc = 7 then some ((.iload_n 3), 8, 0, 0, 0, []) else none) else (if pc = 8 then some ((.bipush 99), 10, 0, 0, 99, []) else none)) else (if pc < 13 then (if pc = 10 then some ((.if_icmp .ge 24), 13, 34, 0, 0, []) else none) else (if pc < 14 then (if pc = 13 then some ((.aload_n 0), 14, 0, 0, 0, []) else none) else (if pc = 14 then some ((.iload_n 1), 15, 0, 0, 0, []) else none))))) else (if pc < 24 then (if pc < 17 then (if pc < 16 then (if pc = 15 then some ((.iload_n 3), 16, 0, 0, 0, []) else none) else (if pc = 16 then some ((.aload_n 2), 17, 0, 0, 0, []) else none)) else (if pc < 20 then (if pc = 17 then some ((.getfield 56), 20, 8, 0, 0, []) else none) else (if pc < 23 then (if pc = 20 then some ((.invokevirtual 60), 23, 54, 4, 0, [1, 5]) else none) else (if pc = 23 then some ((.aload_n 2), 24, 0, 0, 0, []) else none)))) else (if pc < 31 then (if pc < 27 then (if pc = 24 then some ((.getfield 64), 27, 8, 1, 0, []) else none) else (if pc < 30 then (if pc = 27 then some ((.if_icmp .gt 7), 30, 34, 0, 0, []) else none) else (if pc = 30 then some ((.iconst 1), 31, 0, 0, 1, []) else none))) else (if pc < 34 then (if pc = 31 then some ((.goto 4), 34, 35, 0, 0, []) else none) else (if pc < 35 then (if pc = 34 then some ((.iconst 0), 35, 0, 0, 0, []) else none) else (if pc = 35 then some (.ireturn, 36, 0, 0, 0, []) else none)))))) else none
set_option maxRecDepth 100000 in
theorem ck_X5_canStitch : ∀ pc E, C_X5_canStitch pc = some E → ckI 5 (mB 58) pc E = true := ck_tab (n := 36) (by decide +kernel) (fun pc h => by unfold C_X5_canStitch; rw [if_neg h])
def k_X5_canStitch (pc : Nat) : Option (List Bool) := none
abbrev f_X5_canStitch : Nat := 20
set_option maxRecDepth 100000 in
set_option maxHeartbeats 4000000 in
theorem s_X5_canStitch_0 {α : Type} (O : Ora) (I : Nat → Nat → Int32) (J : Nat → Nat → Int64) (K : Nat → List Value → List Value → IJ → Option α) (rt : Option Value → IJ → Option α) (a1 : Int32) :
  blkS O none 4 T0 C_X5_canStitch k_X5_canStitch K rt f_X5_canStitch 0 [.ref 169, .int a1, .ref 39, un] [] (I, J) = p_chk (p_in a1 10) (if 99 ≤ (I 40 a1.toNatClampNeg) then (rt (some (.int 0)) (I, J)) else (p_ci (O T0 54 [.ref 169, .int a1, .int (I 40 a1.toNatClampNeg), .int (I 39 0)] (I, J)) (fun v2 z1 => if (z1.1 39 1) < v2 then (rt (some (.int 0)) z1) else (rt (some (.int 1)) z1)))) := rfl
def C_X5_threadUpTo (pc : Nat) : Option PE := if pc < 42 then (if pc < 19 then (if pc < 8 then (if pc < 3 then (if pc < 1 then (if pc = 0 then some ((.iconst 0), 1, 0, 0, 0, []) else none) else (if pc = 1 then some ((.istore 4), 3, 0, 0, 0, []) else none)) else (if pc < 4 then (if pc = 3 then some ((.aload_n 3), 4, 0, 0, 0, []) else none) else (if pc < 7 then (if pc = 4 then some ((.getfield 51), 7, 8, 2, 0, []) else none) else (if pc = 7 then some ((.iload_n 1), 8, 0, 0, 0, []) else none)))) else (if pc < 13 then (if pc < 9 then (if pc = 8 then some (.iaload, 9, 0, 0, 0, []) else none) else (if pc < 11 then (if pc = 9 then some ((.istore 5), 11, 0, 0, 0, []) else none) else (if pc = 11 then some ((.iload 5), 13, 0, 0, 0, []) else none))) else (if pc < 14 then (if pc = 13 then some ((.iload_n 2), 14, 0, 0, 0, []) else none) else (if pc < 17 then (if pc = 14 then some ((.if_icmp .ge 25), 17, 39, 0, 0, []) else none) else (if pc = 17 then some ((.iload 4), 19, 0, 0, 0, []) else none))))) else (if pc < 30 then (if pc < 23 then (if pc < 20 then (if pc = 19 then some ((.aload_n 0), 20, 0, 0, 0, []) else none) else (if pc < 21 then (if pc = 20 then some ((.iload_n 1), 21, 0, 0, 0, []) else none) else (if pc = 21 then some ((.iload 5), 23, 0, 0, 0, []) else none))) else (if pc < 24 then (if pc = 23 then some ((.aload_n 3), 24, 0, 0, 0, []) else none) else (if pc < 27 then (if pc = 24 then some ((.getfield 56), 27, 8, 0, 0, []) else none) else (if pc = 27 then some ((.invokevirtual 60), 30, 54, 4, 0, [1, 5]) else none)))) else (if pc < 36 then (if pc < 31 then (if pc = 30 then some (.iadd, 31, 0, 0, 0, []) else none) else (if pc < 33 then (if pc = 31 then some ((.istore 4), 33, 0, 0, 0, []) else none) else (if pc = 33 then some ((.iinc 5 1), 36, 0, 0, 1, []) else none))) else (if pc < 39 then (if pc = 36 then some ((.goto (-25)), 39, 11, 0, 0, []) else none) else (if pc < 41 then (if pc = 39 then some ((.iload 4), 41, 0, 0, 0, []) else none) else (if pc = 41 then some (.ireturn, 42, 0, 0, 0, []) else none)))))) else none
set_option maxRecDepth 100000 in
theorem ck_X5_threadUpTo : ∀ pc E, C_X5_threadUpTo pc = some E → ckI 5 (mB 59) pc E = true := ck_tab (n := 42) (by decide +kernel) (fun pc h => by unfold C_X5_threadUpTo; rw [if_neg h])
def k_X5_threadUpTo (pc : Nat) : Option (List Bool) := if pc = 11 then some [true, true, true, true, true, true] else none
abbrev f_X5_threadUpTo : Nat := 14
set_option maxRecDepth 100000 in
set_option maxHeartbeats 4000000 in
theorem s_X5_threadUpTo_0 {α : Type} (O : Ora) (I : Nat → Nat → Int32) (J : Nat → Nat → Int64) (K : Nat → List Value → List Value → IJ → Option α) (rt : Option Value → IJ → Option α) (a1 a2 : Int32) :
  blkS O none 6 T0 C_X5_threadUpTo k_X5_threadUpTo K rt f_X5_threadUpTo 0 [.ref 169, .int a1, .int a2, .ref 39, un, un] [] (I, J) = p_chk (p_in a1 10) (K 11 [.ref 169, .int a1, .int a2, .ref 39, .int 0, .int (I 40 a1.toNatClampNeg)] [] (I, J)) := rfl
set_option maxRecDepth 100000 in
set_option maxHeartbeats 4000000 in
theorem s_X5_threadUpTo_11 {α : Type} (O : Ora) (I : Nat → Nat → Int32) (J : Nat → Nat → Int64) (K : Nat → List Value → List Value → IJ → Option α) (rt : Option Value → IJ → Option α) (x1 x2 x4 x5 : Int32) :
  blkS O none 6 T0 C_X5_threadUpTo k_X5_threadUpTo K rt f_X5_threadUpTo 11 [.ref 169, .int x1, .int x2, .ref 39, .int x4, .int x5] [] (I, J) = if x2 ≤ x5 then (rt (some (.int x4)) (I, J)) else (p_ci (O T0 54 [.ref 169, .int x1, .int x5, .int (I 39 0)] (I, J)) (fun v2 z1 => K 11 [.ref 169, .int x1, .int x2, .ref 39, .int (x4 + v2), .int (x5 + 1)] [] z1)) := rfl
def C_X5_fillSetCosts (pc : Nat) : Option PE := if pc < 77 then (if pc < 34 then (if pc < 17 then (if pc < 7 then (if pc < 4 then (if pc < 1 then (if pc = 0 then some ((.aload_n 0), 1, 0, 0, 0, []) else none) else (if pc = 1 then some ((.getfield 15), 4, 5, 2, 0, []) else none)) else (if pc < 5 then (if pc = 4 then some ((.iconst 0), 5, 0, 0, 0, []) else none) else (if pc < 6 then (if pc = 5 then some ((.iconst 0), 6, 0, 0, 0, []) else none) else (if pc = 6 then some (.iastore, 7, 0, 0, 0, []) else none)))) else (if pc < 10 then (if pc < 8 then (if pc = 7 then some ((.iconst 0), 8, 0, 0, 0, []) else none) else (if pc < 9 then (if pc = 8 then some ((.istore_n 3), 9, 0, 0, 0, []) else none) else (if pc = 9 then some ((.iload_n 3), 10, 0, 0, 0, []) else none))) else (if pc < 11 then (if pc = 10 then some ((.aload_n 0), 11, 0, 0, 0, []) else none) else (if pc < 14 then (if pc = 11 then some ((.getfield 18), 14, 5, 0, 0, []) else none) else (if pc = 14 then some ((.getfield 67), 17, 3, 1, 0, []) else none))))) else (if pc < 24 then (if pc < 21 then (if pc < 20 then (if pc = 17 then some ((.if_icmp .ge 59), 20, 76, 0, 0, []) else none) else (if pc = 20 then some ((.aload_n 0), 21, 0, 0, 0, []) else none)) else (if pc < 22 then (if pc = 21 then some ((.iload_n 3), 22, 0, 0, 0, []) else none) else (if pc < 23 then (if pc = 22 then some ((.iload_n 1), 23, 0, 0, 0, []) else none) else (if pc = 23 then some ((.aload_n 2), 24, 0, 0, 0, []) else none)))) else (if pc < 30 then (if pc < 27 then (if pc = 24 then some ((.invokevirtual 70), 27, 59, 4, 0, [1, 5]) else none) else (if pc < 29 then (if pc = 27 then some ((.istore 4), 29, 0, 0, 0, []) else none) else (if pc = 29 then some ((.iconst 1), 30, 0, 0, 1, []) else none))) else (if pc < 31 then (if pc = 30 then some ((.iload_n 3), 31, 0, 0, 0, []) else none) else (if pc < 32 then (if pc = 31 then some (.ishl, 32, 0, 0, 0, []) else none) else (if pc = 32 then some ((.istore 5), 34, 0, 0, 0, []) else none)))))) else (if pc < 54 then (if pc < 44 then (if pc < 37 then (if pc < 35 then (if pc = 34 then some ((.iconst 0), 35, 0, 0, 0, []) else none) else (if pc = 35 then some ((.istore 6), 37, 0, 0, 0, []) else none)) else (if pc < 39 then (if pc = 37 then some ((.iload 6), 39, 0, 0, 0, []) else none) else (if pc < 41 then (if pc = 39 then some ((.iload 5), 41, 0, 0, 0, []) else none) else (if pc = 41 then some ((.if_icmp .ge 29), 44, 70, 0, 0, []) else none)))) else (if pc < 50 then (if pc < 45 then (if pc = 44 then some ((.aload_n 0), 45, 0, 0, 0, []) else none) else (if pc < 48 then (if pc = 45 then some ((.getfield 15), 48, 5, 2, 0, []) else none) else (if pc = 48 then some ((.iload 5), 50, 0, 0, 0, []) else none))) else (if pc < 52 then (if pc = 50 then some ((.iload 6), 52, 0, 0, 0, []) else none) else (if pc < 53 then (if pc = 52 then some (.iadd, 53, 0, 0, 0, []) else none) else (if pc = 53 then some ((.aload_n 0), 54, 0, 0, 0, []) else none))))) else (if pc < 63 then (if pc < 59 then (if pc < 57 then (if pc = 54 then some ((.getfield 15), 57, 5, 2, 0, []) else none) else (if pc = 57 then some ((.iload 6), 59, 0, 0, 0, []) else none)) else (if pc < 60 then (if pc = 59 then some (.iaload, 60, 0, 0, 0, []) else none) else (if pc < 62 then (if pc = 60 then some ((.iload 4), 62, 0, 0, 0, []) else none) else (if pc = 62 then some (.iadd, 63, 0, 0, 0, []) else none)))) else (if pc < 70 then (if pc < 64 then (if pc = 63 then some (.iastore, 64, 0, 0, 0, []) else none) else (if pc < 67 then (if pc = 64 then some ((.iinc 6 1), 67, 0, 0, 1, []) else none) else (if pc = 67 then some ((.goto (-30)), 70, 37, 0, 0, []) else none))) else (if pc < 73 then (if pc = 70 then some ((.iinc 3 1), 73, 0, 0, 1, []) else none) else (if pc < 76 then (if pc = 73 then some ((.goto (-64)), 76, 9, 0, 0, []) else none) else (if pc = 76 then some (.return_, 77, 0, 0, 0, []) else none))))))) else none
set_option maxRecDepth 100000 in
theorem ck_X5_fillSetCosts : ∀ pc E, C_X5_fillSetCosts pc = some E → ckI 5 (mB 60) pc E = true := ck_tab (n := 77) (by decide +kernel) (fun pc h => by unfold C_X5_fillSetCosts; rw [if_neg h])
def k_X5_fillSetCosts (pc : Nat) : Option (List Bool) := if pc = 9 then some [true, true, true, true, false, false, false] else if pc = 37 then some [true, true, true, true, true, true, true] else none
abbrev f_X5_fillSetCosts : Nat := 17
set_option maxRecDepth 100000 in
set_option maxHeartbeats 4000000 in
theorem s_X5_fillSetCosts_0 {α : Type} (O : Ora) (I : Nat → Nat → Int32) (J : Nat → Nat → Int64) (K : Nat → List Value → List Value → IJ → Option α) (rt : Option Value → IJ → Option α) (a1 : Int32) :
  blkS O none 7 T0 C_X5_fillSetCosts k_X5_fillSetCosts K rt f_X5_fillSetCosts 0 [.ref 169, .int a1, .ref 39, un, un, un, un] [] (I, J) = K 9 [.ref 169, .int a1, .ref 39, .int 0, un, un, un] [] ((p_wr I 171 0 0), J) := rfl
set_option maxRecDepth 100000 in
set_option maxHeartbeats 4000000 in
theorem s_X5_fillSetCosts_9 {α : Type} (O : Ora) (I : Nat → Nat → Int32) (J : Nat → Nat → Int64) (K : Nat → List Value → List Value → IJ → Option α) (rt : Option Value → IJ → Option α) (x1 x3 : Int32) :
  blkS O none 7 T0 C_X5_fillSetCosts k_X5_fillSetCosts K rt f_X5_fillSetCosts 9 [.ref 169, .int x1, .ref 39, .int x3, un, un, un] [] (I, J) = if (I 25 1) ≤ x3 then (rt none (I, J)) else (p_ci (O T0 59 [.ref 169, .int x3, .int x1, .ref 39] (I, J)) (fun v2 z1 => K 37 [.ref 169, .int x1, .ref 39, .int x3, .int v2, .int (1 <<< (x3 &&& 31)), .int 0] [] z1)) := rfl
set_option maxRecDepth 100000 in
set_option maxHeartbeats 4000000 in
theorem s_X5_fillSetCosts_37 {α : Type} (O : Ora) (I : Nat → Nat → Int32) (J : Nat → Nat → Int64) (K : Nat → List Value → List Value → IJ → Option α) (rt : Option Value → IJ → Option α) (x1 x3 x4 x5 x6 : Int32) :
  blkS O none 7 T0 C_X5_fillSetCosts k_X5_fillSetCosts K rt f_X5_fillSetCosts 37 [.ref 169, .int x1, .ref 39, .int x3, .int x4, .int x5, .int x6] [] (I, J) = if x5 ≤ x6 then (K 9 [.ref 169, .int x1, .ref 39, .int (x3 + 1), un, un, un] [] (I, J)) else (p_chk (p_in x6 1024) (p_chk (p_in (x5 + x6) 1024) (K 37 [.ref 169, .int x1, .ref 39, .int x3, .int x4, .int x5, .int (x6 + 1)] [] ((p_wr I 171 ((x5 + x6).toNatClampNeg) ((I 171 x6.toNatClampNeg) + x4)), J)))) := rfl
def C_X5_look (pc : Nat) : Option PE := if pc < 83 then (if pc < 41 then (if pc < 21 then (if pc < 12 then (if pc < 5 then (if pc < 1 then (if pc = 0 then some ((.aload_n 0), 1, 0, 0, 0, []) else none) else (if pc < 4 then (if pc = 1 then some ((.getfield 9), 4, 5, 1, 0, []) else none) else (if pc = 4 then some ((.iconst 0), 5, 0, 0, 0, []) else none))) else (if pc < 6 then (if pc = 5 then some ((.aload_n 0), 6, 0, 0, 0, []) else none) else (if pc < 9 then (if pc = 6 then some ((.getfield 18), 9, 5, 0, 0, []) else none) else (if pc = 9 then some ((.getfield 42), 12, 3, 11, 0, []) else none)))) else (if pc < 15 then (if pc < 13 then (if pc = 12 then some ((.iload_n 1), 13, 0, 0, 0, []) else none) else (if pc < 14 then (if pc = 13 then some (.iaload, 14, 0, 0, 0, []) else none) else (if pc = 14 then some (.iastore, 15, 0, 0, 0, []) else none))) else (if pc < 19 then (if pc < 16 then (if pc = 15 then some ((.aload_n 0), 16, 0, 0, 0, []) else none) else (if pc = 16 then some ((.getfield 9), 19, 5, 1, 0, []) else none)) else (if pc < 20 then (if pc = 19 then some ((.iconst 1), 20, 0, 0, 1, []) else none) else (if pc = 20 then some ((.iload_n 2), 21, 0, 0, 0, []) else none))))) else (if pc < 30 then (if pc < 26 then (if pc < 22 then (if pc = 21 then some (.iastore, 22, 0, 0, 0, []) else none) else (if pc < 23 then (if pc = 22 then some ((.aload_n 0), 23, 0, 0, 0, []) else none) else (if pc = 23 then some ((.getfield 9), 26, 5, 1, 0, []) else none))) else (if pc < 28 then (if pc < 27 then (if pc = 26 then some ((.iconst 2), 27, 0, 0, 2, []) else none) else (if pc = 27 then some ((.iload_n 3), 28, 0, 0, 0, []) else none)) else (if pc < 29 then (if pc = 28 then some (.iastore, 29, 0, 0, 0, []) else none) else (if pc = 29 then some ((.aload_n 0), 30, 0, 0, 0, []) else none)))) else (if pc < 35 then (if pc < 33 then (if pc = 30 then some ((.getfield 9), 33, 5, 1, 0, []) else none) else (if pc < 34 then (if pc = 33 then some ((.iconst 3), 34, 0, 0, 3, []) else none) else (if pc = 34 then some ((.iconst 0), 35, 0, 0, 0, []) else none))) else (if pc < 37 then (if pc < 36 then (if pc = 35 then some (.iastore, 36, 0, 0, 0, []) else none) else (if pc = 36 then some ((.aload_n 0), 37, 0, 0, 0, []) else none)) else (if pc < 40 then (if pc = 37 then some ((.getfield 9), 40, 5, 1, 0, []) else none) else (if pc = 40 then some ((.iconst 4), 41, 0, 0, 4, []) else none)))))) else (if pc < 59 then (if pc < 49 then (if pc < 44 then (if pc < 42 then (if pc = 41 then some ((.iconst 0), 42, 0, 0, 0, []) else none) else (if pc < 43 then (if pc = 42 then some (.iastore, 43, 0, 0, 0, []) else none) else (if pc = 43 then some ((.aload_n 0), 44, 0, 0, 0, []) else none))) else (if pc < 47 then (if pc = 44 then some ((.getfield 9), 47, 5, 1, 0, []) else none) else (if pc < 48 then (if pc = 47 then some ((.iconst 5), 48, 0, 0, 5, []) else none) else (if pc = 48 then some ((.iload_n 1), 49, 0, 0, 0, []) else none)))) else (if pc < 54 then (if pc < 50 then (if pc = 49 then some (.iastore, 50, 0, 0, 0, []) else none) else (if pc < 51 then (if pc = 50 then some ((.aload_n 0), 51, 0, 0, 0, []) else none) else (if pc = 51 then some ((.getfield 9), 54, 5, 1, 0, []) else none))) else (if pc < 57 then (if pc < 56 then (if pc = 54 then some ((.bipush 6), 56, 0, 0, 6, []) else none) else (if pc = 56 then some ((.iconst 0), 57, 0, 0, 0, []) else none)) else (if pc < 58 then (if pc = 57 then some (.iastore, 58, 0, 0, 0, []) else none) else (if pc = 58 then some ((.aload_n 0), 59, 0, 0, 0, []) else none))))) else (if pc < 72 then (if pc < 65 then (if pc < 62 then (if pc = 59 then some ((.getfield 9), 62, 5, 1, 0, []) else none) else (if pc < 64 then (if pc = 62 then some ((.bipush 7), 64, 0, 0, 7, []) else none) else (if pc = 64 then some ((.iconst 0), 65, 0, 0, 0, []) else none))) else (if pc < 67 then (if pc < 66 then (if pc = 65 then some (.iastore, 66, 0, 0, 0, []) else none) else (if pc = 66 then some ((.aload_n 0), 67, 0, 0, 0, []) else none)) else (if pc < 70 then (if pc = 67 then some ((.getfield 9), 70, 5, 1, 0, []) else none) else (if pc = 70 then some ((.bipush 8), 72, 0, 0, 8, []) else none)))) else (if pc < 79 then (if pc < 73 then (if pc = 72 then some ((.aload_n 0), 73, 0, 0, 0, []) else none) else (if pc < 76 then (if pc = 73 then some ((.getfield 18), 76, 5, 0, 0, []) else none) else (if pc = 76 then some ((.getfield 74), 79, 3, 13, 0, []) else none))) else (if pc < 81 then (if pc < 80 then (if pc = 79 then some ((.iload_n 1), 80, 0, 0, 0, []) else none) else (if pc = 80 then some (.iaload, 81, 0, 0, 0, []) else none)) else (if pc < 82 then (if pc = 81 then some (.iastore, 82, 0, 0, 0, []) else none) else (if pc = 82 then some (.return_, 83, 0, 0, 0, []) else none))))))) else none
set_option maxRecDepth 100000 in
theorem ck_X5_look : ∀ pc E, C_X5_look pc = some E → ckI 5 (mB 61) pc E = true := ck_tab (n := 83) (by decide +kernel) (fun pc h => by unfold C_X5_look; rw [if_neg h])
def k_X5_look (pc : Nat) : Option (List Bool) := none
abbrev f_X5_look : Nat := 54
set_option maxRecDepth 100000 in
set_option maxHeartbeats 4000000 in
theorem s_X5_look_0 {α : Type} (O : Ora) (I : Nat → Nat → Int32) (J : Nat → Nat → Int64) (K : Nat → List Value → List Value → IJ → Option α) (rt : Option Value → IJ → Option α) (a1 a2 a3 : Int32) :
  blkS O none 4 T0 C_X5_look k_X5_look K rt f_X5_look 0 [.ref 169, .int a1, .int a2, .int a3] [] (I, J) = p_chk (p_in a1 10) (p_chk (p_in a1 10) (rt none ((p_wr (p_wr (p_wr (p_wr (p_wr (p_wr (p_wr (p_wr (p_wr I 170 0 (I 29 a1.toNatClampNeg)) 170 1 a2) 170 2 a3) 170 3 0) 170 4 0) 170 5 a1) 170 6 0) 170 7 0) 170 8 (I 31 a1.toNatClampNeg)), J))) := rfl
def C_X5_held (pc : Nat) : Option PE := if pc < 11 then (if pc < 4 then (if pc < 1 then (if pc = 0 then some ((.iconst 0), 1, 0, 0, 0, []) else none) else (if pc < 3 then (if pc = 1 then some ((.bipush 99), 3, 0, 0, 99, []) else none) else (if pc = 3 then some ((.iload_n 0), 4, 0, 0, 0, []) else none))) else (if pc < 7 then (if pc = 4 then some ((.invokestatic 77), 7, 9000, 0, 0, [1, 2]) else none) else (if pc < 10 then (if pc = 7 then some ((.invokestatic 45), 10, 9000, 0, 0, [1, 1]) else none) else (if pc = 10 then some (.ireturn, 11, 0, 0, 0, []) else none)))) else none
set_option maxRecDepth 100000 in
theorem ck_X5_held : ∀ pc E, C_X5_held pc = some E → ckI 5 (mB 62) pc E = true := ck_tab (n := 11) (by decide +kernel) (fun pc h => by unfold C_X5_held; rw [if_neg h])
def k_X5_held (pc : Nat) : Option (List Bool) := none
abbrev f_X5_held : Nat := 6
set_option maxRecDepth 100000 in
set_option maxHeartbeats 4000000 in
theorem s_X5_held_0 {α : Type} (O : Ora) (I : Nat → Nat → Int32) (J : Nat → Nat → Int64) (K : Nat → List Value → List Value → IJ → Option α) (rt : Option Value → IJ → Option α) (a0 : Int32) :
  blkS O none 1 T0 C_X5_held k_X5_held K rt f_X5_held 0 [.int a0] [] (I, J) = rt (some (.int (if (0 : Int32) < (if a0 < 99 then a0 else 99) then (if a0 < 99 then a0 else 99) else 0))) (I, J) := rfl
def C_X9_hasRoomFor (pc : Nat) : Option PE := if pc < 18 then (if pc < 9 then (if pc < 4 then (if pc < 1 then (if pc = 0 then some ((.aload_n 0), 1, 0, 0, 0, []) else none) else (if pc = 1 then some ((.getfield 15), 4, 9, 1, 0, []) else none)) else (if pc < 5 then (if pc = 4 then some ((.iload_n 1), 5, 0, 0, 0, []) else none) else (if pc < 6 then (if pc = 5 then some (.iadd, 6, 0, 0, 0, []) else none) else (if pc = 6 then some ((.sipush 2000), 9, 0, 0, 2000, []) else none)))) else (if pc < 13 then (if pc < 12 then (if pc = 9 then some ((.if_icmp .gt 7), 12, 16, 0, 0, []) else none) else (if pc = 12 then some ((.iconst 1), 13, 0, 0, 1, []) else none)) else (if pc < 16 then (if pc = 13 then some ((.goto 4), 16, 17, 0, 0, []) else none) else (if pc < 17 then (if pc = 16 then some ((.iconst 0), 17, 0, 0, 0, []) else none) else (if pc = 17 then some (.ireturn, 18, 0, 0, 0, []) else none))))) else none
set_option maxRecDepth 100000 in
theorem ck_X9_hasRoomFor : ∀ pc E, C_X9_hasRoomFor pc = some E → ckI 9 (mB 101) pc E = true := ck_tab (n := 18) (by decide +kernel) (fun pc h => by unfold C_X9_hasRoomFor; rw [if_neg h])
def k_X9_hasRoomFor (pc : Nat) : Option (List Bool) := none
abbrev f_X9_hasRoomFor : Nat := 9
set_option maxRecDepth 100000 in
set_option maxHeartbeats 4000000 in
theorem s_X9_hasRoomFor_0 {α : Type} (O : Ora) (I : Nat → Nat → Int32) (J : Nat → Nat → Int64) (K : Nat → List Value → List Value → IJ → Option α) (rt : Option Value → IJ → Option α) (a1 : Int32) :
  blkS O none 2 T0 C_X9_hasRoomFor k_X9_hasRoomFor K rt f_X9_hasRoomFor 0 [.ref 1, .int a1] [] (I, J) = if 2000 < ((I 1 1) + a1) then (rt (some (.int 0)) (I, J)) else (rt (some (.int 1)) (I, J)) := rfl
def C_X9_append (pc : Nat) : Option PE := if pc < 47 then (if pc < 26 then (if pc < 11 then (if pc < 4 then (if pc < 2 then (if pc = 0 then some ((.bipush 24), 2, 0, 0, 24, []) else none) else (if pc < 3 then (if pc = 2 then some ((.istore_n 2), 3, 0, 0, 0, []) else none) else (if pc = 3 then some ((.iload_n 2), 4, 0, 0, 0, []) else none))) else (if pc < 7 then (if pc = 4 then some ((.ifCond .lt 42), 7, 46, 0, 0, []) else none) else (if pc < 8 then (if pc = 7 then some ((.aload_n 0), 8, 0, 0, 0, []) else none) else (if pc = 8 then some ((.getfield 15), 11, 9, 1, 0, []) else none)))) else (if pc < 18 then (if pc < 14 then (if pc = 11 then some ((.sipush 2000), 14, 0, 0, 2000, []) else none) else (if pc < 17 then (if pc = 14 then some ((.if_icmp .ge 32), 17, 46, 0, 0, []) else none) else (if pc = 17 then some ((.aload_n 0), 18, 0, 0, 0, []) else none))) else (if pc < 22 then (if pc < 21 then (if pc = 18 then some ((.getfield 9), 21, 9, 0, 0, []) else none) else (if pc = 21 then some ((.aload_n 0), 22, 0, 0, 0, []) else none)) else (if pc < 25 then (if pc = 22 then some ((.getfield 15), 25, 9, 1, 0, []) else none) else (if pc = 25 then some ((.iload_n 1), 26, 0, 0, 0, []) else none))))) else (if pc < 32 then (if pc < 29 then (if pc < 27 then (if pc = 26 then some ((.iload_n 2), 27, 0, 0, 0, []) else none) else (if pc < 28 then (if pc = 27 then some (.ishr, 28, 0, 0, 0, []) else none) else (if pc = 28 then some (.i2b, 29, 0, 0, 0, []) else none))) else (if pc < 30 then (if pc = 29 then some (.bastore, 30, 0, 0, 0, []) else none) else (if pc < 31 then (if pc = 30 then some ((.aload_n 0), 31, 0, 0, 0, []) else none) else (if pc = 31 then some (.dup, 32, 0, 0, 0, []) else none)))) else (if pc < 37 then (if pc < 35 then (if pc = 32 then some ((.getfield 15), 35, 9, 1, 0, []) else none) else (if pc < 36 then (if pc = 35 then some ((.iconst 1), 36, 0, 0, 1, []) else none) else (if pc = 36 then some (.iadd, 37, 0, 0, 0, []) else none))) else (if pc < 43 then (if pc < 40 then (if pc = 37 then some ((.putfield 15), 40, 9, 1, 0, []) else none) else (if pc = 40 then some ((.iinc 2 (-8)), 43, 0, 0, (-8), []) else none)) else (if pc < 46 then (if pc = 43 then some ((.goto (-40)), 46, 3, 0, 0, []) else none) else (if pc = 46 then some (.return_, 47, 0, 0, 0, []) else none)))))) else none
set_option maxRecDepth 100000 in
theorem ck_X9_append : ∀ pc E, C_X9_append pc = some E → ckI 9 (mB 102) pc E = true := ck_tab (n := 47) (by decide +kernel) (fun pc h => by unfold C_X9_append; rw [if_neg h])
def k_X9_append (pc : Nat) : Option (List Bool) := if pc = 3 then some [true, true, true] else none
abbrev f_X9_append : Nat := 23
set_option maxRecDepth 100000 in
set_option maxHeartbeats 4000000 in
theorem s_X9_append_0 {α : Type} (O : Ora) (I : Nat → Nat → Int32) (J : Nat → Nat → Int64) (K : Nat → List Value → List Value → IJ → Option α) (rt : Option Value → IJ → Option α) (a1 : Int32) :
  blkS O none 3 T0 C_X9_append k_X9_append K rt f_X9_append 0 [.ref 1, .int a1, un] [] (I, J) = K 3 [.ref 1, .int a1, .int 24] [] (I, J) := rfl
set_option maxRecDepth 100000 in
set_option maxHeartbeats 4000000 in
theorem s_X9_append_3 {α : Type} (O : Ora) (I : Nat → Nat → Int32) (J : Nat → Nat → Int64) (K : Nat → List Value → List Value → IJ → Option α) (rt : Option Value → IJ → Option α) (x1 x2 : Int32) :
  blkS O none 3 T0 C_X9_append k_X9_append K rt f_X9_append 3 [.ref 1, .int x1, .int x2] [] (I, J) = if x2 < 0 then (rt none (I, J)) else (if 2000 ≤ (I 1 1) then (rt none (I, J)) else (p_chk (p_in (I 1 1) 2000) (K 3 [.ref 1, .int x1, .int (x2 + (-8))] [] ((p_wr (p_wr I 2 ((I 1 1).toNatClampNeg) (vp_nar .byte ((x1 >>> (x2 &&& 31)).toInt8.toInt32))) 1 1 ((I 1 1) + 1)), J)))) := rfl
def C_X9_byteAt (pc : Nat) : Option PE := if pc < 27 then (if pc < 13 then (if pc < 5 then (if pc < 1 then (if pc = 0 then some ((.iload_n 1), 1, 0, 0, 0, []) else none) else (if pc < 4 then (if pc = 1 then some ((.ifCond .lt 24), 4, 25, 0, 0, []) else none) else (if pc = 4 then some ((.iload_n 1), 5, 0, 0, 0, []) else none))) else (if pc < 9 then (if pc < 6 then (if pc = 5 then some ((.aload_n 0), 6, 0, 0, 0, []) else none) else (if pc = 6 then some ((.getfield 15), 9, 9, 1, 0, []) else none)) else (if pc < 12 then (if pc = 9 then some ((.if_icmp .ge 16), 12, 25, 0, 0, []) else none) else (if pc = 12 then some ((.aload_n 0), 13, 0, 0, 0, []) else none)))) else (if pc < 21 then (if pc < 17 then (if pc < 16 then (if pc = 13 then some ((.getfield 9), 16, 9, 0, 0, []) else none) else (if pc = 16 then some ((.iload_n 1), 17, 0, 0, 0, []) else none)) else (if pc < 18 then (if pc = 17 then some (.baload, 18, 0, 0, 0, []) else none) else (if pc = 18 then some ((.sipush 255), 21, 0, 0, 255, []) else none))) else (if pc < 25 then (if pc < 22 then (if pc = 21 then some (.iand, 22, 0, 0, 0, []) else none) else (if pc = 22 then some ((.goto 4), 25, 26, 0, 0, []) else none)) else (if pc < 26 then (if pc = 25 then some ((.iconst (-1)), 26, 0, 0, (-1), []) else none) else (if pc = 26 then some (.ireturn, 27, 0, 0, 0, []) else none))))) else none
set_option maxRecDepth 100000 in
theorem ck_X9_byteAt : ∀ pc E, C_X9_byteAt pc = some E → ckI 9 (mB 103) pc E = true := ck_tab (n := 27) (by decide +kernel) (fun pc h => by unfold C_X9_byteAt; rw [if_neg h])
def k_X9_byteAt (pc : Nat) : Option (List Bool) := none
abbrev f_X9_byteAt : Nat := 14
set_option maxRecDepth 100000 in
set_option maxHeartbeats 4000000 in
theorem s_X9_byteAt_0 {α : Type} (O : Ora) (I : Nat → Nat → Int32) (J : Nat → Nat → Int64) (K : Nat → List Value → List Value → IJ → Option α) (rt : Option Value → IJ → Option α) (a1 : Int32) :
  blkS O none 2 T0 C_X9_byteAt k_X9_byteAt K rt f_X9_byteAt 0 [.ref 1, .int a1] [] (I, J) = if a1 < 0 then (rt (some (.int (-1))) (I, J)) else (if (I 1 1) ≤ a1 then (rt (some (.int (-1))) (I, J)) else (p_chk (p_in a1 2000) (rt (some (.int ((I 2 a1.toNatClampNeg) &&& 255))) (I, J)))) := rfl
end
section
def C_X2_clear (pc : Nat) : Option PE := if pc < 11 then (if pc < 5 then (if pc < 1 then (if pc = 0 then some ((.aload_n 0), 1, 0, 0, 0, []) else none) else (if pc < 2 then (if pc = 1 then some ((.iconst 0), 2, 0, 0, 0, []) else none) else (if pc = 2 then some ((.putfield 17), 5, 2, 1, 0, []) else none))) else (if pc < 7 then (if pc < 6 then (if pc = 5 then some ((.aload_n 0), 6, 0, 0, 0, []) else none) else (if pc = 6 then some ((.iconst 0), 7, 0, 0, 0, []) else none)) else (if pc < 10 then (if pc = 7 then some ((.putfield 21), 10, 2, 2, 0, []) else none) else (if pc = 10 then some (.return_, 11, 0, 0, 0, []) else none)))) else none
set_option maxRecDepth 100000 in
theorem ck_X2_clear : ∀ pc E, C_X2_clear pc = some E → ckI 2 (mB 24) pc E = true := ck_tab (n := 11) (by decide +kernel) (fun pc h => by unfold C_X2_clear; rw [if_neg h])
def k_X2_clear (pc : Nat) : Option (List Bool) := none
abbrev f_X2_clear : Nat := 7
set_option maxRecDepth 100000 in
set_option maxHeartbeats 4000000 in
theorem s_X2_clear_0 {α : Type} (O : Ora) (I : Nat → Nat → Int32) (J : Nat → Nat → Int64) (K : Nat → List Value → List Value → IJ → Option α) (rt : Option Value → IJ → Option α) :
  blkS O none 1 T0 C_X2_clear k_X2_clear K rt f_X2_clear 0 [.ref 45] [] (I, J) = rt none ((p_wr (p_wr I 45 1 0) 45 2 0), J) := rfl
def C_X3_clear (pc : Nat) : Option PE := if pc < 49 then (if pc < 22 then (if pc < 11 then (if pc < 5 then (if pc < 1 then (if pc = 0 then some ((.aload_n 0), 1, 0, 0, 0, []) else none) else (if pc < 2 then (if pc = 1 then some ((.iconst 0), 2, 0, 0, 0, []) else none) else (if pc = 2 then some ((.putfield 49), 5, 3, 0, 0, []) else none))) else (if pc < 7 then (if pc < 6 then (if pc = 5 then some ((.aload_n 0), 6, 0, 0, 0, []) else none) else (if pc = 6 then some ((.iconst 0), 7, 0, 0, 0, []) else none)) else (if pc < 10 then (if pc = 7 then some ((.putfield 53), 10, 3, 1, 0, []) else none) else (if pc = 10 then some ((.aload_n 0), 11, 0, 0, 0, []) else none)))) else (if pc < 16 then (if pc < 12 then (if pc = 11 then some ((.iconst 0), 12, 0, 0, 0, []) else none) else (if pc < 15 then (if pc = 12 then some ((.putfield 56), 15, 3, 2, 0, []) else none) else (if pc = 15 then some ((.aload_n 0), 16, 0, 0, 0, []) else none))) else (if pc < 20 then (if pc < 17 then (if pc = 16 then some ((.iconst 0), 17, 0, 0, 0, []) else none) else (if pc = 17 then some ((.putfield 59), 20, 3, 3, 0, []) else none)) else (if pc < 21 then (if pc = 20 then some ((.aload_n 0), 21, 0, 0, 0, []) else none) else (if pc = 21 then some ((.iconst 0), 22, 0, 0, 0, []) else none))))) else (if pc < 36 then (if pc < 28 then (if pc < 25 then (if pc = 22 then some ((.putfield 62), 25, 3, 4, 0, []) else none) else (if pc < 26 then (if pc = 25 then some ((.aload_n 0), 26, 0, 0, 0, []) else none) else (if pc = 26 then some ((.bipush 100), 28, 0, 0, 100, []) else none))) else (if pc < 32 then (if pc < 31 then (if pc = 28 then some ((.putfield 65), 31, 3, 5, 0, []) else none) else (if pc = 31 then some ((.aload_n 0), 32, 0, 0, 0, []) else none)) else (if pc < 33 then (if pc = 32 then some ((.iconst 0), 33, 0, 0, 0, []) else none) else (if pc = 33 then some ((.putfield 68), 36, 3, 6, 0, []) else none)))) else (if pc < 41 then (if pc < 37 then (if pc = 36 then some ((.aload_n 0), 37, 0, 0, 0, []) else none) else (if pc < 38 then (if pc = 37 then some ((.iconst 0), 38, 0, 0, 0, []) else none) else (if pc = 38 then some ((.putfield 71), 41, 3, 7, 0, []) else none))) else (if pc < 45 then (if pc < 42 then (if pc = 41 then some ((.aload_n 0), 42, 0, 0, 0, []) else none) else (if pc = 42 then some ((.getfield 42), 45, 3, 17, 0, []) else none)) else (if pc < 48 then (if pc = 45 then some ((.invokevirtual 74), 48, 1, 1, 0, [0, 0]) else none) else (if pc = 48 then some (.return_, 49, 0, 0, 0, []) else none)))))) else none
set_option maxRecDepth 100000 in
theorem ck_X3_clear : ∀ pc E, C_X3_clear pc = some E → ckI 3 (mB 28) pc E = true := ck_tab (n := 49) (by decide +kernel) (fun pc h => by unfold C_X3_clear; rw [if_neg h])
def k_X3_clear (pc : Nat) : Option (List Bool) := none
abbrev f_X3_clear : Nat := 28
set_option maxRecDepth 100000 in
set_option maxHeartbeats 4000000 in
theorem s_X3_clear_0 {α : Type} (O : Ora) (I : Nat → Nat → Int32) (J : Nat → Nat → Int64) (K : Nat → List Value → List Value → IJ → Option α) (rt : Option Value → IJ → Option α) :
  blkS O none 1 T0 C_X3_clear k_X3_clear K rt f_X3_clear 0 [.ref 4] [] (I, J) = p_cv (O T0 1 [.ref 14] ((p_wr (p_wr (p_wr (p_wr (p_wr (p_wr (p_wr (p_wr I 4 0 0) 4 1 0) 4 2 0) 4 3 0) 4 4 0) 4 5 100) 4 6 0) 4 7 0), J)) (fun z1 => rt none z1) := rfl
def C_X3_copyFrom (pc : Nat) : Option PE := if pc < 197 then (if pc < 100 then (if pc < 50 then (if pc < 25 then (if pc < 10 then (if pc < 5 then (if pc < 1 then (if pc = 0 then some ((.aload_n 0), 1, 0, 0, 0, []) else none) else (if pc < 2 then (if pc = 1 then some ((.aload_n 1), 2, 0, 0, 0, []) else none) else (if pc = 2 then some ((.getfield 49), 5, 3, 0, 0, []) else none))) else (if pc < 8 then (if pc = 5 then some ((.putfield 49), 8, 3, 0, 0, []) else none) else (if pc < 9 then (if pc = 8 then some ((.aload_n 0), 9, 0, 0, 0, []) else none) else (if pc = 9 then some ((.aload_n 1), 10, 0, 0, 0, []) else none)))) else (if pc < 17 then (if pc < 13 then (if pc = 10 then some ((.getfield 53), 13, 3, 1, 0, []) else none) else (if pc < 16 then (if pc = 13 then some ((.putfield 53), 16, 3, 1, 0, []) else none) else (if pc = 16 then some ((.aload_n 0), 17, 0, 0, 0, []) else none))) else (if pc < 21 then (if pc < 18 then (if pc = 17 then some ((.aload_n 1), 18, 0, 0, 0, []) else none) else (if pc = 18 then some ((.getfield 56), 21, 3, 2, 0, []) else none)) else (if pc < 24 then (if pc = 21 then some ((.putfield 56), 24, 3, 2, 0, []) else none) else (if pc = 24 then some ((.aload_n 0), 25, 0, 0, 0, []) else none))))) else (if pc < 37 then (if pc < 32 then (if pc < 26 then (if pc = 25 then some ((.aload_n 1), 26, 0, 0, 0, []) else none) else (if pc < 29 then (if pc = 26 then some ((.getfield 59), 29, 3, 3, 0, []) else none) else (if pc = 29 then some ((.putfield 59), 32, 3, 3, 0, []) else none))) else (if pc < 33 then (if pc = 32 then some ((.aload_n 0), 33, 0, 0, 0, []) else none) else (if pc < 34 then (if pc = 33 then some ((.aload_n 1), 34, 0, 0, 0, []) else none) else (if pc = 34 then some ((.getfield 62), 37, 3, 4, 0, []) else none)))) else (if pc < 42 then (if pc < 40 then (if pc = 37 then some ((.putfield 62), 40, 3, 4, 0, []) else none) else (if pc < 41 then (if pc = 40 then some ((.aload_n 0), 41, 0, 0, 0, []) else none) else (if pc = 41 then some ((.aload_n 1), 42, 0, 0, 0, []) else none))) else (if pc < 48 then (if pc < 45 then (if pc = 42 then some ((.getfield 65), 45, 3, 5, 0, []) else none) else (if pc = 45 then some ((.putfield 65), 48, 3, 5, 0, []) else none)) else (if pc < 49 then (if pc = 48 then some ((.aload_n 0), 49, 0, 0, 0, []) else none) else (if pc = 49 then some ((.aload_n 1), 50, 0, 0, 0, []) else none)))))) else (if pc < 76 then (if pc < 64 then (if pc < 57 then (if pc < 53 then (if pc = 50 then some ((.getfield 68), 53, 3, 6, 0, []) else none) else (if pc < 56 then (if pc = 53 then some ((.putfield 68), 56, 3, 6, 0, []) else none) else (if pc = 56 then some ((.aload_n 0), 57, 0, 0, 0, []) else none))) else (if pc < 58 then (if pc = 57 then some ((.aload_n 1), 58, 0, 0, 0, []) else none) else (if pc < 61 then (if pc = 58 then some ((.getfield 71), 61, 3, 7, 0, []) else none) else (if pc = 61 then some ((.putfield 71), 64, 3, 7, 0, []) else none)))) else (if pc < 69 then (if pc < 65 then (if pc = 64 then some ((.aload_n 1), 65, 0, 0, 0, []) else none) else (if pc < 68 then (if pc = 65 then some ((.getfield 9), 68, 3, 8, 0, []) else none) else (if pc = 68 then some ((.iconst 0), 69, 0, 0, 0, []) else none))) else (if pc < 73 then (if pc < 70 then (if pc = 69 then some ((.aload_n 0), 70, 0, 0, 0, []) else none) else (if pc = 70 then some ((.getfield 9), 73, 3, 8, 0, []) else none)) else (if pc < 74 then (if pc = 73 then some ((.iconst 0), 74, 0, 0, 0, []) else none) else (if pc = 74 then some ((.bipush 10), 76, 0, 0, 10, []) else none))))) else (if pc < 88 then (if pc < 83 then (if pc < 79 then (if pc = 76 then some ((.invokestatic 75), 79, 9000, 0, 0, [0, 3]) else none) else (if pc < 80 then (if pc = 79 then some ((.aload_n 1), 80, 0, 0, 0, []) else none) else (if pc = 80 then some ((.getfield 15), 83, 3, 9, 0, []) else none))) else (if pc < 84 then (if pc = 83 then some ((.iconst 0), 84, 0, 0, 0, []) else none) else (if pc < 85 then (if pc = 84 then some ((.aload_n 0), 85, 0, 0, 0, []) else none) else (if pc = 85 then some ((.getfield 15), 88, 3, 9, 0, []) else none)))) else (if pc < 94 then (if pc < 89 then (if pc = 88 then some ((.iconst 0), 89, 0, 0, 0, []) else none) else (if pc < 91 then (if pc = 89 then some ((.bipush 10), 91, 0, 0, 10, []) else none) else (if pc = 91 then some ((.invokestatic 75), 94, 9000, 0, 0, [0, 3]) else none))) else (if pc < 98 then (if pc < 95 then (if pc = 94 then some ((.aload_n 1), 95, 0, 0, 0, []) else none) else (if pc = 95 then some ((.getfield 18), 98, 3, 10, 0, []) else none)) else (if pc < 99 then (if pc = 98 then some ((.iconst 0), 99, 0, 0, 0, []) else none) else (if pc = 99 then some ((.aload_n 0), 100, 0, 0, 0, []) else none))))))) else (if pc < 149 then (if pc < 125 then (if pc < 113 then (if pc < 106 then (if pc < 103 then (if pc = 100 then some ((.getfield 18), 103, 3, 10, 0, []) else none) else (if pc < 104 then (if pc = 103 then some ((.iconst 0), 104, 0, 0, 0, []) else none) else (if pc = 104 then some ((.bipush 10), 106, 0, 0, 10, []) else none))) else (if pc < 109 then (if pc = 106 then some ((.invokestatic 75), 109, 9000, 0, 0, [0, 3]) else none) else (if pc < 110 then (if pc = 109 then some ((.aload_n 1), 110, 0, 0, 0, []) else none) else (if pc = 110 then some ((.getfield 21), 113, 3, 11, 0, []) else none)))) else (if pc < 118 then (if pc < 114 then (if pc = 113 then some ((.iconst 0), 114, 0, 0, 0, []) else none) else (if pc < 115 then (if pc = 114 then some ((.aload_n 0), 115, 0, 0, 0, []) else none) else (if pc = 115 then some ((.getfield 21), 118, 3, 11, 0, []) else none))) else (if pc < 121 then (if pc < 119 then (if pc = 118 then some ((.iconst 0), 119, 0, 0, 0, []) else none) else (if pc = 119 then some ((.bipush 10), 121, 0, 0, 10, []) else none)) else (if pc < 124 then (if pc = 121 then some ((.invokestatic 75), 124, 9000, 0, 0, [0, 3]) else none) else (if pc = 124 then some ((.aload_n 1), 125, 0, 0, 0, []) else none))))) else (if pc < 136 then (if pc < 130 then (if pc < 128 then (if pc = 125 then some ((.getfield 24), 128, 3, 12, 0, []) else none) else (if pc < 129 then (if pc = 128 then some ((.iconst 0), 129, 0, 0, 0, []) else none) else (if pc = 129 then some ((.aload_n 0), 130, 0, 0, 0, []) else none))) else (if pc < 133 then (if pc = 130 then some ((.getfield 24), 133, 3, 12, 0, []) else none) else (if pc < 134 then (if pc = 133 then some ((.iconst 0), 134, 0, 0, 0, []) else none) else (if pc = 134 then some ((.bipush 10), 136, 0, 0, 10, []) else none)))) else (if pc < 143 then (if pc < 139 then (if pc = 136 then some ((.invokestatic 75), 139, 9000, 0, 0, [0, 3]) else none) else (if pc < 140 then (if pc = 139 then some ((.aload_n 1), 140, 0, 0, 0, []) else none) else (if pc = 140 then some ((.getfield 30), 143, 3, 14, 0, []) else none))) else (if pc < 145 then (if pc < 144 then (if pc = 143 then some ((.iconst 0), 144, 0, 0, 0, []) else none) else (if pc = 144 then some ((.aload_n 0), 145, 0, 0, 0, []) else none)) else (if pc < 148 then (if pc = 145 then some ((.getfield 30), 148, 3, 14, 0, []) else none) else (if pc = 148 then some ((.iconst 0), 149, 0, 0, 0, []) else none)))))) else (if pc < 172 then (if pc < 159 then (if pc < 154 then (if pc < 150 then (if pc = 149 then some ((.iconst 4), 150, 0, 0, 4, []) else none) else (if pc < 153 then (if pc = 150 then some ((.invokestatic 75), 153, 9000, 0, 0, [0, 3]) else none) else (if pc = 153 then some ((.aload_n 1), 154, 0, 0, 0, []) else none))) else (if pc < 157 then (if pc = 154 then some ((.getfield 33), 157, 3, 15, 0, []) else none) else (if pc < 158 then (if pc = 157 then some ((.iconst 0), 158, 0, 0, 0, []) else none) else (if pc = 158 then some ((.aload_n 0), 159, 0, 0, 0, []) else none)))) else (if pc < 164 then (if pc < 162 then (if pc = 159 then some ((.getfield 33), 162, 3, 15, 0, []) else none) else (if pc < 163 then (if pc = 162 then some ((.iconst 0), 163, 0, 0, 0, []) else none) else (if pc = 163 then some ((.iconst 4), 164, 0, 0, 4, []) else none))) else (if pc < 168 then (if pc < 167 then (if pc = 164 then some ((.invokestatic 75), 167, 9000, 0, 0, [0, 3]) else none) else (if pc = 167 then some ((.aload_n 1), 168, 0, 0, 0, []) else none)) else (if pc < 171 then (if pc = 168 then some ((.getfield 36), 171, 3, 16, 0, []) else none) else (if pc = 171 then some ((.iconst 0), 172, 0, 0, 0, []) else none))))) else (if pc < 182 then (if pc < 177 then (if pc < 173 then (if pc = 172 then some ((.aload_n 0), 173, 0, 0, 0, []) else none) else (if pc < 176 then (if pc = 173 then some ((.getfield 36), 176, 3, 16, 0, []) else none) else (if pc = 176 then some ((.iconst 0), 177, 0, 0, 0, []) else none))) else (if pc < 178 then (if pc = 177 then some ((.iconst 4), 178, 0, 0, 4, []) else none) else (if pc < 181 then (if pc = 178 then some ((.invokestatic 75), 181, 9000, 0, 0, [0, 3]) else none) else (if pc = 181 then some ((.aload_n 0), 182, 0, 0, 0, []) else none)))) else (if pc < 189 then (if pc < 185 then (if pc = 182 then some ((.getfield 42), 185, 3, 17, 0, []) else none) else (if pc < 186 then (if pc = 185 then some ((.aload_n 1), 186, 0, 0, 0, []) else none) else (if pc = 186 then some ((.getfield 42), 189, 3, 17, 0, []) else none))) else (if pc < 193 then (if pc < 192 then (if pc = 189 then some ((.invokevirtual 81), 192, 2, 2, 0, [0, 0]) else none) else (if pc = 192 then some ((.aload_n 0), 193, 0, 0, 0, []) else none)) else (if pc < 196 then (if pc = 193 then some ((.invokevirtual 85), 196, 33, 1, 0, [0, 3]) else none) else (if pc = 196 then some (.return_, 197, 0, 0, 0, []) else none)))))))) else none
set_option maxRecDepth 100000 in
theorem ck_X3_copyFrom : ∀ pc E, C_X3_copyFrom pc = some E → ckI 3 (mB 29) pc E = true := ck_tab (n := 197) (by decide +kernel) (fun pc h => by unfold C_X3_copyFrom; rw [if_neg h])
def k_X3_copyFrom (pc : Nat) : Option (List Bool) := none
abbrev f_X3_copyFrom : Nat := 104
set_option maxRecDepth 100000 in
set_option maxHeartbeats 4000000 in
theorem s_X3_copyFrom_0 {α : Type} (O : Ora) (I : Nat → Nat → Int32) (J : Nat → Nat → Int64) (K : Nat → List Value → List Value → IJ → Option α) (rt : Option Value → IJ → Option α) :
  blkS O none 2 T0 C_X3_copyFrom k_X3_copyFrom K rt f_X3_copyFrom 0 [.ref 25, .ref 4] [] (I, J) = p_cv (O T0 2 [.ref 35, .ref 14] ((p_cp (p_cp (p_cp (p_cp (p_cp (p_cp (p_cp (p_cp (p_wr (p_wr (p_wr (p_wr (p_wr (p_wr (p_wr (p_wr I 25 0 (I 4 0)) 25 1 (I 4 1)) 25 2 (I 4 2)) 25 3 (I 4 3)) 25 4 (I 4 4)) 25 5 (I 4 5)) 25 6 (I 4 6)) 25 7 (I 4 7)) 5 26 0 0 10) 6 27 0 0 10) 7 28 0 0 10) 8 29 0 0 10) 9 30 0 0 10) 11 32 0 0 4) 12 33 0 0 4) 13 34 0 0 4), J)) (fun z1 => p_cv (O T0 33 [.ref 25] z1) (fun z2 => rt none z2)) := rfl
def C_X3_addSeam (pc : Nat) : Option PE := if pc < 77 then (if pc < 40 then (if pc < 20 then (if pc < 10 then (if pc < 4 then (if pc < 1 then (if pc = 0 then some ((.aload_n 0), 1, 0, 0, 0, []) else none) else (if pc = 1 then some ((.getfield 53), 4, 3, 1, 0, []) else none)) else (if pc < 6 then (if pc = 4 then some ((.bipush 10), 6, 0, 0, 10, []) else none) else (if pc < 9 then (if pc = 6 then some ((.if_icmp .ge 70), 9, 76, 0, 0, []) else none) else (if pc = 9 then some ((.aload_n 0), 10, 0, 0, 0, []) else none)))) else (if pc < 17 then (if pc < 13 then (if pc = 10 then some ((.getfield 9), 13, 3, 8, 0, []) else none) else (if pc < 14 then (if pc = 13 then some ((.aload_n 0), 14, 0, 0, 0, []) else none) else (if pc = 14 then some ((.getfield 53), 17, 3, 1, 0, []) else none))) else (if pc < 18 then (if pc = 17 then some ((.iload_n 1), 18, 0, 0, 0, []) else none) else (if pc < 19 then (if pc = 18 then some (.iastore, 19, 0, 0, 0, []) else none) else (if pc = 19 then some ((.aload_n 0), 20, 0, 0, 0, []) else none))))) else (if pc < 30 then (if pc < 27 then (if pc < 23 then (if pc = 20 then some ((.getfield 15), 23, 3, 9, 0, []) else none) else (if pc < 24 then (if pc = 23 then some ((.aload_n 0), 24, 0, 0, 0, []) else none) else (if pc = 24 then some ((.getfield 53), 27, 3, 1, 0, []) else none))) else (if pc < 28 then (if pc = 27 then some ((.iload_n 2), 28, 0, 0, 0, []) else none) else (if pc < 29 then (if pc = 28 then some (.iastore, 29, 0, 0, 0, []) else none) else (if pc = 29 then some ((.aload_n 0), 30, 0, 0, 0, []) else none)))) else (if pc < 37 then (if pc < 33 then (if pc = 30 then some ((.getfield 18), 33, 3, 10, 0, []) else none) else (if pc < 34 then (if pc = 33 then some ((.aload_n 0), 34, 0, 0, 0, []) else none) else (if pc = 34 then some ((.getfield 53), 37, 3, 1, 0, []) else none))) else (if pc < 38 then (if pc = 37 then some ((.iconst 1), 38, 0, 0, 1, []) else none) else (if pc < 39 then (if pc = 38 then some ((.iload_n 1), 39, 0, 0, 0, []) else none) else (if pc = 39 then some (.ishl, 40, 0, 0, 0, []) else none)))))) else (if pc < 56 then (if pc < 46 then (if pc < 43 then (if pc < 41 then (if pc = 40 then some ((.iconst 1), 41, 0, 0, 1, []) else none) else (if pc < 42 then (if pc = 41 then some ((.iload_n 2), 42, 0, 0, 0, []) else none) else (if pc = 42 then some (.ishl, 43, 0, 0, 0, []) else none))) else (if pc < 44 then (if pc = 43 then some (.ior, 44, 0, 0, 0, []) else none) else (if pc < 45 then (if pc = 44 then some (.iastore, 45, 0, 0, 0, []) else none) else (if pc = 45 then some ((.aload_n 0), 46, 0, 0, 0, []) else none)))) else (if pc < 53 then (if pc < 49 then (if pc = 46 then some ((.getfield 21), 49, 3, 11, 0, []) else none) else (if pc < 50 then (if pc = 49 then some ((.aload_n 0), 50, 0, 0, 0, []) else none) else (if pc = 50 then some ((.getfield 53), 53, 3, 1, 0, []) else none))) else (if pc < 54 then (if pc = 53 then some ((.iload_n 3), 54, 0, 0, 0, []) else none) else (if pc < 55 then (if pc = 54 then some (.iastore, 55, 0, 0, 0, []) else none) else (if pc = 55 then some ((.aload_n 0), 56, 0, 0, 0, []) else none))))) else (if pc < 67 then (if pc < 63 then (if pc < 59 then (if pc = 56 then some ((.getfield 24), 59, 3, 12, 0, []) else none) else (if pc < 60 then (if pc = 59 then some ((.aload_n 0), 60, 0, 0, 0, []) else none) else (if pc = 60 then some ((.getfield 53), 63, 3, 1, 0, []) else none))) else (if pc < 65 then (if pc = 63 then some ((.iload 4), 65, 0, 0, 0, []) else none) else (if pc < 66 then (if pc = 65 then some (.iastore, 66, 0, 0, 0, []) else none) else (if pc = 66 then some ((.aload_n 0), 67, 0, 0, 0, []) else none)))) else (if pc < 72 then (if pc < 68 then (if pc = 67 then some (.dup, 68, 0, 0, 0, []) else none) else (if pc < 71 then (if pc = 68 then some ((.getfield 53), 71, 3, 1, 0, []) else none) else (if pc = 71 then some ((.iconst 1), 72, 0, 0, 1, []) else none))) else (if pc < 73 then (if pc = 72 then some (.iadd, 73, 0, 0, 0, []) else none) else (if pc < 76 then (if pc = 73 then some ((.putfield 53), 76, 3, 1, 0, []) else none) else (if pc = 76 then some (.return_, 77, 0, 0, 0, []) else none))))))) else none
set_option maxRecDepth 100000 in
theorem ck_X3_addSeam : ∀ pc E, C_X3_addSeam pc = some E → ckI 3 (mB 30) pc E = true := ck_tab (n := 77) (by decide +kernel) (fun pc h => by unfold C_X3_addSeam; rw [if_neg h])
def k_X3_addSeam (pc : Nat) : Option (List Bool) := none
abbrev f_X3_addSeam : Nat := 47
set_option maxRecDepth 100000 in
set_option maxHeartbeats 4000000 in
theorem s_X3_addSeam_0 {α : Type} (O : Ora) (I : Nat → Nat → Int32) (J : Nat → Nat → Int64) (K : Nat → List Value → List Value → IJ → Option α) (rt : Option Value → IJ → Option α) (a1 a2 a3 a4 : Int32) :
  blkS O none 5 T0 C_X3_addSeam k_X3_addSeam K rt f_X3_addSeam 0 [.ref 4, .int a1, .int a2, .int a3, .int a4] [] (I, J) = if 10 ≤ (I 4 1) then (rt none (I, J)) else (p_chk (p_in (I 4 1) 10) (p_chk (p_in (I 4 1) 10) (p_chk (p_in (I 4 1) 10) (p_chk (p_in (I 4 1) 10) (p_chk (p_in (I 4 1) 10) (rt none ((p_wr (p_wr (p_wr (p_wr (p_wr (p_wr I 5 ((I 4 1).toNatClampNeg) a1) 6 ((I 4 1).toNatClampNeg) a2) 7 ((I 4 1).toNatClampNeg) ((1 <<< (a1 &&& 31)) ||| (1 <<< (a2 &&& 31)))) 8 ((I 4 1).toNatClampNeg) a3) 9 ((I 4 1).toNatClampNeg) a4) 4 1 ((I 4 1) + 1)), J))))))) := rfl
def C_X3_addCart (pc : Nat) : Option PE := if pc < 49 then (if pc < 26 then (if pc < 13 then (if pc < 5 then (if pc < 1 then (if pc = 0 then some ((.aload_n 0), 1, 0, 0, 0, []) else none) else (if pc < 4 then (if pc = 1 then some ((.getfield 59), 4, 3, 3, 0, []) else none) else (if pc = 4 then some ((.iconst 4), 5, 0, 0, 4, []) else none))) else (if pc < 9 then (if pc < 8 then (if pc = 5 then some ((.if_icmp .ge 43), 8, 48, 0, 0, []) else none) else (if pc = 8 then some ((.aload_n 0), 9, 0, 0, 0, []) else none)) else (if pc < 12 then (if pc = 9 then some ((.getfield 30), 12, 3, 14, 0, []) else none) else (if pc = 12 then some ((.aload_n 0), 13, 0, 0, 0, []) else none)))) else (if pc < 18 then (if pc < 16 then (if pc = 13 then some ((.getfield 59), 16, 3, 3, 0, []) else none) else (if pc < 17 then (if pc = 16 then some ((.iload_n 1), 17, 0, 0, 0, []) else none) else (if pc = 17 then some (.iastore, 18, 0, 0, 0, []) else none))) else (if pc < 22 then (if pc < 19 then (if pc = 18 then some ((.aload_n 0), 19, 0, 0, 0, []) else none) else (if pc = 19 then some ((.getfield 33), 22, 3, 15, 0, []) else none)) else (if pc < 23 then (if pc = 22 then some ((.aload_n 0), 23, 0, 0, 0, []) else none) else (if pc = 23 then some ((.getfield 59), 26, 3, 3, 0, []) else none))))) else (if pc < 37 then (if pc < 29 then (if pc < 27 then (if pc = 26 then some ((.iload_n 2), 27, 0, 0, 0, []) else none) else (if pc < 28 then (if pc = 27 then some (.iastore, 28, 0, 0, 0, []) else none) else (if pc = 28 then some ((.aload_n 0), 29, 0, 0, 0, []) else none))) else (if pc < 33 then (if pc < 32 then (if pc = 29 then some ((.getfield 36), 32, 3, 16, 0, []) else none) else (if pc = 32 then some ((.aload_n 0), 33, 0, 0, 0, []) else none)) else (if pc < 36 then (if pc = 33 then some ((.getfield 59), 36, 3, 3, 0, []) else none) else (if pc = 36 then some ((.iload_n 3), 37, 0, 0, 0, []) else none)))) else (if pc < 43 then (if pc < 39 then (if pc < 38 then (if pc = 37 then some (.iastore, 38, 0, 0, 0, []) else none) else (if pc = 38 then some ((.aload_n 0), 39, 0, 0, 0, []) else none)) else (if pc < 40 then (if pc = 39 then some (.dup, 40, 0, 0, 0, []) else none) else (if pc = 40 then some ((.getfield 59), 43, 3, 3, 0, []) else none))) else (if pc < 45 then (if pc < 44 then (if pc = 43 then some ((.iconst 1), 44, 0, 0, 1, []) else none) else (if pc = 44 then some (.iadd, 45, 0, 0, 0, []) else none)) else (if pc < 48 then (if pc = 45 then some ((.putfield 59), 48, 3, 3, 0, []) else none) else (if pc = 48 then some (.return_, 49, 0, 0, 0, []) else none)))))) else none
set_option maxRecDepth 100000 in
theorem ck_X3_addCart : ∀ pc E, C_X3_addCart pc = some E → ckI 3 (mB 31) pc E = true := ck_tab (n := 49) (by decide +kernel) (fun pc h => by unfold C_X3_addCart; rw [if_neg h])
def k_X3_addCart (pc : Nat) : Option (List Bool) := none
abbrev f_X3_addCart : Nat := 29
set_option maxRecDepth 100000 in
set_option maxHeartbeats 4000000 in
theorem s_X3_addCart_0 {α : Type} (O : Ora) (I : Nat → Nat → Int32) (J : Nat → Nat → Int64) (K : Nat → List Value → List Value → IJ → Option α) (rt : Option Value → IJ → Option α) (a1 a2 a3 : Int32) :
  blkS O none 4 T0 C_X3_addCart k_X3_addCart K rt f_X3_addCart 0 [.ref 4, .int a1, .int a2, .int a3] [] (I, J) = if 4 ≤ (I 4 3) then (rt none (I, J)) else (p_chk (p_in (I 4 3) 4) (p_chk (p_in (I 4 3) 4) (p_chk (p_in (I 4 3) 4) (rt none ((p_wr (p_wr (p_wr (p_wr I 11 ((I 4 3).toNatClampNeg) a1) 12 ((I 4 3).toNatClampNeg) a2) 13 ((I 4 3).toNatClampNeg) a3) 4 3 ((I 4 3) + 1)), J))))) := rfl
def C_X3_hasSeam (pc : Nat) : Option PE := if pc < 36 then (if pc < 18 then (if pc < 10 then (if pc < 3 then (if pc < 1 then (if pc = 0 then some ((.iconst 0), 1, 0, 0, 0, []) else none) else (if pc < 2 then (if pc = 1 then some ((.istore_n 3), 2, 0, 0, 0, []) else none) else (if pc = 2 then some ((.iload_n 3), 3, 0, 0, 0, []) else none))) else (if pc < 4 then (if pc = 3 then some ((.aload_n 0), 4, 0, 0, 0, []) else none) else (if pc < 7 then (if pc = 4 then some ((.getfield 53), 7, 3, 1, 0, []) else none) else (if pc = 7 then some ((.if_icmp .ge 27), 10, 34, 0, 0, []) else none)))) else (if pc < 15 then (if pc < 11 then (if pc = 10 then some ((.aload_n 0), 11, 0, 0, 0, []) else none) else (if pc < 14 then (if pc = 11 then some ((.getfield 18), 14, 3, 10, 0, []) else none) else (if pc = 14 then some ((.iload_n 3), 15, 0, 0, 0, []) else none))) else (if pc < 16 then (if pc = 15 then some (.iaload, 16, 0, 0, 0, []) else none) else (if pc < 17 then (if pc = 16 then some ((.iconst 1), 17, 0, 0, 1, []) else none) else (if pc = 17 then some ((.iload_n 1), 18, 0, 0, 0, []) else none))))) else (if pc < 26 then (if pc < 21 then (if pc < 19 then (if pc = 18 then some (.ishl, 19, 0, 0, 0, []) else none) else (if pc < 20 then (if pc = 19 then some ((.iconst 1), 20, 0, 0, 1, []) else none) else (if pc = 20 then some ((.iload_n 2), 21, 0, 0, 0, []) else none))) else (if pc < 22 then (if pc = 21 then some (.ishl, 22, 0, 0, 0, []) else none) else (if pc < 23 then (if pc = 22 then some (.ior, 23, 0, 0, 0, []) else none) else (if pc = 23 then some ((.if_icmp .ne 5), 26, 28, 0, 0, []) else none)))) else (if pc < 31 then (if pc < 27 then (if pc = 26 then some ((.iconst 1), 27, 0, 0, 1, []) else none) else (if pc < 28 then (if pc = 27 then some (.ireturn, 28, 0, 0, 0, []) else none) else (if pc = 28 then some ((.iinc 3 1), 31, 0, 0, 1, []) else none))) else (if pc < 34 then (if pc = 31 then some ((.goto (-29)), 34, 2, 0, 0, []) else none) else (if pc < 35 then (if pc = 34 then some ((.iconst 0), 35, 0, 0, 0, []) else none) else (if pc = 35 then some (.ireturn, 36, 0, 0, 0, []) else none)))))) else none
set_option maxRecDepth 100000 in
theorem ck_X3_hasSeam : ∀ pc E, C_X3_hasSeam pc = some E → ckI 3 (mB 32) pc E = true := ck_tab (n := 36) (by decide +kernel) (fun pc h => by unfold C_X3_hasSeam; rw [if_neg h])
def k_X3_hasSeam (pc : Nat) : Option (List Bool) := if pc = 2 then some [true, true, true, true] else none
abbrev f_X3_hasSeam : Nat := 18
set_option maxRecDepth 100000 in
set_option maxHeartbeats 4000000 in
theorem s_X3_hasSeam_0 {α : Type} (O : Ora) (I : Nat → Nat → Int32) (J : Nat → Nat → Int64) (K : Nat → List Value → List Value → IJ → Option α) (rt : Option Value → IJ → Option α) (a1 a2 : Int32) :
  blkS O none 4 T0 C_X3_hasSeam k_X3_hasSeam K rt f_X3_hasSeam 0 [.ref 4, .int a1, .int a2, un] [] (I, J) = K 2 [.ref 4, .int a1, .int a2, .int 0] [] (I, J) := rfl
set_option maxRecDepth 100000 in
set_option maxHeartbeats 4000000 in
theorem s_X3_hasSeam_2 {α : Type} (O : Ora) (I : Nat → Nat → Int32) (J : Nat → Nat → Int64) (K : Nat → List Value → List Value → IJ → Option α) (rt : Option Value → IJ → Option α) (x1 x2 x3 : Int32) :
  blkS O none 4 T0 C_X3_hasSeam k_X3_hasSeam K rt f_X3_hasSeam 2 [.ref 4, .int x1, .int x2, .int x3] [] (I, J) = if (I 4 1) ≤ x3 then (rt (some (.int 0)) (I, J)) else (p_chk (p_in x3 10) (if (I 7 x3.toNatClampNeg) = ((1 <<< (x1 &&& 31)) ||| (1 <<< (x2 &&& 31))) then (rt (some (.int 1)) (I, J)) else (K 2 [.ref 4, .int x1, .int x2, .int (x3 + 1)] [] (I, J)))) := rfl
def C_X3_countWays (pc : Nat) : Option PE := if pc < 68 then (if pc < 32 then (if pc < 16 then (if pc < 7 then (if pc < 2 then (if pc < 1 then (if pc = 0 then some ((.iconst 0), 1, 0, 0, 0, []) else none) else (if pc = 1 then some ((.istore_n 1), 2, 0, 0, 0, []) else none)) else (if pc < 3 then (if pc = 2 then some ((.iload_n 1), 3, 0, 0, 0, []) else none) else (if pc < 4 then (if pc = 3 then some ((.aload_n 0), 4, 0, 0, 0, []) else none) else (if pc = 4 then some ((.getfield 53), 7, 3, 1, 0, []) else none)))) else (if pc < 11 then (if pc < 10 then (if pc = 7 then some ((.if_icmp .ge 60), 10, 67, 0, 0, []) else none) else (if pc = 10 then some ((.aload_n 0), 11, 0, 0, 0, []) else none)) else (if pc < 14 then (if pc = 11 then some ((.getfield 27), 14, 3, 13, 0, []) else none) else (if pc < 15 then (if pc = 14 then some ((.iload_n 1), 15, 0, 0, 0, []) else none) else (if pc = 15 then some ((.iconst 0), 16, 0, 0, 0, []) else none))))) else (if pc < 21 then (if pc < 18 then (if pc < 17 then (if pc = 16 then some (.iastore, 17, 0, 0, 0, []) else none) else (if pc = 17 then some ((.iconst 0), 18, 0, 0, 0, []) else none)) else (if pc < 19 then (if pc = 18 then some ((.istore_n 2), 19, 0, 0, 0, []) else none) else (if pc < 20 then (if pc = 19 then some ((.iload_n 2), 20, 0, 0, 0, []) else none) else (if pc = 20 then some ((.aload_n 0), 21, 0, 0, 0, []) else none)))) else (if pc < 27 then (if pc < 24 then (if pc = 21 then some ((.getfield 53), 24, 3, 1, 0, []) else none) else (if pc = 24 then some ((.if_icmp .ge 37), 27, 61, 0, 0, []) else none)) else (if pc < 28 then (if pc = 27 then some ((.aload_n 0), 28, 0, 0, 0, []) else none) else (if pc < 31 then (if pc = 28 then some ((.getfield 18), 31, 3, 10, 0, []) else none) else (if pc = 31 then some ((.iload_n 2), 32, 0, 0, 0, []) else none)))))) else (if pc < 50 then (if pc < 39 then (if pc < 34 then (if pc < 33 then (if pc = 32 then some (.iaload, 33, 0, 0, 0, []) else none) else (if pc = 33 then some ((.aload_n 0), 34, 0, 0, 0, []) else none)) else (if pc < 37 then (if pc = 34 then some ((.getfield 9), 37, 3, 8, 0, []) else none) else (if pc < 38 then (if pc = 37 then some ((.iload_n 1), 38, 0, 0, 0, []) else none) else (if pc = 38 then some (.iaload, 39, 0, 0, 0, []) else none)))) else (if pc < 45 then (if pc < 42 then (if pc = 39 then some ((.invokestatic 88), 42, 165, 2, 0, [1]) else none) else (if pc = 42 then some ((.ifCond .eq 13), 45, 55, 0, 0, []) else none)) else (if pc < 46 then (if pc = 45 then some ((.aload_n 0), 46, 0, 0, 0, []) else none) else (if pc < 49 then (if pc = 46 then some ((.getfield 27), 49, 3, 13, 0, []) else none) else (if pc = 49 then some ((.iload_n 1), 50, 0, 0, 0, []) else none))))) else (if pc < 55 then (if pc < 52 then (if pc < 51 then (if pc = 50 then some (.dup2, 51, 0, 0, 0, []) else none) else (if pc = 51 then some (.iaload, 52, 0, 0, 0, []) else none)) else (if pc < 53 then (if pc = 52 then some ((.iconst 1), 53, 0, 0, 1, []) else none) else (if pc < 54 then (if pc = 53 then some (.iadd, 54, 0, 0, 0, []) else none) else (if pc = 54 then some (.iastore, 55, 0, 0, 0, []) else none)))) else (if pc < 61 then (if pc < 58 then (if pc = 55 then some ((.iinc 2 1), 58, 0, 0, 1, []) else none) else (if pc = 58 then some ((.goto (-39)), 61, 19, 0, 0, []) else none)) else (if pc < 64 then (if pc = 61 then some ((.iinc 1 1), 64, 0, 0, 1, []) else none) else (if pc < 67 then (if pc = 64 then some ((.goto (-62)), 67, 2, 0, 0, []) else none) else (if pc = 67 then some (.return_, 68, 0, 0, 0, []) else none))))))) else none
set_option maxRecDepth 100000 in
theorem ck_X3_countWays : ∀ pc E, C_X3_countWays pc = some E → ckI 3 (mB 33) pc E = true := ck_tab (n := 68) (by decide +kernel) (fun pc h => by unfold C_X3_countWays; rw [if_neg h])
def k_X3_countWays (pc : Nat) : Option (List Bool) := if pc = 2 then some [true, true, false] else if pc = 19 then some [true, true, true] else none
abbrev f_X3_countWays : Nat := 24
set_option maxRecDepth 100000 in
set_option maxHeartbeats 4000000 in
theorem s_X3_countWays_0 {α : Type} (O : Ora) (I : Nat → Nat → Int32) (J : Nat → Nat → Int64) (K : Nat → List Value → List Value → IJ → Option α) (rt : Option Value → IJ → Option α) :
  blkS O none 3 T0 C_X3_countWays k_X3_countWays K rt f_X3_countWays 0 [.ref 25, un, un] [] (I, J) = K 2 [.ref 25, .int 0, un] [] (I, J) := rfl
set_option maxRecDepth 100000 in
set_option maxHeartbeats 4000000 in
theorem s_X3_countWays_2 {α : Type} (O : Ora) (I : Nat → Nat → Int32) (J : Nat → Nat → Int64) (K : Nat → List Value → List Value → IJ → Option α) (rt : Option Value → IJ → Option α) (x1 : Int32) :
  blkS O none 3 T0 C_X3_countWays k_X3_countWays K rt f_X3_countWays 2 [.ref 25, .int x1, un] [] (I, J) = if (I 25 1) ≤ x1 then (rt none (I, J)) else (p_chk (p_in x1 10) (K 19 [.ref 25, .int x1, .int 0] [] ((p_wr I 31 x1.toNatClampNeg 0), J))) := rfl
set_option maxRecDepth 100000 in
set_option maxHeartbeats 4000000 in
theorem s_X3_countWays_19 {α : Type} (O : Ora) (I : Nat → Nat → Int32) (J : Nat → Nat → Int64) (K : Nat → List Value → List Value → IJ → Option α) (rt : Option Value → IJ → Option α) (x1 x2 : Int32) :
  blkS O none 3 T0 C_X3_countWays k_X3_countWays K rt f_X3_countWays 19 [.ref 25, .int x1, .int x2] [] (I, J) = if (I 25 1) ≤ x2 then (K 2 [.ref 25, .int (x1 + 1), un] [] (I, J)) else (p_chk (p_in x2 10) (p_chk (p_in x1 10) (p_ci (O T0 165 [.int (I 28 x2.toNatClampNeg), .int (I 26 x1.toNatClampNeg)] (I, J)) (fun v2 z1 => if v2 = 0 then (K 19 [.ref 25, .int x1, .int (x2 + 1)] [] z1) else (p_chk (p_in x1 10) (p_chk (p_in x1 10) (K 19 [.ref 25, .int x1, .int (x2 + 1)] [] ((p_wr z1.1 31 x1.toNatClampNeg ((z1.1 31 x1.toNatClampNeg) + 1)), z1.2)))))))) := rfl
end
section
def C_X6_clear (pc : Nat) : Option PE := if pc < 6 then (if pc < 2 then (if pc < 1 then (if pc = 0 then some ((.aload_n 0), 1, 0, 0, 0, []) else none) else (if pc = 1 then some ((.iconst 0), 2, 0, 0, 0, []) else none)) else (if pc < 5 then (if pc = 2 then some ((.putfield 24), 5, 6, 6, 0, []) else none) else (if pc = 5 then some (.return_, 6, 0, 0, 0, []) else none))) else none
set_option maxRecDepth 100000 in
theorem ck_X6_clear : ∀ pc E, C_X6_clear pc = some E → ckI 6 (mB 64) pc E = true := ck_tab (n := 6) (by decide +kernel) (fun pc h => by unfold C_X6_clear; rw [if_neg h])
def k_X6_clear (pc : Nat) : Option (List Bool) := none
abbrev f_X6_clear : Nat := 4
set_option maxRecDepth 100000 in
set_option maxHeartbeats 4000000 in
theorem s_X6_clear_0 {α : Type} (O : Ora) (I : Nat → Nat → Int32) (J : Nat → Nat → Int64) (K : Nat → List Value → List Value → IJ → Option α) (rt : Option Value → IJ → Option α) :
  blkS O none 1 T0 C_X6_clear k_X6_clear K rt f_X6_clear 0 [.ref 178] [] (I, J) = rt none ((p_wr I 178 6 0), J) := rfl
def C_X6_addTold (pc : Nat) : Option PE := if pc < 58 then (if pc < 30 then (if pc < 15 then (if pc < 9 then (if pc < 4 then (if pc < 1 then (if pc = 0 then some ((.aload_n 0), 1, 0, 0, 0, []) else none) else (if pc = 1 then some ((.getfield 24), 4, 6, 6, 0, []) else none)) else (if pc < 6 then (if pc = 4 then some ((.bipush 20), 6, 0, 0, 20, []) else none) else (if pc = 6 then some ((.if_icmp .lt 5), 9, 11, 0, 0, []) else none))) else (if pc < 11 then (if pc < 10 then (if pc = 9 then some ((.iconst (-1)), 10, 0, 0, (-1), []) else none) else (if pc = 10 then some (.ireturn, 11, 0, 0, 0, []) else none)) else (if pc < 12 then (if pc = 11 then some ((.aload_n 0), 12, 0, 0, 0, []) else none) else (if pc = 12 then some ((.getfield 9), 15, 6, 2, 0, []) else none)))) else (if pc < 21 then (if pc < 19 then (if pc < 16 then (if pc = 15 then some ((.aload_n 0), 16, 0, 0, 0, []) else none) else (if pc = 16 then some ((.getfield 24), 19, 6, 6, 0, []) else none)) else (if pc < 20 then (if pc = 19 then some ((.iload_n 1), 20, 0, 0, 0, []) else none) else (if pc = 20 then some (.iastore, 21, 0, 0, 0, []) else none))) else (if pc < 25 then (if pc < 22 then (if pc = 21 then some ((.aload_n 0), 22, 0, 0, 0, []) else none) else (if pc = 22 then some ((.getfield 15), 25, 6, 3, 0, []) else none)) else (if pc < 26 then (if pc = 25 then some ((.aload_n 0), 26, 0, 0, 0, []) else none) else (if pc < 29 then (if pc = 26 then some ((.getfield 24), 29, 6, 6, 0, []) else none) else (if pc = 29 then some ((.iload_n 2), 30, 0, 0, 0, []) else none)))))) else (if pc < 43 then (if pc < 36 then (if pc < 32 then (if pc < 31 then (if pc = 30 then some (.iastore, 31, 0, 0, 0, []) else none) else (if pc = 31 then some ((.aload_n 0), 32, 0, 0, 0, []) else none)) else (if pc < 35 then (if pc = 32 then some ((.getfield 18), 35, 6, 4, 0, []) else none) else (if pc = 35 then some ((.aload_n 0), 36, 0, 0, 0, []) else none))) else (if pc < 40 then (if pc < 39 then (if pc = 36 then some ((.getfield 24), 39, 6, 6, 0, []) else none) else (if pc = 39 then some ((.iload_n 3), 40, 0, 0, 0, []) else none)) else (if pc < 41 then (if pc = 40 then some (.iastore, 41, 0, 0, 0, []) else none) else (if pc < 42 then (if pc = 41 then some ((.aload_n 0), 42, 0, 0, 0, []) else none) else (if pc = 42 then some (.dup, 43, 0, 0, 0, []) else none))))) else (if pc < 51 then (if pc < 47 then (if pc < 46 then (if pc = 43 then some ((.getfield 24), 46, 6, 6, 0, []) else none) else (if pc = 46 then some ((.iconst 1), 47, 0, 0, 1, []) else none)) else (if pc < 48 then (if pc = 47 then some (.iadd, 48, 0, 0, 0, []) else none) else (if pc = 48 then some ((.putfield 24), 51, 6, 6, 0, []) else none))) else (if pc < 55 then (if pc < 52 then (if pc = 51 then some ((.aload_n 0), 52, 0, 0, 0, []) else none) else (if pc = 52 then some ((.getfield 24), 55, 6, 6, 0, []) else none)) else (if pc < 56 then (if pc = 55 then some ((.iconst 1), 56, 0, 0, 1, []) else none) else (if pc < 57 then (if pc = 56 then some (.isub, 57, 0, 0, 0, []) else none) else (if pc = 57 then some (.ireturn, 58, 0, 0, 0, []) else none))))))) else none
set_option maxRecDepth 100000 in
theorem ck_X6_addTold : ∀ pc E, C_X6_addTold pc = some E → ckI 6 (mB 65) pc E = true := ck_tab (n := 58) (by decide +kernel) (fun pc h => by unfold C_X6_addTold; rw [if_neg h])
def k_X6_addTold (pc : Nat) : Option (List Bool) := none
abbrev f_X6_addTold : Nat := 33
set_option maxRecDepth 100000 in
set_option maxHeartbeats 4000000 in
theorem s_X6_addTold_0 {α : Type} (O : Ora) (I : Nat → Nat → Int32) (J : Nat → Nat → Int64) (K : Nat → List Value → List Value → IJ → Option α) (rt : Option Value → IJ → Option α) (a1 a2 a3 : Int32) :
  blkS O none 4 T0 C_X6_addTold k_X6_addTold K rt f_X6_addTold 0 [.ref 178, .int a1, .int a2, .int a3] [] (I, J) = if (I 178 6) < 20 then (p_chk (p_in (I 178 6) 20) (p_chk (p_in (I 178 6) 20) (p_chk (p_in (I 178 6) 20) (rt (some (.int (((I 178 6) + 1) - 1))) ((p_wr (p_wr (p_wr (p_wr I 179 ((I 178 6).toNatClampNeg) a1) 180 ((I 178 6).toNatClampNeg) a2) 181 ((I 178 6).toNatClampNeg) a3) 178 6 ((I 178 6) + 1)), J))))) else (rt (some (.int (-1))) (I, J)) := rfl
def C_X6_measureCuts (pc : Nat) : Option PE := if pc < 126 then (if pc < 54 then (if pc < 27 then (if pc < 13 then (if pc < 3 then (if pc < 1 then (if pc = 0 then some ((.iconst 0), 1, 0, 0, 0, []) else none) else (if pc < 2 then (if pc = 1 then some ((.istore_n 3), 2, 0, 0, 0, []) else none) else (if pc = 2 then some ((.iload_n 3), 3, 0, 0, 0, []) else none))) else (if pc < 7 then (if pc < 4 then (if pc = 3 then some ((.aload_n 0), 4, 0, 0, 0, []) else none) else (if pc = 4 then some ((.getfield 28), 7, 6, 0, 0, []) else none)) else (if pc < 10 then (if pc = 7 then some ((.getfield 36), 10, 3, 1, 0, []) else none) else (if pc = 10 then some ((.if_icmp .ge 115), 13, 125, 0, 0, []) else none)))) else (if pc < 21 then (if pc < 15 then (if pc < 14 then (if pc = 13 then some ((.iload_n 1), 14, 0, 0, 0, []) else none) else (if pc = 14 then some ((.iload_n 3), 15, 0, 0, 0, []) else none)) else (if pc < 18 then (if pc = 15 then some ((.invokestatic 41), 18, 165, 2, 0, [1]) else none) else (if pc = 18 then some ((.ifCond .eq 101), 21, 119, 0, 0, []) else none))) else (if pc < 24 then (if pc < 22 then (if pc = 21 then some ((.iconst 0), 22, 0, 0, 0, []) else none) else (if pc = 22 then some ((.istore 4), 24, 0, 0, 0, []) else none)) else (if pc < 26 then (if pc = 24 then some ((.iload 4), 26, 0, 0, 0, []) else none) else (if pc = 26 then some ((.aload_n 0), 27, 0, 0, 0, []) else none))))) else (if pc < 43 then (if pc < 37 then (if pc < 33 then (if pc < 30 then (if pc = 27 then some ((.getfield 28), 30, 6, 0, 0, []) else none) else (if pc = 30 then some ((.getfield 45), 33, 3, 0, 0, []) else none)) else (if pc < 36 then (if pc = 33 then some ((.if_icmp .ge 86), 36, 119, 0, 0, []) else none) else (if pc = 36 then some ((.aload_n 0), 37, 0, 0, 0, []) else none))) else (if pc < 41 then (if pc < 40 then (if pc = 37 then some ((.getfield 32), 40, 6, 1, 0, []) else none) else (if pc = 40 then some ((.iload_n 1), 41, 0, 0, 0, []) else none)) else (if pc < 42 then (if pc = 41 then some ((.iconst 1), 42, 0, 0, 1, []) else none) else (if pc = 42 then some ((.iload_n 3), 43, 0, 0, 0, []) else none)))) else (if pc < 47 then (if pc < 45 then (if pc < 44 then (if pc = 43 then some (.ishl, 44, 0, 0, 0, []) else none) else (if pc = 44 then some ((.iconst (-1)), 45, 0, 0, (-1), []) else none)) else (if pc < 46 then (if pc = 45 then some (.ixor, 46, 0, 0, 0, []) else none) else (if pc = 46 then some (.iand, 47, 0, 0, 0, []) else none))) else (if pc < 50 then (if pc < 48 then (if pc = 47 then some ((.aload_n 2), 48, 0, 0, 0, []) else none) else (if pc = 48 then some ((.iload 4), 50, 0, 0, 0, []) else none)) else (if pc < 53 then (if pc = 50 then some ((.invokevirtual 48), 53, 14, 4, 0, [0, 1]) else none) else (if pc = 53 then some ((.iconst 0), 54, 0, 0, 0, []) else none)))))) else (if pc < 89 then (if pc < 72 then (if pc < 62 then (if pc < 58 then (if pc < 56 then (if pc = 54 then some ((.istore 5), 56, 0, 0, 0, []) else none) else (if pc = 56 then some ((.iload 5), 58, 0, 0, 0, []) else none)) else (if pc < 59 then (if pc = 58 then some ((.aload_n 0), 59, 0, 0, 0, []) else none) else (if pc = 59 then some ((.getfield 28), 62, 6, 0, 0, []) else none))) else (if pc < 68 then (if pc < 65 then (if pc = 62 then some ((.getfield 45), 65, 3, 0, 0, []) else none) else (if pc = 65 then some ((.if_icmp .ge 48), 68, 113, 0, 0, []) else none)) else (if pc < 69 then (if pc = 68 then some ((.aload_n 0), 69, 0, 0, 0, []) else none) else (if pc = 69 then some ((.getfield 21), 72, 6, 5, 0, []) else none)))) else (if pc < 80 then (if pc < 75 then (if pc < 73 then (if pc = 72 then some ((.iload_n 3), 73, 0, 0, 0, []) else none) else (if pc = 73 then some ((.iload 4), 75, 0, 0, 0, []) else none)) else (if pc < 77 then (if pc = 75 then some ((.iload 5), 77, 0, 0, 0, []) else none) else (if pc = 77 then some ((.invokestatic 54), 80, 72, 3, 0, [1]) else none))) else (if pc < 84 then (if pc < 81 then (if pc = 80 then some ((.aload_n 0), 81, 0, 0, 0, []) else none) else (if pc = 81 then some ((.getfield 32), 84, 6, 1, 0, []) else none)) else (if pc < 86 then (if pc = 84 then some ((.iload 5), 86, 0, 0, 0, []) else none) else (if pc = 86 then some ((.invokevirtual 58), 89, 15, 2, 0, [1, 1]) else none))))) else (if pc < 106 then (if pc < 99 then (if pc < 93 then (if pc < 92 then (if pc = 89 then some ((.ifCond .eq 16), 92, 105, 0, 0, []) else none) else (if pc = 92 then some ((.aload_n 0), 93, 0, 0, 0, []) else none)) else (if pc < 96 then (if pc = 93 then some ((.getfield 32), 96, 6, 1, 0, []) else none) else (if pc = 96 then some ((.getfield 62), 99, 1, 1, 0, []) else none))) else (if pc < 102 then (if pc < 101 then (if pc = 99 then some ((.iload 5), 101, 0, 0, 0, []) else none) else (if pc = 101 then some (.iaload, 102, 0, 0, 0, []) else none)) else (if pc < 105 then (if pc = 102 then some ((.goto 4), 105, 106, 0, 0, []) else none) else (if pc = 105 then some ((.iconst 0), 106, 0, 0, 0, []) else none)))) else (if pc < 116 then (if pc < 110 then (if pc < 107 then (if pc = 106 then some (.iastore, 107, 0, 0, 0, []) else none) else (if pc = 107 then some ((.iinc 5 1), 110, 0, 0, 1, []) else none)) else (if pc < 113 then (if pc = 110 then some ((.goto (-54)), 113, 56, 0, 0, []) else none) else (if pc = 113 then some ((.iinc 4 1), 116, 0, 0, 1, []) else none))) else (if pc < 122 then (if pc < 119 then (if pc = 116 then some ((.goto (-92)), 119, 24, 0, 0, []) else none) else (if pc = 119 then some ((.iinc 3 1), 122, 0, 0, 1, []) else none)) else (if pc < 125 then (if pc = 122 then some ((.goto (-120)), 125, 2, 0, 0, []) else none) else (if pc = 125 then some (.return_, 126, 0, 0, 0, []) else none))))))) else none
set_option maxRecDepth 100000 in
theorem ck_X6_measureCuts : ∀ pc E, C_X6_measureCuts pc = some E → ckI 6 (mB 66) pc E = true := ck_tab (n := 126) (by decide +kernel) (fun pc h => by unfold C_X6_measureCuts; rw [if_neg h])
def k_X6_measureCuts (pc : Nat) : Option (List Bool) := if pc = 2 then some [true, true, true, true, false, false] else if pc = 24 then some [true, true, true, true, true, false] else if pc = 56 then some [true, true, true, true, true, true] else none
abbrev f_X6_measureCuts : Nat := 25
set_option maxRecDepth 100000 in
set_option maxHeartbeats 4000000 in
theorem s_X6_measureCuts_0 {α : Type} (O : Ora) (I : Nat → Nat → Int32) (J : Nat → Nat → Int64) (K : Nat → List Value → List Value → IJ → Option α) (rt : Option Value → IJ → Option α) (a1 : Int32) :
  blkS O none 6 T0 C_X6_measureCuts k_X6_measureCuts K rt f_X6_measureCuts 0 [.ref 178, .int a1, .ref 176, un, un, un] [] (I, J) = K 2 [.ref 178, .int a1, .ref 176, .int 0, un, un] [] (I, J) := rfl
set_option maxRecDepth 100000 in
set_option maxHeartbeats 4000000 in
theorem s_X6_measureCuts_2 {α : Type} (O : Ora) (I : Nat → Nat → Int32) (J : Nat → Nat → Int64) (K : Nat → List Value → List Value → IJ → Option α) (rt : Option Value → IJ → Option α) (x1 x3 : Int32) :
  blkS O none 6 T0 C_X6_measureCuts k_X6_measureCuts K rt f_X6_measureCuts 2 [.ref 178, .int x1, .ref 176, .int x3, un, un] [] (I, J) = if (I 25 1) ≤ x3 then (rt none (I, J)) else (p_ci (O T0 165 [.int x1, .int x3] (I, J)) (fun v2 z1 => if v2 = 0 then (K 2 [.ref 178, .int x1, .ref 176, .int (x3 + 1), un, un] [] z1) else (K 24 [.ref 178, .int x1, .ref 176, .int x3, .int 0, un] [] z1))) := rfl
set_option maxRecDepth 100000 in
set_option maxHeartbeats 4000000 in
theorem s_X6_measureCuts_24 {α : Type} (O : Ora) (I : Nat → Nat → Int32) (J : Nat → Nat → Int64) (K : Nat → List Value → List Value → IJ → Option α) (rt : Option Value → IJ → Option α) (x1 x3 x4 : Int32) :
  blkS O none 6 T0 C_X6_measureCuts k_X6_measureCuts K rt f_X6_measureCuts 24 [.ref 178, .int x1, .ref 176, .int x3, .int x4, un] [] (I, J) = if (I 25 0) ≤ x4 then (K 2 [.ref 178, .int x1, .ref 176, .int (x3 + 1), un, un] [] (I, J)) else (p_cv (O T0 14 [.ref 172, .int (x1 &&& ((1 <<< (x3 &&& 31)) ^^^ (-1))), .ref 176, .int x4] (I, J)) (fun z1 => K 56 [.ref 178, .int x1, .ref 176, .int x3, .int x4, .int 0] [] z1)) := rfl
set_option maxRecDepth 100000 in
set_option maxHeartbeats 4000000 in
theorem s_X6_measureCuts_56 {α : Type} (O : Ora) (I : Nat → Nat → Int32) (J : Nat → Nat → Int64) (K : Nat → List Value → List Value → IJ → Option α) (rt : Option Value → IJ → Option α) (x1 x3 x4 x5 : Int32) :
  blkS O none 6 T0 C_X6_measureCuts k_X6_measureCuts K rt f_X6_measureCuts 56 [.ref 178, .int x1, .ref 176, .int x3, .int x4, .int x5] [] (I, J) = if (I 25 0) ≤ x5 then (K 24 [.ref 178, .int x1, .ref 176, .int x3, .int (x4 + 1), un] [] (I, J)) else (p_ci (O T0 72 [.int x3, .int x4, .int x5] (I, J)) (fun v2 z1 => p_ci (O T0 15 [.ref 172, .int x5] z1) (fun v4 z3 => if v4 = 0 then (p_chk (p_in v2 490) (K 56 [.ref 178, .int x1, .ref 176, .int x3, .int x4, .int (x5 + 1)] [] ((p_wr z3.1 182 v2.toNatClampNeg 0), z3.2))) else (p_chk (p_in x5 7) (p_chk (p_in v2 490) (K 56 [.ref 178, .int x1, .ref 176, .int x3, .int x4, .int (x5 + 1)] [] ((p_wr z3.1 182 v2.toNatClampNeg (z3.1 173 x5.toNatClampNeg)), z3.2))))))) := rfl
def C_X6_cutsKnownBy (pc : Nat) : Option PE := if pc < 51 then (if pc < 27 then (if pc < 11 then (if pc < 3 then (if pc < 1 then (if pc = 0 then some ((.iconst 0), 1, 0, 0, 0, []) else none) else (if pc < 2 then (if pc = 1 then some ((.istore_n 3), 2, 0, 0, 0, []) else none) else (if pc = 2 then some ((.iconst 0), 3, 0, 0, 0, []) else none))) else (if pc < 7 then (if pc < 5 then (if pc = 3 then some ((.istore 4), 5, 0, 0, 0, []) else none) else (if pc = 5 then some ((.iload 4), 7, 0, 0, 0, []) else none)) else (if pc < 8 then (if pc = 7 then some ((.aload_n 0), 8, 0, 0, 0, []) else none) else (if pc = 8 then some ((.getfield 28), 11, 6, 0, 0, []) else none)))) else (if pc < 18 then (if pc < 14 then (if pc = 11 then some ((.getfield 36), 14, 3, 1, 0, []) else none) else (if pc < 17 then (if pc = 14 then some ((.if_icmp .ge 35), 17, 49, 0, 0, []) else none) else (if pc = 17 then some ((.iload_n 1), 18, 0, 0, 0, []) else none))) else (if pc < 23 then (if pc < 20 then (if pc = 18 then some ((.iload 4), 20, 0, 0, 0, []) else none) else (if pc = 20 then some ((.invokestatic 41), 23, 165, 2, 0, [1]) else none)) else (if pc < 26 then (if pc = 23 then some ((.ifCond .eq 20), 26, 43, 0, 0, []) else none) else (if pc = 26 then some ((.aload_n 0), 27, 0, 0, 0, []) else none))))) else (if pc < 40 then (if pc < 33 then (if pc < 29 then (if pc = 27 then some ((.iload 4), 29, 0, 0, 0, []) else none) else (if pc < 30 then (if pc = 29 then some ((.iload_n 2), 30, 0, 0, 0, []) else none) else (if pc = 30 then some ((.invokevirtual 65), 33, 69, 3, 0, [1, 6]) else none))) else (if pc < 37 then (if pc < 36 then (if pc = 33 then some ((.ifCond .eq 10), 36, 43, 0, 0, []) else none) else (if pc = 36 then some ((.iload_n 3), 37, 0, 0, 0, []) else none)) else (if pc < 38 then (if pc = 37 then some ((.iconst 1), 38, 0, 0, 1, []) else none) else (if pc = 38 then some ((.iload 4), 40, 0, 0, 0, []) else none)))) else (if pc < 43 then (if pc < 41 then (if pc = 40 then some (.ishl, 41, 0, 0, 0, []) else none) else (if pc < 42 then (if pc = 41 then some (.ior, 42, 0, 0, 0, []) else none) else (if pc = 42 then some ((.istore_n 3), 43, 0, 0, 0, []) else none))) else (if pc < 49 then (if pc < 46 then (if pc = 43 then some ((.iinc 4 1), 46, 0, 0, 1, []) else none) else (if pc = 46 then some ((.goto (-41)), 49, 5, 0, 0, []) else none)) else (if pc < 50 then (if pc = 49 then some ((.iload_n 3), 50, 0, 0, 0, []) else none) else (if pc = 50 then some (.ireturn, 51, 0, 0, 0, []) else none)))))) else none
set_option maxRecDepth 100000 in
theorem ck_X6_cutsKnownBy : ∀ pc E, C_X6_cutsKnownBy pc = some E → ckI 6 (mB 67) pc E = true := ck_tab (n := 51) (by decide +kernel) (fun pc h => by unfold C_X6_cutsKnownBy; rw [if_neg h])
def k_X6_cutsKnownBy (pc : Nat) : Option (List Bool) := if pc = 5 then some [true, true, true, true, true] else none
abbrev f_X6_cutsKnownBy : Nat := 22
set_option maxRecDepth 100000 in
set_option maxHeartbeats 4000000 in
theorem s_X6_cutsKnownBy_0 {α : Type} (O : Ora) (I : Nat → Nat → Int32) (J : Nat → Nat → Int64) (K : Nat → List Value → List Value → IJ → Option α) (rt : Option Value → IJ → Option α) (a1 a2 : Int32) :
  blkS O none 5 T0 C_X6_cutsKnownBy k_X6_cutsKnownBy K rt f_X6_cutsKnownBy 0 [.ref 178, .int a1, .int a2, un, un] [] (I, J) = K 5 [.ref 178, .int a1, .int a2, .int 0, .int 0] [] (I, J) := rfl
set_option maxRecDepth 100000 in
set_option maxHeartbeats 4000000 in
theorem s_X6_cutsKnownBy_5 {α : Type} (O : Ora) (I : Nat → Nat → Int32) (J : Nat → Nat → Int64) (K : Nat → List Value → List Value → IJ → Option α) (rt : Option Value → IJ → Option α) (x1 x2 x3 x4 : Int32) :
  blkS O none 5 T0 C_X6_cutsKnownBy k_X6_cutsKnownBy K rt f_X6_cutsKnownBy 5 [.ref 178, .int x1, .int x2, .int x3, .int x4] [] (I, J) = if (I 25 1) ≤ x4 then (rt (some (.int x3)) (I, J)) else (p_ci (O T0 165 [.int x1, .int x4] (I, J)) (fun v2 z1 => if v2 = 0 then (K 5 [.ref 178, .int x1, .int x2, .int x3, .int (x4 + 1)] [] z1) else (p_ci (O T0 69 [.ref 178, .int x4, .int x2] z1) (fun v4 z3 => if v4 = 0 then (K 5 [.ref 178, .int x1, .int x2, .int x3, .int (x4 + 1)] [] z3) else (K 5 [.ref 178, .int x1, .int x2, .int (x3 ||| (1 <<< (x4 &&& 31))), .int (x4 + 1)] [] z3))))) := rfl
def C_X6_bestQuestion (pc : Nat) : Option PE := if pc < 82 then (if pc < 40 then (if pc < 18 then (if pc < 7 then (if pc < 3 then (if pc < 2 then (if pc = 0 then some ((.bipush (-2)), 2, 0, 0, (-2), []) else none) else (if pc = 2 then some ((.istore_n 2), 3, 0, 0, 0, []) else none)) else (if pc < 5 then (if pc = 3 then some ((.bipush 11), 5, 0, 0, 11, []) else none) else (if pc < 6 then (if pc = 5 then some ((.istore_n 3), 6, 0, 0, 0, []) else none) else (if pc = 6 then some ((.iconst 0), 7, 0, 0, 0, []) else none)))) else (if pc < 11 then (if pc < 9 then (if pc = 7 then some ((.istore 4), 9, 0, 0, 0, []) else none) else (if pc = 9 then some ((.iload 4), 11, 0, 0, 0, []) else none)) else (if pc < 12 then (if pc = 11 then some ((.aload_n 0), 12, 0, 0, 0, []) else none) else (if pc < 15 then (if pc = 12 then some ((.getfield 28), 15, 6, 0, 0, []) else none) else (if pc = 15 then some ((.getfield 45), 18, 3, 0, 0, []) else none))))) else (if pc < 27 then (if pc < 23 then (if pc < 21 then (if pc = 18 then some ((.if_icmp .ge 62), 21, 80, 0, 0, []) else none) else (if pc = 21 then some ((.iload 4), 23, 0, 0, 0, []) else none)) else (if pc < 24 then (if pc = 23 then some ((.iconst 1), 24, 0, 0, 1, []) else none) else (if pc < 25 then (if pc = 24 then some (.iadd, 25, 0, 0, 0, []) else none) else (if pc = 25 then some ((.istore 5), 27, 0, 0, 0, []) else none)))) else (if pc < 33 then (if pc < 29 then (if pc = 27 then some ((.iload 5), 29, 0, 0, 0, []) else none) else (if pc < 30 then (if pc = 29 then some ((.aload_n 0), 30, 0, 0, 0, []) else none) else (if pc = 30 then some ((.getfield 28), 33, 6, 0, 0, []) else none))) else (if pc < 36 then (if pc = 33 then some ((.getfield 45), 36, 3, 0, 0, []) else none) else (if pc < 39 then (if pc = 36 then some ((.if_icmp .ge 38), 39, 74, 0, 0, []) else none) else (if pc = 39 then some ((.aload_n 0), 40, 0, 0, 0, []) else none)))))) else (if pc < 61 then (if pc < 50 then (if pc < 43 then (if pc < 41 then (if pc = 40 then some ((.iload_n 1), 41, 0, 0, 0, []) else none) else (if pc = 41 then some ((.iload 4), 43, 0, 0, 0, []) else none)) else (if pc < 45 then (if pc = 43 then some ((.iload 5), 45, 0, 0, 0, []) else none) else (if pc < 48 then (if pc = 45 then some ((.invokevirtual 68), 48, 70, 4, 0, [1, 6]) else none) else (if pc = 48 then some ((.istore 6), 50, 0, 0, 0, []) else none)))) else (if pc < 56 then (if pc < 52 then (if pc = 50 then some ((.iload 6), 52, 0, 0, 0, []) else none) else (if pc < 53 then (if pc = 52 then some ((.iload_n 3), 53, 0, 0, 0, []) else none) else (if pc = 53 then some ((.if_icmp .ge 15), 56, 68, 0, 0, []) else none))) else (if pc < 58 then (if pc = 56 then some ((.iload 6), 58, 0, 0, 0, []) else none) else (if pc < 59 then (if pc = 58 then some ((.istore_n 3), 59, 0, 0, 0, []) else none) else (if pc = 59 then some ((.bipush 10), 61, 0, 0, 10, []) else none))))) else (if pc < 68 then (if pc < 64 then (if pc < 63 then (if pc = 61 then some ((.iload 4), 63, 0, 0, 0, []) else none) else (if pc = 63 then some (.imul, 64, 0, 0, 0, []) else none)) else (if pc < 66 then (if pc = 64 then some ((.iload 5), 66, 0, 0, 0, []) else none) else (if pc < 67 then (if pc = 66 then some (.iadd, 67, 0, 0, 0, []) else none) else (if pc = 67 then some ((.istore_n 2), 68, 0, 0, 0, []) else none)))) else (if pc < 77 then (if pc < 71 then (if pc = 68 then some ((.iinc 5 1), 71, 0, 0, 1, []) else none) else (if pc < 74 then (if pc = 71 then some ((.goto (-44)), 74, 27, 0, 0, []) else none) else (if pc = 74 then some ((.iinc 4 1), 77, 0, 0, 1, []) else none))) else (if pc < 80 then (if pc = 77 then some ((.goto (-68)), 80, 9, 0, 0, []) else none) else (if pc < 81 then (if pc = 80 then some ((.iload_n 2), 81, 0, 0, 0, []) else none) else (if pc = 81 then some (.ireturn, 82, 0, 0, 0, []) else none))))))) else none
set_option maxRecDepth 100000 in
theorem ck_X6_bestQuestion : ∀ pc E, C_X6_bestQuestion pc = some E → ckI 6 (mB 68) pc E = true := ck_tab (n := 82) (by decide +kernel) (fun pc h => by unfold C_X6_bestQuestion; rw [if_neg h])
def k_X6_bestQuestion (pc : Nat) : Option (List Bool) := if pc = 9 then some [true, true, true, true, true, false, false] else if pc = 27 then some [true, true, true, true, true, true, false] else none
abbrev f_X6_bestQuestion : Nat := 24
set_option maxRecDepth 100000 in
set_option maxHeartbeats 4000000 in
theorem s_X6_bestQuestion_0 {α : Type} (O : Ora) (I : Nat → Nat → Int32) (J : Nat → Nat → Int64) (K : Nat → List Value → List Value → IJ → Option α) (rt : Option Value → IJ → Option α) (a1 : Int32) :
  blkS O none 7 T0 C_X6_bestQuestion k_X6_bestQuestion K rt f_X6_bestQuestion 0 [.ref 178, .int a1, un, un, un, un, un] [] (I, J) = K 9 [.ref 178, .int a1, .int (-2), .int 11, .int 0, un, un] [] (I, J) := rfl
set_option maxRecDepth 100000 in
set_option maxHeartbeats 4000000 in
theorem s_X6_bestQuestion_9 {α : Type} (O : Ora) (I : Nat → Nat → Int32) (J : Nat → Nat → Int64) (K : Nat → List Value → List Value → IJ → Option α) (rt : Option Value → IJ → Option α) (x1 x2 x3 x4 : Int32) :
  blkS O none 7 T0 C_X6_bestQuestion k_X6_bestQuestion K rt f_X6_bestQuestion 9 [.ref 178, .int x1, .int x2, .int x3, .int x4, un, un] [] (I, J) = if (I 25 0) ≤ x4 then (rt (some (.int x2)) (I, J)) else (K 27 [.ref 178, .int x1, .int x2, .int x3, .int x4, .int (x4 + 1), un] [] (I, J)) := rfl
set_option maxRecDepth 100000 in
set_option maxHeartbeats 4000000 in
theorem s_X6_bestQuestion_27 {α : Type} (O : Ora) (I : Nat → Nat → Int32) (J : Nat → Nat → Int64) (K : Nat → List Value → List Value → IJ → Option α) (rt : Option Value → IJ → Option α) (x1 x2 x3 x4 x5 : Int32) :
  blkS O none 7 T0 C_X6_bestQuestion k_X6_bestQuestion K rt f_X6_bestQuestion 27 [.ref 178, .int x1, .int x2, .int x3, .int x4, .int x5, un] [] (I, J) = if (I 25 0) ≤ x5 then (K 9 [.ref 178, .int x1, .int x2, .int x3, .int (x4 + 1), un, un] [] (I, J)) else (p_ci (O T0 70 [.ref 178, .int x1, .int x4, .int x5] (I, J)) (fun v2 z1 => if x3 ≤ v2 then (K 27 [.ref 178, .int x1, .int x2, .int x3, .int x4, .int (x5 + 1), un] [] z1) else (K 27 [.ref 178, .int x1, .int ((10 * x4) + x5), .int v2, .int x4, .int (x5 + 1), un] [] z1))) := rfl
def C_X6_fits (pc : Nat) : Option PE := if pc < 47 then (if pc < 22 then (if pc < 11 then (if pc < 3 then (if pc < 1 then (if pc = 0 then some ((.iconst 0), 1, 0, 0, 0, []) else none) else (if pc < 2 then (if pc = 1 then some ((.istore_n 3), 2, 0, 0, 0, []) else none) else (if pc = 2 then some ((.iload_n 3), 3, 0, 0, 0, []) else none))) else (if pc < 7 then (if pc < 4 then (if pc = 3 then some ((.iload_n 2), 4, 0, 0, 0, []) else none) else (if pc = 4 then some ((.if_icmp .ge 41), 7, 45, 0, 0, []) else none)) else (if pc < 8 then (if pc = 7 then some ((.aload_n 0), 8, 0, 0, 0, []) else none) else (if pc = 8 then some ((.getfield 21), 11, 6, 5, 0, []) else none)))) else (if pc < 16 then (if pc < 12 then (if pc = 11 then some ((.iload_n 1), 12, 0, 0, 0, []) else none) else (if pc < 13 then (if pc = 12 then some ((.aload_n 0), 13, 0, 0, 0, []) else none) else (if pc = 13 then some ((.getfield 9), 16, 6, 2, 0, []) else none))) else (if pc < 18 then (if pc < 17 then (if pc = 16 then some ((.iload_n 3), 17, 0, 0, 0, []) else none) else (if pc = 17 then some (.iaload, 18, 0, 0, 0, []) else none)) else (if pc < 19 then (if pc = 18 then some ((.aload_n 0), 19, 0, 0, 0, []) else none) else (if pc = 19 then some ((.getfield 15), 22, 6, 3, 0, []) else none))))) else (if pc < 33 then (if pc < 27 then (if pc < 23 then (if pc = 22 then some ((.iload_n 3), 23, 0, 0, 0, []) else none) else (if pc < 24 then (if pc = 23 then some (.iaload, 24, 0, 0, 0, []) else none) else (if pc = 24 then some ((.invokestatic 54), 27, 72, 3, 0, [1]) else none))) else (if pc < 29 then (if pc < 28 then (if pc = 27 then some (.iaload, 28, 0, 0, 0, []) else none) else (if pc = 28 then some ((.aload_n 0), 29, 0, 0, 0, []) else none)) else (if pc < 32 then (if pc = 29 then some ((.getfield 18), 32, 6, 4, 0, []) else none) else (if pc = 32 then some ((.iload_n 3), 33, 0, 0, 0, []) else none)))) else (if pc < 39 then (if pc < 37 then (if pc < 34 then (if pc = 33 then some (.iaload, 34, 0, 0, 0, []) else none) else (if pc = 34 then some ((.if_icmp .eq 5), 37, 39, 0, 0, []) else none)) else (if pc < 38 then (if pc = 37 then some ((.iconst 0), 38, 0, 0, 0, []) else none) else (if pc = 38 then some (.ireturn, 39, 0, 0, 0, []) else none))) else (if pc < 45 then (if pc < 42 then (if pc = 39 then some ((.iinc 3 1), 42, 0, 0, 1, []) else none) else (if pc = 42 then some ((.goto (-40)), 45, 2, 0, 0, []) else none)) else (if pc < 46 then (if pc = 45 then some ((.iconst 1), 46, 0, 0, 1, []) else none) else (if pc = 46 then some (.ireturn, 47, 0, 0, 0, []) else none)))))) else none
set_option maxRecDepth 100000 in
theorem ck_X6_fits : ∀ pc E, C_X6_fits pc = some E → ckI 6 (mB 69) pc E = true := ck_tab (n := 47) (by decide +kernel) (fun pc h => by unfold C_X6_fits; rw [if_neg h])
def k_X6_fits (pc : Nat) : Option (List Bool) := if pc = 2 then some [true, true, true, true] else none
abbrev f_X6_fits : Nat := 23
set_option maxRecDepth 100000 in
set_option maxHeartbeats 4000000 in
theorem s_X6_fits_0 {α : Type} (O : Ora) (I : Nat → Nat → Int32) (J : Nat → Nat → Int64) (K : Nat → List Value → List Value → IJ → Option α) (rt : Option Value → IJ → Option α) (a1 a2 : Int32) :
  blkS O none 4 T0 C_X6_fits k_X6_fits K rt f_X6_fits 0 [.ref 178, .int a1, .int a2, un] [] (I, J) = K 2 [.ref 178, .int a1, .int a2, .int 0] [] (I, J) := rfl
set_option maxRecDepth 100000 in
set_option maxHeartbeats 4000000 in
theorem s_X6_fits_2 {α : Type} (O : Ora) (I : Nat → Nat → Int32) (J : Nat → Nat → Int64) (K : Nat → List Value → List Value → IJ → Option α) (rt : Option Value → IJ → Option α) (x1 x2 x3 : Int32) :
  blkS O none 4 T0 C_X6_fits k_X6_fits K rt f_X6_fits 2 [.ref 178, .int x1, .int x2, .int x3] [] (I, J) = if x2 ≤ x3 then (rt (some (.int 1)) (I, J)) else (p_chk (p_in x3 20) (p_chk (p_in x3 20) (p_ci (O T0 72 [.int x1, .int (I 179 x3.toNatClampNeg), .int (I 180 x3.toNatClampNeg)] (I, J)) (fun v2 z1 => p_chk (p_in v2 490) (p_chk (p_in x3 20) (if (z1.1 182 v2.toNatClampNeg) = (z1.1 181 x3.toNatClampNeg) then (K 2 [.ref 178, .int x1, .int x2, .int (x3 + 1)] [] z1) else (rt (some (.int 0)) z1))))))) := rfl
def C_X6_mostAlike (pc : Nat) : Option PE := if pc < 62 then (if pc < 31 then (if pc < 15 then (if pc < 6 then (if pc < 3 then (if pc < 1 then (if pc = 0 then some ((.iconst 0), 1, 0, 0, 0, []) else none) else (if pc = 1 then some ((.istore 4), 3, 0, 0, 0, []) else none)) else (if pc < 4 then (if pc = 3 then some ((.iconst 0), 4, 0, 0, 0, []) else none) else (if pc = 4 then some ((.istore 5), 6, 0, 0, 0, []) else none))) else (if pc < 9 then (if pc < 8 then (if pc = 6 then some ((.iload 5), 8, 0, 0, 0, []) else none) else (if pc = 8 then some ((.aload_n 0), 9, 0, 0, 0, []) else none)) else (if pc < 12 then (if pc = 9 then some ((.getfield 28), 12, 6, 0, 0, []) else none) else (if pc = 12 then some ((.getfield 36), 15, 3, 1, 0, []) else none)))) else (if pc < 24 then (if pc < 19 then (if pc < 18 then (if pc = 15 then some ((.if_icmp .ge 44), 18, 59, 0, 0, []) else none) else (if pc = 18 then some ((.iload_n 1), 19, 0, 0, 0, []) else none)) else (if pc < 21 then (if pc = 19 then some ((.iload 5), 21, 0, 0, 0, []) else none) else (if pc = 21 then some ((.invokestatic 41), 24, 165, 2, 0, [1]) else none))) else (if pc < 29 then (if pc < 27 then (if pc = 24 then some ((.ifCond .eq 29), 27, 53, 0, 0, []) else none) else (if pc = 27 then some ((.iload 4), 29, 0, 0, 0, []) else none)) else (if pc < 30 then (if pc = 29 then some ((.aload_n 0), 30, 0, 0, 0, []) else none) else (if pc = 30 then some ((.iload_n 1), 31, 0, 0, 0, []) else none))))) else (if pc < 44 then (if pc < 37 then (if pc < 33 then (if pc < 32 then (if pc = 31 then some ((.iload_n 2), 32, 0, 0, 0, []) else none) else (if pc = 32 then some ((.iload_n 3), 33, 0, 0, 0, []) else none)) else (if pc < 34 then (if pc = 33 then some ((.aload_n 0), 34, 0, 0, 0, []) else none) else (if pc = 34 then some ((.getfield 21), 37, 6, 5, 0, []) else none))) else (if pc < 40 then (if pc < 39 then (if pc = 37 then some ((.iload 5), 39, 0, 0, 0, []) else none) else (if pc = 39 then some ((.iload_n 2), 40, 0, 0, 0, []) else none)) else (if pc < 41 then (if pc = 40 then some ((.iload_n 3), 41, 0, 0, 0, []) else none) else (if pc = 41 then some ((.invokestatic 54), 44, 72, 3, 0, [1]) else none)))) else (if pc < 53 then (if pc < 48 then (if pc < 45 then (if pc = 44 then some (.iaload, 45, 0, 0, 0, []) else none) else (if pc = 45 then some ((.invokevirtual 71), 48, 71, 5, 0, [1, 6]) else none)) else (if pc < 51 then (if pc = 48 then some ((.invokestatic 75), 51, 9000, 0, 0, [1, 1]) else none) else (if pc = 51 then some ((.istore 4), 53, 0, 0, 0, []) else none))) else (if pc < 59 then (if pc < 56 then (if pc = 53 then some ((.iinc 5 1), 56, 0, 0, 1, []) else none) else (if pc = 56 then some ((.goto (-50)), 59, 6, 0, 0, []) else none)) else (if pc < 61 then (if pc = 59 then some ((.iload 4), 61, 0, 0, 0, []) else none) else (if pc = 61 then some (.ireturn, 62, 0, 0, 0, []) else none)))))) else none
set_option maxRecDepth 100000 in
theorem ck_X6_mostAlike : ∀ pc E, C_X6_mostAlike pc = some E → ckI 6 (mB 70) pc E = true := ck_tab (n := 62) (by decide +kernel) (fun pc h => by unfold C_X6_mostAlike; rw [if_neg h])
def k_X6_mostAlike (pc : Nat) : Option (List Bool) := if pc = 6 then some [true, true, true, true, true, true] else none
abbrev f_X6_mostAlike : Nat := 26
set_option maxRecDepth 100000 in
set_option maxHeartbeats 4000000 in
theorem s_X6_mostAlike_0 {α : Type} (O : Ora) (I : Nat → Nat → Int32) (J : Nat → Nat → Int64) (K : Nat → List Value → List Value → IJ → Option α) (rt : Option Value → IJ → Option α) (a1 a2 a3 : Int32) :
  blkS O none 6 T0 C_X6_mostAlike k_X6_mostAlike K rt f_X6_mostAlike 0 [.ref 178, .int a1, .int a2, .int a3, un, un] [] (I, J) = K 6 [.ref 178, .int a1, .int a2, .int a3, .int 0, .int 0] [] (I, J) := rfl
set_option maxRecDepth 100000 in
set_option maxHeartbeats 4000000 in
theorem s_X6_mostAlike_6 {α : Type} (O : Ora) (I : Nat → Nat → Int32) (J : Nat → Nat → Int64) (K : Nat → List Value → List Value → IJ → Option α) (rt : Option Value → IJ → Option α) (x1 x2 x3 x4 x5 : Int32) :
  blkS O none 6 T0 C_X6_mostAlike k_X6_mostAlike K rt f_X6_mostAlike 6 [.ref 178, .int x1, .int x2, .int x3, .int x4, .int x5] [] (I, J) = if (I 25 1) ≤ x5 then (rt (some (.int x4)) (I, J)) else (p_ci (O T0 165 [.int x1, .int x5] (I, J)) (fun v2 z1 => if v2 = 0 then (K 6 [.ref 178, .int x1, .int x2, .int x3, .int x4, .int (x5 + 1)] [] z1) else (p_ci (O T0 72 [.int x5, .int x2, .int x3] z1) (fun v4 z3 => p_chk (p_in v4 490) (p_ci (O T0 71 [.ref 178, .int x1, .int x2, .int x3, .int (z3.1 182 v4.toNatClampNeg)] z3) (fun v6 z5 => K 6 [.ref 178, .int x1, .int x2, .int x3, .int (if x4 < v6 then v6 else x4), .int (x5 + 1)] [] z5)))))) := rfl
def C_X6_alike (pc : Nat) : Option PE := if pc < 56 then (if pc < 27 then (if pc < 9 then (if pc < 4 then (if pc < 1 then (if pc = 0 then some ((.iconst 0), 1, 0, 0, 0, []) else none) else (if pc < 3 then (if pc = 1 then some ((.istore 5), 3, 0, 0, 0, []) else none) else (if pc = 3 then some ((.iconst 0), 4, 0, 0, 0, []) else none))) else (if pc < 6 then (if pc = 4 then some ((.istore 6), 6, 0, 0, 0, []) else none) else (if pc < 8 then (if pc = 6 then some ((.iload 6), 8, 0, 0, 0, []) else none) else (if pc = 8 then some ((.aload_n 0), 9, 0, 0, 0, []) else none)))) else (if pc < 18 then (if pc < 12 then (if pc = 9 then some ((.getfield 28), 12, 6, 0, 0, []) else none) else (if pc < 15 then (if pc = 12 then some ((.getfield 36), 15, 3, 1, 0, []) else none) else (if pc = 15 then some ((.if_icmp .ge 38), 18, 53, 0, 0, []) else none))) else (if pc < 21 then (if pc < 19 then (if pc = 18 then some ((.iload_n 1), 19, 0, 0, 0, []) else none) else (if pc = 19 then some ((.iload 6), 21, 0, 0, 0, []) else none)) else (if pc < 24 then (if pc = 21 then some ((.invokestatic 41), 24, 165, 2, 0, [1]) else none) else (if pc = 24 then some ((.ifCond .eq 23), 27, 47, 0, 0, []) else none))))) else (if pc < 39 then (if pc < 33 then (if pc < 28 then (if pc = 27 then some ((.aload_n 0), 28, 0, 0, 0, []) else none) else (if pc < 31 then (if pc = 28 then some ((.getfield 21), 31, 6, 5, 0, []) else none) else (if pc = 31 then some ((.iload 6), 33, 0, 0, 0, []) else none))) else (if pc < 35 then (if pc < 34 then (if pc = 33 then some ((.iload_n 2), 34, 0, 0, 0, []) else none) else (if pc = 34 then some ((.iload_n 3), 35, 0, 0, 0, []) else none)) else (if pc < 38 then (if pc = 35 then some ((.invokestatic 54), 38, 72, 3, 0, [1]) else none) else (if pc = 38 then some (.iaload, 39, 0, 0, 0, []) else none)))) else (if pc < 47 then (if pc < 41 then (if pc = 39 then some ((.iload 4), 41, 0, 0, 0, []) else none) else (if pc < 44 then (if pc = 41 then some ((.if_icmp .ne 6), 44, 47, 0, 0, []) else none) else (if pc = 44 then some ((.iinc 5 1), 47, 0, 0, 1, []) else none))) else (if pc < 53 then (if pc < 50 then (if pc = 47 then some ((.iinc 6 1), 50, 0, 0, 1, []) else none) else (if pc = 50 then some ((.goto (-44)), 53, 6, 0, 0, []) else none)) else (if pc < 55 then (if pc = 53 then some ((.iload 5), 55, 0, 0, 0, []) else none) else (if pc = 55 then some (.ireturn, 56, 0, 0, 0, []) else none)))))) else none
set_option maxRecDepth 100000 in
theorem ck_X6_alike : ∀ pc E, C_X6_alike pc = some E → ckI 6 (mB 71) pc E = true := ck_tab (n := 56) (by decide +kernel) (fun pc h => by unfold C_X6_alike; rw [if_neg h])
def k_X6_alike (pc : Nat) : Option (List Bool) := if pc = 6 then some [true, true, true, true, true, true, true] else none
abbrev f_X6_alike : Nat := 21
set_option maxRecDepth 100000 in
set_option maxHeartbeats 4000000 in
theorem s_X6_alike_0 {α : Type} (O : Ora) (I : Nat → Nat → Int32) (J : Nat → Nat → Int64) (K : Nat → List Value → List Value → IJ → Option α) (rt : Option Value → IJ → Option α) (a1 a2 a3 a4 : Int32) :
  blkS O none 7 T0 C_X6_alike k_X6_alike K rt f_X6_alike 0 [.ref 178, .int a1, .int a2, .int a3, .int a4, un, un] [] (I, J) = K 6 [.ref 178, .int a1, .int a2, .int a3, .int a4, .int 0, .int 0] [] (I, J) := rfl
set_option maxRecDepth 100000 in
set_option maxHeartbeats 4000000 in
theorem s_X6_alike_6 {α : Type} (O : Ora) (I : Nat → Nat → Int32) (J : Nat → Nat → Int64) (K : Nat → List Value → List Value → IJ → Option α) (rt : Option Value → IJ → Option α) (x1 x2 x3 x4 x5 x6 : Int32) :
  blkS O none 7 T0 C_X6_alike k_X6_alike K rt f_X6_alike 6 [.ref 178, .int x1, .int x2, .int x3, .int x4, .int x5, .int x6] [] (I, J) = if (I 25 1) ≤ x6 then (rt (some (.int x5)) (I, J)) else (p_ci (O T0 165 [.int x1, .int x6] (I, J)) (fun v2 z1 => if v2 = 0 then (K 6 [.ref 178, .int x1, .int x2, .int x3, .int x4, .int x5, .int (x6 + 1)] [] z1) else (p_ci (O T0 72 [.int x6, .int x2, .int x3] z1) (fun v4 z3 => p_chk (p_in v4 490) (if (z3.1 182 v4.toNatClampNeg) = x4 then (K 6 [.ref 178, .int x1, .int x2, .int x3, .int x4, .int (x5 + 1), .int (x6 + 1)] [] z3) else (K 6 [.ref 178, .int x1, .int x2, .int x3, .int x4, .int x5, .int (x6 + 1)] [] z3)))))) := rfl
def C_X6_pairOf (pc : Nat) : Option PE := if pc < 12 then (if pc < 7 then (if pc < 3 then (if pc < 1 then (if pc = 0 then some ((.iload_n 0), 1, 0, 0, 0, []) else none) else (if pc = 1 then some ((.bipush 49), 3, 0, 0, 49, []) else none)) else (if pc < 4 then (if pc = 3 then some (.imul, 4, 0, 0, 0, []) else none) else (if pc < 5 then (if pc = 4 then some ((.iload_n 1), 5, 0, 0, 0, []) else none) else (if pc = 5 then some ((.bipush 7), 7, 0, 0, 7, []) else none)))) else (if pc < 9 then (if pc < 8 then (if pc = 7 then some (.imul, 8, 0, 0, 0, []) else none) else (if pc = 8 then some (.iadd, 9, 0, 0, 0, []) else none)) else (if pc < 10 then (if pc = 9 then some ((.iload_n 2), 10, 0, 0, 0, []) else none) else (if pc < 11 then (if pc = 10 then some (.iadd, 11, 0, 0, 0, []) else none) else (if pc = 11 then some (.ireturn, 12, 0, 0, 0, []) else none))))) else none
set_option maxRecDepth 100000 in
theorem ck_X6_pairOf : ∀ pc E, C_X6_pairOf pc = some E → ckI 6 (mB 72) pc E = true := ck_tab (n := 12) (by decide +kernel) (fun pc h => by unfold C_X6_pairOf; rw [if_neg h])
def k_X6_pairOf (pc : Nat) : Option (List Bool) := none
abbrev f_X6_pairOf : Nat := 10
set_option maxRecDepth 100000 in
set_option maxHeartbeats 4000000 in
theorem s_X6_pairOf_0 {α : Type} (O : Ora) (I : Nat → Nat → Int32) (J : Nat → Nat → Int64) (K : Nat → List Value → List Value → IJ → Option α) (rt : Option Value → IJ → Option α) (a0 a1 a2 : Int32) :
  blkS O none 3 T0 C_X6_pairOf k_X6_pairOf K rt f_X6_pairOf 0 [.int a0, .int a1, .int a2] [] (I, J) = rt (some (.int (((a0 * 49) + (a1 * 7)) + a2))) (I, J) := rfl
def C_X7_fillWays (pc : Nat) : Option PE := if pc < 44 then (if pc < 22 then (if pc < 10 then (if pc < 3 then (if pc < 1 then (if pc = 0 then some ((.iconst 0), 1, 0, 0, 0, []) else none) else (if pc < 2 then (if pc = 1 then some ((.istore_n 2), 2, 0, 0, 0, []) else none) else (if pc = 2 then some ((.iload_n 2), 3, 0, 0, 0, []) else none))) else (if pc < 4 then (if pc = 3 then some ((.aload_n 0), 4, 0, 0, 0, []) else none) else (if pc < 7 then (if pc = 4 then some ((.getfield 21), 7, 7, 0, 0, []) else none) else (if pc = 7 then some ((.getfield 33), 10, 3, 1, 0, []) else none)))) else (if pc < 17 then (if pc < 13 then (if pc = 10 then some ((.if_icmp .ge 33), 13, 43, 0, 0, []) else none) else (if pc < 14 then (if pc = 13 then some ((.aload_n 0), 14, 0, 0, 0, []) else none) else (if pc = 14 then some ((.getfield 15), 17, 7, 4, 0, []) else none))) else (if pc < 18 then (if pc = 17 then some ((.iload_n 2), 18, 0, 0, 0, []) else none) else (if pc < 19 then (if pc = 18 then some ((.aload_n 0), 19, 0, 0, 0, []) else none) else (if pc = 19 then some ((.getfield 25), 22, 7, 1, 0, []) else none))))) else (if pc < 30 then (if pc < 27 then (if pc < 23 then (if pc = 22 then some ((.iload_n 2), 23, 0, 0, 0, []) else none) else (if pc < 24 then (if pc = 23 then some ((.aload_n 1), 24, 0, 0, 0, []) else none) else (if pc = 24 then some ((.getfield 39), 27, 8, 2, 0, []) else none))) else (if pc < 28 then (if pc = 27 then some ((.iload_n 2), 28, 0, 0, 0, []) else none) else (if pc < 29 then (if pc = 28 then some (.iaload, 29, 0, 0, 0, []) else none) else (if pc = 29 then some ((.aload_n 1), 30, 0, 0, 0, []) else none)))) else (if pc < 37 then (if pc < 33 then (if pc = 30 then some ((.getfield 44), 33, 8, 0, 0, []) else none) else (if pc < 36 then (if pc = 33 then some ((.invokevirtual 47), 36, 56, 4, 0, [1, 5]) else none) else (if pc = 36 then some (.iastore, 37, 0, 0, 0, []) else none))) else (if pc < 40 then (if pc = 37 then some ((.iinc 2 1), 40, 0, 0, 1, []) else none) else (if pc < 43 then (if pc = 40 then some ((.goto (-38)), 43, 2, 0, 0, []) else none) else (if pc = 43 then some (.return_, 44, 0, 0, 0, []) else none)))))) else none
set_option maxRecDepth 100000 in
theorem ck_X7_fillWays : ∀ pc E, C_X7_fillWays pc = some E → ckI 7 (mB 74) pc E = true := ck_tab (n := 44) (by decide +kernel) (fun pc h => by unfold C_X7_fillWays; rw [if_neg h])
def k_X7_fillWays (pc : Nat) : Option (List Bool) := if pc = 2 then some [true, true, true] else none
abbrev f_X7_fillWays : Nat := 21
set_option maxRecDepth 100000 in
set_option maxHeartbeats 4000000 in
theorem s_X7_fillWays_39_0 {α : Type} (O : Ora) (I : Nat → Nat → Int32) (J : Nat → Nat → Int64) (K : Nat → List Value → List Value → IJ → Option α) (rt : Option Value → IJ → Option α) :
  blkS O none 3 T0 C_X7_fillWays k_X7_fillWays K rt f_X7_fillWays 0 [.ref 174, .ref 39, un] [] (I, J) = K 2 [.ref 174, .ref 39, .int 0] [] (I, J) := rfl
set_option maxRecDepth 100000 in
set_option maxHeartbeats 4000000 in
theorem s_X7_fillWays_39_2 {α : Type} (O : Ora) (I : Nat → Nat → Int32) (J : Nat → Nat → Int64) (K : Nat → List Value → List Value → IJ → Option α) (rt : Option Value → IJ → Option α) (x2 : Int32) :
  blkS O none 3 T0 C_X7_fillWays k_X7_fillWays K rt f_X7_fillWays 2 [.ref 174, .ref 39, .int x2] [] (I, J) = if (I 25 1) ≤ x2 then (rt none (I, J)) else (p_chk (p_in x2 10) (p_ci (O T0 56 [.ref 169, .int x2, .int (I 40 x2.toNatClampNeg), .int (I 39 0)] (I, J)) (fun v2 z1 => p_chk (p_in x2 10) (K 2 [.ref 174, .ref 39, .int (x2 + 1)] [] ((p_wr z1.1 176 x2.toNatClampNeg v2), z1.2))))) := rfl
set_option maxRecDepth 100000 in
set_option maxHeartbeats 4000000 in
theorem s_X7_fillWays_42_0 {α : Type} (O : Ora) (I : Nat → Nat → Int32) (J : Nat → Nat → Int64) (K : Nat → List Value → List Value → IJ → Option α) (rt : Option Value → IJ → Option α) :
  blkS O none 3 T0 C_X7_fillWays k_X7_fillWays K rt f_X7_fillWays 0 [.ref 174, .ref 42, un] [] (I, J) = K 2 [.ref 174, .ref 42, .int 0] [] (I, J) := rfl
set_option maxRecDepth 100000 in
set_option maxHeartbeats 4000000 in
theorem s_X7_fillWays_42_2 {α : Type} (O : Ora) (I : Nat → Nat → Int32) (J : Nat → Nat → Int64) (K : Nat → List Value → List Value → IJ → Option α) (rt : Option Value → IJ → Option α) (x2 : Int32) :
  blkS O none 3 T0 C_X7_fillWays k_X7_fillWays K rt f_X7_fillWays 2 [.ref 174, .ref 42, .int x2] [] (I, J) = if (I 25 1) ≤ x2 then (rt none (I, J)) else (p_chk (p_in x2 10) (p_ci (O T0 56 [.ref 169, .int x2, .int (I 43 x2.toNatClampNeg), .int (I 42 0)] (I, J)) (fun v2 z1 => p_chk (p_in x2 10) (K 2 [.ref 174, .ref 42, .int (x2 + 1)] [] ((p_wr z1.1 176 x2.toNatClampNeg v2), z1.2))))) := rfl
def C_X7_passWeeks (pc : Nat) : Option PE := if pc < 61 then (if pc < 26 then (if pc < 14 then (if pc < 6 then (if pc < 3 then (if pc < 1 then (if pc = 0 then some ((.iconst 0), 1, 0, 0, 0, []) else none) else (if pc = 1 then some ((.istore 4), 3, 0, 0, 0, []) else none)) else (if pc < 5 then (if pc = 3 then some ((.iload 4), 5, 0, 0, 0, []) else none) else (if pc = 5 then some ((.iload_n 2), 6, 0, 0, 0, []) else none))) else (if pc < 10 then (if pc < 9 then (if pc = 6 then some ((.if_icmp .ge 54), 9, 60, 0, 0, []) else none) else (if pc = 9 then some ((.aload_n 0), 10, 0, 0, 0, []) else none)) else (if pc < 13 then (if pc = 10 then some ((.getfield 9), 13, 7, 3, 0, []) else none) else (if pc = 13 then some ((.iconst 0), 14, 0, 0, 0, []) else none)))) else (if pc < 22 then (if pc < 18 then (if pc < 17 then (if pc = 14 then some ((.invokestatic 53), 17, 300, 2, 0, [0]) else none) else (if pc = 17 then some ((.aload_n 0), 18, 0, 0, 0, []) else none)) else (if pc < 19 then (if pc = 18 then some ((.aload_n 1), 19, 0, 0, 0, []) else none) else (if pc = 19 then some ((.invokevirtual 59), 22, 82, 2, 0, [0, 7]) else none))) else (if pc < 24 then (if pc < 23 then (if pc = 22 then some ((.aload_n 0), 23, 0, 0, 0, []) else none) else (if pc = 23 then some ((.aload_n 1), 24, 0, 0, 0, []) else none)) else (if pc < 25 then (if pc = 24 then some ((.aload_n 0), 25, 0, 0, 0, []) else none) else (if pc = 25 then some ((.aload_n 1), 26, 0, 0, 0, []) else none))))) else (if pc < 44 then (if pc < 36 then (if pc < 30 then (if pc < 29 then (if pc = 26 then some ((.getfield 44), 29, 8, 0, 0, []) else none) else (if pc = 29 then some ((.iload_n 3), 30, 0, 0, 0, []) else none)) else (if pc < 33 then (if pc = 30 then some ((.invokevirtual 63), 33, 77, 3, 0, [1, 7]) else none) else (if pc = 33 then some ((.ifCond .eq 7), 36, 40, 0, 0, []) else none))) else (if pc < 40 then (if pc < 37 then (if pc = 36 then some ((.iconst 1), 37, 0, 0, 1, []) else none) else (if pc = 37 then some ((.goto 4), 40, 41, 0, 0, []) else none)) else (if pc < 41 then (if pc = 40 then some ((.iconst 0), 41, 0, 0, 0, []) else none) else (if pc = 41 then some ((.invokevirtual 67), 44, 86, 3, 0, [0, 7]) else none)))) else (if pc < 50 then (if pc < 46 then (if pc < 45 then (if pc = 44 then some ((.aload_n 1), 45, 0, 0, 0, []) else none) else (if pc = 45 then some (.dup, 46, 0, 0, 0, []) else none)) else (if pc < 49 then (if pc = 46 then some ((.getfield 44), 49, 8, 0, 0, []) else none) else (if pc = 49 then some ((.iconst 1), 50, 0, 0, 1, []) else none))) else (if pc < 54 then (if pc < 51 then (if pc = 50 then some (.iadd, 51, 0, 0, 0, []) else none) else (if pc = 51 then some ((.putfield 44), 54, 8, 0, 0, []) else none)) else (if pc < 57 then (if pc = 54 then some ((.iinc 4 1), 57, 0, 0, 1, []) else none) else (if pc < 60 then (if pc = 57 then some ((.goto (-54)), 60, 3, 0, 0, []) else none) else (if pc = 60 then some (.return_, 61, 0, 0, 0, []) else none))))))) else none
set_option maxRecDepth 100000 in
theorem ck_X7_passWeeks : ∀ pc E, C_X7_passWeeks pc = some E → ckI 7 (mB 75) pc E = true := ck_tab (n := 61) (by decide +kernel) (fun pc h => by unfold C_X7_passWeeks; rw [if_neg h])
def k_X7_passWeeks (pc : Nat) : Option (List Bool) := if pc = 3 then some [true, true, true, true, true] else none
abbrev f_X7_passWeeks : Nat := 29
set_option maxRecDepth 100000 in
set_option maxHeartbeats 4000000 in
theorem s_X7_passWeeks_39_0 {α : Type} (O : Ora) (I : Nat → Nat → Int32) (J : Nat → Nat → Int64) (K : Nat → List Value → List Value → IJ → Option α) (rt : Option Value → IJ → Option α) (a2 a3 : Int32) :
  blkS O none 5 T0 C_X7_passWeeks k_X7_passWeeks K rt f_X7_passWeeks 0 [.ref 174, .ref 39, .int a2, .int a3, un] [] (I, J) = K 3 [.ref 174, .ref 39, .int a2, .int a3, .int 0] [] (I, J) := rfl
set_option maxRecDepth 100000 in
set_option maxHeartbeats 4000000 in
theorem s_X7_passWeeks_39_3 {α : Type} (O : Ora) (I : Nat → Nat → Int32) (J : Nat → Nat → Int64) (K : Nat → List Value → List Value → IJ → Option α) (rt : Option Value → IJ → Option α) (x2 x3 x4 : Int32) :
  blkS O none 5 T0 C_X7_passWeeks k_X7_passWeeks K rt f_X7_passWeeks 3 [.ref 174, .ref 39, .int x2, .int x3, .int x4] [] (I, J) = if x2 ≤ x4 then (rt none (I, J)) else (p_cv (O T0 300 [.ref 175, .int 0] (I, J)) (fun z1 => p_cv (O T0 82 [.ref 174, .ref 39] z1) (fun z2 => p_ci (O T0 77 [.ref 174, .int (z2.1 39 0), .int x3] z2) (fun v4 z3 => if v4 = 0 then (p_cv (O T0 86 [.ref 174, .ref 39, .int 0] z3) (fun z5 => K 3 [.ref 174, .ref 39, .int x2, .int x3, .int (x4 + 1)] [] ((p_wr z5.1 39 0 ((z5.1 39 0) + 1)), z5.2))) else (p_cv (O T0 86 [.ref 174, .ref 39, .int 1] z3) (fun z6 => K 3 [.ref 174, .ref 39, .int x2, .int x3, .int (x4 + 1)] [] ((p_wr z6.1 39 0 ((z6.1 39 0) + 1)), z6.2))))))) := rfl
set_option maxRecDepth 100000 in
set_option maxHeartbeats 4000000 in
theorem s_X7_passWeeks_42_0 {α : Type} (O : Ora) (I : Nat → Nat → Int32) (J : Nat → Nat → Int64) (K : Nat → List Value → List Value → IJ → Option α) (rt : Option Value → IJ → Option α) (a2 a3 : Int32) :
  blkS O none 5 T0 C_X7_passWeeks k_X7_passWeeks K rt f_X7_passWeeks 0 [.ref 174, .ref 42, .int a2, .int a3, un] [] (I, J) = K 3 [.ref 174, .ref 42, .int a2, .int a3, .int 0] [] (I, J) := rfl
set_option maxRecDepth 100000 in
set_option maxHeartbeats 4000000 in
theorem s_X7_passWeeks_42_3 {α : Type} (O : Ora) (I : Nat → Nat → Int32) (J : Nat → Nat → Int64) (K : Nat → List Value → List Value → IJ → Option α) (rt : Option Value → IJ → Option α) (x2 x3 x4 : Int32) :
  blkS O none 5 T0 C_X7_passWeeks k_X7_passWeeks K rt f_X7_passWeeks 3 [.ref 174, .ref 42, .int x2, .int x3, .int x4] [] (I, J) = if x2 ≤ x4 then (rt none (I, J)) else (p_cv (O T0 300 [.ref 175, .int 0] (I, J)) (fun z1 => p_cv (O T0 82 [.ref 174, .ref 42] z1) (fun z2 => p_ci (O T0 77 [.ref 174, .int (z2.1 42 0), .int x3] z2) (fun v4 z3 => if v4 = 0 then (p_cv (O T0 86 [.ref 174, .ref 42, .int 0] z3) (fun z5 => K 3 [.ref 174, .ref 42, .int x2, .int x3, .int (x4 + 1)] [] ((p_wr z5.1 42 0 ((z5.1 42 0) + 1)), z5.2))) else (p_cv (O T0 86 [.ref 174, .ref 42, .int 1] z3) (fun z6 => K 3 [.ref 174, .ref 42, .int x2, .int x3, .int (x4 + 1)] [] ((p_wr z6.1 42 0 ((z6.1 42 0) + 1)), z6.2))))))) := rfl
def C_X7_hasChance (pc : Nat) : Option PE := if pc < 28 then (if pc < 14 then (if pc < 7 then (if pc < 1 then (if pc = 0 then some ((.aload_n 0), 1, 0, 0, 0, []) else none) else (if pc < 4 then (if pc = 1 then some ((.getfield 21), 4, 7, 0, 0, []) else none) else (if pc = 4 then some ((.getfield 71), 7, 3, 6, 0, []) else none))) else (if pc < 10 then (if pc = 7 then some ((.ifCond .le 19), 10, 26, 0, 0, []) else none) else (if pc < 11 then (if pc = 10 then some ((.aload_n 0), 11, 0, 0, 0, []) else none) else (if pc = 11 then some ((.getfield 21), 14, 7, 0, 0, []) else none)))) else (if pc < 22 then (if pc < 17 then (if pc = 14 then some ((.getfield 71), 17, 3, 6, 0, []) else none) else (if pc < 19 then (if pc = 17 then some ((.bipush 100), 19, 0, 0, 100, []) else none) else (if pc = 19 then some ((.if_icmp .ge 7), 22, 26, 0, 0, []) else none))) else (if pc < 26 then (if pc < 23 then (if pc = 22 then some ((.iconst 1), 23, 0, 0, 1, []) else none) else (if pc = 23 then some ((.goto 4), 26, 27, 0, 0, []) else none)) else (if pc < 27 then (if pc = 26 then some ((.iconst 0), 27, 0, 0, 0, []) else none) else (if pc = 27 then some (.ireturn, 28, 0, 0, 0, []) else none))))) else none
set_option maxRecDepth 100000 in
theorem ck_X7_hasChance : ∀ pc E, C_X7_hasChance pc = some E → ckI 7 (mB 76) pc E = true := ck_tab (n := 28) (by decide +kernel) (fun pc h => by unfold C_X7_hasChance; rw [if_neg h])
def k_X7_hasChance (pc : Nat) : Option (List Bool) := none
abbrev f_X7_hasChance : Nat := 12
set_option maxRecDepth 100000 in
set_option maxHeartbeats 4000000 in
theorem s_X7_hasChance_0 {α : Type} (O : Ora) (I : Nat → Nat → Int32) (J : Nat → Nat → Int64) (K : Nat → List Value → List Value → IJ → Option α) (rt : Option Value → IJ → Option α) :
  blkS O none 1 T0 C_X7_hasChance k_X7_hasChance K rt f_X7_hasChance 0 [.ref 174] [] (I, J) = if (I 25 6) ≤ 0 then (rt (some (.int 0)) (I, J)) else (if 100 ≤ (I 25 6) then (rt (some (.int 0)) (I, J)) else (rt (some (.int 1)) (I, J))) := rfl
def C_X7_isFrost (pc : Nat) : Option PE := if pc < 33 then (if pc < 14 then (if pc < 10 then (if pc < 4 then (if pc < 1 then (if pc = 0 then some ((.aload_n 0), 1, 0, 0, 0, []) else none) else (if pc = 1 then some ((.getfield 21), 4, 7, 0, 0, []) else none)) else (if pc < 7 then (if pc = 4 then some ((.getfield 71), 7, 3, 6, 0, []) else none) else (if pc = 7 then some ((.ifCond .le 24), 10, 31, 0, 0, []) else none))) else (if pc < 12 then (if pc < 11 then (if pc = 10 then some ((.iload_n 2), 11, 0, 0, 0, []) else none) else (if pc = 11 then some ((.iconst 4), 12, 0, 0, 4, []) else none)) else (if pc < 13 then (if pc = 12 then some ((.iload_n 1), 13, 0, 0, 0, []) else none) else (if pc = 13 then some (.imul, 14, 0, 0, 0, []) else none)))) else (if pc < 24 then (if pc < 18 then (if pc < 17 then (if pc = 14 then some ((.invokestatic 74), 17, 87, 2, 0, [1]) else none) else (if pc = 17 then some ((.aload_n 0), 18, 0, 0, 0, []) else none)) else (if pc < 21 then (if pc = 18 then some ((.getfield 21), 21, 7, 0, 0, []) else none) else (if pc = 21 then some ((.getfield 71), 24, 3, 6, 0, []) else none))) else (if pc < 28 then (if pc < 27 then (if pc = 24 then some ((.if_icmp .ge 7), 27, 31, 0, 0, []) else none) else (if pc = 27 then some ((.iconst 1), 28, 0, 0, 1, []) else none)) else (if pc < 31 then (if pc = 28 then some ((.goto 4), 31, 32, 0, 0, []) else none) else (if pc < 32 then (if pc = 31 then some ((.iconst 0), 32, 0, 0, 0, []) else none) else (if pc = 32 then some (.ireturn, 33, 0, 0, 0, []) else none)))))) else none
set_option maxRecDepth 100000 in
theorem ck_X7_isFrost : ∀ pc E, C_X7_isFrost pc = some E → ckI 7 (mB 77) pc E = true := ck_tab (n := 33) (by decide +kernel) (fun pc h => by unfold C_X7_isFrost; rw [if_neg h])
def k_X7_isFrost (pc : Nat) : Option (List Bool) := none
abbrev f_X7_isFrost : Nat := 16
set_option maxRecDepth 100000 in
set_option maxHeartbeats 4000000 in
theorem s_X7_isFrost_0 {α : Type} (O : Ora) (I : Nat → Nat → Int32) (J : Nat → Nat → Int64) (K : Nat → List Value → List Value → IJ → Option α) (rt : Option Value → IJ → Option α) (a1 a2 : Int32) :
  blkS O none 3 T0 C_X7_isFrost k_X7_isFrost K rt f_X7_isFrost 0 [.ref 174, .int a1, .int a2] [] (I, J) = if (I 25 6) ≤ 0 then (rt (some (.int 0)) (I, J)) else (p_ci (O T0 87 [.int a2, .int (4 * a1)] (I, J)) (fun v2 z1 => if (z1.1 25 6) ≤ v2 then (rt (some (.int 0)) z1) else (rt (some (.int 1)) z1))) := rfl
def C_X7_fillLives (pc : Nat) : Option PE := if pc < 41 then (if pc < 19 then (if pc < 7 then (if pc < 2 then (if pc < 1 then (if pc = 0 then some ((.iconst 0), 1, 0, 0, 0, []) else none) else (if pc = 1 then some ((.istore_n 2), 2, 0, 0, 0, []) else none)) else (if pc < 3 then (if pc = 2 then some ((.iload_n 2), 3, 0, 0, 0, []) else none) else (if pc < 4 then (if pc = 3 then some ((.aload_n 0), 4, 0, 0, 0, []) else none) else (if pc = 4 then some ((.getfield 21), 7, 7, 0, 0, []) else none)))) else (if pc < 14 then (if pc < 10 then (if pc = 7 then some ((.getfield 33), 10, 3, 1, 0, []) else none) else (if pc < 13 then (if pc = 10 then some ((.if_icmp .ge 30), 13, 40, 0, 0, []) else none) else (if pc = 13 then some ((.aload_n 0), 14, 0, 0, 0, []) else none))) else (if pc < 17 then (if pc = 14 then some ((.getfield 18), 17, 7, 5, 0, []) else none) else (if pc < 18 then (if pc = 17 then some ((.iload_n 2), 18, 0, 0, 0, []) else none) else (if pc = 18 then some ((.aload_n 0), 19, 0, 0, 0, []) else none))))) else (if pc < 27 then (if pc < 24 then (if pc < 20 then (if pc = 19 then some ((.iload_n 2), 20, 0, 0, 0, []) else none) else (if pc < 21 then (if pc = 20 then some ((.aload_n 1), 21, 0, 0, 0, []) else none) else (if pc = 21 then some ((.getfield 39), 24, 8, 2, 0, []) else none))) else (if pc < 25 then (if pc = 24 then some ((.iload_n 2), 25, 0, 0, 0, []) else none) else (if pc < 26 then (if pc = 25 then some (.iaload, 26, 0, 0, 0, []) else none) else (if pc = 26 then some ((.aload_n 1), 27, 0, 0, 0, []) else none)))) else (if pc < 34 then (if pc < 30 then (if pc = 27 then some ((.getfield 44), 30, 8, 0, 0, []) else none) else (if pc < 33 then (if pc = 30 then some ((.invokevirtual 78), 33, 81, 4, 0, [1, 7]) else none) else (if pc = 33 then some (.iastore, 34, 0, 0, 0, []) else none))) else (if pc < 37 then (if pc = 34 then some ((.iinc 2 1), 37, 0, 0, 1, []) else none) else (if pc < 40 then (if pc = 37 then some ((.goto (-35)), 40, 2, 0, 0, []) else none) else (if pc = 40 then some (.return_, 41, 0, 0, 0, []) else none)))))) else none
set_option maxRecDepth 100000 in
theorem ck_X7_fillLives : ∀ pc E, C_X7_fillLives pc = some E → ckI 7 (mB 78) pc E = true := ck_tab (n := 41) (by decide +kernel) (fun pc h => by unfold C_X7_fillLives; rw [if_neg h])
def k_X7_fillLives (pc : Nat) : Option (List Bool) := if pc = 2 then some [true, true, true] else none
abbrev f_X7_fillLives : Nat := 20
set_option maxRecDepth 100000 in
set_option maxHeartbeats 4000000 in
theorem s_X7_fillLives_0 {α : Type} (O : Ora) (I : Nat → Nat → Int32) (J : Nat → Nat → Int64) (K : Nat → List Value → List Value → IJ → Option α) (rt : Option Value → IJ → Option α) :
  blkS O none 3 T0 C_X7_fillLives k_X7_fillLives K rt f_X7_fillLives 0 [.ref 174, .ref 39, un] [] (I, J) = K 2 [.ref 174, .ref 39, .int 0] [] (I, J) := rfl
set_option maxRecDepth 100000 in
set_option maxHeartbeats 4000000 in
theorem s_X7_fillLives_2 {α : Type} (O : Ora) (I : Nat → Nat → Int32) (J : Nat → Nat → Int64) (K : Nat → List Value → List Value → IJ → Option α) (rt : Option Value → IJ → Option α) (x2 : Int32) :
  blkS O none 3 T0 C_X7_fillLives k_X7_fillLives K rt f_X7_fillLives 2 [.ref 174, .ref 39, .int x2] [] (I, J) = if (I 25 1) ≤ x2 then (rt none (I, J)) else (p_chk (p_in x2 10) (p_ci (O T0 81 [.ref 174, .int x2, .int (I 40 x2.toNatClampNeg), .int (I 39 0)] (I, J)) (fun v2 z1 => p_chk (p_in x2 10) (K 2 [.ref 174, .ref 39, .int (x2 + 1)] [] ((p_wr z1.1 177 x2.toNatClampNeg v2), z1.2))))) := rfl
def C_X7_seamsOutliving (pc : Nat) : Option PE := if pc < 39 then (if pc < 20 then (if pc < 6 then (if pc < 3 then (if pc < 1 then (if pc = 0 then some ((.iconst 0), 1, 0, 0, 0, []) else none) else (if pc < 2 then (if pc = 1 then some ((.istore_n 2), 2, 0, 0, 0, []) else none) else (if pc = 2 then some ((.iconst 0), 3, 0, 0, 0, []) else none))) else (if pc < 4 then (if pc = 3 then some ((.istore_n 3), 4, 0, 0, 0, []) else none) else (if pc < 5 then (if pc = 4 then some ((.iload_n 3), 5, 0, 0, 0, []) else none) else (if pc = 5 then some ((.aload_n 0), 6, 0, 0, 0, []) else none)))) else (if pc < 15 then (if pc < 9 then (if pc = 6 then some ((.getfield 21), 9, 7, 0, 0, []) else none) else (if pc < 12 then (if pc = 9 then some ((.getfield 33), 12, 3, 1, 0, []) else none) else (if pc = 12 then some ((.if_icmp .ge 25), 15, 37, 0, 0, []) else none))) else (if pc < 16 then (if pc = 15 then some ((.aload_n 0), 16, 0, 0, 0, []) else none) else (if pc < 19 then (if pc = 16 then some ((.getfield 18), 19, 7, 5, 0, []) else none) else (if pc = 19 then some ((.iload_n 3), 20, 0, 0, 0, []) else none))))) else (if pc < 28 then (if pc < 25 then (if pc < 21 then (if pc = 20 then some (.iaload, 21, 0, 0, 0, []) else none) else (if pc < 22 then (if pc = 21 then some ((.iload_n 1), 22, 0, 0, 0, []) else none) else (if pc = 22 then some ((.if_icmp .le 9), 25, 31, 0, 0, []) else none))) else (if pc < 26 then (if pc = 25 then some ((.iload_n 2), 26, 0, 0, 0, []) else none) else (if pc < 27 then (if pc = 26 then some ((.iconst 1), 27, 0, 0, 1, []) else none) else (if pc = 27 then some ((.iload_n 3), 28, 0, 0, 0, []) else none)))) else (if pc < 31 then (if pc < 29 then (if pc = 28 then some (.ishl, 29, 0, 0, 0, []) else none) else (if pc < 30 then (if pc = 29 then some (.ior, 30, 0, 0, 0, []) else none) else (if pc = 30 then some ((.istore_n 2), 31, 0, 0, 0, []) else none))) else (if pc < 37 then (if pc < 34 then (if pc = 31 then some ((.iinc 3 1), 34, 0, 0, 1, []) else none) else (if pc = 34 then some ((.goto (-30)), 37, 4, 0, 0, []) else none)) else (if pc < 38 then (if pc = 37 then some ((.iload_n 2), 38, 0, 0, 0, []) else none) else (if pc = 38 then some (.ireturn, 39, 0, 0, 0, []) else none)))))) else none
set_option maxRecDepth 100000 in
theorem ck_X7_seamsOutliving : ∀ pc E, C_X7_seamsOutliving pc = some E → ckI 7 (mB 79) pc E = true := ck_tab (n := 39) (by decide +kernel) (fun pc h => by unfold C_X7_seamsOutliving; rw [if_neg h])
def k_X7_seamsOutliving (pc : Nat) : Option (List Bool) := if pc = 4 then some [true, true, true, true] else none
abbrev f_X7_seamsOutliving : Nat := 19
set_option maxRecDepth 100000 in
set_option maxHeartbeats 4000000 in
theorem s_X7_seamsOutliving_0 {α : Type} (O : Ora) (I : Nat → Nat → Int32) (J : Nat → Nat → Int64) (K : Nat → List Value → List Value → IJ → Option α) (rt : Option Value → IJ → Option α) (a1 : Int32) :
  blkS O none 4 T0 C_X7_seamsOutliving k_X7_seamsOutliving K rt f_X7_seamsOutliving 0 [.ref 174, .int a1, un, un] [] (I, J) = K 4 [.ref 174, .int a1, .int 0, .int 0] [] (I, J) := rfl
set_option maxRecDepth 100000 in
set_option maxHeartbeats 4000000 in
theorem s_X7_seamsOutliving_4 {α : Type} (O : Ora) (I : Nat → Nat → Int32) (J : Nat → Nat → Int64) (K : Nat → List Value → List Value → IJ → Option α) (rt : Option Value → IJ → Option α) (x1 x2 x3 : Int32) :
  blkS O none 4 T0 C_X7_seamsOutliving k_X7_seamsOutliving K rt f_X7_seamsOutliving 4 [.ref 174, .int x1, .int x2, .int x3] [] (I, J) = if (I 25 1) ≤ x3 then (rt (some (.int x2)) (I, J)) else (p_chk (p_in x3 10) (if (I 177 x3.toNatClampNeg) ≤ x1 then (K 4 [.ref 174, .int x1, .int x2, .int (x3 + 1)] [] (I, J)) else (K 4 [.ref 174, .int x1, .int (x2 ||| (1 <<< (x3 &&& 31))), .int (x3 + 1)] [] (I, J)))) := rfl
def C_X7_bestToDouble (pc : Nat) : Option PE := if pc < 128 then (if pc < 63 then (if pc < 29 then (if pc < 14 then (if pc < 6 then (if pc < 2 then (if pc < 1 then (if pc = 0 then some ((.aload_n 0), 1, 0, 0, 0, []) else none) else (if pc = 1 then some ((.aload_n 1), 2, 0, 0, 0, []) else none)) else (if pc < 5 then (if pc = 2 then some ((.invokevirtual 81), 5, 78, 2, 0, [0, 7]) else none) else (if pc = 5 then some ((.aload_n 0), 6, 0, 0, 0, []) else none))) else (if pc < 10 then (if pc < 9 then (if pc = 6 then some ((.getfield 29), 9, 7, 2, 0, []) else none) else (if pc = 9 then some ((.aload_n 0), 10, 0, 0, 0, []) else none)) else (if pc < 13 then (if pc = 10 then some ((.getfield 18), 13, 7, 5, 0, []) else none) else (if pc = 13 then some ((.iload_n 2), 14, 0, 0, 0, []) else none)))) else (if pc < 22 then (if pc < 18 then (if pc < 15 then (if pc = 14 then some ((.iload_n 3), 15, 0, 0, 0, []) else none) else (if pc = 15 then some ((.invokevirtual 84), 18, 16, 4, 0, [1, 1]) else none)) else (if pc < 20 then (if pc = 18 then some ((.istore 5), 20, 0, 0, 0, []) else none) else (if pc = 20 then some ((.bipush (-2)), 22, 0, 0, (-2), []) else none))) else (if pc < 25 then (if pc < 24 then (if pc = 22 then some ((.istore 6), 24, 0, 0, 0, []) else none) else (if pc = 24 then some ((.iconst 0), 25, 0, 0, 0, []) else none)) else (if pc < 27 then (if pc = 25 then some ((.istore 7), 27, 0, 0, 0, []) else none) else (if pc = 27 then some ((.iload 7), 29, 0, 0, 0, []) else none))))) else (if pc < 46 then (if pc < 39 then (if pc < 33 then (if pc < 30 then (if pc = 29 then some ((.aload_n 0), 30, 0, 0, 0, []) else none) else (if pc = 30 then some ((.getfield 21), 33, 7, 0, 0, []) else none)) else (if pc < 36 then (if pc = 33 then some ((.getfield 33), 36, 3, 1, 0, []) else none) else (if pc = 36 then some ((.if_icmp .ge 89), 39, 125, 0, 0, []) else none))) else (if pc < 43 then (if pc < 40 then (if pc = 39 then some ((.aload_n 0), 40, 0, 0, 0, []) else none) else (if pc = 40 then some ((.getfield 18), 43, 7, 5, 0, []) else none)) else (if pc < 45 then (if pc = 43 then some ((.iload 7), 45, 0, 0, 0, []) else none) else (if pc = 45 then some (.iaload, 46, 0, 0, 0, []) else none)))) else (if pc < 54 then (if pc < 49 then (if pc < 48 then (if pc = 46 then some ((.istore 8), 48, 0, 0, 0, []) else none) else (if pc = 48 then some ((.aload_n 0), 49, 0, 0, 0, []) else none)) else (if pc < 52 then (if pc = 49 then some ((.getfield 18), 52, 7, 5, 0, []) else none) else (if pc = 52 then some ((.iload 7), 54, 0, 0, 0, []) else none))) else (if pc < 57 then (if pc < 55 then (if pc = 54 then some ((.aload_n 0), 55, 0, 0, 0, []) else none) else (if pc = 55 then some ((.iload 7), 57, 0, 0, 0, []) else none)) else (if pc < 59 then (if pc = 57 then some ((.bipush 99), 59, 0, 0, 99, []) else none) else (if pc < 60 then (if pc = 59 then some ((.aload_n 1), 60, 0, 0, 0, []) else none) else (if pc = 60 then some ((.getfield 39), 63, 8, 2, 0, []) else none))))))) else (if pc < 93 then (if pc < 79 then (if pc < 69 then (if pc < 66 then (if pc < 65 then (if pc = 63 then some ((.iload 7), 65, 0, 0, 0, []) else none) else (if pc = 65 then some (.iaload, 66, 0, 0, 0, []) else none)) else (if pc < 68 then (if pc = 66 then some ((.iload 4), 68, 0, 0, 0, []) else none) else (if pc = 68 then some (.iadd, 69, 0, 0, 0, []) else none))) else (if pc < 73 then (if pc < 72 then (if pc = 69 then some ((.invokestatic 90), 72, 9000, 0, 0, [1, 2]) else none) else (if pc = 72 then some ((.aload_n 1), 73, 0, 0, 0, []) else none)) else (if pc < 76 then (if pc = 73 then some ((.getfield 44), 76, 8, 0, 0, []) else none) else (if pc = 76 then some ((.invokevirtual 78), 79, 81, 4, 0, [1, 7]) else none)))) else (if pc < 85 then (if pc < 81 then (if pc < 80 then (if pc = 79 then some (.iastore, 80, 0, 0, 0, []) else none) else (if pc = 80 then some ((.aload_n 0), 81, 0, 0, 0, []) else none)) else (if pc < 84 then (if pc = 81 then some ((.getfield 29), 84, 7, 2, 0, []) else none) else (if pc = 84 then some ((.aload_n 0), 85, 0, 0, 0, []) else none))) else (if pc < 89 then (if pc < 88 then (if pc = 85 then some ((.getfield 18), 88, 7, 5, 0, []) else none) else (if pc = 88 then some ((.iload_n 2), 89, 0, 0, 0, []) else none)) else (if pc < 90 then (if pc = 89 then some ((.iload_n 3), 90, 0, 0, 0, []) else none) else (if pc = 90 then some ((.invokevirtual 84), 93, 16, 4, 0, [1, 1]) else none))))) else (if pc < 108 then (if pc < 101 then (if pc < 96 then (if pc < 95 then (if pc = 93 then some ((.istore 9), 95, 0, 0, 0, []) else none) else (if pc = 95 then some ((.aload_n 0), 96, 0, 0, 0, []) else none)) else (if pc < 99 then (if pc = 96 then some ((.getfield 18), 99, 7, 5, 0, []) else none) else (if pc = 99 then some ((.iload 7), 101, 0, 0, 0, []) else none))) else (if pc < 104 then (if pc < 103 then (if pc = 101 then some ((.iload 8), 103, 0, 0, 0, []) else none) else (if pc = 103 then some (.iastore, 104, 0, 0, 0, []) else none)) else (if pc < 106 then (if pc = 104 then some ((.iload 9), 106, 0, 0, 0, []) else none) else (if pc = 106 then some ((.iload 5), 108, 0, 0, 0, []) else none)))) else (if pc < 117 then (if pc < 113 then (if pc < 111 then (if pc = 108 then some ((.if_icmp .le 11), 111, 119, 0, 0, []) else none) else (if pc = 111 then some ((.iload 9), 113, 0, 0, 0, []) else none)) else (if pc < 115 then (if pc = 113 then some ((.istore 5), 115, 0, 0, 0, []) else none) else (if pc = 115 then some ((.iload 7), 117, 0, 0, 0, []) else none))) else (if pc < 122 then (if pc < 119 then (if pc = 117 then some ((.istore 6), 119, 0, 0, 0, []) else none) else (if pc = 119 then some ((.iinc 7 1), 122, 0, 0, 1, []) else none)) else (if pc < 125 then (if pc = 122 then some ((.goto (-95)), 125, 27, 0, 0, []) else none) else (if pc < 127 then (if pc = 125 then some ((.iload 6), 127, 0, 0, 0, []) else none) else (if pc = 127 then some (.ireturn, 128, 0, 0, 0, []) else none)))))))) else none
set_option maxRecDepth 100000 in
theorem ck_X7_bestToDouble : ∀ pc E, C_X7_bestToDouble pc = some E → ckI 7 (mB 80) pc E = true := ck_tab (n := 128) (by decide +kernel) (fun pc h => by unfold C_X7_bestToDouble; rw [if_neg h])
def k_X7_bestToDouble (pc : Nat) : Option (List Bool) := if pc = 27 then some [true, true, true, true, true, true, true, true, false, false] else none
abbrev f_X7_bestToDouble : Nat := 49
set_option maxRecDepth 100000 in
set_option maxHeartbeats 4000000 in
theorem s_X7_bestToDouble_0 {α : Type} (O : Ora) (I : Nat → Nat → Int32) (J : Nat → Nat → Int64) (K : Nat → List Value → List Value → IJ → Option α) (rt : Option Value → IJ → Option α) (a2 a3 a4 : Int32) :
  blkS O none 10 T0 C_X7_bestToDouble k_X7_bestToDouble K rt f_X7_bestToDouble 0 [.ref 174, .ref 39, .int a2, .int a3, .int a4, un, un, un, un, un] [] (I, J) = p_cv (O T0 78 [.ref 174, .ref 39] (I, J)) (fun z1 => p_ci (O T0 16 [.ref 172, .ref 177, .int a2, .int a3] z1) (fun v3 z2 => K 27 [.ref 174, .ref 39, .int a2, .int a3, .int a4, .int v3, .int (-2), .int 0, un, un] [] z2)) := rfl
set_option maxRecDepth 100000 in
set_option maxHeartbeats 4000000 in
theorem s_X7_bestToDouble_27 {α : Type} (O : Ora) (I : Nat → Nat → Int32) (J : Nat → Nat → Int64) (K : Nat → List Value → List Value → IJ → Option α) (rt : Option Value → IJ → Option α) (x2 x3 x4 x5 x6 x7 : Int32) :
  blkS O none 10 T0 C_X7_bestToDouble k_X7_bestToDouble K rt f_X7_bestToDouble 27 [.ref 174, .ref 39, .int x2, .int x3, .int x4, .int x5, .int x6, .int x7, un, un] [] (I, J) = if (I 25 1) ≤ x7 then (rt (some (.int x6)) (I, J)) else (p_chk (p_in x7 10) (p_chk (p_in x7 10) (p_ci (O T0 81 [.ref 174, .int x7, .int (if ((I 40 x7.toNatClampNeg) + x4) < 99 then ((I 40 x7.toNatClampNeg) + x4) else 99), .int (I 39 0)] (I, J)) (fun v2 z1 => p_chk (p_in x7 10) (p_ci (O T0 16 [.ref 172, .ref 177, .int x2, .int x3] ((p_wr z1.1 177 x7.toNatClampNeg v2), z1.2)) (fun v4 z3 => p_chk (p_in x7 10) (if v4 ≤ x5 then (K 27 [.ref 174, .ref 39, .int x2, .int x3, .int x4, .int x5, .int x6, .int (x7 + 1), un, un] [] ((p_wr z3.1 177 x7.toNatClampNeg (I 177 x7.toNatClampNeg)), z3.2)) else (K 27 [.ref 174, .ref 39, .int x2, .int x3, .int x4, .int v4, .int x7, .int (x7 + 1), un, un] [] ((p_wr z3.1 177 x7.toNatClampNeg (I 177 x7.toNatClampNeg)), z3.2))))))))) := rfl
def C_X7_lifeOf (pc : Nat) : Option PE := if pc < 53 then (if pc < 28 then (if pc < 14 then (if pc < 4 then (if pc < 1 then (if pc = 0 then some ((.iload_n 2), 1, 0, 0, 0, []) else none) else (if pc < 3 then (if pc = 1 then some ((.istore 4), 3, 0, 0, 0, []) else none) else (if pc = 3 then some ((.iconst 0), 4, 0, 0, 0, []) else none))) else (if pc < 8 then (if pc < 6 then (if pc = 4 then some ((.istore 5), 6, 0, 0, 0, []) else none) else (if pc = 6 then some ((.iload 5), 8, 0, 0, 0, []) else none)) else (if pc < 11 then (if pc = 8 then some ((.sipush 200), 11, 0, 0, 200, []) else none) else (if pc = 11 then some ((.if_icmp .gt 38), 14, 49, 0, 0, []) else none)))) else (if pc < 21 then (if pc < 16 then (if pc = 14 then some ((.iload 4), 16, 0, 0, 0, []) else none) else (if pc < 19 then (if pc = 16 then some ((.ifCond .gt 6), 19, 22, 0, 0, []) else none) else (if pc = 19 then some ((.iload 5), 21, 0, 0, 0, []) else none))) else (if pc < 24 then (if pc < 22 then (if pc = 21 then some (.ireturn, 22, 0, 0, 0, []) else none) else (if pc = 22 then some ((.iload 4), 24, 0, 0, 0, []) else none)) else (if pc < 25 then (if pc = 24 then some ((.aload_n 0), 25, 0, 0, 0, []) else none) else (if pc = 25 then some ((.getfield 25), 28, 7, 1, 0, []) else none))))) else (if pc < 37 then (if pc < 32 then (if pc < 29 then (if pc = 28 then some ((.iload_n 1), 29, 0, 0, 0, []) else none) else (if pc < 31 then (if pc = 29 then some ((.iload 4), 31, 0, 0, 0, []) else none) else (if pc = 31 then some ((.iload_n 3), 32, 0, 0, 0, []) else none))) else (if pc < 35 then (if pc < 34 then (if pc = 32 then some ((.iload 5), 34, 0, 0, 0, []) else none) else (if pc = 34 then some (.iadd, 35, 0, 0, 0, []) else none)) else (if pc < 36 then (if pc = 35 then some ((.iconst 0), 36, 0, 0, 0, []) else none) else (if pc = 36 then some ((.iconst 0), 37, 0, 0, 0, []) else none)))) else (if pc < 43 then (if pc < 40 then (if pc = 37 then some ((.invokevirtual 95), 40, 55, 6, 0, [1, 5]) else none) else (if pc < 41 then (if pc = 40 then some (.isub, 41, 0, 0, 0, []) else none) else (if pc = 41 then some ((.istore 4), 43, 0, 0, 0, []) else none))) else (if pc < 49 then (if pc < 46 then (if pc = 43 then some ((.iinc 5 1), 46, 0, 0, 1, []) else none) else (if pc = 46 then some ((.goto (-40)), 49, 6, 0, 0, []) else none)) else (if pc < 52 then (if pc = 49 then some ((.sipush 201), 52, 0, 0, 201, []) else none) else (if pc = 52 then some (.ireturn, 53, 0, 0, 0, []) else none)))))) else none
set_option maxRecDepth 100000 in
theorem ck_X7_lifeOf : ∀ pc E, C_X7_lifeOf pc = some E → ckI 7 (mB 81) pc E = true := ck_tab (n := 53) (by decide +kernel) (fun pc h => by unfold C_X7_lifeOf; rw [if_neg h])
def k_X7_lifeOf (pc : Nat) : Option (List Bool) := if pc = 6 then some [true, true, false, true, true, true] else none
abbrev f_X7_lifeOf : Nat := 20
set_option maxRecDepth 100000 in
set_option maxHeartbeats 4000000 in
theorem s_X7_lifeOf_0 {α : Type} (O : Ora) (I : Nat → Nat → Int32) (J : Nat → Nat → Int64) (K : Nat → List Value → List Value → IJ → Option α) (rt : Option Value → IJ → Option α) (a1 a2 a3 : Int32) :
  blkS O none 6 T0 C_X7_lifeOf k_X7_lifeOf K rt f_X7_lifeOf 0 [.ref 174, .int a1, .int a2, .int a3, un, un] [] (I, J) = K 6 [.ref 174, .int a1, un, .int a3, .int a2, .int 0] [] (I, J) := rfl
set_option maxRecDepth 100000 in
set_option maxHeartbeats 4000000 in
theorem s_X7_lifeOf_6 {α : Type} (O : Ora) (I : Nat → Nat → Int32) (J : Nat → Nat → Int64) (K : Nat → List Value → List Value → IJ → Option α) (rt : Option Value → IJ → Option α) (x1 x3 x4 x5 : Int32) :
  blkS O none 6 T0 C_X7_lifeOf k_X7_lifeOf K rt f_X7_lifeOf 6 [.ref 174, .int x1, un, .int x3, .int x4, .int x5] [] (I, J) = if 200 < x5 then (rt (some (.int 201)) (I, J)) else (if 0 < x4 then (p_ci (O T0 55 [.ref 169, .int x1, .int x4, .int (x3 + x5), .int 0, .int 0] (I, J)) (fun v2 z1 => K 6 [.ref 174, .int x1, un, .int x3, .int (x4 - v2), .int (x5 + 1)] [] z1)) else (rt (some (.int x5)) (I, J))) := rfl
def C_X7_moveCarts (pc : Nat) : Option PE := if pc < 67 then (if pc < 29 then (if pc < 14 then (if pc < 8 then (if pc < 2 then (if pc < 1 then (if pc = 0 then some ((.aload_n 1), 1, 0, 0, 0, []) else none) else (if pc = 1 then some ((.aload_n 0), 2, 0, 0, 0, []) else none)) else (if pc < 5 then (if pc = 2 then some ((.getfield 21), 5, 7, 0, 0, []) else none) else (if pc = 5 then some ((.invokevirtual 99), 8, 97, 2, 0, [1, 8]) else none))) else (if pc < 10 then (if pc < 9 then (if pc = 8 then some ((.istore_n 2), 9, 0, 0, 0, []) else none) else (if pc = 9 then some ((.iload_n 2), 10, 0, 0, 0, []) else none)) else (if pc < 13 then (if pc = 10 then some ((.ifCond .ne 4), 13, 14, 0, 0, []) else none) else (if pc = 13 then some (.return_, 14, 0, 0, 0, []) else none)))) else (if pc < 22 then (if pc < 16 then (if pc < 15 then (if pc = 14 then some ((.aload_n 1), 15, 0, 0, 0, []) else none) else (if pc = 15 then some ((.aload_n 0), 16, 0, 0, 0, []) else none)) else (if pc < 19 then (if pc = 16 then some ((.getfield 21), 19, 7, 0, 0, []) else none) else (if pc = 19 then some ((.invokevirtual 103), 22, 96, 2, 0, [1, 8]) else none))) else (if pc < 24 then (if pc < 23 then (if pc = 22 then some ((.istore_n 3), 23, 0, 0, 0, []) else none) else (if pc = 23 then some ((.aload_n 0), 24, 0, 0, 0, []) else none)) else (if pc < 25 then (if pc = 24 then some ((.aload_n 1), 25, 0, 0, 0, []) else none) else (if pc < 28 then (if pc = 25 then some ((.invokevirtual 106), 28, 74, 2, 0, [0, 7]) else none) else (if pc = 28 then some ((.iconst 0), 29, 0, 0, 0, []) else none)))))) else (if pc < 49 then (if pc < 37 then (if pc < 33 then (if pc < 31 then (if pc = 29 then some ((.istore 4), 31, 0, 0, 0, []) else none) else (if pc = 31 then some ((.iload 4), 33, 0, 0, 0, []) else none)) else (if pc < 34 then (if pc = 33 then some ((.aload_n 0), 34, 0, 0, 0, []) else none) else (if pc = 34 then some ((.getfield 21), 37, 7, 0, 0, []) else none))) else (if pc < 43 then (if pc < 40 then (if pc = 37 then some ((.getfield 109), 40, 3, 3, 0, []) else none) else (if pc = 40 then some ((.if_icmp .ge 26), 43, 66, 0, 0, []) else none)) else (if pc < 44 then (if pc = 43 then some ((.iload_n 2), 44, 0, 0, 0, []) else none) else (if pc < 46 then (if pc = 44 then some ((.iload 4), 46, 0, 0, 0, []) else none) else (if pc = 46 then some ((.invokestatic 112), 49, 165, 2, 0, [1]) else none))))) else (if pc < 56 then (if pc < 53 then (if pc < 52 then (if pc = 49 then some ((.ifCond .eq 11), 52, 60, 0, 0, []) else none) else (if pc = 52 then some ((.aload_n 0), 53, 0, 0, 0, []) else none)) else (if pc < 54 then (if pc = 53 then some ((.aload_n 1), 54, 0, 0, 0, []) else none) else (if pc = 54 then some ((.iload 4), 56, 0, 0, 0, []) else none))) else (if pc < 60 then (if pc < 57 then (if pc = 56 then some ((.iload_n 3), 57, 0, 0, 0, []) else none) else (if pc = 57 then some ((.invokevirtual 115), 60, 83, 4, 0, [0, 7]) else none)) else (if pc < 63 then (if pc = 60 then some ((.iinc 4 1), 63, 0, 0, 1, []) else none) else (if pc < 66 then (if pc = 63 then some ((.goto (-32)), 66, 31, 0, 0, []) else none) else (if pc = 66 then some (.return_, 67, 0, 0, 0, []) else none))))))) else none
set_option maxRecDepth 100000 in
theorem ck_X7_moveCarts : ∀ pc E, C_X7_moveCarts pc = some E → ckI 7 (mB 82) pc E = true := ck_tab (n := 67) (by decide +kernel) (fun pc h => by unfold C_X7_moveCarts; rw [if_neg h])
def k_X7_moveCarts (pc : Nat) : Option (List Bool) := if pc = 31 then some [true, true, true, true, true] else none
abbrev f_X7_moveCarts : Nat := 17
set_option maxRecDepth 100000 in
set_option maxHeartbeats 4000000 in
theorem s_X7_moveCarts_39_0 {α : Type} (O : Ora) (I : Nat → Nat → Int32) (J : Nat → Nat → Int64) (K : Nat → List Value → List Value → IJ → Option α) (rt : Option Value → IJ → Option α) :
  blkS O none 5 T0 C_X7_moveCarts k_X7_moveCarts K rt f_X7_moveCarts 0 [.ref 174, .ref 39, un, un, un] [] (I, J) = p_ci (O T0 97 [.ref 39, .ref 25] (I, J)) (fun v2 z1 => if v2 = 0 then (rt none z1) else (p_ci (O T0 96 [.ref 39, .ref 25] z1) (fun v4 z3 => p_cv (O T0 74 [.ref 174, .ref 39] z3) (fun z5 => K 31 [.ref 174, .ref 39, .int v2, .int v4, .int 0] [] z5)))) := rfl
set_option maxRecDepth 100000 in
set_option maxHeartbeats 4000000 in
theorem s_X7_moveCarts_39_31 {α : Type} (O : Ora) (I : Nat → Nat → Int32) (J : Nat → Nat → Int64) (K : Nat → List Value → List Value → IJ → Option α) (rt : Option Value → IJ → Option α) (x2 x3 x4 : Int32) :
  blkS O none 5 T0 C_X7_moveCarts k_X7_moveCarts K rt f_X7_moveCarts 31 [.ref 174, .ref 39, .int x2, .int x3, .int x4] [] (I, J) = if (I 25 3) ≤ x4 then (rt none (I, J)) else (p_ci (O T0 165 [.int x2, .int x4] (I, J)) (fun v2 z1 => if v2 = 0 then (K 31 [.ref 174, .ref 39, .int x2, .int x3, .int (x4 + 1)] [] z1) else (p_cv (O T0 83 [.ref 174, .ref 39, .int x4, .int x3] z1) (fun z3 => K 31 [.ref 174, .ref 39, .int x2, .int x3, .int (x4 + 1)] [] z3)))) := rfl
set_option maxRecDepth 100000 in
set_option maxHeartbeats 4000000 in
theorem s_X7_moveCarts_42_0 {α : Type} (O : Ora) (I : Nat → Nat → Int32) (J : Nat → Nat → Int64) (K : Nat → List Value → List Value → IJ → Option α) (rt : Option Value → IJ → Option α) :
  blkS O none 5 T0 C_X7_moveCarts k_X7_moveCarts K rt f_X7_moveCarts 0 [.ref 174, .ref 42, un, un, un] [] (I, J) = p_ci (O T0 97 [.ref 42, .ref 25] (I, J)) (fun v2 z1 => if v2 = 0 then (rt none z1) else (p_ci (O T0 96 [.ref 42, .ref 25] z1) (fun v4 z3 => p_cv (O T0 74 [.ref 174, .ref 42] z3) (fun z5 => K 31 [.ref 174, .ref 42, .int v2, .int v4, .int 0] [] z5)))) := rfl
set_option maxRecDepth 100000 in
set_option maxHeartbeats 4000000 in
theorem s_X7_moveCarts_42_31 {α : Type} (O : Ora) (I : Nat → Nat → Int32) (J : Nat → Nat → Int64) (K : Nat → List Value → List Value → IJ → Option α) (rt : Option Value → IJ → Option α) (x2 x3 x4 : Int32) :
  blkS O none 5 T0 C_X7_moveCarts k_X7_moveCarts K rt f_X7_moveCarts 31 [.ref 174, .ref 42, .int x2, .int x3, .int x4] [] (I, J) = if (I 25 3) ≤ x4 then (rt none (I, J)) else (p_ci (O T0 165 [.int x2, .int x4] (I, J)) (fun v2 z1 => if v2 = 0 then (K 31 [.ref 174, .ref 42, .int x2, .int x3, .int (x4 + 1)] [] z1) else (p_cv (O T0 83 [.ref 174, .ref 42, .int x4, .int x3] z1) (fun z3 => K 31 [.ref 174, .ref 42, .int x2, .int x3, .int (x4 + 1)] [] z3)))) := rfl
def C_X7_moveCart (pc : Nat) : Option PE := if pc < 149 then (if pc < 74 then (if pc < 38 then (if pc < 17 then (if pc < 8 then (if pc < 2 then (if pc < 1 then (if pc = 0 then some ((.aload_n 1), 1, 0, 0, 0, []) else none) else (if pc = 1 then some ((.iload_n 2), 2, 0, 0, 0, []) else none)) else (if pc < 3 then (if pc = 2 then some ((.iconst 0), 3, 0, 0, 0, []) else none) else (if pc < 6 then (if pc = 3 then some ((.invokevirtual 119), 6, 92, 3, 0, [1, 8]) else none) else (if pc = 6 then some ((.istore 4), 8, 0, 0, 0, []) else none)))) else (if pc < 12 then (if pc < 9 then (if pc = 8 then some ((.aload_n 0), 9, 0, 0, 0, []) else none) else (if pc = 9 then some ((.getfield 29), 12, 7, 2, 0, []) else none)) else (if pc < 13 then (if pc = 12 then some ((.iload_n 3), 13, 0, 0, 0, []) else none) else (if pc < 14 then (if pc = 13 then some ((.aload_n 0), 14, 0, 0, 0, []) else none) else (if pc = 14 then some ((.getfield 15), 17, 7, 4, 0, []) else none))))) else (if pc < 26 then (if pc < 21 then (if pc < 18 then (if pc = 17 then some ((.aload_n 0), 18, 0, 0, 0, []) else none) else (if pc = 18 then some ((.getfield 21), 21, 7, 0, 0, []) else none)) else (if pc < 24 then (if pc = 21 then some ((.getfield 122), 24, 3, 15, 0, []) else none) else (if pc < 25 then (if pc = 24 then some ((.iload_n 2), 25, 0, 0, 0, []) else none) else (if pc = 25 then some (.iaload, 26, 0, 0, 0, []) else none)))) else (if pc < 31 then (if pc < 29 then (if pc = 26 then some ((.invokevirtual 125), 29, 14, 4, 0, [0, 1]) else none) else (if pc < 30 then (if pc = 29 then some ((.aload_n 0), 30, 0, 0, 0, []) else none) else (if pc = 30 then some ((.iload_n 3), 31, 0, 0, 0, []) else none))) else (if pc < 33 then (if pc = 31 then some ((.iload 4), 33, 0, 0, 0, []) else none) else (if pc < 36 then (if pc = 33 then some ((.invokevirtual 129), 36, 84, 3, 0, [1, 7]) else none) else (if pc = 36 then some ((.istore 5), 38, 0, 0, 0, []) else none)))))) else (if pc < 58 then (if pc < 46 then (if pc < 43 then (if pc < 40 then (if pc = 38 then some ((.iload 5), 40, 0, 0, 0, []) else none) else (if pc = 40 then some ((.ifCond .ge 11), 43, 51, 0, 0, []) else none)) else (if pc < 44 then (if pc = 43 then some ((.aload_n 1), 44, 0, 0, 0, []) else none) else (if pc < 45 then (if pc = 44 then some ((.iload_n 2), 45, 0, 0, 0, []) else none) else (if pc = 45 then some ((.iconst 3), 46, 0, 0, 3, []) else none)))) else (if pc < 51 then (if pc < 47 then (if pc = 46 then some ((.iconst 1), 47, 0, 0, 1, []) else none) else (if pc < 50 then (if pc = 47 then some ((.invokevirtual 132), 50, 94, 4, 0, [0, 8]) else none) else (if pc = 50 then some (.return_, 51, 0, 0, 0, []) else none))) else (if pc < 52 then (if pc = 51 then some ((.aload_n 0), 52, 0, 0, 0, []) else none) else (if pc < 55 then (if pc = 52 then some ((.getfield 21), 55, 7, 0, 0, []) else none) else (if pc = 55 then some ((.getfield 136), 58, 3, 16, 0, []) else none))))) else (if pc < 66 then (if pc < 60 then (if pc < 59 then (if pc = 58 then some ((.iload_n 2), 59, 0, 0, 0, []) else none) else (if pc = 59 then some (.iaload, 60, 0, 0, 0, []) else none)) else (if pc < 62 then (if pc = 60 then some ((.istore 6), 62, 0, 0, 0, []) else none) else (if pc < 63 then (if pc = 62 then some ((.aload_n 0), 63, 0, 0, 0, []) else none) else (if pc = 63 then some ((.getfield 9), 66, 7, 3, 0, []) else none)))) else (if pc < 70 then (if pc < 68 then (if pc = 66 then some ((.iload 5), 68, 0, 0, 0, []) else none) else (if pc < 69 then (if pc = 68 then some (.dup2, 69, 0, 0, 0, []) else none) else (if pc = 69 then some (.iaload, 70, 0, 0, 0, []) else none))) else (if pc < 72 then (if pc = 70 then some ((.iload 6), 72, 0, 0, 0, []) else none) else (if pc < 73 then (if pc = 72 then some (.iadd, 73, 0, 0, 0, []) else none) else (if pc = 73 then some (.iastore, 74, 0, 0, 0, []) else none))))))) else (if pc < 113 then (if pc < 90 then (if pc < 81 then (if pc < 76 then (if pc < 75 then (if pc = 74 then some ((.aload_n 1), 75, 0, 0, 0, []) else none) else (if pc = 75 then some ((.iload_n 2), 76, 0, 0, 0, []) else none)) else (if pc < 77 then (if pc = 76 then some ((.iconst 2), 77, 0, 0, 2, []) else none) else (if pc < 78 then (if pc = 77 then some ((.aload_n 0), 78, 0, 0, 0, []) else none) else (if pc = 78 then some ((.getfield 25), 81, 7, 1, 0, []) else none)))) else (if pc < 84 then (if pc < 83 then (if pc = 81 then some ((.iload 5), 83, 0, 0, 0, []) else none) else (if pc = 83 then some ((.aload_n 1), 84, 0, 0, 0, []) else none)) else (if pc < 87 then (if pc = 84 then some ((.getfield 39), 87, 8, 2, 0, []) else none) else (if pc < 89 then (if pc = 87 then some ((.iload 5), 89, 0, 0, 0, []) else none) else (if pc = 89 then some (.iaload, 90, 0, 0, 0, []) else none))))) else (if pc < 102 then (if pc < 94 then (if pc < 91 then (if pc = 90 then some ((.aload_n 1), 91, 0, 0, 0, []) else none) else (if pc = 91 then some ((.getfield 44), 94, 8, 0, 0, []) else none)) else (if pc < 96 then (if pc = 94 then some ((.iload 6), 96, 0, 0, 0, []) else none) else (if pc < 99 then (if pc = 96 then some ((.invokevirtual 139), 99, 57, 5, 0, [1, 5]) else none) else (if pc = 99 then some ((.invokevirtual 132), 102, 94, 4, 0, [0, 8]) else none)))) else (if pc < 107 then (if pc < 103 then (if pc = 102 then some ((.aload_n 0), 103, 0, 0, 0, []) else none) else (if pc < 105 then (if pc = 103 then some ((.iload 5), 105, 0, 0, 0, []) else none) else (if pc = 105 then some ((.iload 4), 107, 0, 0, 0, []) else none))) else (if pc < 110 then (if pc = 107 then some ((.invokevirtual 143), 110, 85, 3, 0, [1, 7]) else none) else (if pc < 112 then (if pc = 110 then some ((.istore 7), 112, 0, 0, 0, []) else none) else (if pc = 112 then some ((.aload_n 1), 113, 0, 0, 0, []) else none)))))) else (if pc < 134 then (if pc < 122 then (if pc < 115 then (if pc < 114 then (if pc = 113 then some ((.iload_n 2), 114, 0, 0, 0, []) else none) else (if pc = 114 then some ((.iconst 0), 115, 0, 0, 0, []) else none)) else (if pc < 117 then (if pc = 115 then some ((.iload 7), 117, 0, 0, 0, []) else none) else (if pc < 120 then (if pc = 117 then some ((.invokevirtual 146), 120, 93, 4, 0, [0, 8]) else none) else (if pc = 120 then some ((.iload 7), 122, 0, 0, 0, []) else none)))) else (if pc < 129 then (if pc < 123 then (if pc = 122 then some ((.aload_n 0), 123, 0, 0, 0, []) else none) else (if pc < 126 then (if pc = 123 then some ((.getfield 21), 126, 7, 0, 0, []) else none) else (if pc = 126 then some ((.getfield 122), 129, 3, 15, 0, []) else none))) else (if pc < 130 then (if pc = 129 then some ((.iload_n 2), 130, 0, 0, 0, []) else none) else (if pc < 131 then (if pc = 130 then some (.iaload, 131, 0, 0, 0, []) else none) else (if pc = 131 then some ((.if_icmp .ne 17), 134, 148, 0, 0, []) else none))))) else (if pc < 141 then (if pc < 136 then (if pc < 135 then (if pc = 134 then some ((.aload_n 1), 135, 0, 0, 0, []) else none) else (if pc = 135 then some ((.iload_n 2), 136, 0, 0, 0, []) else none)) else (if pc < 137 then (if pc = 136 then some ((.iconst 1), 137, 0, 0, 1, []) else none) else (if pc < 138 then (if pc = 137 then some ((.iconst 0), 138, 0, 0, 0, []) else none) else (if pc = 138 then some ((.invokevirtual 146), 141, 93, 4, 0, [0, 8]) else none)))) else (if pc < 144 then (if pc < 142 then (if pc = 141 then some ((.aload_n 1), 142, 0, 0, 0, []) else none) else (if pc < 143 then (if pc = 142 then some ((.iload_n 2), 143, 0, 0, 0, []) else none) else (if pc = 143 then some ((.iconst 4), 144, 0, 0, 4, []) else none))) else (if pc < 145 then (if pc = 144 then some ((.iconst 1), 145, 0, 0, 1, []) else none) else (if pc < 148 then (if pc = 145 then some ((.invokevirtual 132), 148, 94, 4, 0, [0, 8]) else none) else (if pc = 148 then some (.return_, 149, 0, 0, 0, []) else none)))))))) else none
set_option maxRecDepth 100000 in
theorem ck_X7_moveCart : ∀ pc E, C_X7_moveCart pc = some E → ckI 7 (mB 83) pc E = true := ck_tab (n := 149) (by decide +kernel) (fun pc h => by unfold C_X7_moveCart; rw [if_neg h])
def k_X7_moveCart (pc : Nat) : Option (List Bool) := none
abbrev f_X7_moveCart : Nat := 80
set_option maxRecDepth 100000 in
set_option maxHeartbeats 4000000 in
theorem s_X7_moveCart_39_0 {α : Type} (O : Ora) (I : Nat → Nat → Int32) (J : Nat → Nat → Int64) (K : Nat → List Value → List Value → IJ → Option α) (rt : Option Value → IJ → Option α) (a2 a3 : Int32) :
  blkS O none 8 T0 C_X7_moveCart k_X7_moveCart K rt f_X7_moveCart 0 [.ref 174, .ref 39, .int a2, .int a3, un, un, un, un] [] (I, J) = p_ci (O T0 92 [.ref 39, .int a2, .int 0] (I, J)) (fun v2 z1 => p_chk (p_in a2 4) (p_cv (O T0 14 [.ref 172, .int a3, .ref 176, .int (z1.1 33 a2.toNatClampNeg)] z1) (fun z3 => p_ci (O T0 84 [.ref 174, .int a3, .int v2] z3) (fun v5 z4 => if 0 ≤ v5 then (p_chk (p_in a2 4) (p_chk (p_in v5 10) (p_chk (p_in v5 10) (p_chk (p_in v5 10) (p_ci (O T0 57 [.ref 169, .int v5, .int (z4.1 40 v5.toNatClampNeg), .int (z4.1 39 0), .int (z4.1 34 a2.toNatClampNeg)] ((p_wr z4.1 175 v5.toNatClampNeg ((z4.1 175 v5.toNatClampNeg) + (z4.1 34 a2.toNatClampNeg))), z4.2)) (fun v7 z6 => p_cv (O T0 94 [.ref 39, .int a2, .int 2, .int v7] z6) (fun z8 => p_ci (O T0 85 [.ref 174, .int v5, .int v2] z8) (fun v10 z9 => p_cv (O T0 93 [.ref 39, .int a2, .int 0, .int v10] z9) (fun z11 => p_chk (p_in a2 4) (if v10 = (z11.1 33 a2.toNatClampNeg) then (p_cv (O T0 93 [.ref 39, .int a2, .int 1, .int 0] z11) (fun z12 => p_cv (O T0 94 [.ref 39, .int a2, .int 4, .int 1] z12) (fun z13 => rt none z13))) else (rt none z11))))))))))) else (p_cv (O T0 94 [.ref 39, .int a2, .int 3, .int 1] z4) (fun z14 => rt none z14)))))) := rfl
set_option maxRecDepth 100000 in
set_option maxHeartbeats 4000000 in
theorem s_X7_moveCart_42_0 {α : Type} (O : Ora) (I : Nat → Nat → Int32) (J : Nat → Nat → Int64) (K : Nat → List Value → List Value → IJ → Option α) (rt : Option Value → IJ → Option α) (a2 a3 : Int32) :
  blkS O none 8 T0 C_X7_moveCart k_X7_moveCart K rt f_X7_moveCart 0 [.ref 174, .ref 42, .int a2, .int a3, un, un, un, un] [] (I, J) = p_ci (O T0 92 [.ref 42, .int a2, .int 0] (I, J)) (fun v2 z1 => p_chk (p_in a2 4) (p_cv (O T0 14 [.ref 172, .int a3, .ref 176, .int (z1.1 33 a2.toNatClampNeg)] z1) (fun z3 => p_ci (O T0 84 [.ref 174, .int a3, .int v2] z3) (fun v5 z4 => if 0 ≤ v5 then (p_chk (p_in a2 4) (p_chk (p_in v5 10) (p_chk (p_in v5 10) (p_chk (p_in v5 10) (p_ci (O T0 57 [.ref 169, .int v5, .int (z4.1 43 v5.toNatClampNeg), .int (z4.1 42 0), .int (z4.1 34 a2.toNatClampNeg)] ((p_wr z4.1 175 v5.toNatClampNeg ((z4.1 175 v5.toNatClampNeg) + (z4.1 34 a2.toNatClampNeg))), z4.2)) (fun v7 z6 => p_cv (O T0 94 [.ref 42, .int a2, .int 2, .int v7] z6) (fun z8 => p_ci (O T0 85 [.ref 174, .int v5, .int v2] z8) (fun v10 z9 => p_cv (O T0 93 [.ref 42, .int a2, .int 0, .int v10] z9) (fun z11 => p_chk (p_in a2 4) (if v10 = (z11.1 33 a2.toNatClampNeg) then (p_cv (O T0 93 [.ref 42, .int a2, .int 1, .int 0] z11) (fun z12 => p_cv (O T0 94 [.ref 42, .int a2, .int 4, .int 1] z12) (fun z13 => rt none z13))) else (rt none z11))))))))))) else (p_cv (O T0 94 [.ref 42, .int a2, .int 3, .int 1] z4) (fun z14 => rt none z14)))))) := rfl
def C_X7_nextSeam (pc : Nat) : Option PE := if pc < 114 then (if pc < 57 then (if pc < 26 then (if pc < 10 then (if pc < 3 then (if pc < 1 then (if pc = 0 then some ((.iconst (-1)), 1, 0, 0, (-1), []) else none) else (if pc < 2 then (if pc = 1 then some ((.istore_n 3), 2, 0, 0, 0, []) else none) else (if pc = 2 then some ((.iconst 0), 3, 0, 0, 0, []) else none))) else (if pc < 6 then (if pc < 5 then (if pc = 3 then some ((.istore 4), 5, 0, 0, 0, []) else none) else (if pc = 5 then some ((.iconst 0), 6, 0, 0, 0, []) else none)) else (if pc < 8 then (if pc = 6 then some ((.istore 5), 8, 0, 0, 0, []) else none) else (if pc = 8 then some ((.iload 5), 10, 0, 0, 0, []) else none)))) else (if pc < 17 then (if pc < 11 then (if pc = 10 then some ((.aload_n 0), 11, 0, 0, 0, []) else none) else (if pc < 14 then (if pc = 11 then some ((.getfield 21), 14, 7, 0, 0, []) else none) else (if pc = 14 then some ((.getfield 33), 17, 3, 1, 0, []) else none))) else (if pc < 21 then (if pc < 20 then (if pc = 17 then some ((.if_icmp .ge 95), 20, 112, 0, 0, []) else none) else (if pc = 20 then some ((.iload_n 1), 21, 0, 0, 0, []) else none)) else (if pc < 23 then (if pc = 21 then some ((.iload 5), 23, 0, 0, 0, []) else none) else (if pc = 23 then some ((.invokestatic 112), 26, 165, 2, 0, [1]) else none))))) else (if pc < 40 then (if pc < 33 then (if pc < 29 then (if pc = 26 then some ((.ifCond .eq 80), 29, 106, 0, 0, []) else none) else (if pc < 30 then (if pc = 29 then some ((.aload_n 0), 30, 0, 0, 0, []) else none) else (if pc = 30 then some ((.getfield 21), 33, 7, 0, 0, []) else none))) else (if pc < 38 then (if pc < 36 then (if pc = 33 then some ((.getfield 149), 36, 3, 10, 0, []) else none) else (if pc = 36 then some ((.iload 5), 38, 0, 0, 0, []) else none)) else (if pc < 39 then (if pc = 38 then some (.iaload, 39, 0, 0, 0, []) else none) else (if pc = 39 then some ((.iload_n 2), 40, 0, 0, 0, []) else none)))) else (if pc < 50 then (if pc < 46 then (if pc < 43 then (if pc = 40 then some ((.invokestatic 112), 43, 165, 2, 0, [1]) else none) else (if pc = 43 then some ((.ifCond .eq 63), 46, 106, 0, 0, []) else none)) else (if pc < 47 then (if pc = 46 then some ((.aload_n 0), 47, 0, 0, 0, []) else none) else (if pc = 47 then some ((.getfield 29), 50, 7, 2, 0, []) else none))) else (if pc < 53 then (if pc < 51 then (if pc = 50 then some ((.aload_n 0), 51, 0, 0, 0, []) else none) else (if pc = 51 then some ((.iload 5), 53, 0, 0, 0, []) else none)) else (if pc < 54 then (if pc = 53 then some ((.iload_n 2), 54, 0, 0, 0, []) else none) else (if pc = 54 then some ((.invokevirtual 143), 57, 85, 3, 0, [1, 7]) else none)))))) else (if pc < 85 then (if pc < 71 then (if pc < 64 then (if pc < 60 then (if pc = 57 then some ((.invokevirtual 152), 60, 15, 2, 0, [1, 1]) else none) else (if pc < 63 then (if pc = 60 then some ((.ifCond .eq 46), 63, 106, 0, 0, []) else none) else (if pc = 63 then some ((.aload_n 0), 64, 0, 0, 0, []) else none))) else (if pc < 69 then (if pc < 67 then (if pc = 64 then some ((.getfield 15), 67, 7, 4, 0, []) else none) else (if pc = 67 then some ((.iload 5), 69, 0, 0, 0, []) else none)) else (if pc < 70 then (if pc = 69 then some (.iaload, 70, 0, 0, 0, []) else none) else (if pc = 70 then some ((.aload_n 0), 71, 0, 0, 0, []) else none)))) else (if pc < 78 then (if pc < 74 then (if pc = 71 then some ((.getfield 29), 74, 7, 2, 0, []) else none) else (if pc < 77 then (if pc = 74 then some ((.getfield 156), 77, 1, 1, 0, []) else none) else (if pc = 77 then some ((.aload_n 0), 78, 0, 0, 0, []) else none))) else (if pc < 81 then (if pc < 80 then (if pc = 78 then some ((.iload 5), 80, 0, 0, 0, []) else none) else (if pc = 80 then some ((.iload_n 2), 81, 0, 0, 0, []) else none)) else (if pc < 84 then (if pc = 81 then some ((.invokevirtual 143), 84, 85, 3, 0, [1, 7]) else none) else (if pc = 84 then some (.iaload, 85, 0, 0, 0, []) else none))))) else (if pc < 99 then (if pc < 89 then (if pc < 86 then (if pc = 85 then some (.iadd, 86, 0, 0, 0, []) else none) else (if pc < 88 then (if pc = 86 then some ((.istore 6), 88, 0, 0, 0, []) else none) else (if pc = 88 then some ((.iload_n 3), 89, 0, 0, 0, []) else none))) else (if pc < 94 then (if pc < 92 then (if pc = 89 then some ((.ifCond .lt 10), 92, 99, 0, 0, []) else none) else (if pc = 92 then some ((.iload 6), 94, 0, 0, 0, []) else none)) else (if pc < 96 then (if pc = 94 then some ((.iload 4), 96, 0, 0, 0, []) else none) else (if pc = 96 then some ((.if_icmp .ge 10), 99, 106, 0, 0, []) else none)))) else (if pc < 106 then (if pc < 102 then (if pc < 101 then (if pc = 99 then some ((.iload 5), 101, 0, 0, 0, []) else none) else (if pc = 101 then some ((.istore_n 3), 102, 0, 0, 0, []) else none)) else (if pc < 104 then (if pc = 102 then some ((.iload 6), 104, 0, 0, 0, []) else none) else (if pc = 104 then some ((.istore 4), 106, 0, 0, 0, []) else none))) else (if pc < 112 then (if pc < 109 then (if pc = 106 then some ((.iinc 5 1), 109, 0, 0, 1, []) else none) else (if pc = 109 then some ((.goto (-101)), 112, 8, 0, 0, []) else none)) else (if pc < 113 then (if pc = 112 then some ((.iload_n 3), 113, 0, 0, 0, []) else none) else (if pc = 113 then some (.ireturn, 114, 0, 0, 0, []) else none))))))) else none
set_option maxRecDepth 100000 in
theorem ck_X7_nextSeam : ∀ pc E, C_X7_nextSeam pc = some E → ckI 7 (mB 84) pc E = true := ck_tab (n := 114) (by decide +kernel) (fun pc h => by unfold C_X7_nextSeam; rw [if_neg h])
def k_X7_nextSeam (pc : Nat) : Option (List Bool) := if pc = 8 then some [true, true, true, true, true, true, false] else none
abbrev f_X7_nextSeam : Nat := 50
set_option maxRecDepth 100000 in
set_option maxHeartbeats 4000000 in
theorem s_X7_nextSeam_0 {α : Type} (O : Ora) (I : Nat → Nat → Int32) (J : Nat → Nat → Int64) (K : Nat → List Value → List Value → IJ → Option α) (rt : Option Value → IJ → Option α) (a1 a2 : Int32) :
  blkS O none 7 T0 C_X7_nextSeam k_X7_nextSeam K rt f_X7_nextSeam 0 [.ref 174, .int a1, .int a2, un, un, un, un] [] (I, J) = K 8 [.ref 174, .int a1, .int a2, .int (-1), .int 0, .int 0, un] [] (I, J) := rfl
set_option maxRecDepth 100000 in
set_option maxHeartbeats 4000000 in
theorem s_X7_nextSeam_8 {α : Type} (O : Ora) (I : Nat → Nat → Int32) (J : Nat → Nat → Int64) (K : Nat → List Value → List Value → IJ → Option α) (rt : Option Value → IJ → Option α) (x1 x2 x3 x4 x5 : Int32) :
  blkS O none 7 T0 C_X7_nextSeam k_X7_nextSeam K rt f_X7_nextSeam 8 [.ref 174, .int x1, .int x2, .int x3, .int x4, .int x5, un] [] (I, J) = if (I 25 1) ≤ x5 then (rt (some (.int x3)) (I, J)) else (p_ci (O T0 165 [.int x1, .int x5] (I, J)) (fun v2 z1 => if v2 = 0 then (K 8 [.ref 174, .int x1, .int x2, .int x3, .int x4, .int (x5 + 1), un] [] z1) else (p_chk (p_in x5 10) (p_ci (O T0 165 [.int (z1.1 28 x5.toNatClampNeg), .int x2] z1) (fun v4 z3 => if v4 = 0 then (K 8 [.ref 174, .int x1, .int x2, .int x3, .int x4, .int (x5 + 1), un] [] z3) else (p_ci (O T0 85 [.ref 174, .int x5, .int x2] z3) (fun v6 z5 => p_ci (O T0 15 [.ref 172, .int v6] z5) (fun v8 z7 => if v8 = 0 then (K 8 [.ref 174, .int x1, .int x2, .int x3, .int x4, .int (x5 + 1), un] [] z7) else (p_chk (p_in x5 10) (p_ci (O T0 85 [.ref 174, .int x5, .int x2] z7) (fun v10 z9 => p_chk (p_in v10 7) (if x3 < 0 then (K 8 [.ref 174, .int x1, .int x2, .int x5, .int ((z7.1 176 x5.toNatClampNeg) + (z9.1 173 v10.toNatClampNeg)), .int (x5 + 1), un] [] z9) else (if x4 ≤ ((z7.1 176 x5.toNatClampNeg) + (z9.1 173 v10.toNatClampNeg)) then (K 8 [.ref 174, .int x1, .int x2, .int x3, .int x4, .int (x5 + 1), un] [] z9) else (K 8 [.ref 174, .int x1, .int x2, .int x5, .int ((z7.1 176 x5.toNatClampNeg) + (z9.1 173 v10.toNatClampNeg)), .int (x5 + 1), un] [] z9)))))))))))))) := rfl
def C_X7_otherEnd (pc : Nat) : Option PE := if pc < 35 then (if pc < 17 then (if pc < 8 then (if pc < 4 then (if pc < 1 then (if pc = 0 then some ((.aload_n 0), 1, 0, 0, 0, []) else none) else (if pc = 1 then some ((.getfield 21), 4, 7, 0, 0, []) else none)) else (if pc < 7 then (if pc = 4 then some ((.getfield 159), 7, 3, 8, 0, []) else none) else (if pc = 7 then some ((.iload_n 1), 8, 0, 0, 0, []) else none))) else (if pc < 10 then (if pc < 9 then (if pc = 8 then some (.iaload, 9, 0, 0, 0, []) else none) else (if pc = 9 then some ((.iload_n 2), 10, 0, 0, 0, []) else none)) else (if pc < 13 then (if pc = 10 then some ((.if_icmp .ne 15), 13, 25, 0, 0, []) else none) else (if pc < 14 then (if pc = 13 then some ((.aload_n 0), 14, 0, 0, 0, []) else none) else (if pc = 14 then some ((.getfield 21), 17, 7, 0, 0, []) else none))))) else (if pc < 26 then (if pc < 21 then (if pc < 20 then (if pc = 17 then some ((.getfield 162), 20, 3, 9, 0, []) else none) else (if pc = 20 then some ((.iload_n 1), 21, 0, 0, 0, []) else none)) else (if pc < 22 then (if pc = 21 then some (.iaload, 22, 0, 0, 0, []) else none) else (if pc < 25 then (if pc = 22 then some ((.goto 12), 25, 34, 0, 0, []) else none) else (if pc = 25 then some ((.aload_n 0), 26, 0, 0, 0, []) else none)))) else (if pc < 32 then (if pc < 29 then (if pc = 26 then some ((.getfield 21), 29, 7, 0, 0, []) else none) else (if pc = 29 then some ((.getfield 159), 32, 3, 8, 0, []) else none)) else (if pc < 33 then (if pc = 32 then some ((.iload_n 1), 33, 0, 0, 0, []) else none) else (if pc < 34 then (if pc = 33 then some (.iaload, 34, 0, 0, 0, []) else none) else (if pc = 34 then some (.ireturn, 35, 0, 0, 0, []) else none)))))) else none
set_option maxRecDepth 100000 in
theorem ck_X7_otherEnd : ∀ pc E, C_X7_otherEnd pc = some E → ckI 7 (mB 85) pc E = true := ck_tab (n := 35) (by decide +kernel) (fun pc h => by unfold C_X7_otherEnd; rw [if_neg h])
def k_X7_otherEnd (pc : Nat) : Option (List Bool) := none
abbrev f_X7_otherEnd : Nat := 14
set_option maxRecDepth 100000 in
set_option maxHeartbeats 4000000 in
theorem s_X7_otherEnd_0 {α : Type} (O : Ora) (I : Nat → Nat → Int32) (J : Nat → Nat → Int64) (K : Nat → List Value → List Value → IJ → Option α) (rt : Option Value → IJ → Option α) (a1 a2 : Int32) :
  blkS O none 3 T0 C_X7_otherEnd k_X7_otherEnd K rt f_X7_otherEnd 0 [.ref 174, .int a1, .int a2] [] (I, J) = p_chk (p_in a1 10) (if (I 26 a1.toNatClampNeg) = a2 then (p_chk (p_in a1 10) (rt (some (.int (I 27 a1.toNatClampNeg))) (I, J))) else (p_chk (p_in a1 10) (rt (some (.int (I 26 a1.toNatClampNeg))) (I, J)))) := rfl
def C_X7_wearSeams (pc : Nat) : Option PE := if pc < 75 then (if pc < 37 then (if pc < 18 then (if pc < 7 then (if pc < 2 then (if pc < 1 then (if pc = 0 then some ((.iconst 0), 1, 0, 0, 0, []) else none) else (if pc = 1 then some ((.istore_n 3), 2, 0, 0, 0, []) else none)) else (if pc < 3 then (if pc = 2 then some ((.iload_n 3), 3, 0, 0, 0, []) else none) else (if pc < 4 then (if pc = 3 then some ((.aload_n 0), 4, 0, 0, 0, []) else none) else (if pc = 4 then some ((.getfield 21), 7, 7, 0, 0, []) else none)))) else (if pc < 13 then (if pc < 10 then (if pc = 7 then some ((.getfield 33), 10, 3, 1, 0, []) else none) else (if pc = 10 then some ((.if_icmp .ge 64), 13, 74, 0, 0, []) else none)) else (if pc < 14 then (if pc = 13 then some ((.aload_n 1), 14, 0, 0, 0, []) else none) else (if pc < 17 then (if pc = 14 then some ((.getfield 39), 17, 8, 2, 0, []) else none) else (if pc = 17 then some ((.iload_n 3), 18, 0, 0, 0, []) else none))))) else (if pc < 27 then (if pc < 22 then (if pc < 19 then (if pc = 18 then some (.iaload, 19, 0, 0, 0, []) else none) else (if pc = 19 then some ((.ifCond .le 49), 22, 68, 0, 0, []) else none)) else (if pc < 23 then (if pc = 22 then some ((.aload_n 0), 23, 0, 0, 0, []) else none) else (if pc < 26 then (if pc = 23 then some ((.getfield 25), 26, 7, 1, 0, []) else none) else (if pc = 26 then some ((.iload_n 3), 27, 0, 0, 0, []) else none)))) else (if pc < 32 then (if pc < 28 then (if pc = 27 then some ((.aload_n 1), 28, 0, 0, 0, []) else none) else (if pc < 31 then (if pc = 28 then some ((.getfield 39), 31, 8, 2, 0, []) else none) else (if pc = 31 then some ((.iload_n 3), 32, 0, 0, 0, []) else none))) else (if pc < 33 then (if pc = 32 then some (.iaload, 33, 0, 0, 0, []) else none) else (if pc < 34 then (if pc = 33 then some ((.aload_n 1), 34, 0, 0, 0, []) else none) else (if pc = 34 then some ((.getfield 44), 37, 8, 0, 0, []) else none)))))) else (if pc < 55 then (if pc < 44 then (if pc < 39 then (if pc < 38 then (if pc = 37 then some ((.iload_n 2), 38, 0, 0, 0, []) else none) else (if pc = 38 then some ((.aload_n 0), 39, 0, 0, 0, []) else none)) else (if pc < 42 then (if pc = 39 then some ((.getfield 9), 42, 7, 3, 0, []) else none) else (if pc < 43 then (if pc = 42 then some ((.iload_n 3), 43, 0, 0, 0, []) else none) else (if pc = 43 then some (.iaload, 44, 0, 0, 0, []) else none)))) else (if pc < 50 then (if pc < 47 then (if pc = 44 then some ((.invokevirtual 95), 47, 55, 6, 0, [1, 5]) else none) else (if pc < 49 then (if pc = 47 then some ((.istore 4), 49, 0, 0, 0, []) else none) else (if pc = 49 then some ((.aload_n 1), 50, 0, 0, 0, []) else none))) else (if pc < 53 then (if pc = 50 then some ((.getfield 39), 53, 8, 2, 0, []) else none) else (if pc < 54 then (if pc = 53 then some ((.iload_n 3), 54, 0, 0, 0, []) else none) else (if pc = 54 then some ((.iconst 0), 55, 0, 0, 0, []) else none))))) else (if pc < 63 then (if pc < 59 then (if pc < 56 then (if pc = 55 then some ((.aload_n 1), 56, 0, 0, 0, []) else none) else (if pc = 56 then some ((.getfield 39), 59, 8, 2, 0, []) else none)) else (if pc < 60 then (if pc = 59 then some ((.iload_n 3), 60, 0, 0, 0, []) else none) else (if pc < 61 then (if pc = 60 then some (.iaload, 61, 0, 0, 0, []) else none) else (if pc = 61 then some ((.iload 4), 63, 0, 0, 0, []) else none)))) else (if pc < 68 then (if pc < 64 then (if pc = 63 then some (.isub, 64, 0, 0, 0, []) else none) else (if pc < 67 then (if pc = 64 then some ((.invokestatic 165), 67, 9000, 0, 0, [1, 1]) else none) else (if pc = 67 then some (.iastore, 68, 0, 0, 0, []) else none))) else (if pc < 71 then (if pc = 68 then some ((.iinc 3 1), 71, 0, 0, 1, []) else none) else (if pc < 74 then (if pc = 71 then some ((.goto (-69)), 74, 2, 0, 0, []) else none) else (if pc = 74 then some (.return_, 75, 0, 0, 0, []) else none))))))) else none
set_option maxRecDepth 100000 in
theorem ck_X7_wearSeams : ∀ pc E, C_X7_wearSeams pc = some E → ckI 7 (mB 86) pc E = true := ck_tab (n := 75) (by decide +kernel) (fun pc h => by unfold C_X7_wearSeams; rw [if_neg h])
def k_X7_wearSeams (pc : Nat) : Option (List Bool) := if pc = 2 then some [true, true, true, true, false] else none
abbrev f_X7_wearSeams : Nat := 40
set_option maxRecDepth 100000 in
set_option maxHeartbeats 4000000 in
theorem s_X7_wearSeams_39_0 {α : Type} (O : Ora) (I : Nat → Nat → Int32) (J : Nat → Nat → Int64) (K : Nat → List Value → List Value → IJ → Option α) (rt : Option Value → IJ → Option α) (a2 : Int32) :
  blkS O none 5 T0 C_X7_wearSeams k_X7_wearSeams K rt f_X7_wearSeams 0 [.ref 174, .ref 39, .int a2, un, un] [] (I, J) = K 2 [.ref 174, .ref 39, .int a2, .int 0, un] [] (I, J) := rfl
set_option maxRecDepth 100000 in
set_option maxHeartbeats 4000000 in
theorem s_X7_wearSeams_39_2 {α : Type} (O : Ora) (I : Nat → Nat → Int32) (J : Nat → Nat → Int64) (K : Nat → List Value → List Value → IJ → Option α) (rt : Option Value → IJ → Option α) (x2 x3 : Int32) :
  blkS O none 5 T0 C_X7_wearSeams k_X7_wearSeams K rt f_X7_wearSeams 2 [.ref 174, .ref 39, .int x2, .int x3, un] [] (I, J) = if (I 25 1) ≤ x3 then (rt none (I, J)) else (p_chk (p_in x3 10) (if (I 40 x3.toNatClampNeg) ≤ 0 then (K 2 [.ref 174, .ref 39, .int x2, .int (x3 + 1), un] [] (I, J)) else (p_chk (p_in x3 10) (p_chk (p_in x3 10) (p_ci (O T0 55 [.ref 169, .int x3, .int (I 40 x3.toNatClampNeg), .int (I 39 0), .int x2, .int (I 175 x3.toNatClampNeg)] (I, J)) (fun v2 z1 => p_chk (p_in x3 10) (p_chk (p_in x3 10) (K 2 [.ref 174, .ref 39, .int x2, .int (x3 + 1), un] [] ((p_wr z1.1 40 x3.toNatClampNeg (if (0 : Int32) < ((z1.1 40 x3.toNatClampNeg) - v2) then ((z1.1 40 x3.toNatClampNeg) - v2) else 0)), z1.2))))))))) := rfl
set_option maxRecDepth 100000 in
set_option maxHeartbeats 4000000 in
theorem s_X7_wearSeams_42_0 {α : Type} (O : Ora) (I : Nat → Nat → Int32) (J : Nat → Nat → Int64) (K : Nat → List Value → List Value → IJ → Option α) (rt : Option Value → IJ → Option α) (a2 : Int32) :
  blkS O none 5 T0 C_X7_wearSeams k_X7_wearSeams K rt f_X7_wearSeams 0 [.ref 174, .ref 42, .int a2, un, un] [] (I, J) = K 2 [.ref 174, .ref 42, .int a2, .int 0, un] [] (I, J) := rfl
set_option maxRecDepth 100000 in
set_option maxHeartbeats 4000000 in
theorem s_X7_wearSeams_42_2 {α : Type} (O : Ora) (I : Nat → Nat → Int32) (J : Nat → Nat → Int64) (K : Nat → List Value → List Value → IJ → Option α) (rt : Option Value → IJ → Option α) (x2 x3 : Int32) :
  blkS O none 5 T0 C_X7_wearSeams k_X7_wearSeams K rt f_X7_wearSeams 2 [.ref 174, .ref 42, .int x2, .int x3, un] [] (I, J) = if (I 25 1) ≤ x3 then (rt none (I, J)) else (p_chk (p_in x3 10) (if (I 43 x3.toNatClampNeg) ≤ 0 then (K 2 [.ref 174, .ref 42, .int x2, .int (x3 + 1), un] [] (I, J)) else (p_chk (p_in x3 10) (p_chk (p_in x3 10) (p_ci (O T0 55 [.ref 169, .int x3, .int (I 43 x3.toNatClampNeg), .int (I 42 0), .int x2, .int (I 175 x3.toNatClampNeg)] (I, J)) (fun v2 z1 => p_chk (p_in x3 10) (p_chk (p_in x3 10) (K 2 [.ref 174, .ref 42, .int x2, .int (x3 + 1), un] [] ((p_wr z1.1 43 x3.toNatClampNeg (if (0 : Int32) < ((z1.1 43 x3.toNatClampNeg) - v2) then ((z1.1 43 x3.toNatClampNeg) - v2) else 0)), z1.2))))))))) := rfl
def C_X7_lotOfHundred (pc : Nat) : Option PE := if pc < 18 then (if pc < 11 then (if pc < 6 then (if pc < 1 then (if pc = 0 then some ((.iload_n 0), 1, 0, 0, 0, []) else none) else (if pc < 3 then (if pc = 1 then some ((.bipush 107), 3, 0, 0, 107, []) else none) else (if pc = 3 then some ((.invokestatic 168), 6, 88, 2, 0, [1]) else none))) else (if pc < 7 then (if pc = 6 then some ((.iload_n 1), 7, 0, 0, 0, []) else none) else (if pc < 10 then (if pc = 7 then some ((.invokestatic 168), 10, 88, 2, 0, [1]) else none) else (if pc = 10 then some ((.istore_n 2), 11, 0, 0, 0, []) else none)))) else (if pc < 14 then (if pc < 12 then (if pc = 11 then some ((.iload_n 2), 12, 0, 0, 0, []) else none) else (if pc < 13 then (if pc = 12 then some ((.iconst 1), 13, 0, 0, 1, []) else none) else (if pc = 13 then some (.iushr, 14, 0, 0, 0, []) else none))) else (if pc < 16 then (if pc = 14 then some ((.bipush 100), 16, 0, 0, 100, []) else none) else (if pc < 17 then (if pc = 16 then some (.irem, 17, 0, 0, 0, []) else none) else (if pc = 17 then some (.ireturn, 18, 0, 0, 0, []) else none))))) else none
set_option maxRecDepth 100000 in
theorem ck_X7_lotOfHundred : ∀ pc E, C_X7_lotOfHundred pc = some E → ckI 7 (mB 87) pc E = true := ck_tab (n := 18) (by decide +kernel) (fun pc h => by unfold C_X7_lotOfHundred; rw [if_neg h])
def k_X7_lotOfHundred (pc : Nat) : Option (List Bool) := none
abbrev f_X7_lotOfHundred : Nat := 12
set_option maxRecDepth 100000 in
set_option maxHeartbeats 4000000 in
theorem s_X7_lotOfHundred_0 {α : Type} (O : Ora) (I : Nat → Nat → Int32) (J : Nat → Nat → Int64) (K : Nat → List Value → List Value → IJ → Option α) (rt : Option Value → IJ → Option α) (a0 a1 : Int32) :
  blkS O none 3 T0 C_X7_lotOfHundred k_X7_lotOfHundred K rt f_X7_lotOfHundred 0 [.int a0, .int a1, un] [] (I, J) = p_ci (O T0 88 [.int a0, .int 107] (I, J)) (fun v2 z1 => p_ci (O T0 88 [.int v2, .int a1] z1) (fun v4 z3 => rt (some (.int (((v4.toUInt32 >>> ((1 : Int32).toUInt32 &&& Int32.toUInt32 31)).toInt32) - ((v4.toUInt32 >>> ((1 : Int32).toUInt32 &&& Int32.toUInt32 31)).toInt32) / 100 * 100))) z3)) := rfl
def C_X7_mixed (pc : Nat) : Option PE := if pc < 18 then (if pc < 10 then (if pc < 3 then (if pc < 1 then (if pc = 0 then some ((.iload_n 0), 1, 0, 0, 0, []) else none) else (if pc < 2 then (if pc = 1 then some ((.iload_n 1), 2, 0, 0, 0, []) else none) else (if pc = 2 then some (.ixor, 3, 0, 0, 0, []) else none))) else (if pc < 6 then (if pc < 5 then (if pc = 3 then some ((.ldc 171), 5, 0, 0, 1103515245, []) else none) else (if pc = 5 then some (.imul, 6, 0, 0, 0, []) else none)) else (if pc < 9 then (if pc = 6 then some ((.sipush 12345), 9, 0, 0, 12345, []) else none) else (if pc = 9 then some (.iadd, 10, 0, 0, 0, []) else none)))) else (if pc < 13 then (if pc < 11 then (if pc = 10 then some ((.istore_n 2), 11, 0, 0, 0, []) else none) else (if pc < 12 then (if pc = 11 then some ((.iload_n 2), 12, 0, 0, 0, []) else none) else (if pc = 12 then some ((.iload_n 2), 13, 0, 0, 0, []) else none))) else (if pc < 16 then (if pc < 15 then (if pc = 13 then some ((.bipush 15), 15, 0, 0, 15, []) else none) else (if pc = 15 then some (.iushr, 16, 0, 0, 0, []) else none)) else (if pc < 17 then (if pc = 16 then some (.ixor, 17, 0, 0, 0, []) else none) else (if pc = 17 then some (.ireturn, 18, 0, 0, 0, []) else none))))) else none
set_option maxRecDepth 100000 in
theorem ck_X7_mixed : ∀ pc E, C_X7_mixed pc = some E → ckI 7 (mB 88) pc E = true := ck_tab (n := 18) (by decide +kernel) (fun pc h => by unfold C_X7_mixed; rw [if_neg h])
def k_X7_mixed (pc : Nat) : Option (List Bool) := none
abbrev f_X7_mixed : Nat := 14
set_option maxRecDepth 100000 in
set_option maxHeartbeats 4000000 in
theorem s_X7_mixed_0 {α : Type} (O : Ora) (I : Nat → Nat → Int32) (J : Nat → Nat → Int64) (K : Nat → List Value → List Value → IJ → Option α) (rt : Option Value → IJ → Option α) (a0 a1 : Int32) :
  blkS O none 3 T0 C_X7_mixed k_X7_mixed K rt f_X7_mixed 0 [.int a0, .int a1, un] [] (I, J) = rt (some (.int ((((a0 ^^^ a1) * 1103515245) + 12345) ^^^ (((((a0 ^^^ a1) * 1103515245) + 12345).toUInt32 >>> ((15 : Int32).toUInt32 &&& Int32.toUInt32 31)).toInt32)))) (I, J) := rfl
end
section
def C_X8_begin (pc : Nat) : Option PE := if pc < 65 then (if pc < 33 then (if pc < 17 then (if pc < 6 then (if pc < 2 then (if pc < 1 then (if pc = 0 then some ((.aload_n 0), 1, 0, 0, 0, []) else none) else (if pc = 1 then some ((.iconst 0), 2, 0, 0, 0, []) else none)) else (if pc < 5 then (if pc = 2 then some ((.putfield 18), 5, 8, 0, 0, []) else none) else (if pc = 5 then some ((.aload_n 0), 6, 0, 0, 0, []) else none))) else (if pc < 10 then (if pc < 7 then (if pc = 6 then some ((.aload_n 1), 7, 0, 0, 0, []) else none) else (if pc = 7 then some ((.getfield 22), 10, 3, 5, 0, []) else none)) else (if pc < 13 then (if pc = 10 then some ((.putfield 27), 13, 8, 1, 0, []) else none) else (if pc < 14 then (if pc = 13 then some ((.aload_n 1), 14, 0, 0, 0, []) else none) else (if pc = 14 then some ((.getfield 28), 17, 3, 12, 0, []) else none))))) else (if pc < 23 then (if pc < 19 then (if pc < 18 then (if pc = 17 then some ((.iconst 0), 18, 0, 0, 0, []) else none) else (if pc = 18 then some ((.aload_n 0), 19, 0, 0, 0, []) else none)) else (if pc < 22 then (if pc = 19 then some ((.getfield 9), 22, 8, 2, 0, []) else none) else (if pc = 22 then some ((.iconst 0), 23, 0, 0, 0, []) else none))) else (if pc < 28 then (if pc < 25 then (if pc = 23 then some ((.bipush 10), 25, 0, 0, 10, []) else none) else (if pc = 25 then some ((.invokestatic 29), 28, 9000, 0, 0, [0, 3]) else none)) else (if pc < 29 then (if pc = 28 then some ((.aload_n 0), 29, 0, 0, 0, []) else none) else (if pc < 32 then (if pc = 29 then some ((.getfield 15), 32, 8, 3, 0, []) else none) else (if pc = 32 then some ((.iconst 0), 33, 0, 0, 0, []) else none)))))) else (if pc < 48 then (if pc < 39 then (if pc < 37 then (if pc < 36 then (if pc = 33 then some ((.invokestatic 35), 36, 300, 2, 0, [0]) else none) else (if pc = 36 then some ((.iconst 0), 37, 0, 0, 0, []) else none)) else (if pc < 38 then (if pc = 37 then some ((.istore_n 2), 38, 0, 0, 0, []) else none) else (if pc = 38 then some ((.iload_n 2), 39, 0, 0, 0, []) else none))) else (if pc < 43 then (if pc < 40 then (if pc = 39 then some ((.aload_n 1), 40, 0, 0, 0, []) else none) else (if pc = 40 then some ((.getfield 41), 43, 3, 3, 0, []) else none)) else (if pc < 46 then (if pc = 43 then some ((.if_icmp .ge 21), 46, 64, 0, 0, []) else none) else (if pc < 47 then (if pc = 46 then some ((.aload_n 0), 47, 0, 0, 0, []) else none) else (if pc = 47 then some ((.iload_n 2), 48, 0, 0, 0, []) else none))))) else (if pc < 54 then (if pc < 50 then (if pc < 49 then (if pc = 48 then some ((.iconst 0), 49, 0, 0, 0, []) else none) else (if pc = 49 then some ((.aload_n 1), 50, 0, 0, 0, []) else none)) else (if pc < 53 then (if pc = 50 then some ((.getfield 43), 53, 3, 14, 0, []) else none) else (if pc = 53 then some ((.iload_n 2), 54, 0, 0, 0, []) else none))) else (if pc < 58 then (if pc < 55 then (if pc = 54 then some (.iaload, 55, 0, 0, 0, []) else none) else (if pc = 55 then some ((.invokevirtual 46), 58, 93, 4, 0, [0, 8]) else none)) else (if pc < 61 then (if pc = 58 then some ((.iinc 2 1), 61, 0, 0, 1, []) else none) else (if pc < 64 then (if pc = 61 then some ((.goto (-23)), 64, 38, 0, 0, []) else none) else (if pc = 64 then some (.return_, 65, 0, 0, 0, []) else none))))))) else none
set_option maxRecDepth 100000 in
theorem ck_X8_begin : ∀ pc E, C_X8_begin pc = some E → ckI 8 (mB 90) pc E = true := ck_tab (n := 65) (by decide +kernel) (fun pc h => by unfold C_X8_begin; rw [if_neg h])
def k_X8_begin (pc : Nat) : Option (List Bool) := if pc = 38 then some [true, true, true] else none
abbrev f_X8_begin : Nat := 21
set_option maxRecDepth 100000 in
set_option maxHeartbeats 4000000 in
theorem s_X8_begin_0 {α : Type} (O : Ora) (I : Nat → Nat → Int32) (J : Nat → Nat → Int64) (K : Nat → List Value → List Value → IJ → Option α) (rt : Option Value → IJ → Option α) :
  blkS O none 3 T0 C_X8_begin k_X8_begin K rt f_X8_begin 0 [.ref 39, .ref 25, un] [] (I, J) = p_cv (O T0 300 [.ref 41, .int 0] ((p_cp (p_wr (p_wr I 39 0 0) 39 1 (I 25 5)) 30 40 0 0 10), J)) (fun z1 => K 38 [.ref 39, .ref 25, .int 0] [] z1) := rfl
set_option maxRecDepth 100000 in
set_option maxHeartbeats 4000000 in
theorem s_X8_begin_38 {α : Type} (O : Ora) (I : Nat → Nat → Int32) (J : Nat → Nat → Int64) (K : Nat → List Value → List Value → IJ → Option α) (rt : Option Value → IJ → Option α) (x2 : Int32) :
  blkS O none 3 T0 C_X8_begin k_X8_begin K rt f_X8_begin 38 [.ref 39, .ref 25, .int x2] [] (I, J) = if (I 25 3) ≤ x2 then (rt none (I, J)) else (p_chk (p_in x2 4) (p_cv (O T0 93 [.ref 39, .int x2, .int 0, .int (I 32 x2.toNatClampNeg)] (I, J)) (fun z1 => K 38 [.ref 39, .ref 25, .int (x2 + 1)] [] z1))) := rfl
def C_X8_copyFrom (pc : Nat) : Option PE := if pc < 47 then (if pc < 22 then (if pc < 10 then (if pc < 5 then (if pc < 1 then (if pc = 0 then some ((.aload_n 0), 1, 0, 0, 0, []) else none) else (if pc < 2 then (if pc = 1 then some ((.aload_n 1), 2, 0, 0, 0, []) else none) else (if pc = 2 then some ((.getfield 18), 5, 8, 0, 0, []) else none))) else (if pc < 8 then (if pc = 5 then some ((.putfield 18), 8, 8, 0, 0, []) else none) else (if pc < 9 then (if pc = 8 then some ((.aload_n 0), 9, 0, 0, 0, []) else none) else (if pc = 9 then some ((.aload_n 1), 10, 0, 0, 0, []) else none)))) else (if pc < 17 then (if pc < 13 then (if pc = 10 then some ((.getfield 27), 13, 8, 1, 0, []) else none) else (if pc < 16 then (if pc = 13 then some ((.putfield 27), 16, 8, 1, 0, []) else none) else (if pc = 16 then some ((.aload_n 1), 17, 0, 0, 0, []) else none))) else (if pc < 20 then (if pc = 17 then some ((.getfield 9), 20, 8, 2, 0, []) else none) else (if pc < 21 then (if pc = 20 then some ((.iconst 0), 21, 0, 0, 0, []) else none) else (if pc = 21 then some ((.aload_n 0), 22, 0, 0, 0, []) else none))))) else (if pc < 35 then (if pc < 28 then (if pc < 25 then (if pc = 22 then some ((.getfield 9), 25, 8, 2, 0, []) else none) else (if pc < 26 then (if pc = 25 then some ((.iconst 0), 26, 0, 0, 0, []) else none) else (if pc = 26 then some ((.bipush 10), 28, 0, 0, 10, []) else none))) else (if pc < 31 then (if pc = 28 then some ((.invokestatic 29), 31, 9000, 0, 0, [0, 3]) else none) else (if pc < 32 then (if pc = 31 then some ((.aload_n 1), 32, 0, 0, 0, []) else none) else (if pc = 32 then some ((.getfield 15), 35, 8, 3, 0, []) else none)))) else (if pc < 40 then (if pc < 36 then (if pc = 35 then some ((.iconst 0), 36, 0, 0, 0, []) else none) else (if pc < 37 then (if pc = 36 then some ((.aload_n 0), 37, 0, 0, 0, []) else none) else (if pc = 37 then some ((.getfield 15), 40, 8, 3, 0, []) else none))) else (if pc < 43 then (if pc < 41 then (if pc = 40 then some ((.iconst 0), 41, 0, 0, 0, []) else none) else (if pc = 41 then some ((.bipush 20), 43, 0, 0, 20, []) else none)) else (if pc < 46 then (if pc = 43 then some ((.invokestatic 29), 46, 9000, 0, 0, [0, 3]) else none) else (if pc = 46 then some (.return_, 47, 0, 0, 0, []) else none)))))) else none
set_option maxRecDepth 100000 in
theorem ck_X8_copyFrom : ∀ pc E, C_X8_copyFrom pc = some E → ckI 8 (mB 91) pc E = true := ck_tab (n := 47) (by decide +kernel) (fun pc h => by unfold C_X8_copyFrom; rw [if_neg h])
def k_X8_copyFrom (pc : Nat) : Option (List Bool) := none
abbrev f_X8_copyFrom : Nat := 25
set_option maxRecDepth 100000 in
set_option maxHeartbeats 4000000 in
theorem s_X8_copyFrom_42_39_0 {α : Type} (O : Ora) (I : Nat → Nat → Int32) (J : Nat → Nat → Int64) (K : Nat → List Value → List Value → IJ → Option α) (rt : Option Value → IJ → Option α) :
  blkS O none 2 T0 C_X8_copyFrom k_X8_copyFrom K rt f_X8_copyFrom 0 [.ref 42, .ref 39] [] (I, J) = rt none ((p_cp (p_cp (p_wr (p_wr I 42 0 (I 39 0)) 42 1 (I 39 1)) 40 43 0 0 10) 41 44 0 0 20), J) := rfl
set_option maxRecDepth 100000 in
set_option maxHeartbeats 4000000 in
theorem s_X8_copyFrom_183_39_0 {α : Type} (O : Ora) (I : Nat → Nat → Int32) (J : Nat → Nat → Int64) (K : Nat → List Value → List Value → IJ → Option α) (rt : Option Value → IJ → Option α) :
  blkS O none 2 T0 C_X8_copyFrom k_X8_copyFrom K rt f_X8_copyFrom 0 [.ref 183, .ref 39] [] (I, J) = rt none ((p_cp (p_cp (p_wr (p_wr I 183 0 (I 39 0)) 183 1 (I 39 1)) 40 184 0 0 10) 41 185 0 0 20), J) := rfl
set_option maxRecDepth 100000 in
set_option maxHeartbeats 4000000 in
theorem s_X8_copyFrom_186_39_0 {α : Type} (O : Ora) (I : Nat → Nat → Int32) (J : Nat → Nat → Int64) (K : Nat → List Value → List Value → IJ → Option α) (rt : Option Value → IJ → Option α) :
  blkS O none 2 T0 C_X8_copyFrom k_X8_copyFrom K rt f_X8_copyFrom 0 [.ref 186, .ref 39] [] (I, J) = rt none ((p_cp (p_cp (p_wr (p_wr I 186 0 (I 39 0)) 186 1 (I 39 1)) 40 187 0 0 10) 41 188 0 0 20), J) := rfl
set_option maxRecDepth 100000 in
set_option maxHeartbeats 4000000 in
theorem s_X8_copyFrom_189_39_0 {α : Type} (O : Ora) (I : Nat → Nat → Int32) (J : Nat → Nat → Int64) (K : Nat → List Value → List Value → IJ → Option α) (rt : Option Value → IJ → Option α) :
  blkS O none 2 T0 C_X8_copyFrom k_X8_copyFrom K rt f_X8_copyFrom 0 [.ref 189, .ref 39] [] (I, J) = rt none ((p_cp (p_cp (p_wr (p_wr I 189 0 (I 39 0)) 189 1 (I 39 1)) 40 190 0 0 10) 41 191 0 0 20), J) := rfl
set_option maxRecDepth 100000 in
set_option maxHeartbeats 4000000 in
theorem s_X8_copyFrom_47_39_0 {α : Type} (O : Ora) (I : Nat → Nat → Int32) (J : Nat → Nat → Int64) (K : Nat → List Value → List Value → IJ → Option α) (rt : Option Value → IJ → Option α) :
  blkS O none 2 T0 C_X8_copyFrom k_X8_copyFrom K rt f_X8_copyFrom 0 [.ref 47, .ref 39] [] (I, J) = rt none ((p_cp (p_cp (p_wr (p_wr I 47 0 (I 39 0)) 47 1 (I 39 1)) 40 48 0 0 10) 41 49 0 0 20), J) := rfl
set_option maxRecDepth 100000 in
set_option maxHeartbeats 4000000 in
theorem s_X8_copyFrom_50_39_0 {α : Type} (O : Ora) (I : Nat → Nat → Int32) (J : Nat → Nat → Int64) (K : Nat → List Value → List Value → IJ → Option α) (rt : Option Value → IJ → Option α) :
  blkS O none 2 T0 C_X8_copyFrom k_X8_copyFrom K rt f_X8_copyFrom 0 [.ref 50, .ref 39] [] (I, J) = rt none ((p_cp (p_cp (p_wr (p_wr I 50 0 (I 39 0)) 50 1 (I 39 1)) 40 51 0 0 10) 41 52 0 0 20), J) := rfl
set_option maxRecDepth 100000 in
set_option maxHeartbeats 4000000 in
theorem s_X8_copyFrom_53_39_0 {α : Type} (O : Ora) (I : Nat → Nat → Int32) (J : Nat → Nat → Int64) (K : Nat → List Value → List Value → IJ → Option α) (rt : Option Value → IJ → Option α) :
  blkS O none 2 T0 C_X8_copyFrom k_X8_copyFrom K rt f_X8_copyFrom 0 [.ref 53, .ref 39] [] (I, J) = rt none ((p_cp (p_cp (p_wr (p_wr I 53 0 (I 39 0)) 53 1 (I 39 1)) 40 54 0 0 10) 41 55 0 0 20), J) := rfl
set_option maxRecDepth 100000 in
set_option maxHeartbeats 4000000 in
theorem s_X8_copyFrom_56_39_0 {α : Type} (O : Ora) (I : Nat → Nat → Int32) (J : Nat → Nat → Int64) (K : Nat → List Value → List Value → IJ → Option α) (rt : Option Value → IJ → Option α) :
  blkS O none 2 T0 C_X8_copyFrom k_X8_copyFrom K rt f_X8_copyFrom 0 [.ref 56, .ref 39] [] (I, J) = rt none ((p_cp (p_cp (p_wr (p_wr I 56 0 (I 39 0)) 56 1 (I 39 1)) 40 57 0 0 10) 41 58 0 0 20), J) := rfl
set_option maxRecDepth 100000 in
set_option maxHeartbeats 4000000 in
theorem s_X8_copyFrom_59_39_0 {α : Type} (O : Ora) (I : Nat → Nat → Int32) (J : Nat → Nat → Int64) (K : Nat → List Value → List Value → IJ → Option α) (rt : Option Value → IJ → Option α) :
  blkS O none 2 T0 C_X8_copyFrom k_X8_copyFrom K rt f_X8_copyFrom 0 [.ref 59, .ref 39] [] (I, J) = rt none ((p_cp (p_cp (p_wr (p_wr I 59 0 (I 39 0)) 59 1 (I 39 1)) 40 60 0 0 10) 41 61 0 0 20), J) := rfl
set_option maxRecDepth 100000 in
set_option maxHeartbeats 4000000 in
theorem s_X8_copyFrom_62_39_0 {α : Type} (O : Ora) (I : Nat → Nat → Int32) (J : Nat → Nat → Int64) (K : Nat → List Value → List Value → IJ → Option α) (rt : Option Value → IJ → Option α) :
  blkS O none 2 T0 C_X8_copyFrom k_X8_copyFrom K rt f_X8_copyFrom 0 [.ref 62, .ref 39] [] (I, J) = rt none ((p_cp (p_cp (p_wr (p_wr I 62 0 (I 39 0)) 62 1 (I 39 1)) 40 63 0 0 10) 41 64 0 0 20), J) := rfl
set_option maxRecDepth 100000 in
set_option maxHeartbeats 4000000 in
theorem s_X8_copyFrom_65_39_0 {α : Type} (O : Ora) (I : Nat → Nat → Int32) (J : Nat → Nat → Int64) (K : Nat → List Value → List Value → IJ → Option α) (rt : Option Value → IJ → Option α) :
  blkS O none 2 T0 C_X8_copyFrom k_X8_copyFrom K rt f_X8_copyFrom 0 [.ref 65, .ref 39] [] (I, J) = rt none ((p_cp (p_cp (p_wr (p_wr I 65 0 (I 39 0)) 65 1 (I 39 1)) 40 66 0 0 10) 41 67 0 0 20), J) := rfl
set_option maxRecDepth 100000 in
set_option maxHeartbeats 4000000 in
theorem s_X8_copyFrom_68_39_0 {α : Type} (O : Ora) (I : Nat → Nat → Int32) (J : Nat → Nat → Int64) (K : Nat → List Value → List Value → IJ → Option α) (rt : Option Value → IJ → Option α) :
  blkS O none 2 T0 C_X8_copyFrom k_X8_copyFrom K rt f_X8_copyFrom 0 [.ref 68, .ref 39] [] (I, J) = rt none ((p_cp (p_cp (p_wr (p_wr I 68 0 (I 39 0)) 68 1 (I 39 1)) 40 69 0 0 10) 41 70 0 0 20), J) := rfl
set_option maxRecDepth 100000 in
set_option maxHeartbeats 4000000 in
theorem s_X8_copyFrom_71_39_0 {α : Type} (O : Ora) (I : Nat → Nat → Int32) (J : Nat → Nat → Int64) (K : Nat → List Value → List Value → IJ → Option α) (rt : Option Value → IJ → Option α) :
  blkS O none 2 T0 C_X8_copyFrom k_X8_copyFrom K rt f_X8_copyFrom 0 [.ref 71, .ref 39] [] (I, J) = rt none ((p_cp (p_cp (p_wr (p_wr I 71 0 (I 39 0)) 71 1 (I 39 1)) 40 72 0 0 10) 41 73 0 0 20), J) := rfl
set_option maxRecDepth 100000 in
set_option maxHeartbeats 4000000 in
theorem s_X8_copyFrom_74_39_0 {α : Type} (O : Ora) (I : Nat → Nat → Int32) (J : Nat → Nat → Int64) (K : Nat → List Value → List Value → IJ → Option α) (rt : Option Value → IJ → Option α) :
  blkS O none 2 T0 C_X8_copyFrom k_X8_copyFrom K rt f_X8_copyFrom 0 [.ref 74, .ref 39] [] (I, J) = rt none ((p_cp (p_cp (p_wr (p_wr I 74 0 (I 39 0)) 74 1 (I 39 1)) 40 75 0 0 10) 41 76 0 0 20), J) := rfl
set_option maxRecDepth 100000 in
set_option maxHeartbeats 4000000 in
theorem s_X8_copyFrom_77_39_0 {α : Type} (O : Ora) (I : Nat → Nat → Int32) (J : Nat → Nat → Int64) (K : Nat → List Value → List Value → IJ → Option α) (rt : Option Value → IJ → Option α) :
  blkS O none 2 T0 C_X8_copyFrom k_X8_copyFrom K rt f_X8_copyFrom 0 [.ref 77, .ref 39] [] (I, J) = rt none ((p_cp (p_cp (p_wr (p_wr I 77 0 (I 39 0)) 77 1 (I 39 1)) 40 78 0 0 10) 41 79 0 0 20), J) := rfl
set_option maxRecDepth 100000 in
set_option maxHeartbeats 4000000 in
theorem s_X8_copyFrom_80_39_0 {α : Type} (O : Ora) (I : Nat → Nat → Int32) (J : Nat → Nat → Int64) (K : Nat → List Value → List Value → IJ → Option α) (rt : Option Value → IJ → Option α) :
  blkS O none 2 T0 C_X8_copyFrom k_X8_copyFrom K rt f_X8_copyFrom 0 [.ref 80, .ref 39] [] (I, J) = rt none ((p_cp (p_cp (p_wr (p_wr I 80 0 (I 39 0)) 80 1 (I 39 1)) 40 81 0 0 10) 41 82 0 0 20), J) := rfl
set_option maxRecDepth 100000 in
set_option maxHeartbeats 4000000 in
theorem s_X8_copyFrom_83_39_0 {α : Type} (O : Ora) (I : Nat → Nat → Int32) (J : Nat → Nat → Int64) (K : Nat → List Value → List Value → IJ → Option α) (rt : Option Value → IJ → Option α) :
  blkS O none 2 T0 C_X8_copyFrom k_X8_copyFrom K rt f_X8_copyFrom 0 [.ref 83, .ref 39] [] (I, J) = rt none ((p_cp (p_cp (p_wr (p_wr I 83 0 (I 39 0)) 83 1 (I 39 1)) 40 84 0 0 10) 41 85 0 0 20), J) := rfl
set_option maxRecDepth 100000 in
set_option maxHeartbeats 4000000 in
theorem s_X8_copyFrom_86_39_0 {α : Type} (O : Ora) (I : Nat → Nat → Int32) (J : Nat → Nat → Int64) (K : Nat → List Value → List Value → IJ → Option α) (rt : Option Value → IJ → Option α) :
  blkS O none 2 T0 C_X8_copyFrom k_X8_copyFrom K rt f_X8_copyFrom 0 [.ref 86, .ref 39] [] (I, J) = rt none ((p_cp (p_cp (p_wr (p_wr I 86 0 (I 39 0)) 86 1 (I 39 1)) 40 87 0 0 10) 41 88 0 0 20), J) := rfl
set_option maxRecDepth 100000 in
set_option maxHeartbeats 4000000 in
theorem s_X8_copyFrom_89_39_0 {α : Type} (O : Ora) (I : Nat → Nat → Int32) (J : Nat → Nat → Int64) (K : Nat → List Value → List Value → IJ → Option α) (rt : Option Value → IJ → Option α) :
  blkS O none 2 T0 C_X8_copyFrom k_X8_copyFrom K rt f_X8_copyFrom 0 [.ref 89, .ref 39] [] (I, J) = rt none ((p_cp (p_cp (p_wr (p_wr I 89 0 (I 39 0)) 89 1 (I 39 1)) 40 90 0 0 10) 41 91 0 0 20), J) := rfl
set_option maxRecDepth 100000 in
set_option maxHeartbeats 4000000 in
theorem s_X8_copyFrom_92_39_0 {α : Type} (O : Ora) (I : Nat → Nat → Int32) (J : Nat → Nat → Int64) (K : Nat → List Value → List Value → IJ → Option α) (rt : Option Value → IJ → Option α) :
  blkS O none 2 T0 C_X8_copyFrom k_X8_copyFrom K rt f_X8_copyFrom 0 [.ref 92, .ref 39] [] (I, J) = rt none ((p_cp (p_cp (p_wr (p_wr I 92 0 (I 39 0)) 92 1 (I 39 1)) 40 93 0 0 10) 41 94 0 0 20), J) := rfl
set_option maxRecDepth 100000 in
set_option maxHeartbeats 4000000 in
theorem s_X8_copyFrom_95_39_0 {α : Type} (O : Ora) (I : Nat → Nat → Int32) (J : Nat → Nat → Int64) (K : Nat → List Value → List Value → IJ → Option α) (rt : Option Value → IJ → Option α) :
  blkS O none 2 T0 C_X8_copyFrom k_X8_copyFrom K rt f_X8_copyFrom 0 [.ref 95, .ref 39] [] (I, J) = rt none ((p_cp (p_cp (p_wr (p_wr I 95 0 (I 39 0)) 95 1 (I 39 1)) 40 96 0 0 10) 41 97 0 0 20), J) := rfl
set_option maxRecDepth 100000 in
set_option maxHeartbeats 4000000 in
theorem s_X8_copyFrom_98_39_0 {α : Type} (O : Ora) (I : Nat → Nat → Int32) (J : Nat → Nat → Int64) (K : Nat → List Value → List Value → IJ → Option α) (rt : Option Value → IJ → Option α) :
  blkS O none 2 T0 C_X8_copyFrom k_X8_copyFrom K rt f_X8_copyFrom 0 [.ref 98, .ref 39] [] (I, J) = rt none ((p_cp (p_cp (p_wr (p_wr I 98 0 (I 39 0)) 98 1 (I 39 1)) 40 99 0 0 10) 41 100 0 0 20), J) := rfl
set_option maxRecDepth 100000 in
set_option maxHeartbeats 4000000 in
theorem s_X8_copyFrom_101_39_0 {α : Type} (O : Ora) (I : Nat → Nat → Int32) (J : Nat → Nat → Int64) (K : Nat → List Value → List Value → IJ → Option α) (rt : Option Value → IJ → Option α) :
  blkS O none 2 T0 C_X8_copyFrom k_X8_copyFrom K rt f_X8_copyFrom 0 [.ref 101, .ref 39] [] (I, J) = rt none ((p_cp (p_cp (p_wr (p_wr I 101 0 (I 39 0)) 101 1 (I 39 1)) 40 102 0 0 10) 41 103 0 0 20), J) := rfl
set_option maxRecDepth 100000 in
set_option maxHeartbeats 4000000 in
theorem s_X8_copyFrom_104_39_0 {α : Type} (O : Ora) (I : Nat → Nat → Int32) (J : Nat → Nat → Int64) (K : Nat → List Value → List Value → IJ → Option α) (rt : Option Value → IJ → Option α) :
  blkS O none 2 T0 C_X8_copyFrom k_X8_copyFrom K rt f_X8_copyFrom 0 [.ref 104, .ref 39] [] (I, J) = rt none ((p_cp (p_cp (p_wr (p_wr I 104 0 (I 39 0)) 104 1 (I 39 1)) 40 105 0 0 10) 41 106 0 0 20), J) := rfl
set_option maxRecDepth 100000 in
set_option maxHeartbeats 4000000 in
theorem s_X8_copyFrom_107_39_0 {α : Type} (O : Ora) (I : Nat → Nat → Int32) (J : Nat → Nat → Int64) (K : Nat → List Value → List Value → IJ → Option α) (rt : Option Value → IJ → Option α) :
  blkS O none 2 T0 C_X8_copyFrom k_X8_copyFrom K rt f_X8_copyFrom 0 [.ref 107, .ref 39] [] (I, J) = rt none ((p_cp (p_cp (p_wr (p_wr I 107 0 (I 39 0)) 107 1 (I 39 1)) 40 108 0 0 10) 41 109 0 0 20), J) := rfl
set_option maxRecDepth 100000 in
set_option maxHeartbeats 4000000 in
theorem s_X8_copyFrom_110_39_0 {α : Type} (O : Ora) (I : Nat → Nat → Int32) (J : Nat → Nat → Int64) (K : Nat → List Value → List Value → IJ → Option α) (rt : Option Value → IJ → Option α) :
  blkS O none 2 T0 C_X8_copyFrom k_X8_copyFrom K rt f_X8_copyFrom 0 [.ref 110, .ref 39] [] (I, J) = rt none ((p_cp (p_cp (p_wr (p_wr I 110 0 (I 39 0)) 110 1 (I 39 1)) 40 111 0 0 10) 41 112 0 0 20), J) := rfl
set_option maxRecDepth 100000 in
set_option maxHeartbeats 4000000 in
theorem s_X8_copyFrom_113_39_0 {α : Type} (O : Ora) (I : Nat → Nat → Int32) (J : Nat → Nat → Int64) (K : Nat → List Value → List Value → IJ → Option α) (rt : Option Value → IJ → Option α) :
  blkS O none 2 T0 C_X8_copyFrom k_X8_copyFrom K rt f_X8_copyFrom 0 [.ref 113, .ref 39] [] (I, J) = rt none ((p_cp (p_cp (p_wr (p_wr I 113 0 (I 39 0)) 113 1 (I 39 1)) 40 114 0 0 10) 41 115 0 0 20), J) := rfl
set_option maxRecDepth 100000 in
set_option maxHeartbeats 4000000 in
theorem s_X8_copyFrom_116_39_0 {α : Type} (O : Ora) (I : Nat → Nat → Int32) (J : Nat → Nat → Int64) (K : Nat → List Value → List Value → IJ → Option α) (rt : Option Value → IJ → Option α) :
  blkS O none 2 T0 C_X8_copyFrom k_X8_copyFrom K rt f_X8_copyFrom 0 [.ref 116, .ref 39] [] (I, J) = rt none ((p_cp (p_cp (p_wr (p_wr I 116 0 (I 39 0)) 116 1 (I 39 1)) 40 117 0 0 10) 41 118 0 0 20), J) := rfl
set_option maxRecDepth 100000 in
set_option maxHeartbeats 4000000 in
theorem s_X8_copyFrom_119_39_0 {α : Type} (O : Ora) (I : Nat → Nat → Int32) (J : Nat → Nat → Int64) (K : Nat → List Value → List Value → IJ → Option α) (rt : Option Value → IJ → Option α) :
  blkS O none 2 T0 C_X8_copyFrom k_X8_copyFrom K rt f_X8_copyFrom 0 [.ref 119, .ref 39] [] (I, J) = rt none ((p_cp (p_cp (p_wr (p_wr I 119 0 (I 39 0)) 119 1 (I 39 1)) 40 120 0 0 10) 41 121 0 0 20), J) := rfl
set_option maxRecDepth 100000 in
set_option maxHeartbeats 4000000 in
theorem s_X8_copyFrom_122_39_0 {α : Type} (O : Ora) (I : Nat → Nat → Int32) (J : Nat → Nat → Int64) (K : Nat → List Value → List Value → IJ → Option α) (rt : Option Value → IJ → Option α) :
  blkS O none 2 T0 C_X8_copyFrom k_X8_copyFrom K rt f_X8_copyFrom 0 [.ref 122, .ref 39] [] (I, J) = rt none ((p_cp (p_cp (p_wr (p_wr I 122 0 (I 39 0)) 122 1 (I 39 1)) 40 123 0 0 10) 41 124 0 0 20), J) := rfl
set_option maxRecDepth 100000 in
set_option maxHeartbeats 4000000 in
theorem s_X8_copyFrom_125_39_0 {α : Type} (O : Ora) (I : Nat → Nat → Int32) (J : Nat → Nat → Int64) (K : Nat → List Value → List Value → IJ → Option α) (rt : Option Value → IJ → Option α) :
  blkS O none 2 T0 C_X8_copyFrom k_X8_copyFrom K rt f_X8_copyFrom 0 [.ref 125, .ref 39] [] (I, J) = rt none ((p_cp (p_cp (p_wr (p_wr I 125 0 (I 39 0)) 125 1 (I 39 1)) 40 126 0 0 10) 41 127 0 0 20), J) := rfl
set_option maxRecDepth 100000 in
set_option maxHeartbeats 4000000 in
theorem s_X8_copyFrom_128_39_0 {α : Type} (O : Ora) (I : Nat → Nat → Int32) (J : Nat → Nat → Int64) (K : Nat → List Value → List Value → IJ → Option α) (rt : Option Value → IJ → Option α) :
  blkS O none 2 T0 C_X8_copyFrom k_X8_copyFrom K rt f_X8_copyFrom 0 [.ref 128, .ref 39] [] (I, J) = rt none ((p_cp (p_cp (p_wr (p_wr I 128 0 (I 39 0)) 128 1 (I 39 1)) 40 129 0 0 10) 41 130 0 0 20), J) := rfl
set_option maxRecDepth 100000 in
set_option maxHeartbeats 4000000 in
theorem s_X8_copyFrom_131_39_0 {α : Type} (O : Ora) (I : Nat → Nat → Int32) (J : Nat → Nat → Int64) (K : Nat → List Value → List Value → IJ → Option α) (rt : Option Value → IJ → Option α) :
  blkS O none 2 T0 C_X8_copyFrom k_X8_copyFrom K rt f_X8_copyFrom 0 [.ref 131, .ref 39] [] (I, J) = rt none ((p_cp (p_cp (p_wr (p_wr I 131 0 (I 39 0)) 131 1 (I 39 1)) 40 132 0 0 10) 41 133 0 0 20), J) := rfl
set_option maxRecDepth 100000 in
set_option maxHeartbeats 4000000 in
theorem s_X8_copyFrom_134_39_0 {α : Type} (O : Ora) (I : Nat → Nat → Int32) (J : Nat → Nat → Int64) (K : Nat → List Value → List Value → IJ → Option α) (rt : Option Value → IJ → Option α) :
  blkS O none 2 T0 C_X8_copyFrom k_X8_copyFrom K rt f_X8_copyFrom 0 [.ref 134, .ref 39] [] (I, J) = rt none ((p_cp (p_cp (p_wr (p_wr I 134 0 (I 39 0)) 134 1 (I 39 1)) 40 135 0 0 10) 41 136 0 0 20), J) := rfl
set_option maxRecDepth 100000 in
set_option maxHeartbeats 4000000 in
theorem s_X8_copyFrom_137_39_0 {α : Type} (O : Ora) (I : Nat → Nat → Int32) (J : Nat → Nat → Int64) (K : Nat → List Value → List Value → IJ → Option α) (rt : Option Value → IJ → Option α) :
  blkS O none 2 T0 C_X8_copyFrom k_X8_copyFrom K rt f_X8_copyFrom 0 [.ref 137, .ref 39] [] (I, J) = rt none ((p_cp (p_cp (p_wr (p_wr I 137 0 (I 39 0)) 137 1 (I 39 1)) 40 138 0 0 10) 41 139 0 0 20), J) := rfl
set_option maxRecDepth 100000 in
set_option maxHeartbeats 4000000 in
theorem s_X8_copyFrom_140_39_0 {α : Type} (O : Ora) (I : Nat → Nat → Int32) (J : Nat → Nat → Int64) (K : Nat → List Value → List Value → IJ → Option α) (rt : Option Value → IJ → Option α) :
  blkS O none 2 T0 C_X8_copyFrom k_X8_copyFrom K rt f_X8_copyFrom 0 [.ref 140, .ref 39] [] (I, J) = rt none ((p_cp (p_cp (p_wr (p_wr I 140 0 (I 39 0)) 140 1 (I 39 1)) 40 141 0 0 10) 41 142 0 0 20), J) := rfl
set_option maxRecDepth 100000 in
set_option maxHeartbeats 4000000 in
theorem s_X8_copyFrom_143_39_0 {α : Type} (O : Ora) (I : Nat → Nat → Int32) (J : Nat → Nat → Int64) (K : Nat → List Value → List Value → IJ → Option α) (rt : Option Value → IJ → Option α) :
  blkS O none 2 T0 C_X8_copyFrom k_X8_copyFrom K rt f_X8_copyFrom 0 [.ref 143, .ref 39] [] (I, J) = rt none ((p_cp (p_cp (p_wr (p_wr I 143 0 (I 39 0)) 143 1 (I 39 1)) 40 144 0 0 10) 41 145 0 0 20), J) := rfl
set_option maxRecDepth 100000 in
set_option maxHeartbeats 4000000 in
theorem s_X8_copyFrom_146_39_0 {α : Type} (O : Ora) (I : Nat → Nat → Int32) (J : Nat → Nat → Int64) (K : Nat → List Value → List Value → IJ → Option α) (rt : Option Value → IJ → Option α) :
  blkS O none 2 T0 C_X8_copyFrom k_X8_copyFrom K rt f_X8_copyFrom 0 [.ref 146, .ref 39] [] (I, J) = rt none ((p_cp (p_cp (p_wr (p_wr I 146 0 (I 39 0)) 146 1 (I 39 1)) 40 147 0 0 10) 41 148 0 0 20), J) := rfl
set_option maxRecDepth 100000 in
set_option maxHeartbeats 4000000 in
theorem s_X8_copyFrom_149_39_0 {α : Type} (O : Ora) (I : Nat → Nat → Int32) (J : Nat → Nat → Int64) (K : Nat → List Value → List Value → IJ → Option α) (rt : Option Value → IJ → Option α) :
  blkS O none 2 T0 C_X8_copyFrom k_X8_copyFrom K rt f_X8_copyFrom 0 [.ref 149, .ref 39] [] (I, J) = rt none ((p_cp (p_cp (p_wr (p_wr I 149 0 (I 39 0)) 149 1 (I 39 1)) 40 150 0 0 10) 41 151 0 0 20), J) := rfl
set_option maxRecDepth 100000 in
set_option maxHeartbeats 4000000 in
theorem s_X8_copyFrom_152_39_0 {α : Type} (O : Ora) (I : Nat → Nat → Int32) (J : Nat → Nat → Int64) (K : Nat → List Value → List Value → IJ → Option α) (rt : Option Value → IJ → Option α) :
  blkS O none 2 T0 C_X8_copyFrom k_X8_copyFrom K rt f_X8_copyFrom 0 [.ref 152, .ref 39] [] (I, J) = rt none ((p_cp (p_cp (p_wr (p_wr I 152 0 (I 39 0)) 152 1 (I 39 1)) 40 153 0 0 10) 41 154 0 0 20), J) := rfl
set_option maxRecDepth 100000 in
set_option maxHeartbeats 4000000 in
theorem s_X8_copyFrom_155_39_0 {α : Type} (O : Ora) (I : Nat → Nat → Int32) (J : Nat → Nat → Int64) (K : Nat → List Value → List Value → IJ → Option α) (rt : Option Value → IJ → Option α) :
  blkS O none 2 T0 C_X8_copyFrom k_X8_copyFrom K rt f_X8_copyFrom 0 [.ref 155, .ref 39] [] (I, J) = rt none ((p_cp (p_cp (p_wr (p_wr I 155 0 (I 39 0)) 155 1 (I 39 1)) 40 156 0 0 10) 41 157 0 0 20), J) := rfl
set_option maxRecDepth 100000 in
set_option maxHeartbeats 4000000 in
theorem s_X8_copyFrom_158_39_0 {α : Type} (O : Ora) (I : Nat → Nat → Int32) (J : Nat → Nat → Int64) (K : Nat → List Value → List Value → IJ → Option α) (rt : Option Value → IJ → Option α) :
  blkS O none 2 T0 C_X8_copyFrom k_X8_copyFrom K rt f_X8_copyFrom 0 [.ref 158, .ref 39] [] (I, J) = rt none ((p_cp (p_cp (p_wr (p_wr I 158 0 (I 39 0)) 158 1 (I 39 1)) 40 159 0 0 10) 41 160 0 0 20), J) := rfl
set_option maxRecDepth 100000 in
set_option maxHeartbeats 4000000 in
theorem s_X8_copyFrom_161_39_0 {α : Type} (O : Ora) (I : Nat → Nat → Int32) (J : Nat → Nat → Int64) (K : Nat → List Value → List Value → IJ → Option α) (rt : Option Value → IJ → Option α) :
  blkS O none 2 T0 C_X8_copyFrom k_X8_copyFrom K rt f_X8_copyFrom 0 [.ref 161, .ref 39] [] (I, J) = rt none ((p_cp (p_cp (p_wr (p_wr I 161 0 (I 39 0)) 161 1 (I 39 1)) 40 162 0 0 10) 41 163 0 0 20), J) := rfl
set_option maxRecDepth 100000 in
set_option maxHeartbeats 4000000 in
theorem s_X8_copyFrom_164_39_0 {α : Type} (O : Ora) (I : Nat → Nat → Int32) (J : Nat → Nat → Int64) (K : Nat → List Value → List Value → IJ → Option α) (rt : Option Value → IJ → Option α) :
  blkS O none 2 T0 C_X8_copyFrom k_X8_copyFrom K rt f_X8_copyFrom 0 [.ref 164, .ref 39] [] (I, J) = rt none ((p_cp (p_cp (p_wr (p_wr I 164 0 (I 39 0)) 164 1 (I 39 1)) 40 165 0 0 10) 41 166 0 0 20), J) := rfl
set_option maxRecDepth 100000 in
set_option maxHeartbeats 4000000 in
theorem s_X8_copyFrom_39_183_0 {α : Type} (O : Ora) (I : Nat → Nat → Int32) (J : Nat → Nat → Int64) (K : Nat → List Value → List Value → IJ → Option α) (rt : Option Value → IJ → Option α) :
  blkS O none 2 T0 C_X8_copyFrom k_X8_copyFrom K rt f_X8_copyFrom 0 [.ref 39, .ref 183] [] (I, J) = rt none ((p_cp (p_cp (p_wr (p_wr I 39 0 (I 183 0)) 39 1 (I 183 1)) 184 40 0 0 10) 185 41 0 0 20), J) := rfl
set_option maxRecDepth 100000 in
set_option maxHeartbeats 4000000 in
theorem s_X8_copyFrom_39_186_0 {α : Type} (O : Ora) (I : Nat → Nat → Int32) (J : Nat → Nat → Int64) (K : Nat → List Value → List Value → IJ → Option α) (rt : Option Value → IJ → Option α) :
  blkS O none 2 T0 C_X8_copyFrom k_X8_copyFrom K rt f_X8_copyFrom 0 [.ref 39, .ref 186] [] (I, J) = rt none ((p_cp (p_cp (p_wr (p_wr I 39 0 (I 186 0)) 39 1 (I 186 1)) 187 40 0 0 10) 188 41 0 0 20), J) := rfl
set_option maxRecDepth 100000 in
set_option maxHeartbeats 4000000 in
theorem s_X8_copyFrom_39_189_0 {α : Type} (O : Ora) (I : Nat → Nat → Int32) (J : Nat → Nat → Int64) (K : Nat → List Value → List Value → IJ → Option α) (rt : Option Value → IJ → Option α) :
  blkS O none 2 T0 C_X8_copyFrom k_X8_copyFrom K rt f_X8_copyFrom 0 [.ref 39, .ref 189] [] (I, J) = rt none ((p_cp (p_cp (p_wr (p_wr I 39 0 (I 189 0)) 39 1 (I 189 1)) 190 40 0 0 10) 191 41 0 0 20), J) := rfl
set_option maxRecDepth 100000 in
set_option maxHeartbeats 4000000 in
theorem s_X8_copyFrom_39_47_0 {α : Type} (O : Ora) (I : Nat → Nat → Int32) (J : Nat → Nat → Int64) (K : Nat → List Value → List Value → IJ → Option α) (rt : Option Value → IJ → Option α) :
  blkS O none 2 T0 C_X8_copyFrom k_X8_copyFrom K rt f_X8_copyFrom 0 [.ref 39, .ref 47] [] (I, J) = rt none ((p_cp (p_cp (p_wr (p_wr I 39 0 (I 47 0)) 39 1 (I 47 1)) 48 40 0 0 10) 49 41 0 0 20), J) := rfl
set_option maxRecDepth 100000 in
set_option maxHeartbeats 4000000 in
theorem s_X8_copyFrom_39_50_0 {α : Type} (O : Ora) (I : Nat → Nat → Int32) (J : Nat → Nat → Int64) (K : Nat → List Value → List Value → IJ → Option α) (rt : Option Value → IJ → Option α) :
  blkS O none 2 T0 C_X8_copyFrom k_X8_copyFrom K rt f_X8_copyFrom 0 [.ref 39, .ref 50] [] (I, J) = rt none ((p_cp (p_cp (p_wr (p_wr I 39 0 (I 50 0)) 39 1 (I 50 1)) 51 40 0 0 10) 52 41 0 0 20), J) := rfl
set_option maxRecDepth 100000 in
set_option maxHeartbeats 4000000 in
theorem s_X8_copyFrom_39_53_0 {α : Type} (O : Ora) (I : Nat → Nat → Int32) (J : Nat → Nat → Int64) (K : Nat → List Value → List Value → IJ → Option α) (rt : Option Value → IJ → Option α) :
  blkS O none 2 T0 C_X8_copyFrom k_X8_copyFrom K rt f_X8_copyFrom 0 [.ref 39, .ref 53] [] (I, J) = rt none ((p_cp (p_cp (p_wr (p_wr I 39 0 (I 53 0)) 39 1 (I 53 1)) 54 40 0 0 10) 55 41 0 0 20), J) := rfl
set_option maxRecDepth 100000 in
set_option maxHeartbeats 4000000 in
theorem s_X8_copyFrom_39_56_0 {α : Type} (O : Ora) (I : Nat → Nat → Int32) (J : Nat → Nat → Int64) (K : Nat → List Value → List Value → IJ → Option α) (rt : Option Value → IJ → Option α) :
  blkS O none 2 T0 C_X8_copyFrom k_X8_copyFrom K rt f_X8_copyFrom 0 [.ref 39, .ref 56] [] (I, J) = rt none ((p_cp (p_cp (p_wr (p_wr I 39 0 (I 56 0)) 39 1 (I 56 1)) 57 40 0 0 10) 58 41 0 0 20), J) := rfl
set_option maxRecDepth 100000 in
set_option maxHeartbeats 4000000 in
theorem s_X8_copyFrom_39_59_0 {α : Type} (O : Ora) (I : Nat → Nat → Int32) (J : Nat → Nat → Int64) (K : Nat → List Value → List Value → IJ → Option α) (rt : Option Value → IJ → Option α) :
  blkS O none 2 T0 C_X8_copyFrom k_X8_copyFrom K rt f_X8_copyFrom 0 [.ref 39, .ref 59] [] (I, J) = rt none ((p_cp (p_cp (p_wr (p_wr I 39 0 (I 59 0)) 39 1 (I 59 1)) 60 40 0 0 10) 61 41 0 0 20), J) := rfl
set_option maxRecDepth 100000 in
set_option maxHeartbeats 4000000 in
theorem s_X8_copyFrom_39_62_0 {α : Type} (O : Ora) (I : Nat → Nat → Int32) (J : Nat → Nat → Int64) (K : Nat → List Value → List Value → IJ → Option α) (rt : Option Value → IJ → Option α) :
  blkS O none 2 T0 C_X8_copyFrom k_X8_copyFrom K rt f_X8_copyFrom 0 [.ref 39, .ref 62] [] (I, J) = rt none ((p_cp (p_cp (p_wr (p_wr I 39 0 (I 62 0)) 39 1 (I 62 1)) 63 40 0 0 10) 64 41 0 0 20), J) := rfl
set_option maxRecDepth 100000 in
set_option maxHeartbeats 4000000 in
theorem s_X8_copyFrom_39_65_0 {α : Type} (O : Ora) (I : Nat → Nat → Int32) (J : Nat → Nat → Int64) (K : Nat → List Value → List Value → IJ → Option α) (rt : Option Value → IJ → Option α) :
  blkS O none 2 T0 C_X8_copyFrom k_X8_copyFrom K rt f_X8_copyFrom 0 [.ref 39, .ref 65] [] (I, J) = rt none ((p_cp (p_cp (p_wr (p_wr I 39 0 (I 65 0)) 39 1 (I 65 1)) 66 40 0 0 10) 67 41 0 0 20), J) := rfl
set_option maxRecDepth 100000 in
set_option maxHeartbeats 4000000 in
theorem s_X8_copyFrom_39_68_0 {α : Type} (O : Ora) (I : Nat → Nat → Int32) (J : Nat → Nat → Int64) (K : Nat → List Value → List Value → IJ → Option α) (rt : Option Value → IJ → Option α) :
  blkS O none 2 T0 C_X8_copyFrom k_X8_copyFrom K rt f_X8_copyFrom 0 [.ref 39, .ref 68] [] (I, J) = rt none ((p_cp (p_cp (p_wr (p_wr I 39 0 (I 68 0)) 39 1 (I 68 1)) 69 40 0 0 10) 70 41 0 0 20), J) := rfl
set_option maxRecDepth 100000 in
set_option maxHeartbeats 4000000 in
theorem s_X8_copyFrom_39_71_0 {α : Type} (O : Ora) (I : Nat → Nat → Int32) (J : Nat → Nat → Int64) (K : Nat → List Value → List Value → IJ → Option α) (rt : Option Value → IJ → Option α) :
  blkS O none 2 T0 C_X8_copyFrom k_X8_copyFrom K rt f_X8_copyFrom 0 [.ref 39, .ref 71] [] (I, J) = rt none ((p_cp (p_cp (p_wr (p_wr I 39 0 (I 71 0)) 39 1 (I 71 1)) 72 40 0 0 10) 73 41 0 0 20), J) := rfl
set_option maxRecDepth 100000 in
set_option maxHeartbeats 4000000 in
theorem s_X8_copyFrom_39_74_0 {α : Type} (O : Ora) (I : Nat → Nat → Int32) (J : Nat → Nat → Int64) (K : Nat → List Value → List Value → IJ → Option α) (rt : Option Value → IJ → Option α) :
  blkS O none 2 T0 C_X8_copyFrom k_X8_copyFrom K rt f_X8_copyFrom 0 [.ref 39, .ref 74] [] (I, J) = rt none ((p_cp (p_cp (p_wr (p_wr I 39 0 (I 74 0)) 39 1 (I 74 1)) 75 40 0 0 10) 76 41 0 0 20), J) := rfl
set_option maxRecDepth 100000 in
set_option maxHeartbeats 4000000 in
theorem s_X8_copyFrom_39_77_0 {α : Type} (O : Ora) (I : Nat → Nat → Int32) (J : Nat → Nat → Int64) (K : Nat → List Value → List Value → IJ → Option α) (rt : Option Value → IJ → Option α) :
  blkS O none 2 T0 C_X8_copyFrom k_X8_copyFrom K rt f_X8_copyFrom 0 [.ref 39, .ref 77] [] (I, J) = rt none ((p_cp (p_cp (p_wr (p_wr I 39 0 (I 77 0)) 39 1 (I 77 1)) 78 40 0 0 10) 79 41 0 0 20), J) := rfl
set_option maxRecDepth 100000 in
set_option maxHeartbeats 4000000 in
theorem s_X8_copyFrom_39_80_0 {α : Type} (O : Ora) (I : Nat → Nat → Int32) (J : Nat → Nat → Int64) (K : Nat → List Value → List Value → IJ → Option α) (rt : Option Value → IJ → Option α) :
  blkS O none 2 T0 C_X8_copyFrom k_X8_copyFrom K rt f_X8_copyFrom 0 [.ref 39, .ref 80] [] (I, J) = rt none ((p_cp (p_cp (p_wr (p_wr I 39 0 (I 80 0)) 39 1 (I 80 1)) 81 40 0 0 10) 82 41 0 0 20), J) := rfl
set_option maxRecDepth 100000 in
set_option maxHeartbeats 4000000 in
theorem s_X8_copyFrom_39_83_0 {α : Type} (O : Ora) (I : Nat → Nat → Int32) (J : Nat → Nat → Int64) (K : Nat → List Value → List Value → IJ → Option α) (rt : Option Value → IJ → Option α) :
  blkS O none 2 T0 C_X8_copyFrom k_X8_copyFrom K rt f_X8_copyFrom 0 [.ref 39, .ref 83] [] (I, J) = rt none ((p_cp (p_cp (p_wr (p_wr I 39 0 (I 83 0)) 39 1 (I 83 1)) 84 40 0 0 10) 85 41 0 0 20), J) := rfl
set_option maxRecDepth 100000 in
set_option maxHeartbeats 4000000 in
theorem s_X8_copyFrom_39_86_0 {α : Type} (O : Ora) (I : Nat → Nat → Int32) (J : Nat → Nat → Int64) (K : Nat → List Value → List Value → IJ → Option α) (rt : Option Value → IJ → Option α) :
  blkS O none 2 T0 C_X8_copyFrom k_X8_copyFrom K rt f_X8_copyFrom 0 [.ref 39, .ref 86] [] (I, J) = rt none ((p_cp (p_cp (p_wr (p_wr I 39 0 (I 86 0)) 39 1 (I 86 1)) 87 40 0 0 10) 88 41 0 0 20), J) := rfl
set_option maxRecDepth 100000 in
set_option maxHeartbeats 4000000 in
theorem s_X8_copyFrom_39_89_0 {α : Type} (O : Ora) (I : Nat → Nat → Int32) (J : Nat → Nat → Int64) (K : Nat → List Value → List Value → IJ → Option α) (rt : Option Value → IJ → Option α) :
  blkS O none 2 T0 C_X8_copyFrom k_X8_copyFrom K rt f_X8_copyFrom 0 [.ref 39, .ref 89] [] (I, J) = rt none ((p_cp (p_cp (p_wr (p_wr I 39 0 (I 89 0)) 39 1 (I 89 1)) 90 40 0 0 10) 91 41 0 0 20), J) := rfl
set_option maxRecDepth 100000 in
set_option maxHeartbeats 4000000 in
theorem s_X8_copyFrom_39_92_0 {α : Type} (O : Ora) (I : Nat → Nat → Int32) (J : Nat → Nat → Int64) (K : Nat → List Value → List Value → IJ → Option α) (rt : Option Value → IJ → Option α) :
  blkS O none 2 T0 C_X8_copyFrom k_X8_copyFrom K rt f_X8_copyFrom 0 [.ref 39, .ref 92] [] (I, J) = rt none ((p_cp (p_cp (p_wr (p_wr I 39 0 (I 92 0)) 39 1 (I 92 1)) 93 40 0 0 10) 94 41 0 0 20), J) := rfl
set_option maxRecDepth 100000 in
set_option maxHeartbeats 4000000 in
theorem s_X8_copyFrom_39_95_0 {α : Type} (O : Ora) (I : Nat → Nat → Int32) (J : Nat → Nat → Int64) (K : Nat → List Value → List Value → IJ → Option α) (rt : Option Value → IJ → Option α) :
  blkS O none 2 T0 C_X8_copyFrom k_X8_copyFrom K rt f_X8_copyFrom 0 [.ref 39, .ref 95] [] (I, J) = rt none ((p_cp (p_cp (p_wr (p_wr I 39 0 (I 95 0)) 39 1 (I 95 1)) 96 40 0 0 10) 97 41 0 0 20), J) := rfl
set_option maxRecDepth 100000 in
set_option maxHeartbeats 4000000 in
theorem s_X8_copyFrom_39_98_0 {α : Type} (O : Ora) (I : Nat → Nat → Int32) (J : Nat → Nat → Int64) (K : Nat → List Value → List Value → IJ → Option α) (rt : Option Value → IJ → Option α) :
  blkS O none 2 T0 C_X8_copyFrom k_X8_copyFrom K rt f_X8_copyFrom 0 [.ref 39, .ref 98] [] (I, J) = rt none ((p_cp (p_cp (p_wr (p_wr I 39 0 (I 98 0)) 39 1 (I 98 1)) 99 40 0 0 10) 100 41 0 0 20), J) := rfl
set_option maxRecDepth 100000 in
set_option maxHeartbeats 4000000 in
theorem s_X8_copyFrom_39_101_0 {α : Type} (O : Ora) (I : Nat → Nat → Int32) (J : Nat → Nat → Int64) (K : Nat → List Value → List Value → IJ → Option α) (rt : Option Value → IJ → Option α) :
  blkS O none 2 T0 C_X8_copyFrom k_X8_copyFrom K rt f_X8_copyFrom 0 [.ref 39, .ref 101] [] (I, J) = rt none ((p_cp (p_cp (p_wr (p_wr I 39 0 (I 101 0)) 39 1 (I 101 1)) 102 40 0 0 10) 103 41 0 0 20), J) := rfl
set_option maxRecDepth 100000 in
set_option maxHeartbeats 4000000 in
theorem s_X8_copyFrom_39_104_0 {α : Type} (O : Ora) (I : Nat → Nat → Int32) (J : Nat → Nat → Int64) (K : Nat → List Value → List Value → IJ → Option α) (rt : Option Value → IJ → Option α) :
  blkS O none 2 T0 C_X8_copyFrom k_X8_copyFrom K rt f_X8_copyFrom 0 [.ref 39, .ref 104] [] (I, J) = rt none ((p_cp (p_cp (p_wr (p_wr I 39 0 (I 104 0)) 39 1 (I 104 1)) 105 40 0 0 10) 106 41 0 0 20), J) := rfl
set_option maxRecDepth 100000 in
set_option maxHeartbeats 4000000 in
theorem s_X8_copyFrom_39_107_0 {α : Type} (O : Ora) (I : Nat → Nat → Int32) (J : Nat → Nat → Int64) (K : Nat → List Value → List Value → IJ → Option α) (rt : Option Value → IJ → Option α) :
  blkS O none 2 T0 C_X8_copyFrom k_X8_copyFrom K rt f_X8_copyFrom 0 [.ref 39, .ref 107] [] (I, J) = rt none ((p_cp (p_cp (p_wr (p_wr I 39 0 (I 107 0)) 39 1 (I 107 1)) 108 40 0 0 10) 109 41 0 0 20), J) := rfl
set_option maxRecDepth 100000 in
set_option maxHeartbeats 4000000 in
theorem s_X8_copyFrom_39_110_0 {α : Type} (O : Ora) (I : Nat → Nat → Int32) (J : Nat → Nat → Int64) (K : Nat → List Value → List Value → IJ → Option α) (rt : Option Value → IJ → Option α) :
  blkS O none 2 T0 C_X8_copyFrom k_X8_copyFrom K rt f_X8_copyFrom 0 [.ref 39, .ref 110] [] (I, J) = rt none ((p_cp (p_cp (p_wr (p_wr I 39 0 (I 110 0)) 39 1 (I 110 1)) 111 40 0 0 10) 112 41 0 0 20), J) := rfl
set_option maxRecDepth 100000 in
set_option maxHeartbeats 4000000 in
theorem s_X8_copyFrom_39_113_0 {α : Type} (O : Ora) (I : Nat → Nat → Int32) (J : Nat → Nat → Int64) (K : Nat → List Value → List Value → IJ → Option α) (rt : Option Value → IJ → Option α) :
  blkS O none 2 T0 C_X8_copyFrom k_X8_copyFrom K rt f_X8_copyFrom 0 [.ref 39, .ref 113] [] (I, J) = rt none ((p_cp (p_cp (p_wr (p_wr I 39 0 (I 113 0)) 39 1 (I 113 1)) 114 40 0 0 10) 115 41 0 0 20), J) := rfl
set_option maxRecDepth 100000 in
set_option maxHeartbeats 4000000 in
theorem s_X8_copyFrom_39_116_0 {α : Type} (O : Ora) (I : Nat → Nat → Int32) (J : Nat → Nat → Int64) (K : Nat → List Value → List Value → IJ → Option α) (rt : Option Value → IJ → Option α) :
  blkS O none 2 T0 C_X8_copyFrom k_X8_copyFrom K rt f_X8_copyFrom 0 [.ref 39, .ref 116] [] (I, J) = rt none ((p_cp (p_cp (p_wr (p_wr I 39 0 (I 116 0)) 39 1 (I 116 1)) 117 40 0 0 10) 118 41 0 0 20), J) := rfl
set_option maxRecDepth 100000 in
set_option maxHeartbeats 4000000 in
theorem s_X8_copyFrom_39_119_0 {α : Type} (O : Ora) (I : Nat → Nat → Int32) (J : Nat → Nat → Int64) (K : Nat → List Value → List Value → IJ → Option α) (rt : Option Value → IJ → Option α) :
  blkS O none 2 T0 C_X8_copyFrom k_X8_copyFrom K rt f_X8_copyFrom 0 [.ref 39, .ref 119] [] (I, J) = rt none ((p_cp (p_cp (p_wr (p_wr I 39 0 (I 119 0)) 39 1 (I 119 1)) 120 40 0 0 10) 121 41 0 0 20), J) := rfl
set_option maxRecDepth 100000 in
set_option maxHeartbeats 4000000 in
theorem s_X8_copyFrom_39_122_0 {α : Type} (O : Ora) (I : Nat → Nat → Int32) (J : Nat → Nat → Int64) (K : Nat → List Value → List Value → IJ → Option α) (rt : Option Value → IJ → Option α) :
  blkS O none 2 T0 C_X8_copyFrom k_X8_copyFrom K rt f_X8_copyFrom 0 [.ref 39, .ref 122] [] (I, J) = rt none ((p_cp (p_cp (p_wr (p_wr I 39 0 (I 122 0)) 39 1 (I 122 1)) 123 40 0 0 10) 124 41 0 0 20), J) := rfl
set_option maxRecDepth 100000 in
set_option maxHeartbeats 4000000 in
theorem s_X8_copyFrom_39_125_0 {α : Type} (O : Ora) (I : Nat → Nat → Int32) (J : Nat → Nat → Int64) (K : Nat → List Value → List Value → IJ → Option α) (rt : Option Value → IJ → Option α) :
  blkS O none 2 T0 C_X8_copyFrom k_X8_copyFrom K rt f_X8_copyFrom 0 [.ref 39, .ref 125] [] (I, J) = rt none ((p_cp (p_cp (p_wr (p_wr I 39 0 (I 125 0)) 39 1 (I 125 1)) 126 40 0 0 10) 127 41 0 0 20), J) := rfl
set_option maxRecDepth 100000 in
set_option maxHeartbeats 4000000 in
theorem s_X8_copyFrom_39_128_0 {α : Type} (O : Ora) (I : Nat → Nat → Int32) (J : Nat → Nat → Int64) (K : Nat → List Value → List Value → IJ → Option α) (rt : Option Value → IJ → Option α) :
  blkS O none 2 T0 C_X8_copyFrom k_X8_copyFrom K rt f_X8_copyFrom 0 [.ref 39, .ref 128] [] (I, J) = rt none ((p_cp (p_cp (p_wr (p_wr I 39 0 (I 128 0)) 39 1 (I 128 1)) 129 40 0 0 10) 130 41 0 0 20), J) := rfl
set_option maxRecDepth 100000 in
set_option maxHeartbeats 4000000 in
theorem s_X8_copyFrom_39_131_0 {α : Type} (O : Ora) (I : Nat → Nat → Int32) (J : Nat → Nat → Int64) (K : Nat → List Value → List Value → IJ → Option α) (rt : Option Value → IJ → Option α) :
  blkS O none 2 T0 C_X8_copyFrom k_X8_copyFrom K rt f_X8_copyFrom 0 [.ref 39, .ref 131] [] (I, J) = rt none ((p_cp (p_cp (p_wr (p_wr I 39 0 (I 131 0)) 39 1 (I 131 1)) 132 40 0 0 10) 133 41 0 0 20), J) := rfl
set_option maxRecDepth 100000 in
set_option maxHeartbeats 4000000 in
theorem s_X8_copyFrom_39_134_0 {α : Type} (O : Ora) (I : Nat → Nat → Int32) (J : Nat → Nat → Int64) (K : Nat → List Value → List Value → IJ → Option α) (rt : Option Value → IJ → Option α) :
  blkS O none 2 T0 C_X8_copyFrom k_X8_copyFrom K rt f_X8_copyFrom 0 [.ref 39, .ref 134] [] (I, J) = rt none ((p_cp (p_cp (p_wr (p_wr I 39 0 (I 134 0)) 39 1 (I 134 1)) 135 40 0 0 10) 136 41 0 0 20), J) := rfl
set_option maxRecDepth 100000 in
set_option maxHeartbeats 4000000 in
theorem s_X8_copyFrom_39_137_0 {α : Type} (O : Ora) (I : Nat → Nat → Int32) (J : Nat → Nat → Int64) (K : Nat → List Value → List Value → IJ → Option α) (rt : Option Value → IJ → Option α) :
  blkS O none 2 T0 C_X8_copyFrom k_X8_copyFrom K rt f_X8_copyFrom 0 [.ref 39, .ref 137] [] (I, J) = rt none ((p_cp (p_cp (p_wr (p_wr I 39 0 (I 137 0)) 39 1 (I 137 1)) 138 40 0 0 10) 139 41 0 0 20), J) := rfl
set_option maxRecDepth 100000 in
set_option maxHeartbeats 4000000 in
theorem s_X8_copyFrom_39_140_0 {α : Type} (O : Ora) (I : Nat → Nat → Int32) (J : Nat → Nat → Int64) (K : Nat → List Value → List Value → IJ → Option α) (rt : Option Value → IJ → Option α) :
  blkS O none 2 T0 C_X8_copyFrom k_X8_copyFrom K rt f_X8_copyFrom 0 [.ref 39, .ref 140] [] (I, J) = rt none ((p_cp (p_cp (p_wr (p_wr I 39 0 (I 140 0)) 39 1 (I 140 1)) 141 40 0 0 10) 142 41 0 0 20), J) := rfl
set_option maxRecDepth 100000 in
set_option maxHeartbeats 4000000 in
theorem s_X8_copyFrom_39_143_0 {α : Type} (O : Ora) (I : Nat → Nat → Int32) (J : Nat → Nat → Int64) (K : Nat → List Value → List Value → IJ → Option α) (rt : Option Value → IJ → Option α) :
  blkS O none 2 T0 C_X8_copyFrom k_X8_copyFrom K rt f_X8_copyFrom 0 [.ref 39, .ref 143] [] (I, J) = rt none ((p_cp (p_cp (p_wr (p_wr I 39 0 (I 143 0)) 39 1 (I 143 1)) 144 40 0 0 10) 145 41 0 0 20), J) := rfl
set_option maxRecDepth 100000 in
set_option maxHeartbeats 4000000 in
theorem s_X8_copyFrom_39_146_0 {α : Type} (O : Ora) (I : Nat → Nat → Int32) (J : Nat → Nat → Int64) (K : Nat → List Value → List Value → IJ → Option α) (rt : Option Value → IJ → Option α) :
  blkS O none 2 T0 C_X8_copyFrom k_X8_copyFrom K rt f_X8_copyFrom 0 [.ref 39, .ref 146] [] (I, J) = rt none ((p_cp (p_cp (p_wr (p_wr I 39 0 (I 146 0)) 39 1 (I 146 1)) 147 40 0 0 10) 148 41 0 0 20), J) := rfl
set_option maxRecDepth 100000 in
set_option maxHeartbeats 4000000 in
theorem s_X8_copyFrom_39_149_0 {α : Type} (O : Ora) (I : Nat → Nat → Int32) (J : Nat → Nat → Int64) (K : Nat → List Value → List Value → IJ → Option α) (rt : Option Value → IJ → Option α) :
  blkS O none 2 T0 C_X8_copyFrom k_X8_copyFrom K rt f_X8_copyFrom 0 [.ref 39, .ref 149] [] (I, J) = rt none ((p_cp (p_cp (p_wr (p_wr I 39 0 (I 149 0)) 39 1 (I 149 1)) 150 40 0 0 10) 151 41 0 0 20), J) := rfl
set_option maxRecDepth 100000 in
set_option maxHeartbeats 4000000 in
theorem s_X8_copyFrom_39_152_0 {α : Type} (O : Ora) (I : Nat → Nat → Int32) (J : Nat → Nat → Int64) (K : Nat → List Value → List Value → IJ → Option α) (rt : Option Value → IJ → Option α) :
  blkS O none 2 T0 C_X8_copyFrom k_X8_copyFrom K rt f_X8_copyFrom 0 [.ref 39, .ref 152] [] (I, J) = rt none ((p_cp (p_cp (p_wr (p_wr I 39 0 (I 152 0)) 39 1 (I 152 1)) 153 40 0 0 10) 154 41 0 0 20), J) := rfl
set_option maxRecDepth 100000 in
set_option maxHeartbeats 4000000 in
theorem s_X8_copyFrom_39_155_0 {α : Type} (O : Ora) (I : Nat → Nat → Int32) (J : Nat → Nat → Int64) (K : Nat → List Value → List Value → IJ → Option α) (rt : Option Value → IJ → Option α) :
  blkS O none 2 T0 C_X8_copyFrom k_X8_copyFrom K rt f_X8_copyFrom 0 [.ref 39, .ref 155] [] (I, J) = rt none ((p_cp (p_cp (p_wr (p_wr I 39 0 (I 155 0)) 39 1 (I 155 1)) 156 40 0 0 10) 157 41 0 0 20), J) := rfl
set_option maxRecDepth 100000 in
set_option maxHeartbeats 4000000 in
theorem s_X8_copyFrom_39_158_0 {α : Type} (O : Ora) (I : Nat → Nat → Int32) (J : Nat → Nat → Int64) (K : Nat → List Value → List Value → IJ → Option α) (rt : Option Value → IJ → Option α) :
  blkS O none 2 T0 C_X8_copyFrom k_X8_copyFrom K rt f_X8_copyFrom 0 [.ref 39, .ref 158] [] (I, J) = rt none ((p_cp (p_cp (p_wr (p_wr I 39 0 (I 158 0)) 39 1 (I 158 1)) 159 40 0 0 10) 160 41 0 0 20), J) := rfl
set_option maxRecDepth 100000 in
set_option maxHeartbeats 4000000 in
theorem s_X8_copyFrom_39_161_0 {α : Type} (O : Ora) (I : Nat → Nat → Int32) (J : Nat → Nat → Int64) (K : Nat → List Value → List Value → IJ → Option α) (rt : Option Value → IJ → Option α) :
  blkS O none 2 T0 C_X8_copyFrom k_X8_copyFrom K rt f_X8_copyFrom 0 [.ref 39, .ref 161] [] (I, J) = rt none ((p_cp (p_cp (p_wr (p_wr I 39 0 (I 161 0)) 39 1 (I 161 1)) 162 40 0 0 10) 163 41 0 0 20), J) := rfl
set_option maxRecDepth 100000 in
set_option maxHeartbeats 4000000 in
theorem s_X8_copyFrom_39_164_0 {α : Type} (O : Ora) (I : Nat → Nat → Int32) (J : Nat → Nat → Int64) (K : Nat → List Value → List Value → IJ → Option α) (rt : Option Value → IJ → Option α) :
  blkS O none 2 T0 C_X8_copyFrom k_X8_copyFrom K rt f_X8_copyFrom 0 [.ref 39, .ref 164] [] (I, J) = rt none ((p_cp (p_cp (p_wr (p_wr I 39 0 (I 164 0)) 39 1 (I 164 1)) 165 40 0 0 10) 166 41 0 0 20), J) := rfl
def C_X8_cartField (pc : Nat) : Option PE := if pc < 11 then (if pc < 6 then (if pc < 4 then (if pc < 1 then (if pc = 0 then some ((.aload_n 0), 1, 0, 0, 0, []) else none) else (if pc = 1 then some ((.getfield 15), 4, 8, 3, 0, []) else none)) else (if pc < 5 then (if pc = 4 then some ((.iload_n 1), 5, 0, 0, 0, []) else none) else (if pc = 5 then some ((.iconst 5), 6, 0, 0, 5, []) else none))) else (if pc < 8 then (if pc < 7 then (if pc = 6 then some (.imul, 7, 0, 0, 0, []) else none) else (if pc = 7 then some ((.iload_n 2), 8, 0, 0, 0, []) else none)) else (if pc < 9 then (if pc = 8 then some (.iadd, 9, 0, 0, 0, []) else none) else (if pc < 10 then (if pc = 9 then some (.iaload, 10, 0, 0, 0, []) else none) else (if pc = 10 then some (.ireturn, 11, 0, 0, 0, []) else none))))) else none
set_option maxRecDepth 100000 in
theorem ck_X8_cartField : ∀ pc E, C_X8_cartField pc = some E → ckI 8 (mB 92) pc E = true := ck_tab (n := 11) (by decide +kernel) (fun pc h => by unfold C_X8_cartField; rw [if_neg h])
def k_X8_cartField (pc : Nat) : Option (List Bool) := none
abbrev f_X8_cartField : Nat := 9
set_option maxRecDepth 100000 in
set_option maxHeartbeats 4000000 in
theorem s_X8_cartField_39_0 {α : Type} (O : Ora) (I : Nat → Nat → Int32) (J : Nat → Nat → Int64) (K : Nat → List Value → List Value → IJ → Option α) (rt : Option Value → IJ → Option α) (a1 a2 : Int32) :
  blkS O none 3 T0 C_X8_cartField k_X8_cartField K rt f_X8_cartField 0 [.ref 39, .int a1, .int a2] [] (I, J) = p_chk (p_in ((a1 * 5) + a2) 20) (rt (some (.int (I 41 (((a1 * 5) + a2).toNatClampNeg)))) (I, J)) := rfl
set_option maxRecDepth 100000 in
set_option maxHeartbeats 4000000 in
theorem s_X8_cartField_42_0 {α : Type} (O : Ora) (I : Nat → Nat → Int32) (J : Nat → Nat → Int64) (K : Nat → List Value → List Value → IJ → Option α) (rt : Option Value → IJ → Option α) (a1 a2 : Int32) :
  blkS O none 3 T0 C_X8_cartField k_X8_cartField K rt f_X8_cartField 0 [.ref 42, .int a1, .int a2] [] (I, J) = p_chk (p_in ((a1 * 5) + a2) 20) (rt (some (.int (I 44 (((a1 * 5) + a2).toNatClampNeg)))) (I, J)) := rfl
def C_X8_setCartField (pc : Nat) : Option PE := if pc < 12 then (if pc < 7 then (if pc < 4 then (if pc < 1 then (if pc = 0 then some ((.aload_n 0), 1, 0, 0, 0, []) else none) else (if pc = 1 then some ((.getfield 15), 4, 8, 3, 0, []) else none)) else (if pc < 5 then (if pc = 4 then some ((.iload_n 1), 5, 0, 0, 0, []) else none) else (if pc < 6 then (if pc = 5 then some ((.iconst 5), 6, 0, 0, 5, []) else none) else (if pc = 6 then some (.imul, 7, 0, 0, 0, []) else none)))) else (if pc < 9 then (if pc < 8 then (if pc = 7 then some ((.iload_n 2), 8, 0, 0, 0, []) else none) else (if pc = 8 then some (.iadd, 9, 0, 0, 0, []) else none)) else (if pc < 10 then (if pc = 9 then some ((.iload_n 3), 10, 0, 0, 0, []) else none) else (if pc < 11 then (if pc = 10 then some (.iastore, 11, 0, 0, 0, []) else none) else (if pc = 11 then some (.return_, 12, 0, 0, 0, []) else none))))) else none
set_option maxRecDepth 100000 in
theorem ck_X8_setCartField : ∀ pc E, C_X8_setCartField pc = some E → ckI 8 (mB 93) pc E = true := ck_tab (n := 12) (by decide +kernel) (fun pc h => by unfold C_X8_setCartField; rw [if_neg h])
def k_X8_setCartField (pc : Nat) : Option (List Bool) := none
abbrev f_X8_setCartField : Nat := 10
set_option maxRecDepth 100000 in
set_option maxHeartbeats 4000000 in
theorem s_X8_setCartField_39_0 {α : Type} (O : Ora) (I : Nat → Nat → Int32) (J : Nat → Nat → Int64) (K : Nat → List Value → List Value → IJ → Option α) (rt : Option Value → IJ → Option α) (a1 a2 a3 : Int32) :
  blkS O none 4 T0 C_X8_setCartField k_X8_setCartField K rt f_X8_setCartField 0 [.ref 39, .int a1, .int a2, .int a3] [] (I, J) = p_chk (p_in ((a1 * 5) + a2) 20) (rt none ((p_wr I 41 (((a1 * 5) + a2).toNatClampNeg) a3), J)) := rfl
set_option maxRecDepth 100000 in
set_option maxHeartbeats 4000000 in
theorem s_X8_setCartField_42_0 {α : Type} (O : Ora) (I : Nat → Nat → Int32) (J : Nat → Nat → Int64) (K : Nat → List Value → List Value → IJ → Option α) (rt : Option Value → IJ → Option α) (a1 a2 a3 : Int32) :
  blkS O none 4 T0 C_X8_setCartField k_X8_setCartField K rt f_X8_setCartField 0 [.ref 42, .int a1, .int a2, .int a3] [] (I, J) = p_chk (p_in ((a1 * 5) + a2) 20) (rt none ((p_wr I 44 (((a1 * 5) + a2).toNatClampNeg) a3), J)) := rfl
def C_X8_addToCartField (pc : Nat) : Option PE := if pc < 15 then (if pc < 8 then (if pc < 5 then (if pc < 1 then (if pc = 0 then some ((.aload_n 0), 1, 0, 0, 0, []) else none) else (if pc < 4 then (if pc = 1 then some ((.getfield 15), 4, 8, 3, 0, []) else none) else (if pc = 4 then some ((.iload_n 1), 5, 0, 0, 0, []) else none))) else (if pc < 6 then (if pc = 5 then some ((.iconst 5), 6, 0, 0, 5, []) else none) else (if pc < 7 then (if pc = 6 then some (.imul, 7, 0, 0, 0, []) else none) else (if pc = 7 then some ((.iload_n 2), 8, 0, 0, 0, []) else none)))) else (if pc < 11 then (if pc < 9 then (if pc = 8 then some (.iadd, 9, 0, 0, 0, []) else none) else (if pc < 10 then (if pc = 9 then some (.dup2, 10, 0, 0, 0, []) else none) else (if pc = 10 then some (.iaload, 11, 0, 0, 0, []) else none))) else (if pc < 13 then (if pc < 12 then (if pc = 11 then some ((.iload_n 3), 12, 0, 0, 0, []) else none) else (if pc = 12 then some (.iadd, 13, 0, 0, 0, []) else none)) else (if pc < 14 then (if pc = 13 then some (.iastore, 14, 0, 0, 0, []) else none) else (if pc = 14 then some (.return_, 15, 0, 0, 0, []) else none))))) else none
set_option maxRecDepth 100000 in
theorem ck_X8_addToCartField : ∀ pc E, C_X8_addToCartField pc = some E → ckI 8 (mB 94) pc E = true := ck_tab (n := 15) (by decide +kernel) (fun pc h => by unfold C_X8_addToCartField; rw [if_neg h])
def k_X8_addToCartField (pc : Nat) : Option (List Bool) := none
abbrev f_X8_addToCartField : Nat := 13
set_option maxRecDepth 100000 in
set_option maxHeartbeats 4000000 in
theorem s_X8_addToCartField_39_0 {α : Type} (O : Ora) (I : Nat → Nat → Int32) (J : Nat → Nat → Int64) (K : Nat → List Value → List Value → IJ → Option α) (rt : Option Value → IJ → Option α) (a1 a2 a3 : Int32) :
  blkS O none 4 T0 C_X8_addToCartField k_X8_addToCartField K rt f_X8_addToCartField 0 [.ref 39, .int a1, .int a2, .int a3] [] (I, J) = p_chk (p_in ((a1 * 5) + a2) 20) (p_chk (p_in ((a1 * 5) + a2) 20) (rt none ((p_wr I 41 (((a1 * 5) + a2).toNatClampNeg) ((I 41 (((a1 * 5) + a2).toNatClampNeg)) + a3)), J))) := rfl
set_option maxRecDepth 100000 in
set_option maxHeartbeats 4000000 in
theorem s_X8_addToCartField_42_0 {α : Type} (O : Ora) (I : Nat → Nat → Int32) (J : Nat → Nat → Int64) (K : Nat → List Value → List Value → IJ → Option α) (rt : Option Value → IJ → Option α) (a1 a2 a3 : Int32) :
  blkS O none 4 T0 C_X8_addToCartField k_X8_addToCartField K rt f_X8_addToCartField 0 [.ref 42, .int a1, .int a2, .int a3] [] (I, J) = p_chk (p_in ((a1 * 5) + a2) 20) (p_chk (p_in ((a1 * 5) + a2) 20) (rt none ((p_wr I 44 (((a1 * 5) + a2).toNatClampNeg) ((I 44 (((a1 * 5) + a2).toNatClampNeg)) + a3)), J))) := rfl
def C_X8_isOnRoad (pc : Nat) : Option PE := if pc < 15 then (if pc < 6 then (if pc < 2 then (if pc < 1 then (if pc = 0 then some ((.aload_n 0), 1, 0, 0, 0, []) else none) else (if pc = 1 then some ((.iload_n 1), 2, 0, 0, 0, []) else none)) else (if pc < 3 then (if pc = 2 then some ((.iconst 1), 3, 0, 0, 1, []) else none) else (if pc = 3 then some ((.invokevirtual 50), 6, 92, 3, 0, [1, 8]) else none))) else (if pc < 10 then (if pc < 9 then (if pc = 6 then some ((.ifCond .eq 7), 9, 13, 0, 0, []) else none) else (if pc = 9 then some ((.iconst 1), 10, 0, 0, 1, []) else none)) else (if pc < 13 then (if pc = 10 then some ((.goto 4), 13, 14, 0, 0, []) else none) else (if pc < 14 then (if pc = 13 then some ((.iconst 0), 14, 0, 0, 0, []) else none) else (if pc = 14 then some (.ireturn, 15, 0, 0, 0, []) else none))))) else none
set_option maxRecDepth 100000 in
theorem ck_X8_isOnRoad : ∀ pc E, C_X8_isOnRoad pc = some E → ckI 8 (mB 95) pc E = true := ck_tab (n := 15) (by decide +kernel) (fun pc h => by unfold C_X8_isOnRoad; rw [if_neg h])
def k_X8_isOnRoad (pc : Nat) : Option (List Bool) := none
abbrev f_X8_isOnRoad : Nat := 8
set_option maxRecDepth 100000 in
set_option maxHeartbeats 4000000 in
theorem s_X8_isOnRoad_39_0 {α : Type} (O : Ora) (I : Nat → Nat → Int32) (J : Nat → Nat → Int64) (K : Nat → List Value → List Value → IJ → Option α) (rt : Option Value → IJ → Option α) (a1 : Int32) :
  blkS O none 2 T0 C_X8_isOnRoad k_X8_isOnRoad K rt f_X8_isOnRoad 0 [.ref 39, .int a1] [] (I, J) = p_ci (O T0 92 [.ref 39, .int a1, .int 1] (I, J)) (fun v2 z1 => if v2 = 0 then (rt (some (.int 0)) z1) else (rt (some (.int 1)) z1)) := rfl
set_option maxRecDepth 100000 in
set_option maxHeartbeats 4000000 in
theorem s_X8_isOnRoad_42_0 {α : Type} (O : Ora) (I : Nat → Nat → Int32) (J : Nat → Nat → Int64) (K : Nat → List Value → List Value → IJ → Option α) (rt : Option Value → IJ → Option α) (a1 : Int32) :
  blkS O none 2 T0 C_X8_isOnRoad k_X8_isOnRoad K rt f_X8_isOnRoad 0 [.ref 42, .int a1] [] (I, J) = p_ci (O T0 92 [.ref 42, .int a1, .int 1] (I, J)) (fun v2 z1 => if v2 = 0 then (rt (some (.int 0)) z1) else (rt (some (.int 1)) z1)) := rfl
def C_X8_wholeSeams (pc : Nat) : Option PE := if pc < 35 then (if pc < 17 then (if pc < 5 then (if pc < 2 then (if pc < 1 then (if pc = 0 then some ((.iconst 0), 1, 0, 0, 0, []) else none) else (if pc = 1 then some ((.istore_n 2), 2, 0, 0, 0, []) else none)) else (if pc < 3 then (if pc = 2 then some ((.iconst 0), 3, 0, 0, 0, []) else none) else (if pc < 4 then (if pc = 3 then some ((.istore_n 3), 4, 0, 0, 0, []) else none) else (if pc = 4 then some ((.iload_n 3), 5, 0, 0, 0, []) else none)))) else (if pc < 12 then (if pc < 6 then (if pc = 5 then some ((.aload_n 1), 6, 0, 0, 0, []) else none) else (if pc < 9 then (if pc = 6 then some ((.getfield 54), 9, 3, 1, 0, []) else none) else (if pc = 9 then some ((.if_icmp .ge 24), 12, 33, 0, 0, []) else none))) else (if pc < 13 then (if pc = 12 then some ((.aload_n 0), 13, 0, 0, 0, []) else none) else (if pc < 16 then (if pc = 13 then some ((.getfield 9), 16, 8, 2, 0, []) else none) else (if pc = 16 then some ((.iload_n 3), 17, 0, 0, 0, []) else none))))) else (if pc < 25 then (if pc < 22 then (if pc < 18 then (if pc = 17 then some (.iaload, 18, 0, 0, 0, []) else none) else (if pc < 21 then (if pc = 18 then some ((.ifCond .le 9), 21, 27, 0, 0, []) else none) else (if pc = 21 then some ((.iload_n 2), 22, 0, 0, 0, []) else none))) else (if pc < 23 then (if pc = 22 then some ((.iconst 1), 23, 0, 0, 1, []) else none) else (if pc < 24 then (if pc = 23 then some ((.iload_n 3), 24, 0, 0, 0, []) else none) else (if pc = 24 then some (.ishl, 25, 0, 0, 0, []) else none)))) else (if pc < 30 then (if pc < 26 then (if pc = 25 then some (.ior, 26, 0, 0, 0, []) else none) else (if pc < 27 then (if pc = 26 then some ((.istore_n 2), 27, 0, 0, 0, []) else none) else (if pc = 27 then some ((.iinc 3 1), 30, 0, 0, 1, []) else none))) else (if pc < 33 then (if pc = 30 then some ((.goto (-26)), 33, 4, 0, 0, []) else none) else (if pc < 34 then (if pc = 33 then some ((.iload_n 2), 34, 0, 0, 0, []) else none) else (if pc = 34 then some (.ireturn, 35, 0, 0, 0, []) else none)))))) else none
set_option maxRecDepth 100000 in
theorem ck_X8_wholeSeams : ∀ pc E, C_X8_wholeSeams pc = some E → ckI 8 (mB 96) pc E = true := ck_tab (n := 35) (by decide +kernel) (fun pc h => by unfold C_X8_wholeSeams; rw [if_neg h])
def k_X8_wholeSeams (pc : Nat) : Option (List Bool) := if pc = 4 then some [true, true, true, true] else none
abbrev f_X8_wholeSeams : Nat := 17
set_option maxRecDepth 100000 in
set_option maxHeartbeats 4000000 in
theorem s_X8_wholeSeams_39_0 {α : Type} (O : Ora) (I : Nat → Nat → Int32) (J : Nat → Nat → Int64) (K : Nat → List Value → List Value → IJ → Option α) (rt : Option Value → IJ → Option α) :
  blkS O none 4 T0 C_X8_wholeSeams k_X8_wholeSeams K rt f_X8_wholeSeams 0 [.ref 39, .ref 25, un, un] [] (I, J) = K 4 [.ref 39, .ref 25, .int 0, .int 0] [] (I, J) := rfl
set_option maxRecDepth 100000 in
set_option maxHeartbeats 4000000 in
theorem s_X8_wholeSeams_39_4 {α : Type} (O : Ora) (I : Nat → Nat → Int32) (J : Nat → Nat → Int64) (K : Nat → List Value → List Value → IJ → Option α) (rt : Option Value → IJ → Option α) (x2 x3 : Int32) :
  blkS O none 4 T0 C_X8_wholeSeams k_X8_wholeSeams K rt f_X8_wholeSeams 4 [.ref 39, .ref 25, .int x2, .int x3] [] (I, J) = if (I 25 1) ≤ x3 then (rt (some (.int x2)) (I, J)) else (p_chk (p_in x3 10) (if (I 40 x3.toNatClampNeg) ≤ 0 then (K 4 [.ref 39, .ref 25, .int x2, .int (x3 + 1)] [] (I, J)) else (K 4 [.ref 39, .ref 25, .int (x2 ||| (1 <<< (x3 &&& 31))), .int (x3 + 1)] [] (I, J)))) := rfl
set_option maxRecDepth 100000 in
set_option maxHeartbeats 4000000 in
theorem s_X8_wholeSeams_42_0 {α : Type} (O : Ora) (I : Nat → Nat → Int32) (J : Nat → Nat → Int64) (K : Nat → List Value → List Value → IJ → Option α) (rt : Option Value → IJ → Option α) :
  blkS O none 4 T0 C_X8_wholeSeams k_X8_wholeSeams K rt f_X8_wholeSeams 0 [.ref 42, .ref 25, un, un] [] (I, J) = K 4 [.ref 42, .ref 25, .int 0, .int 0] [] (I, J) := rfl
set_option maxRecDepth 100000 in
set_option maxHeartbeats 4000000 in
theorem s_X8_wholeSeams_42_4 {α : Type} (O : Ora) (I : Nat → Nat → Int32) (J : Nat → Nat → Int64) (K : Nat → List Value → List Value → IJ → Option α) (rt : Option Value → IJ → Option α) (x2 x3 : Int32) :
  blkS O none 4 T0 C_X8_wholeSeams k_X8_wholeSeams K rt f_X8_wholeSeams 4 [.ref 42, .ref 25, .int x2, .int x3] [] (I, J) = if (I 25 1) ≤ x3 then (rt (some (.int x2)) (I, J)) else (p_chk (p_in x3 10) (if (I 43 x3.toNatClampNeg) ≤ 0 then (K 4 [.ref 42, .ref 25, .int x2, .int (x3 + 1)] [] (I, J)) else (K 4 [.ref 42, .ref 25, .int (x2 ||| (1 <<< (x3 &&& 31))), .int (x3 + 1)] [] (I, J)))) := rfl
def C_X8_cartsOnRoad (pc : Nat) : Option PE := if pc < 34 then (if pc < 17 then (if pc < 5 then (if pc < 2 then (if pc < 1 then (if pc = 0 then some ((.iconst 0), 1, 0, 0, 0, []) else none) else (if pc = 1 then some ((.istore_n 2), 2, 0, 0, 0, []) else none)) else (if pc < 3 then (if pc = 2 then some ((.iconst 0), 3, 0, 0, 0, []) else none) else (if pc < 4 then (if pc = 3 then some ((.istore_n 3), 4, 0, 0, 0, []) else none) else (if pc = 4 then some ((.iload_n 3), 5, 0, 0, 0, []) else none)))) else (if pc < 12 then (if pc < 6 then (if pc = 5 then some ((.aload_n 1), 6, 0, 0, 0, []) else none) else (if pc < 9 then (if pc = 6 then some ((.getfield 41), 9, 3, 3, 0, []) else none) else (if pc = 9 then some ((.if_icmp .ge 23), 12, 32, 0, 0, []) else none))) else (if pc < 13 then (if pc = 12 then some ((.aload_n 0), 13, 0, 0, 0, []) else none) else (if pc < 14 then (if pc = 13 then some ((.iload_n 3), 14, 0, 0, 0, []) else none) else (if pc = 14 then some ((.invokevirtual 57), 17, 95, 2, 0, [1, 8]) else none))))) else (if pc < 24 then (if pc < 21 then (if pc < 20 then (if pc = 17 then some ((.ifCond .eq 9), 20, 26, 0, 0, []) else none) else (if pc = 20 then some ((.iload_n 2), 21, 0, 0, 0, []) else none)) else (if pc < 22 then (if pc = 21 then some ((.iconst 1), 22, 0, 0, 1, []) else none) else (if pc < 23 then (if pc = 22 then some ((.iload_n 3), 23, 0, 0, 0, []) else none) else (if pc = 23 then some (.ishl, 24, 0, 0, 0, []) else none)))) else (if pc < 29 then (if pc < 25 then (if pc = 24 then some (.ior, 25, 0, 0, 0, []) else none) else (if pc < 26 then (if pc = 25 then some ((.istore_n 2), 26, 0, 0, 0, []) else none) else (if pc = 26 then some ((.iinc 3 1), 29, 0, 0, 1, []) else none))) else (if pc < 32 then (if pc = 29 then some ((.goto (-25)), 32, 4, 0, 0, []) else none) else (if pc < 33 then (if pc = 32 then some ((.iload_n 2), 33, 0, 0, 0, []) else none) else (if pc = 33 then some (.ireturn, 34, 0, 0, 0, []) else none)))))) else none
set_option maxRecDepth 100000 in
theorem ck_X8_cartsOnRoad : ∀ pc E, C_X8_cartsOnRoad pc = some E → ckI 8 (mB 97) pc E = true := ck_tab (n := 34) (by decide +kernel) (fun pc h => by unfold C_X8_cartsOnRoad; rw [if_neg h])
def k_X8_cartsOnRoad (pc : Nat) : Option (List Bool) := if pc = 4 then some [true, true, true, true] else none
abbrev f_X8_cartsOnRoad : Nat := 16
set_option maxRecDepth 100000 in
set_option maxHeartbeats 4000000 in
theorem s_X8_cartsOnRoad_39_0 {α : Type} (O : Ora) (I : Nat → Nat → Int32) (J : Nat → Nat → Int64) (K : Nat → List Value → List Value → IJ → Option α) (rt : Option Value → IJ → Option α) :
  blkS O none 4 T0 C_X8_cartsOnRoad k_X8_cartsOnRoad K rt f_X8_cartsOnRoad 0 [.ref 39, .ref 25, un, un] [] (I, J) = K 4 [.ref 39, .ref 25, .int 0, .int 0] [] (I, J) := rfl
set_option maxRecDepth 100000 in
set_option maxHeartbeats 4000000 in
theorem s_X8_cartsOnRoad_39_4 {α : Type} (O : Ora) (I : Nat → Nat → Int32) (J : Nat → Nat → Int64) (K : Nat → List Value → List Value → IJ → Option α) (rt : Option Value → IJ → Option α) (x2 x3 : Int32) :
  blkS O none 4 T0 C_X8_cartsOnRoad k_X8_cartsOnRoad K rt f_X8_cartsOnRoad 4 [.ref 39, .ref 25, .int x2, .int x3] [] (I, J) = if (I 25 3) ≤ x3 then (rt (some (.int x2)) (I, J)) else (p_ci (O T0 95 [.ref 39, .int x3] (I, J)) (fun v2 z1 => if v2 = 0 then (K 4 [.ref 39, .ref 25, .int x2, .int (x3 + 1)] [] z1) else (K 4 [.ref 39, .ref 25, .int (x2 ||| (1 <<< (x3 &&& 31))), .int (x3 + 1)] [] z1))) := rfl
set_option maxRecDepth 100000 in
set_option maxHeartbeats 4000000 in
theorem s_X8_cartsOnRoad_42_0 {α : Type} (O : Ora) (I : Nat → Nat → Int32) (J : Nat → Nat → Int64) (K : Nat → List Value → List Value → IJ → Option α) (rt : Option Value → IJ → Option α) :
  blkS O none 4 T0 C_X8_cartsOnRoad k_X8_cartsOnRoad K rt f_X8_cartsOnRoad 0 [.ref 42, .ref 25, un, un] [] (I, J) = K 4 [.ref 42, .ref 25, .int 0, .int 0] [] (I, J) := rfl
set_option maxRecDepth 100000 in
set_option maxHeartbeats 4000000 in
theorem s_X8_cartsOnRoad_42_4 {α : Type} (O : Ora) (I : Nat → Nat → Int32) (J : Nat → Nat → Int64) (K : Nat → List Value → List Value → IJ → Option α) (rt : Option Value → IJ → Option α) (x2 x3 : Int32) :
  blkS O none 4 T0 C_X8_cartsOnRoad k_X8_cartsOnRoad K rt f_X8_cartsOnRoad 4 [.ref 42, .ref 25, .int x2, .int x3] [] (I, J) = if (I 25 3) ≤ x3 then (rt (some (.int x2)) (I, J)) else (p_ci (O T0 95 [.ref 42, .int x3] (I, J)) (fun v2 z1 => if v2 = 0 then (K 4 [.ref 42, .ref 25, .int x2, .int (x3 + 1)] [] z1) else (K 4 [.ref 42, .ref 25, .int (x2 ||| (1 <<< (x3 &&& 31))), .int (x3 + 1)] [] z1))) := rfl
def C_X8_sewnTogether (pc : Nat) : Option PE := if pc < 29 then (if pc < 13 then (if pc < 4 then (if pc < 2 then (if pc < 1 then (if pc = 0 then some ((.iconst 0), 1, 0, 0, 0, []) else none) else (if pc = 1 then some ((.istore_n 2), 2, 0, 0, 0, []) else none)) else (if pc < 3 then (if pc = 2 then some ((.iconst 0), 3, 0, 0, 0, []) else none) else (if pc = 3 then some ((.istore_n 3), 4, 0, 0, 0, []) else none))) else (if pc < 6 then (if pc < 5 then (if pc = 4 then some ((.iload_n 3), 5, 0, 0, 0, []) else none) else (if pc = 5 then some ((.aload_n 1), 6, 0, 0, 0, []) else none)) else (if pc < 9 then (if pc = 6 then some ((.getfield 54), 9, 3, 1, 0, []) else none) else (if pc < 12 then (if pc = 9 then some ((.if_icmp .ge 18), 12, 27, 0, 0, []) else none) else (if pc = 12 then some ((.iload_n 2), 13, 0, 0, 0, []) else none))))) else (if pc < 20 then (if pc < 17 then (if pc < 14 then (if pc = 13 then some ((.aload_n 0), 14, 0, 0, 0, []) else none) else (if pc = 14 then some ((.getfield 9), 17, 8, 2, 0, []) else none)) else (if pc < 18 then (if pc = 17 then some ((.iload_n 3), 18, 0, 0, 0, []) else none) else (if pc < 19 then (if pc = 18 then some (.iaload, 19, 0, 0, 0, []) else none) else (if pc = 19 then some (.iadd, 20, 0, 0, 0, []) else none)))) else (if pc < 24 then (if pc < 21 then (if pc = 20 then some ((.istore_n 2), 21, 0, 0, 0, []) else none) else (if pc = 21 then some ((.iinc 3 1), 24, 0, 0, 1, []) else none)) else (if pc < 27 then (if pc = 24 then some ((.goto (-20)), 27, 4, 0, 0, []) else none) else (if pc < 28 then (if pc = 27 then some ((.iload_n 2), 28, 0, 0, 0, []) else none) else (if pc = 28 then some (.ireturn, 29, 0, 0, 0, []) else none)))))) else none
set_option maxRecDepth 100000 in
theorem ck_X8_sewnTogether : ∀ pc E, C_X8_sewnTogether pc = some E → ckI 8 (mB 98) pc E = true := ck_tab (n := 29) (by decide +kernel) (fun pc h => by unfold C_X8_sewnTogether; rw [if_neg h])
def k_X8_sewnTogether (pc : Nat) : Option (List Bool) := if pc = 4 then some [true, true, true, true] else none
abbrev f_X8_sewnTogether : Nat := 13
set_option maxRecDepth 100000 in
set_option maxHeartbeats 4000000 in
theorem s_X8_sewnTogether_0 {α : Type} (O : Ora) (I : Nat → Nat → Int32) (J : Nat → Nat → Int64) (K : Nat → List Value → List Value → IJ → Option α) (rt : Option Value → IJ → Option α) :
  blkS O none 4 T0 C_X8_sewnTogether k_X8_sewnTogether K rt f_X8_sewnTogether 0 [.ref 39, .ref 25, un, un] [] (I, J) = K 4 [.ref 39, .ref 25, .int 0, .int 0] [] (I, J) := rfl
set_option maxRecDepth 100000 in
set_option maxHeartbeats 4000000 in
theorem s_X8_sewnTogether_4 {α : Type} (O : Ora) (I : Nat → Nat → Int32) (J : Nat → Nat → Int64) (K : Nat → List Value → List Value → IJ → Option α) (rt : Option Value → IJ → Option α) (x2 x3 : Int32) :
  blkS O none 4 T0 C_X8_sewnTogether k_X8_sewnTogether K rt f_X8_sewnTogether 4 [.ref 39, .ref 25, .int x2, .int x3] [] (I, J) = if (I 25 1) ≤ x3 then (rt (some (.int x2)) (I, J)) else (p_chk (p_in x3 10) (K 4 [.ref 39, .ref 25, .int (x2 + (I 40 x3.toNatClampNeg)), .int (x3 + 1)] [] (I, J))) := rfl
def C_X8_evenLevel (pc : Nat) : Option PE := if pc < 62 then (if pc < 30 then (if pc < 13 then (if pc < 7 then (if pc < 3 then (if pc < 2 then (if pc = 0 then some ((.bipush 99), 2, 0, 0, 99, []) else none) else (if pc = 2 then some ((.istore_n 3), 3, 0, 0, 0, []) else none)) else (if pc < 4 then (if pc = 3 then some ((.iload_n 3), 4, 0, 0, 0, []) else none) else (if pc = 4 then some ((.ifCond .le 56), 7, 60, 0, 0, []) else none))) else (if pc < 10 then (if pc < 8 then (if pc = 7 then some ((.iconst 0), 8, 0, 0, 0, []) else none) else (if pc = 8 then some ((.istore 4), 10, 0, 0, 0, []) else none)) else (if pc < 11 then (if pc = 10 then some ((.iconst 0), 11, 0, 0, 0, []) else none) else (if pc = 11 then some ((.istore 5), 13, 0, 0, 0, []) else none)))) else (if pc < 22 then (if pc < 16 then (if pc < 15 then (if pc = 13 then some ((.iload 5), 15, 0, 0, 0, []) else none) else (if pc = 15 then some ((.aload_n 1), 16, 0, 0, 0, []) else none)) else (if pc < 19 then (if pc = 16 then some ((.getfield 54), 19, 3, 1, 0, []) else none) else (if pc = 19 then some ((.if_icmp .ge 27), 22, 46, 0, 0, []) else none))) else (if pc < 25 then (if pc < 24 then (if pc = 22 then some ((.iload 4), 24, 0, 0, 0, []) else none) else (if pc = 24 then some ((.iconst 0), 25, 0, 0, 0, []) else none)) else (if pc < 26 then (if pc = 25 then some ((.iload_n 3), 26, 0, 0, 0, []) else none) else (if pc < 27 then (if pc = 26 then some ((.aload_n 0), 27, 0, 0, 0, []) else none) else (if pc = 27 then some ((.getfield 9), 30, 8, 2, 0, []) else none)))))) else (if pc < 46 then (if pc < 37 then (if pc < 33 then (if pc < 32 then (if pc = 30 then some ((.iload 5), 32, 0, 0, 0, []) else none) else (if pc = 32 then some (.iaload, 33, 0, 0, 0, []) else none)) else (if pc < 34 then (if pc = 33 then some (.isub, 34, 0, 0, 0, []) else none) else (if pc = 34 then some ((.invokestatic 61), 37, 9000, 0, 0, [1, 1]) else none))) else (if pc < 40 then (if pc < 38 then (if pc = 37 then some (.iadd, 38, 0, 0, 0, []) else none) else (if pc = 38 then some ((.istore 4), 40, 0, 0, 0, []) else none)) else (if pc < 43 then (if pc = 40 then some ((.iinc 5 1), 43, 0, 0, 1, []) else none) else (if pc = 43 then some ((.goto (-30)), 46, 13, 0, 0, []) else none)))) else (if pc < 53 then (if pc < 49 then (if pc < 48 then (if pc = 46 then some ((.iload 4), 48, 0, 0, 0, []) else none) else (if pc = 48 then some ((.iload_n 2), 49, 0, 0, 0, []) else none)) else (if pc < 52 then (if pc = 49 then some ((.if_icmp .gt 5), 52, 54, 0, 0, []) else none) else (if pc = 52 then some ((.iload_n 3), 53, 0, 0, 0, []) else none))) else (if pc < 57 then (if pc < 54 then (if pc = 53 then some (.ireturn, 54, 0, 0, 0, []) else none) else (if pc = 54 then some ((.iinc 3 (-1)), 57, 0, 0, (-1), []) else none)) else (if pc < 60 then (if pc = 57 then some ((.goto (-54)), 60, 3, 0, 0, []) else none) else (if pc < 61 then (if pc = 60 then some ((.iconst 0), 61, 0, 0, 0, []) else none) else (if pc = 61 then some (.ireturn, 62, 0, 0, 0, []) else none))))))) else none
set_option maxRecDepth 100000 in
theorem ck_X8_evenLevel : ∀ pc E, C_X8_evenLevel pc = some E → ckI 8 (mB 99) pc E = true := ck_tab (n := 62) (by decide +kernel) (fun pc h => by unfold C_X8_evenLevel; rw [if_neg h])
def k_X8_evenLevel (pc : Nat) : Option (List Bool) := if pc = 3 then some [true, true, true, true, false, false] else if pc = 13 then some [true, true, true, true, true, true] else none
abbrev f_X8_evenLevel : Nat := 17
set_option maxRecDepth 100000 in
set_option maxHeartbeats 4000000 in
theorem s_X8_evenLevel_0 {α : Type} (O : Ora) (I : Nat → Nat → Int32) (J : Nat → Nat → Int64) (K : Nat → List Value → List Value → IJ → Option α) (rt : Option Value → IJ → Option α) (a2 : Int32) :
  blkS O none 6 T0 C_X8_evenLevel k_X8_evenLevel K rt f_X8_evenLevel 0 [.ref 39, .ref 25, .int a2, un, un, un] [] (I, J) = K 3 [.ref 39, .ref 25, .int a2, .int 99, un, un] [] (I, J) := rfl
set_option maxRecDepth 100000 in
set_option maxHeartbeats 4000000 in
theorem s_X8_evenLevel_3 {α : Type} (O : Ora) (I : Nat → Nat → Int32) (J : Nat → Nat → Int64) (K : Nat → List Value → List Value → IJ → Option α) (rt : Option Value → IJ → Option α) (x2 x3 : Int32) :
  blkS O none 6 T0 C_X8_evenLevel k_X8_evenLevel K rt f_X8_evenLevel 3 [.ref 39, .ref 25, .int x2, .int x3, un, un] [] (I, J) = if x3 ≤ 0 then (rt (some (.int 0)) (I, J)) else (K 13 [.ref 39, .ref 25, .int x2, .int x3, .int 0, .int 0] [] (I, J)) := rfl
set_option maxRecDepth 100000 in
set_option maxHeartbeats 4000000 in
theorem s_X8_evenLevel_13 {α : Type} (O : Ora) (I : Nat → Nat → Int32) (J : Nat → Nat → Int64) (K : Nat → List Value → List Value → IJ → Option α) (rt : Option Value → IJ → Option α) (x2 x3 x4 x5 : Int32) :
  blkS O none 6 T0 C_X8_evenLevel k_X8_evenLevel K rt f_X8_evenLevel 13 [.ref 39, .ref 25, .int x2, .int x3, .int x4, .int x5] [] (I, J) = if (I 25 1) ≤ x5 then (if x2 < x4 then (K 3 [.ref 39, .ref 25, .int x2, .int (x3 + (-1)), un, un] [] (I, J)) else (rt (some (.int x3)) (I, J))) else (p_chk (p_in x5 10) (K 13 [.ref 39, .ref 25, .int x2, .int x3, .int (x4 + (if (0 : Int32) < (x3 - (I 40 x5.toNatClampNeg)) then (x3 - (I 40 x5.toNatClampNeg)) else 0)), .int (x5 + 1)] [] (I, J))) := rfl
end
