section
-- ===== PART A: goes FIRST, ahead of the names: the tables' words, and 'selects' of the private methods out of them =====
/-- a private method of a class that the tables say can be made, by its rows of tables_1 -/
def lw_okq (q : MethodName × Nat) : Prop := (q.1.cls ≠ "java/lang/invoke/MethodHandle" ∧ q.1.cls ≠ "java/lang/invoke/VarHandle") ∧ Cond.instantiable q.1.cls q.2 ∈ tables_1 ∧ Cond.privateMethod q.1 ∈ tables_1 ∧ Cond.instanceMethod q.1 ∈ tables_1
theorem lw_p0 : lw_okq (⟨"SewnRoads$Laws", "addDefault", "(III)V"⟩, 4) := ⟨⟨by decide +kernel, by decide +kernel⟩, List.mem_of_getElem? (i := 60) (by decide +kernel), List.mem_of_getElem? (i := 70) (by decide +kernel), List.mem_of_getElem? (i := 71) (by decide +kernel)⟩
theorem lw_p1 : lw_okq (⟨"SewnRoads$Tokens", "scanOne", "(LSewnRoads$Tape;I)I"⟩, 5) := ⟨⟨by decide +kernel, by decide +kernel⟩, List.mem_of_getElem? (i := 197) (by decide +kernel), List.mem_of_getElem? (i := 542) (by decide +kernel), List.mem_of_getElem? (i := 543) (by decide +kernel)⟩
theorem lw_p2 : lw_okq (⟨"SewnRoads$Tokens", "scanLetters", "(LSewnRoads$Tape;I)I"⟩, 5) := ⟨⟨by decide +kernel, by decide +kernel⟩, List.mem_of_getElem? (i := 197) (by decide +kernel), List.mem_of_getElem? (i := 549) (by decide +kernel), List.mem_of_getElem? (i := 550) (by decide +kernel)⟩
theorem lw_p3 : lw_okq (⟨"SewnRoads$Tokens", "sortOfLetters", "(J)I"⟩, 5) := ⟨⟨by decide +kernel, by decide +kernel⟩, List.mem_of_getElem? (i := 197) (by decide +kernel), List.mem_of_getElem? (i := 553) (by decide +kernel), List.mem_of_getElem? (i := 554) (by decide +kernel)⟩
theorem lw_p4 : lw_okq (⟨"SewnRoads$Tokens", "add", "(IIJ)V"⟩, 5) := ⟨⟨by decide +kernel, by decide +kernel⟩, List.mem_of_getElem? (i := 197) (by decide +kernel), List.mem_of_getElem? (i := 557) (by decide +kernel), List.mem_of_getElem? (i := 558) (by decide +kernel)⟩
theorem lw_p5 : lw_okq (⟨"SewnRoads$Tokens", "scanDigits", "(LSewnRoads$Tape;I)I"⟩, 5) := ⟨⟨by decide +kernel, by decide +kernel⟩, List.mem_of_getElem? (i := 197) (by decide +kernel), List.mem_of_getElem? (i := 564) (by decide +kernel), List.mem_of_getElem? (i := 565) (by decide +kernel)⟩
theorem lw_p6 : lw_okq (⟨"SewnRoads$Reader", "readTell", "()V"⟩, 11) := ⟨⟨by decide +kernel, by decide +kernel⟩, List.mem_of_getElem? (i := 48) (by decide +kernel), List.mem_of_getElem? (i := 635) (by decide +kernel), List.mem_of_getElem? (i := 636) (by decide +kernel)⟩
theorem lw_p7 : lw_okq (⟨"SewnRoads$Reader", "readTown", "()V"⟩, 11) := ⟨⟨by decide +kernel, by decide +kernel⟩, List.mem_of_getElem? (i := 48) (by decide +kernel), List.mem_of_getElem? (i := 639) (by decide +kernel), List.mem_of_getElem? (i := 640) (by decide +kernel)⟩
theorem lw_p8 : lw_okq (⟨"SewnRoads$Reader", "takeFirst", "(Z)V"⟩, 11) := ⟨⟨by decide +kernel, by decide +kernel⟩, List.mem_of_getElem? (i := 48) (by decide +kernel), List.mem_of_getElem? (i := 643) (by decide +kernel), List.mem_of_getElem? (i := 644) (by decide +kernel)⟩
theorem lw_p9 : lw_okq (⟨"SewnRoads$Reader", "take", "(I)I"⟩, 11) := ⟨⟨by decide +kernel, by decide +kernel⟩, List.mem_of_getElem? (i := 48) (by decide +kernel), List.mem_of_getElem? (i := 647) (by decide +kernel), List.mem_of_getElem? (i := 648) (by decide +kernel)⟩
theorem lw_p10 : lw_okq (⟨"SewnRoads$Reader", "addName", "(II)V"⟩, 11) := ⟨⟨by decide +kernel, by decide +kernel⟩, List.mem_of_getElem? (i := 48) (by decide +kernel), List.mem_of_getElem? (i := 651) (by decide +kernel), List.mem_of_getElem? (i := 652) (by decide +kernel)⟩
theorem lw_p11 : lw_okq (⟨"SewnRoads$Reader", "findName", "(I)I"⟩, 11) := ⟨⟨by decide +kernel, by decide +kernel⟩, List.mem_of_getElem? (i := 48) (by decide +kernel), List.mem_of_getElem? (i := 655) (by decide +kernel), List.mem_of_getElem? (i := 656) (by decide +kernel)⟩
theorem lw_p12 : lw_okq (⟨"SewnRoads$Reader", "note", "(II)V"⟩, 11) := ⟨⟨by decide +kernel, by decide +kernel⟩, List.mem_of_getElem? (i := 48) (by decide +kernel), List.mem_of_getElem? (i := 663) (by decide +kernel), List.mem_of_getElem? (i := 664) (by decide +kernel)⟩
theorem lw_p13 : lw_okq (⟨"SewnRoads$Reader", "readSeam", "()V"⟩, 11) := ⟨⟨by decide +kernel, by decide +kernel⟩, List.mem_of_getElem? (i := 48) (by decide +kernel), List.mem_of_getElem? (i := 671) (by decide +kernel), List.mem_of_getElem? (i := 672) (by decide +kernel)⟩
theorem lw_p14 : lw_okq (⟨"SewnRoads$Reader", "townAt", "(I)I"⟩, 11) := ⟨⟨by decide +kernel, by decide +kernel⟩, List.mem_of_getElem? (i := 48) (by decide +kernel), List.mem_of_getElem? (i := 675) (by decide +kernel), List.mem_of_getElem? (i := 676) (by decide +kernel)⟩
theorem lw_p15 : lw_okq (⟨"SewnRoads$Reader", "numberAt", "(III)I"⟩, 11) := ⟨⟨by decide +kernel, by decide +kernel⟩, List.mem_of_getElem? (i := 48) (by decide +kernel), List.mem_of_getElem? (i := 683) (by decide +kernel), List.mem_of_getElem? (i := 684) (by decide +kernel)⟩
def lw_privs_1 : List (MethodName × Nat) := [(⟨"SewnRoads$Laws", "addDefault", "(III)V"⟩, 4), (⟨"SewnRoads$Tokens", "scanOne", "(LSewnRoads$Tape;I)I"⟩, 5), (⟨"SewnRoads$Tokens", "scanLetters", "(LSewnRoads$Tape;I)I"⟩, 5), (⟨"SewnRoads$Tokens", "sortOfLetters", "(J)I"⟩, 5), (⟨"SewnRoads$Tokens", "add", "(IIJ)V"⟩, 5), (⟨"SewnRoads$Tokens", "scanDigits", "(LSewnRoads$Tape;I)I"⟩, 5), (⟨"SewnRoads$Reader", "readTell", "()V"⟩, 11), (⟨"SewnRoads$Reader", "readTown", "()V"⟩, 11), (⟨"SewnRoads$Reader", "takeFirst", "(Z)V"⟩, 11), (⟨"SewnRoads$Reader", "take", "(I)I"⟩, 11), (⟨"SewnRoads$Reader", "addName", "(II)V"⟩, 11), (⟨"SewnRoads$Reader", "findName", "(I)I"⟩, 11), (⟨"SewnRoads$Reader", "note", "(II)V"⟩, 11), (⟨"SewnRoads$Reader", "readSeam", "()V"⟩, 11), (⟨"SewnRoads$Reader", "townAt", "(I)I"⟩, 11), (⟨"SewnRoads$Reader", "numberAt", "(III)I"⟩, 11)]
theorem lw_r1 : ∀ q ∈ lw_privs_1, lw_okq q := List.forall_mem_cons.mpr ⟨lw_p0, List.forall_mem_cons.mpr ⟨lw_p1, List.forall_mem_cons.mpr ⟨lw_p2, List.forall_mem_cons.mpr ⟨lw_p3, List.forall_mem_cons.mpr ⟨lw_p4, List.forall_mem_cons.mpr ⟨lw_p5, List.forall_mem_cons.mpr ⟨lw_p6, List.forall_mem_cons.mpr ⟨lw_p7, List.forall_mem_cons.mpr ⟨lw_p8, List.forall_mem_cons.mpr ⟨lw_p9, List.forall_mem_cons.mpr ⟨lw_p10, List.forall_mem_cons.mpr ⟨lw_p11, List.forall_mem_cons.mpr ⟨lw_p12, List.forall_mem_cons.mpr ⟨lw_p13, List.forall_mem_cons.mpr ⟨lw_p14, List.forall_mem_cons.mpr ⟨lw_p15, fun _ h => absurd h List.not_mem_nil⟩⟩⟩⟩⟩⟩⟩⟩⟩⟩⟩⟩⟩⟩⟩⟩
theorem lw_p16 : lw_okq (⟨"SewnRoads$Reader", "readWoman", "()V"⟩, 11) := ⟨⟨by decide +kernel, by decide +kernel⟩, List.mem_of_getElem? (i := 48) (by decide +kernel), List.mem_of_getElem? (i := 694) (by decide +kernel), List.mem_of_getElem? (i := 695) (by decide +kernel)⟩
theorem lw_p17 : lw_okq (⟨"SewnRoads$Reader", "readCart", "()V"⟩, 11) := ⟨⟨by decide +kernel, by decide +kernel⟩, List.mem_of_getElem? (i := 48) (by decide +kernel), List.mem_of_getElem? (i := 698) (by decide +kernel), List.mem_of_getElem? (i := 699) (by decide +kernel)⟩
theorem lw_p18 : lw_okq (⟨"SewnRoads$Reader", "readNumber", "(I)I"⟩, 11) := ⟨⟨by decide +kernel, by decide +kernel⟩, List.mem_of_getElem? (i := 48) (by decide +kernel), List.mem_of_getElem? (i := 706) (by decide +kernel), List.mem_of_getElem? (i := 707) (by decide +kernel)⟩
theorem lw_p19 : lw_okq (⟨"SewnRoads$Reader", "readLaw", "()V"⟩, 11) := ⟨⟨by decide +kernel, by decide +kernel⟩, List.mem_of_getElem? (i := 48) (by decide +kernel), List.mem_of_getElem? (i := 710) (by decide +kernel), List.mem_of_getElem? (i := 711) (by decide +kernel)⟩
theorem lw_p20 : lw_okq (⟨"SewnRoads$Reader", "readSum", "(I)V"⟩, 11) := ⟨⟨by decide +kernel, by decide +kernel⟩, List.mem_of_getElem? (i := 48) (by decide +kernel), List.mem_of_getElem? (i := 718) (by decide +kernel), List.mem_of_getElem? (i := 719) (by decide +kernel)⟩
theorem lw_p21 : lw_okq (⟨"SewnRoads$Reader", "readProduct", "(I)V"⟩, 11) := ⟨⟨by decide +kernel, by decide +kernel⟩, List.mem_of_getElem? (i := 48) (by decide +kernel), List.mem_of_getElem? (i := 722) (by decide +kernel), List.mem_of_getElem? (i := 723) (by decide +kernel)⟩
theorem lw_p22 : lw_okq (⟨"SewnRoads$Reader", "readUnit", "(I)V"⟩, 11) := ⟨⟨by decide +kernel, by decide +kernel⟩, List.mem_of_getElem? (i := 48) (by decide +kernel), List.mem_of_getElem? (i := 726) (by decide +kernel), List.mem_of_getElem? (i := 727) (by decide +kernel)⟩
theorem lw_p23 : lw_okq (⟨"SewnRoads$Plan", "countWays", "()V"⟩, 18) := ⟨⟨by decide +kernel, by decide +kernel⟩, List.mem_of_getElem? (i := 54) (by decide +kernel), List.mem_of_getElem? (i := 750) (by decide +kernel), List.mem_of_getElem? (i := 751) (by decide +kernel)⟩
theorem lw_p24 : lw_okq (⟨"SewnRoads", "emptySlots", "()V"⟩, 13) := ⟨⟨by decide +kernel, by decide +kernel⟩, List.mem_of_getElem? (i := 24) (by decide +kernel), List.mem_of_getElem? (i := 765) (by decide +kernel), List.mem_of_getElem? (i := 766) (by decide +kernel)⟩
theorem lw_p25 : lw_okq (⟨"SewnRoads", "isSeam", "(I)Z"⟩, 13) := ⟨⟨by decide +kernel, by decide +kernel⟩, List.mem_of_getElem? (i := 24) (by decide +kernel), List.mem_of_getElem? (i := 777) (by decide +kernel), List.mem_of_getElem? (i := 778) (by decide +kernel)⟩
theorem lw_p26 : lw_okq (⟨"SewnRoads$Rules", "look", "(III)V"⟩, 3) := ⟨⟨by decide +kernel, by decide +kernel⟩, List.mem_of_getElem? (i := 359) (by decide +kernel), List.mem_of_getElem? (i := 785) (by decide +kernel), List.mem_of_getElem? (i := 786) (by decide +kernel)⟩
theorem lw_p27 : lw_okq (⟨"SewnRoads", "isCart", "(I)Z"⟩, 13) := ⟨⟨by decide +kernel, by decide +kernel⟩, List.mem_of_getElem? (i := 24) (by decide +kernel), List.mem_of_getElem? (i := 814) (by decide +kernel), List.mem_of_getElem? (i := 815) (by decide +kernel)⟩
theorem lw_p28 : lw_okq (⟨"SewnRoads$Season", "moveCarts", "(LSewnRoads$State;)V"⟩, 6) := ⟨⟨by decide +kernel, by decide +kernel⟩, List.mem_of_getElem? (i := 393) (by decide +kernel), List.mem_of_getElem? (i := 876) (by decide +kernel), List.mem_of_getElem? (i := 877) (by decide +kernel)⟩
theorem lw_p29 : lw_okq (⟨"SewnRoads$Season", "moveCart", "(LSewnRoads$State;II)V"⟩, 6) := ⟨⟨by decide +kernel, by decide +kernel⟩, List.mem_of_getElem? (i := 393) (by decide +kernel), List.mem_of_getElem? (i := 895) (by decide +kernel), List.mem_of_getElem? (i := 896) (by decide +kernel)⟩
theorem lw_p30 : lw_okq (⟨"SewnRoads$Net", "shorten", "(III)Z"⟩, 2) := ⟨⟨by decide +kernel, by decide +kernel⟩, List.mem_of_getElem? (i := 377) (by decide +kernel), List.mem_of_getElem? (i := 907) (by decide +kernel), List.mem_of_getElem? (i := 908) (by decide +kernel)⟩
theorem lw_p31 : lw_okq (⟨"SewnRoads$Season", "nextSeam", "(II)I"⟩, 6) := ⟨⟨by decide +kernel, by decide +kernel⟩, List.mem_of_getElem? (i := 393) (by decide +kernel), List.mem_of_getElem? (i := 915) (by decide +kernel), List.mem_of_getElem? (i := 916) (by decide +kernel)⟩
def lw_privs_2 : List (MethodName × Nat) := [(⟨"SewnRoads$Reader", "readWoman", "()V"⟩, 11), (⟨"SewnRoads$Reader", "readCart", "()V"⟩, 11), (⟨"SewnRoads$Reader", "readNumber", "(I)I"⟩, 11), (⟨"SewnRoads$Reader", "readLaw", "()V"⟩, 11), (⟨"SewnRoads$Reader", "readSum", "(I)V"⟩, 11), (⟨"SewnRoads$Reader", "readProduct", "(I)V"⟩, 11), (⟨"SewnRoads$Reader", "readUnit", "(I)V"⟩, 11), (⟨"SewnRoads$Plan", "countWays", "()V"⟩, 18), (⟨"SewnRoads", "emptySlots", "()V"⟩, 13), (⟨"SewnRoads", "isSeam", "(I)Z"⟩, 13), (⟨"SewnRoads$Rules", "look", "(III)V"⟩, 3), (⟨"SewnRoads", "isCart", "(I)Z"⟩, 13), (⟨"SewnRoads$Season", "moveCarts", "(LSewnRoads$State;)V"⟩, 6), (⟨"SewnRoads$Season", "moveCart", "(LSewnRoads$State;II)V"⟩, 6), (⟨"SewnRoads$Net", "shorten", "(III)Z"⟩, 2), (⟨"SewnRoads$Season", "nextSeam", "(II)I"⟩, 6)]
theorem lw_r2 : ∀ q ∈ lw_privs_2, lw_okq q := List.forall_mem_cons.mpr ⟨lw_p16, List.forall_mem_cons.mpr ⟨lw_p17, List.forall_mem_cons.mpr ⟨lw_p18, List.forall_mem_cons.mpr ⟨lw_p19, List.forall_mem_cons.mpr ⟨lw_p20, List.forall_mem_cons.mpr ⟨lw_p21, List.forall_mem_cons.mpr ⟨lw_p22, List.forall_mem_cons.mpr ⟨lw_p23, List.forall_mem_cons.mpr ⟨lw_p24, List.forall_mem_cons.mpr ⟨lw_p25, List.forall_mem_cons.mpr ⟨lw_p26, List.forall_mem_cons.mpr ⟨lw_p27, List.forall_mem_cons.mpr ⟨lw_p28, List.forall_mem_cons.mpr ⟨lw_p29, List.forall_mem_cons.mpr ⟨lw_p30, List.forall_mem_cons.mpr ⟨lw_p31, fun _ h => absurd h List.not_mem_nil⟩⟩⟩⟩⟩⟩⟩⟩⟩⟩⟩⟩⟩⟩⟩⟩
theorem lw_p32 : lw_okq (⟨"SewnRoads$Season", "otherEnd", "(II)I"⟩, 6) := ⟨⟨by decide +kernel, by decide +kernel⟩, List.mem_of_getElem? (i := 393) (by decide +kernel), List.mem_of_getElem? (i := 919) (by decide +kernel), List.mem_of_getElem? (i := 920) (by decide +kernel)⟩
theorem lw_p33 : lw_okq (⟨"SewnRoads$Season", "wearSeams", "(LSewnRoads$State;I)V"⟩, 6) := ⟨⟨by decide +kernel, by decide +kernel⟩, List.mem_of_getElem? (i := 393) (by decide +kernel), List.mem_of_getElem? (i := 941) (by decide +kernel), List.mem_of_getElem? (i := 942) (by decide +kernel)⟩
theorem lw_p34 : lw_okq (⟨"SewnRoads", "isTown", "(I)Z"⟩, 13) := ⟨⟨by decide +kernel, by decide +kernel⟩, List.mem_of_getElem? (i := 24) (by decide +kernel), List.mem_of_getElem? (i := 959) (by decide +kernel), List.mem_of_getElem? (i := 960) (by decide +kernel)⟩
theorem lw_p35 : lw_okq (⟨"SewnRoads", "areTwoTowns", "(II)Z"⟩, 13) := ⟨⟨by decide +kernel, by decide +kernel⟩, List.mem_of_getElem? (i := 24) (by decide +kernel), List.mem_of_getElem? (i := 1023) (by decide +kernel), List.mem_of_getElem? (i := 1024) (by decide +kernel)⟩
theorem lw_p36 : lw_okq (⟨"SewnRoads$Net", "seamsAsWide", "([II)I"⟩, 2) := ⟨⟨by decide +kernel, by decide +kernel⟩, List.mem_of_getElem? (i := 377) (by decide +kernel), List.mem_of_getElem? (i := 1031) (by decide +kernel), List.mem_of_getElem? (i := 1032) (by decide +kernel)⟩
theorem lw_p37 : lw_okq (⟨"SewnRoads$Season", "lifeOf", "(III)I"⟩, 6) := ⟨⟨by decide +kernel, by decide +kernel⟩, List.mem_of_getElem? (i := 393) (by decide +kernel), List.mem_of_getElem? (i := 1043) (by decide +kernel), List.mem_of_getElem? (i := 1044) (by decide +kernel)⟩
theorem lw_p38 : lw_okq (⟨"SewnRoads$Net", "oddTowns", "(II)I"⟩, 2) := ⟨⟨by decide +kernel, by decide +kernel⟩, List.mem_of_getElem? (i := 377) (by decide +kernel), List.mem_of_getElem? (i := 1063) (by decide +kernel), List.mem_of_getElem? (i := 1064) (by decide +kernel)⟩
theorem lw_p39 : lw_okq (⟨"SewnRoads", "lookAhead", "(I)V"⟩, 13) := ⟨⟨by decide +kernel, by decide +kernel⟩, List.mem_of_getElem? (i := 24) (by decide +kernel), List.mem_of_getElem? (i := 1098) (by decide +kernel), List.mem_of_getElem? (i := 1099) (by decide +kernel)⟩
theorem lw_p40 : lw_okq (⟨"SewnRoads", "staysJoined", "(IIII)Z"⟩, 13) := ⟨⟨by decide +kernel, by decide +kernel⟩, List.mem_of_getElem? (i := 24) (by decide +kernel), List.mem_of_getElem? (i := 1115) (by decide +kernel), List.mem_of_getElem? (i := 1116) (by decide +kernel)⟩
theorem lw_p41 : lw_okq (⟨"SewnRoads", "possibleCuts", "(I)I"⟩, 13) := ⟨⟨by decide +kernel, by decide +kernel⟩, List.mem_of_getElem? (i := 24) (by decide +kernel), List.mem_of_getElem? (i := 1136) (by decide +kernel), List.mem_of_getElem? (i := 1137) (by decide +kernel)⟩
theorem lw_p42 : lw_okq (⟨"SewnRoads$Search", "fits", "(II)Z"⟩, 7) := ⟨⟨by decide +kernel, by decide +kernel⟩, List.mem_of_getElem? (i := 420) (by decide +kernel), List.mem_of_getElem? (i := 1154) (by decide +kernel), List.mem_of_getElem? (i := 1155) (by decide +kernel)⟩
theorem lw_p43 : lw_okq (⟨"SewnRoads$Search", "mostAlike", "(III)I"⟩, 7) := ⟨⟨by decide +kernel, by decide +kernel⟩, List.mem_of_getElem? (i := 420) (by decide +kernel), List.mem_of_getElem? (i := 1167) (by decide +kernel), List.mem_of_getElem? (i := 1168) (by decide +kernel)⟩
theorem lw_p44 : lw_okq (⟨"SewnRoads$Search", "alike", "(IIII)I"⟩, 7) := ⟨⟨by decide +kernel, by decide +kernel⟩, List.mem_of_getElem? (i := 420) (by decide +kernel), List.mem_of_getElem? (i := 1171) (by decide +kernel), List.mem_of_getElem? (i := 1172) (by decide +kernel)⟩
theorem lw_p45 : lw_okq (⟨"SewnRoads", "heldSlots", "()I"⟩, 13) := ⟨⟨by decide +kernel, by decide +kernel⟩, List.mem_of_getElem? (i := 24) (by decide +kernel), List.mem_of_getElem? (i := 1189) (by decide +kernel), List.mem_of_getElem? (i := 1190) (by decide +kernel)⟩
theorem lw_p46 : lw_okq (⟨"SewnRoadsModel", "plain", "(I)V"⟩, 72) := ⟨⟨by decide +kernel, by decide +kernel⟩, List.mem_of_getElem? (i := 1198) (by decide +kernel), List.mem_of_getElem? (i := 1204) (by decide +kernel), List.mem_of_getElem? (i := 1205) (by decide +kernel)⟩
theorem lw_p47 : lw_okq (⟨"SewnRoadsModel", "begins", "()V"⟩, 72) := ⟨⟨by decide +kernel, by decide +kernel⟩, List.mem_of_getElem? (i := 1198) (by decide +kernel), List.mem_of_getElem? (i := 1215) (by decide +kernel), List.mem_of_getElem? (i := 1216) (by decide +kernel)⟩
def lw_privs_3 : List (MethodName × Nat) := [(⟨"SewnRoads$Season", "otherEnd", "(II)I"⟩, 6), (⟨"SewnRoads$Season", "wearSeams", "(LSewnRoads$State;I)V"⟩, 6), (⟨"SewnRoads", "isTown", "(I)Z"⟩, 13), (⟨"SewnRoads", "areTwoTowns", "(II)Z"⟩, 13), (⟨"SewnRoads$Net", "seamsAsWide", "([II)I"⟩, 2), (⟨"SewnRoads$Season", "lifeOf", "(III)I"⟩, 6), (⟨"SewnRoads$Net", "oddTowns", "(II)I"⟩, 2), (⟨"SewnRoads", "lookAhead", "(I)V"⟩, 13), (⟨"SewnRoads", "staysJoined", "(IIII)Z"⟩, 13), (⟨"SewnRoads", "possibleCuts", "(I)I"⟩, 13), (⟨"SewnRoads$Search", "fits", "(II)Z"⟩, 7), (⟨"SewnRoads$Search", "mostAlike", "(III)I"⟩, 7), (⟨"SewnRoads$Search", "alike", "(IIII)I"⟩, 7), (⟨"SewnRoads", "heldSlots", "()I"⟩, 13), (⟨"SewnRoadsModel", "plain", "(I)V"⟩, 72), (⟨"SewnRoadsModel", "begins", "()V"⟩, 72)]
theorem lw_r3 : ∀ q ∈ lw_privs_3, lw_okq q := List.forall_mem_cons.mpr ⟨lw_p32, List.forall_mem_cons.mpr ⟨lw_p33, List.forall_mem_cons.mpr ⟨lw_p34, List.forall_mem_cons.mpr ⟨lw_p35, List.forall_mem_cons.mpr ⟨lw_p36, List.forall_mem_cons.mpr ⟨lw_p37, List.forall_mem_cons.mpr ⟨lw_p38, List.forall_mem_cons.mpr ⟨lw_p39, List.forall_mem_cons.mpr ⟨lw_p40, List.forall_mem_cons.mpr ⟨lw_p41, List.forall_mem_cons.mpr ⟨lw_p42, List.forall_mem_cons.mpr ⟨lw_p43, List.forall_mem_cons.mpr ⟨lw_p44, List.forall_mem_cons.mpr ⟨lw_p45, List.forall_mem_cons.mpr ⟨lw_p46, List.forall_mem_cons.mpr ⟨lw_p47, fun _ h => absurd h List.not_mem_nil⟩⟩⟩⟩⟩⟩⟩⟩⟩⟩⟩⟩⟩⟩⟩⟩
theorem lw_p48 : lw_okq (⟨"SewnRoadsModel", "keepsRow", "()V"⟩, 72) := ⟨⟨by decide +kernel, by decide +kernel⟩, List.mem_of_getElem? (i := 1198) (by decide +kernel), List.mem_of_getElem? (i := 1219) (by decide +kernel), List.mem_of_getElem? (i := 1220) (by decide +kernel)⟩
theorem lw_p49 : lw_okq (⟨"SewnRoadsModel", "put", "(I)V"⟩, 72) := ⟨⟨by decide +kernel, by decide +kernel⟩, List.mem_of_getElem? (i := 1198) (by decide +kernel), List.mem_of_getElem? (i := 1443) (by decide +kernel), List.mem_of_getElem? (i := 1444) (by decide +kernel)⟩
theorem lw_p50 : lw_okq (⟨"SewnRoadsModel", "cutsUp", "()V"⟩, 72) := ⟨⟨by decide +kernel, by decide +kernel⟩, List.mem_of_getElem? (i := 1198) (by decide +kernel), List.mem_of_getElem? (i := 1455) (by decide +kernel), List.mem_of_getElem? (i := 1456) (by decide +kernel)⟩
theorem lw_p51 : lw_okq (⟨"SewnRoadsModel", "byteAt", "(I)I"⟩, 72) := ⟨⟨by decide +kernel, by decide +kernel⟩, List.mem_of_getElem? (i := 1198) (by decide +kernel), List.mem_of_getElem? (i := 1459) (by decide +kernel), List.mem_of_getElem? (i := 1460) (by decide +kernel)⟩
theorem lw_p52 : lw_okq (⟨"SewnRoadsModel", "token", "(IIIJ)V"⟩, 72) := ⟨⟨by decide +kernel, by decide +kernel⟩, List.mem_of_getElem? (i := 1198) (by decide +kernel), List.mem_of_getElem? (i := 1463) (by decide +kernel), List.mem_of_getElem? (i := 1464) (by decide +kernel)⟩
theorem lw_p53 : lw_okq (⟨"SewnRoadsModel", "sign", "(III)I"⟩, 72) := ⟨⟨by decide +kernel, by decide +kernel⟩, List.mem_of_getElem? (i := 1198) (by decide +kernel), List.mem_of_getElem? (i := 1473) (by decide +kernel), List.mem_of_getElem? (i := 1474) (by decide +kernel)⟩
theorem lw_p54 : lw_okq (⟨"SewnRoadsModel", "is", "(I)Z"⟩, 72) := ⟨⟨by decide +kernel, by decide +kernel⟩, List.mem_of_getElem? (i := 1198) (by decide +kernel), List.mem_of_getElem? (i := 1477) (by decide +kernel), List.mem_of_getElem? (i := 1478) (by decide +kernel)⟩
theorem lw_p55 : lw_okq (⟨"SewnRoadsModel", "tellOne", "()V"⟩, 72) := ⟨⟨by decide +kernel, by decide +kernel⟩, List.mem_of_getElem? (i := 1198) (by decide +kernel), List.mem_of_getElem? (i := 1481) (by decide +kernel), List.mem_of_getElem? (i := 1482) (by decide +kernel)⟩
theorem lw_p56 : lw_okq (⟨"SewnRoadsModel", "roomFor", "(II)V"⟩, 72) := ⟨⟨by decide +kernel, by decide +kernel⟩, List.mem_of_getElem? (i := 1198) (by decide +kernel), List.mem_of_getElem? (i := 1485) (by decide +kernel), List.mem_of_getElem? (i := 1486) (by decide +kernel)⟩
theorem lw_p57 : lw_okq (⟨"SewnRoadsModel", "fail", "(I)V"⟩, 72) := ⟨⟨by decide +kernel, by decide +kernel⟩, List.mem_of_getElem? (i := 1198) (by decide +kernel), List.mem_of_getElem? (i := 1489) (by decide +kernel), List.mem_of_getElem? (i := 1490) (by decide +kernel)⟩
theorem lw_p58 : lw_okq (⟨"SewnRoadsModel", "goesOn", "()V"⟩, 72) := ⟨⟨by decide +kernel, by decide +kernel⟩, List.mem_of_getElem? (i := 1198) (by decide +kernel), List.mem_of_getElem? (i := 1493) (by decide +kernel), List.mem_of_getElem? (i := 1494) (by decide +kernel)⟩
theorem lw_p59 : lw_okq (⟨"SewnRoadsModel", "named", "()I"⟩, 72) := ⟨⟨by decide +kernel, by decide +kernel⟩, List.mem_of_getElem? (i := 1198) (by decide +kernel), List.mem_of_getElem? (i := 1497) (by decide +kernel), List.mem_of_getElem? (i := 1498) (by decide +kernel)⟩
theorem lw_p60 : lw_okq (⟨"SewnRoadsModel", "must", "(I)V"⟩, 72) := ⟨⟨by decide +kernel, by decide +kernel⟩, List.mem_of_getElem? (i := 1198) (by decide +kernel), List.mem_of_getElem? (i := 1501) (by decide +kernel), List.mem_of_getElem? (i := 1502) (by decide +kernel)⟩
theorem lw_p61 : lw_okq (⟨"SewnRoadsModel", "wrong", "(II)V"⟩, 72) := ⟨⟨by decide +kernel, by decide +kernel⟩, List.mem_of_getElem? (i := 1198) (by decide +kernel), List.mem_of_getElem? (i := 1505) (by decide +kernel), List.mem_of_getElem? (i := 1506) (by decide +kernel)⟩
theorem lw_p62 : lw_okq (⟨"SewnRoadsModel", "ends", "(II)V"⟩, 72) := ⟨⟨by decide +kernel, by decide +kernel⟩, List.mem_of_getElem? (i := 1198) (by decide +kernel), List.mem_of_getElem? (i := 1509) (by decide +kernel), List.mem_of_getElem? (i := 1510) (by decide +kernel)⟩
theorem lw_p63 : lw_okq (⟨"SewnRoadsModel", "tellSeam", "()V"⟩, 72) := ⟨⟨by decide +kernel, by decide +kernel⟩, List.mem_of_getElem? (i := 1198) (by decide +kernel), List.mem_of_getElem? (i := 1513) (by decide +kernel), List.mem_of_getElem? (i := 1514) (by decide +kernel)⟩
def lw_privs_4 : List (MethodName × Nat) := [(⟨"SewnRoadsModel", "keepsRow", "()V"⟩, 72), (⟨"SewnRoadsModel", "put", "(I)V"⟩, 72), (⟨"SewnRoadsModel", "cutsUp", "()V"⟩, 72), (⟨"SewnRoadsModel", "byteAt", "(I)I"⟩, 72), (⟨"SewnRoadsModel", "token", "(IIIJ)V"⟩, 72), (⟨"SewnRoadsModel", "sign", "(III)I"⟩, 72), (⟨"SewnRoadsModel", "is", "(I)Z"⟩, 72), (⟨"SewnRoadsModel", "tellOne", "()V"⟩, 72), (⟨"SewnRoadsModel", "roomFor", "(II)V"⟩, 72), (⟨"SewnRoadsModel", "fail", "(I)V"⟩, 72), (⟨"SewnRoadsModel", "goesOn", "()V"⟩, 72), (⟨"SewnRoadsModel", "named", "()I"⟩, 72), (⟨"SewnRoadsModel", "must", "(I)V"⟩, 72), (⟨"SewnRoadsModel", "wrong", "(II)V"⟩, 72), (⟨"SewnRoadsModel", "ends", "(II)V"⟩, 72), (⟨"SewnRoadsModel", "tellSeam", "()V"⟩, 72)]
theorem lw_r4 : ∀ q ∈ lw_privs_4, lw_okq q := List.forall_mem_cons.mpr ⟨lw_p48, List.forall_mem_cons.mpr ⟨lw_p49, List.forall_mem_cons.mpr ⟨lw_p50, List.forall_mem_cons.mpr ⟨lw_p51, List.forall_mem_cons.mpr ⟨lw_p52, List.forall_mem_cons.mpr ⟨lw_p53, List.forall_mem_cons.mpr ⟨lw_p54, List.forall_mem_cons.mpr ⟨lw_p55, List.forall_mem_cons.mpr ⟨lw_p56, List.forall_mem_cons.mpr ⟨lw_p57, List.forall_mem_cons.mpr ⟨lw_p58, List.forall_mem_cons.mpr ⟨lw_p59, List.forall_mem_cons.mpr ⟨lw_p60, List.forall_mem_cons.mpr ⟨lw_p61, List.forall_mem_cons.mpr ⟨lw_p62, List.forall_mem_cons.mpr ⟨lw_p63, fun _ h => absurd h List.not_mem_nil⟩⟩⟩⟩⟩⟩⟩⟩⟩⟩⟩⟩⟩⟩⟩⟩
theorem lw_p64 : lw_okq (⟨"SewnRoadsModel", "knownTown", "()I"⟩, 72) := ⟨⟨by decide +kernel, by decide +kernel⟩, List.mem_of_getElem? (i := 1198) (by decide +kernel), List.mem_of_getElem? (i := 1517) (by decide +kernel), List.mem_of_getElem? (i := 1518) (by decide +kernel)⟩
theorem lw_p65 : lw_okq (⟨"SewnRoadsModel", "hasSeam", "(II)Z"⟩, 72) := ⟨⟨by decide +kernel, by decide +kernel⟩, List.mem_of_getElem? (i := 1198) (by decide +kernel), List.mem_of_getElem? (i := 1521) (by decide +kernel), List.mem_of_getElem? (i := 1522) (by decide +kernel)⟩
theorem lw_p66 : lw_okq (⟨"SewnRoadsModel", "bounded", "(II)I"⟩, 72) := ⟨⟨by decide +kernel, by decide +kernel⟩, List.mem_of_getElem? (i := 1198) (by decide +kernel), List.mem_of_getElem? (i := 1525) (by decide +kernel), List.mem_of_getElem? (i := 1526) (by decide +kernel)⟩
theorem lw_p67 : lw_okq (⟨"SewnRoadsModel", "tellCart", "()V"⟩, 72) := ⟨⟨by decide +kernel, by decide +kernel⟩, List.mem_of_getElem? (i := 1198) (by decide +kernel), List.mem_of_getElem? (i := 1529) (by decide +kernel), List.mem_of_getElem? (i := 1530) (by decide +kernel)⟩
theorem lw_p68 : lw_okq (⟨"SewnRoadsModel", "toldInt", "(II)I"⟩, 72) := ⟨⟨by decide +kernel, by decide +kernel⟩, List.mem_of_getElem? (i := 1198) (by decide +kernel), List.mem_of_getElem? (i := 1533) (by decide +kernel), List.mem_of_getElem? (i := 1534) (by decide +kernel)⟩
theorem lw_p69 : lw_okq (⟨"SewnRoadsModel", "tellLaw", "(I)V"⟩, 72) := ⟨⟨by decide +kernel, by decide +kernel⟩, List.mem_of_getElem? (i := 1198) (by decide +kernel), List.mem_of_getElem? (i := 1537) (by decide +kernel), List.mem_of_getElem? (i := 1538) (by decide +kernel)⟩
theorem lw_p70 : lw_okq (⟨"SewnRoadsModel", "expression", "()V"⟩, 72) := ⟨⟨by decide +kernel, by decide +kernel⟩, List.mem_of_getElem? (i := 1198) (by decide +kernel), List.mem_of_getElem? (i := 1541) (by decide +kernel), List.mem_of_getElem? (i := 1542) (by decide +kernel)⟩
theorem lw_p71 : lw_okq (⟨"SewnRoadsModel", "unit", "()V"⟩, 72) := ⟨⟨by decide +kernel, by decide +kernel⟩, List.mem_of_getElem? (i := 1198) (by decide +kernel), List.mem_of_getElem? (i := 1545) (by decide +kernel), List.mem_of_getElem? (i := 1546) (by decide +kernel)⟩
theorem lw_p72 : lw_okq (⟨"SewnRoadsModel", "emit", "(II)V"⟩, 72) := ⟨⟨by decide +kernel, by decide +kernel⟩, List.mem_of_getElem? (i := 1198) (by decide +kernel), List.mem_of_getElem? (i := 1549) (by decide +kernel), List.mem_of_getElem? (i := 1550) (by decide +kernel)⟩
theorem lw_p73 : lw_okq (⟨"SewnRoadsModel", "comesOut", "(Z)V"⟩, 72) := ⟨⟨by decide +kernel, by decide +kernel⟩, List.mem_of_getElem? (i := 1198) (by decide +kernel), List.mem_of_getElem? (i := 1553) (by decide +kernel), List.mem_of_getElem? (i := 1554) (by decide +kernel)⟩
theorem lw_p74 : lw_okq (⟨"SewnRoadsModel", "term", "()V"⟩, 72) := ⟨⟨by decide +kernel, by decide +kernel⟩, List.mem_of_getElem? (i := 1198) (by decide +kernel), List.mem_of_getElem? (i := 1557) (by decide +kernel), List.mem_of_getElem? (i := 1558) (by decide +kernel)⟩
theorem lw_p75 : lw_okq (⟨"SewnRoadsModel", "isSeam", "(I)Z"⟩, 72) := ⟨⟨by decide +kernel, by decide +kernel⟩, List.mem_of_getElem? (i := 1198) (by decide +kernel), List.mem_of_getElem? (i := 1569) (by decide +kernel), List.mem_of_getElem? (i := 1570) (by decide +kernel)⟩
theorem lw_p76 : lw_okq (⟨"SewnRoadsModel", "copies", "()V"⟩, 72) := ⟨⟨by decide +kernel, by decide +kernel⟩, List.mem_of_getElem? (i := 1198) (by decide +kernel), List.mem_of_getElem? (i := 1576) (by decide +kernel), List.mem_of_getElem? (i := 1577) (by decide +kernel)⟩
theorem lw_p77 : lw_okq (⟨"SewnRoadsModel", "costsNow", "(I)I"⟩, 72) := ⟨⟨by decide +kernel, by decide +kernel⟩, List.mem_of_getElem? (i := 1198) (by decide +kernel), List.mem_of_getElem? (i := 1580) (by decide +kernel), List.mem_of_getElem? (i := 1581) (by decide +kernel)⟩
theorem lw_p78 : lw_okq (⟨"SewnRoadsModel", "looks", "(I)V"⟩, 72) := ⟨⟨by decide +kernel, by decide +kernel⟩, List.mem_of_getElem? (i := 1198) (by decide +kernel), List.mem_of_getElem? (i := 1584) (by decide +kernel), List.mem_of_getElem? (i := 1585) (by decide +kernel)⟩
theorem lw_p79 : lw_okq (⟨"SewnRoadsModel", "waysAt", "(I)I"⟩, 72) := ⟨⟨by decide +kernel, by decide +kernel⟩, List.mem_of_getElem? (i := 1198) (by decide +kernel), List.mem_of_getElem? (i := 1588) (by decide +kernel), List.mem_of_getElem? (i := 1589) (by decide +kernel)⟩
def lw_privs_5 : List (MethodName × Nat) := [(⟨"SewnRoadsModel", "knownTown", "()I"⟩, 72), (⟨"SewnRoadsModel", "hasSeam", "(II)Z"⟩, 72), (⟨"SewnRoadsModel", "bounded", "(II)I"⟩, 72), (⟨"SewnRoadsModel", "tellCart", "()V"⟩, 72), (⟨"SewnRoadsModel", "toldInt", "(II)I"⟩, 72), (⟨"SewnRoadsModel", "tellLaw", "(I)V"⟩, 72), (⟨"SewnRoadsModel", "expression", "()V"⟩, 72), (⟨"SewnRoadsModel", "unit", "()V"⟩, 72), (⟨"SewnRoadsModel", "emit", "(II)V"⟩, 72), (⟨"SewnRoadsModel", "comesOut", "(Z)V"⟩, 72), (⟨"SewnRoadsModel", "term", "()V"⟩, 72), (⟨"SewnRoadsModel", "isSeam", "(I)Z"⟩, 72), (⟨"SewnRoadsModel", "copies", "()V"⟩, 72), (⟨"SewnRoadsModel", "costsNow", "(I)I"⟩, 72), (⟨"SewnRoadsModel", "looks", "(I)V"⟩, 72), (⟨"SewnRoadsModel", "waysAt", "(I)I"⟩, 72)]
theorem lw_r5 : ∀ q ∈ lw_privs_5, lw_okq q := List.forall_mem_cons.mpr ⟨lw_p64, List.forall_mem_cons.mpr ⟨lw_p65, List.forall_mem_cons.mpr ⟨lw_p66, List.forall_mem_cons.mpr ⟨lw_p67, List.forall_mem_cons.mpr ⟨lw_p68, List.forall_mem_cons.mpr ⟨lw_p69, List.forall_mem_cons.mpr ⟨lw_p70, List.forall_mem_cons.mpr ⟨lw_p71, List.forall_mem_cons.mpr ⟨lw_p72, List.forall_mem_cons.mpr ⟨lw_p73, List.forall_mem_cons.mpr ⟨lw_p74, List.forall_mem_cons.mpr ⟨lw_p75, List.forall_mem_cons.mpr ⟨lw_p76, List.forall_mem_cons.mpr ⟨lw_p77, List.forall_mem_cons.mpr ⟨lw_p78, List.forall_mem_cons.mpr ⟨lw_p79, fun _ h => absurd h List.not_mem_nil⟩⟩⟩⟩⟩⟩⟩⟩⟩⟩⟩⟩⟩⟩⟩⟩
theorem lw_p80 : lw_okq (⟨"SewnRoadsModel", "asks", "(II)I"⟩, 72) := ⟨⟨by decide +kernel, by decide +kernel⟩, List.mem_of_getElem? (i := 1198) (by decide +kernel), List.mem_of_getElem? (i := 1592) (by decide +kernel), List.mem_of_getElem? (i := 1593) (by decide +kernel)⟩
theorem lw_p81 : lw_okq (⟨"SewnRoadsModel", "lawTells", "(I)I"⟩, 72) := ⟨⟨by decide +kernel, by decide +kernel⟩, List.mem_of_getElem? (i := 1198) (by decide +kernel), List.mem_of_getElem? (i := 1596) (by decide +kernel), List.mem_of_getElem? (i := 1597) (by decide +kernel)⟩
theorem lw_p82 : lw_okq (⟨"SewnRoadsModel", "termOf", "(II)I"⟩, 72) := ⟨⟨by decide +kernel, by decide +kernel⟩, List.mem_of_getElem? (i := 1198) (by decide +kernel), List.mem_of_getElem? (i := 1600) (by decide +kernel), List.mem_of_getElem? (i := 1601) (by decide +kernel)⟩
theorem lw_p83 : lw_okq (⟨"SewnRoadsModel", "wearsNow", "(IZI)I"⟩, 72) := ⟨⟨by decide +kernel, by decide +kernel⟩, List.mem_of_getElem? (i := 1198) (by decide +kernel), List.mem_of_getElem? (i := 1607) (by decide +kernel), List.mem_of_getElem? (i := 1608) (by decide +kernel)⟩
theorem lw_p84 : lw_okq (⟨"SewnRoadsModel", "wayOf", "(I)I"⟩, 72) := ⟨⟨by decide +kernel, by decide +kernel⟩, List.mem_of_getElem? (i := 1198) (by decide +kernel), List.mem_of_getElem? (i := 1611) (by decide +kernel), List.mem_of_getElem? (i := 1612) (by decide +kernel)⟩
theorem lw_p85 : lw_okq (⟨"SewnRoadsModel", "isCart", "(I)Z"⟩, 72) := ⟨⟨by decide +kernel, by decide +kernel⟩, List.mem_of_getElem? (i := 1198) (by decide +kernel), List.mem_of_getElem? (i := 1619) (by decide +kernel), List.mem_of_getElem? (i := 1620) (by decide +kernel)⟩
theorem lw_p86 : lw_okq (⟨"SewnRoadsModel", "tollOf", "(II)I"⟩, 72) := ⟨⟨by decide +kernel, by decide +kernel⟩, List.mem_of_getElem? (i := 1198) (by decide +kernel), List.mem_of_getElem? (i := 1627) (by decide +kernel), List.mem_of_getElem? (i := 1628) (by decide +kernel)⟩
theorem lw_p87 : lw_okq (⟨"SewnRoadsModel", "records", "()V"⟩, 72) := ⟨⟨by decide +kernel, by decide +kernel⟩, List.mem_of_getElem? (i := 1198) (by decide +kernel), List.mem_of_getElem? (i := 1635) (by decide +kernel), List.mem_of_getElem? (i := 1636) (by decide +kernel)⟩
theorem lw_p88 : lw_okq (⟨"SewnRoadsModel", "goes", "(I)V"⟩, 72) := ⟨⟨by decide +kernel, by decide +kernel⟩, List.mem_of_getElem? (i := 1198) (by decide +kernel), List.mem_of_getElem? (i := 1655) (by decide +kernel), List.mem_of_getElem? (i := 1656) (by decide +kernel)⟩
theorem lw_p89 : lw_okq (⟨"SewnRoadsModel", "weekGoes", "()V"⟩, 72) := ⟨⟨by decide +kernel, by decide +kernel⟩, List.mem_of_getElem? (i := 1198) (by decide +kernel), List.mem_of_getElem? (i := 1659) (by decide +kernel), List.mem_of_getElem? (i := 1660) (by decide +kernel)⟩
theorem lw_p90 : lw_okq (⟨"SewnRoadsModel", "fillsWays", "()V"⟩, 72) := ⟨⟨by decide +kernel, by decide +kernel⟩, List.mem_of_getElem? (i := 1198) (by decide +kernel), List.mem_of_getElem? (i := 1663) (by decide +kernel), List.mem_of_getElem? (i := 1664) (by decide +kernel)⟩
theorem lw_p91 : lw_okq (⟨"SewnRoadsModel", "cartGoes", "(I)V"⟩, 72) := ⟨⟨by decide +kernel, by decide +kernel⟩, List.mem_of_getElem? (i := 1198) (by decide +kernel), List.mem_of_getElem? (i := 1668) (by decide +kernel), List.mem_of_getElem? (i := 1669) (by decide +kernel)⟩
theorem lw_p92 : lw_okq (⟨"SewnRoadsModel", "roadOf", "(I)I"⟩, 72) := ⟨⟨by decide +kernel, by decide +kernel⟩, List.mem_of_getElem? (i := 1198) (by decide +kernel), List.mem_of_getElem? (i := 1672) (by decide +kernel), List.mem_of_getElem? (i := 1673) (by decide +kernel)⟩
theorem lw_p93 : lw_okq (⟨"SewnRoadsModel", "fillsFar", "(I)V"⟩, 72) := ⟨⟨by decide +kernel, by decide +kernel⟩, List.mem_of_getElem? (i := 1198) (by decide +kernel), List.mem_of_getElem? (i := 1676) (by decide +kernel), List.mem_of_getElem? (i := 1677) (by decide +kernel)⟩
theorem lw_p94 : lw_okq (⟨"SewnRoadsModel", "otherEnd", "(II)I"⟩, 72) := ⟨⟨by decide +kernel, by decide +kernel⟩, List.mem_of_getElem? (i := 1198) (by decide +kernel), List.mem_of_getElem? (i := 1680) (by decide +kernel), List.mem_of_getElem? (i := 1681) (by decide +kernel)⟩
theorem lw_p95 : lw_okq (⟨"SewnRoadsModel", "isFrost", "()Z"⟩, 72) := ⟨⟨by decide +kernel, by decide +kernel⟩, List.mem_of_getElem? (i := 1198) (by decide +kernel), List.mem_of_getElem? (i := 1684) (by decide +kernel), List.mem_of_getElem? (i := 1685) (by decide +kernel)⟩
def lw_privs_6 : List (MethodName × Nat) := [(⟨"SewnRoadsModel", "asks", "(II)I"⟩, 72), (⟨"SewnRoadsModel", "lawTells", "(I)I"⟩, 72), (⟨"SewnRoadsModel", "termOf", "(II)I"⟩, 72), (⟨"SewnRoadsModel", "wearsNow", "(IZI)I"⟩, 72), (⟨"SewnRoadsModel", "wayOf", "(I)I"⟩, 72), (⟨"SewnRoadsModel", "isCart", "(I)Z"⟩, 72), (⟨"SewnRoadsModel", "tollOf", "(II)I"⟩, 72), (⟨"SewnRoadsModel", "records", "()V"⟩, 72), (⟨"SewnRoadsModel", "goes", "(I)V"⟩, 72), (⟨"SewnRoadsModel", "weekGoes", "()V"⟩, 72), (⟨"SewnRoadsModel", "fillsWays", "()V"⟩, 72), (⟨"SewnRoadsModel", "cartGoes", "(I)V"⟩, 72), (⟨"SewnRoadsModel", "roadOf", "(I)I"⟩, 72), (⟨"SewnRoadsModel", "fillsFar", "(I)V"⟩, 72), (⟨"SewnRoadsModel", "otherEnd", "(II)I"⟩, 72), (⟨"SewnRoadsModel", "isFrost", "()Z"⟩, 72)]
theorem lw_r6 : ∀ q ∈ lw_privs_6, lw_okq q := List.forall_mem_cons.mpr ⟨lw_p80, List.forall_mem_cons.mpr ⟨lw_p81, List.forall_mem_cons.mpr ⟨lw_p82, List.forall_mem_cons.mpr ⟨lw_p83, List.forall_mem_cons.mpr ⟨lw_p84, List.forall_mem_cons.mpr ⟨lw_p85, List.forall_mem_cons.mpr ⟨lw_p86, List.forall_mem_cons.mpr ⟨lw_p87, List.forall_mem_cons.mpr ⟨lw_p88, List.forall_mem_cons.mpr ⟨lw_p89, List.forall_mem_cons.mpr ⟨lw_p90, List.forall_mem_cons.mpr ⟨lw_p91, List.forall_mem_cons.mpr ⟨lw_p92, List.forall_mem_cons.mpr ⟨lw_p93, List.forall_mem_cons.mpr ⟨lw_p94, List.forall_mem_cons.mpr ⟨lw_p95, fun _ h => absurd h List.not_mem_nil⟩⟩⟩⟩⟩⟩⟩⟩⟩⟩⟩⟩⟩⟩⟩⟩
theorem lw_p96 : lw_okq (⟨"SewnRoadsModel", "isTown", "(I)Z"⟩, 72) := ⟨⟨by decide +kernel, by decide +kernel⟩, List.mem_of_getElem? (i := 1198) (by decide +kernel), List.mem_of_getElem? (i := 1700) (by decide +kernel), List.mem_of_getElem? (i := 1701) (by decide +kernel)⟩
theorem lw_p97 : lw_okq (⟨"SewnRoadsModel", "areJoined", "(II)Z"⟩, 72) := ⟨⟨by decide +kernel, by decide +kernel⟩, List.mem_of_getElem? (i := 1198) (by decide +kernel), List.mem_of_getElem? (i := 1708) (by decide +kernel), List.mem_of_getElem? (i := 1709) (by decide +kernel)⟩
theorem lw_p98 : lw_okq (⟨"SewnRoadsModel", "joinedTo", "(I)I"⟩, 72) := ⟨⟨by decide +kernel, by decide +kernel⟩, List.mem_of_getElem? (i := 1198) (by decide +kernel), List.mem_of_getElem? (i := 1716) (by decide +kernel), List.mem_of_getElem? (i := 1717) (by decide +kernel)⟩
theorem lw_p99 : lw_okq (⟨"SewnRoadsModel", "takesNow", "(II)I"⟩, 72) := ⟨⟨by decide +kernel, by decide +kernel⟩, List.mem_of_getElem? (i := 1198) (by decide +kernel), List.mem_of_getElem? (i := 1731) (by decide +kernel), List.mem_of_getElem? (i := 1732) (by decide +kernel)⟩
theorem lw_p100 : lw_okq (⟨"SewnRoadsModel", "joinsAll", "(II)Z"⟩, 72) := ⟨⟨by decide +kernel, by decide +kernel⟩, List.mem_of_getElem? (i := 1198) (by decide +kernel), List.mem_of_getElem? (i := 1739) (by decide +kernel), List.mem_of_getElem? (i := 1740) (by decide +kernel)⟩
theorem lw_p101 : lw_okq (⟨"SewnRoadsModel", "holdsFor", "(II)I"⟩, 72) := ⟨⟨by decide +kernel, by decide +kernel⟩, List.mem_of_getElem? (i := 1198) (by decide +kernel), List.mem_of_getElem? (i := 1755) (by decide +kernel), List.mem_of_getElem? (i := 1756) (by decide +kernel)⟩
theorem lw_p102 : lw_okq (⟨"SewnRoadsModel", "wholeAt", "(I)I"⟩, 72) := ⟨⟨by decide +kernel, by decide +kernel⟩, List.mem_of_getElem? (i := 1198) (by decide +kernel), List.mem_of_getElem? (i := 1763) (by decide +kernel), List.mem_of_getElem? (i := 1764) (by decide +kernel)⟩
theorem lw_p103 : lw_okq (⟨"SewnRoadsModel", "cutBits", "(I)I"⟩, 72) := ⟨⟨by decide +kernel, by decide +kernel⟩, List.mem_of_getElem? (i := 1198) (by decide +kernel), List.mem_of_getElem? (i := 1802) (by decide +kernel), List.mem_of_getElem? (i := 1803) (by decide +kernel)⟩
theorem lw_p104 : lw_okq (⟨"SewnRoadsModel", "cutsOne", "(I)V"⟩, 72) := ⟨⟨by decide +kernel, by decide +kernel⟩, List.mem_of_getElem? (i := 1198) (by decide +kernel), List.mem_of_getElem? (i := 1806) (by decide +kernel), List.mem_of_getElem? (i := 1807) (by decide +kernel)⟩
theorem lw_p105 : lw_okq (⟨"SewnRoadsModel", "wayBetween", "(II)I"⟩, 72) := ⟨⟨by decide +kernel, by decide +kernel⟩, List.mem_of_getElem? (i := 1198) (by decide +kernel), List.mem_of_getElem? (i := 1810) (by decide +kernel), List.mem_of_getElem? (i := 1811) (by decide +kernel)⟩
theorem lw_p106 : lw_okq (⟨"SewnRoadsModel", "worstOf", "(III)I"⟩, 72) := ⟨⟨by decide +kernel, by decide +kernel⟩, List.mem_of_getElem? (i := 1198) (by decide +kernel), List.mem_of_getElem? (i := 1821) (by decide +kernel), List.mem_of_getElem? (i := 1822) (by decide +kernel)⟩
def lw_privs_7 : List (MethodName × Nat) := [(⟨"SewnRoadsModel", "isTown", "(I)Z"⟩, 72), (⟨"SewnRoadsModel", "areJoined", "(II)Z"⟩, 72), (⟨"SewnRoadsModel", "joinedTo", "(I)I"⟩, 72), (⟨"SewnRoadsModel", "takesNow", "(II)I"⟩, 72), (⟨"SewnRoadsModel", "joinsAll", "(II)Z"⟩, 72), (⟨"SewnRoadsModel", "holdsFor", "(II)I"⟩, 72), (⟨"SewnRoadsModel", "wholeAt", "(I)I"⟩, 72), (⟨"SewnRoadsModel", "cutBits", "(I)I"⟩, 72), (⟨"SewnRoadsModel", "cutsOne", "(I)V"⟩, 72), (⟨"SewnRoadsModel", "wayBetween", "(II)I"⟩, 72), (⟨"SewnRoadsModel", "worstOf", "(III)I"⟩, 72)]
theorem lw_r7 : ∀ q ∈ lw_privs_7, lw_okq q := List.forall_mem_cons.mpr ⟨lw_p96, List.forall_mem_cons.mpr ⟨lw_p97, List.forall_mem_cons.mpr ⟨lw_p98, List.forall_mem_cons.mpr ⟨lw_p99, List.forall_mem_cons.mpr ⟨lw_p100, List.forall_mem_cons.mpr ⟨lw_p101, List.forall_mem_cons.mpr ⟨lw_p102, List.forall_mem_cons.mpr ⟨lw_p103, List.forall_mem_cons.mpr ⟨lw_p104, List.forall_mem_cons.mpr ⟨lw_p105, List.forall_mem_cons.mpr ⟨lw_p106, fun _ h => absurd h List.not_mem_nil⟩⟩⟩⟩⟩⟩⟩⟩⟩⟩⟩
def lw_privs : List (MethodName × Nat) := lw_privs_1 ++ (lw_privs_2 ++ (lw_privs_3 ++ (lw_privs_4 ++ (lw_privs_5 ++ (lw_privs_6 ++ (lw_privs_7))))))
def lw_tbl : List Cond := k2_sels lw_privs ++ tables_1
theorem lw_privs_ok : ∀ q ∈ lw_privs, lw_okq q := by
  show ∀ q ∈ lw_privs_1 ++ (lw_privs_2 ++ (lw_privs_3 ++ (lw_privs_4 ++ (lw_privs_5 ++ (lw_privs_6 ++ (lw_privs_7)))))), lw_okq q
  exact List.forall_mem_append.mpr ⟨lw_r1, List.forall_mem_append.mpr ⟨lw_r2, List.forall_mem_append.mpr ⟨lw_r3, List.forall_mem_append.mpr ⟨lw_r4, List.forall_mem_append.mpr ⟨lw_r5, List.forall_mem_append.mpr ⟨lw_r6, lw_r7⟩⟩⟩⟩⟩⟩
end
section
def RX0 : String := "SewnRoads$Laws"
def TX0 : u_T := fun k => match k with
  | 0 => ("SewnRoads$Laws", "steps", "[I", true)
  | 1 => ("SewnRoads$Laws", "stack", "[I", true)
  | 2 => ("SewnRoads$Laws", "begins", "[I", true)
  | _ => ("SewnRoads$Laws", "size", "I", false)
def tyX0 : Nat → FieldType := fun k => match k with
  | 0 => .array .int
  | 1 => .array .int
  | 2 => .array .int
  | _ => .int
theorem nmX0 : ∀ a, a < 4 → ∀ b, b < 4 → a ≠ b → (TX0 a).2.1 ≠ (TX0 b).2.1 := by decide +kernel
theorem tyX0_ok : ∀ k, k < 4 → parseFieldDescriptor (TX0 k).2.2.1 = some (tyX0 k) := by decide +kernel
def RX1 : String := "SewnRoads$Net"
def TX1 : u_T := fun k => match k with
  | 0 => ("SewnRoads$Net", "plan", "LSewnRoads$Plan;", true)
  | _ => ("SewnRoads$Net", "distance", "[I", true)
def tyX1 : Nat → FieldType := fun k => match k with
  | 0 => .object "SewnRoads$Plan"
  | _ => .array .int
theorem nmX1 : ∀ a, a < 2 → ∀ b, b < 2 → a ≠ b → (TX1 a).2.1 ≠ (TX1 b).2.1 := by decide +kernel
theorem tyX1_ok : ∀ k, k < 2 → parseFieldDescriptor (TX1 k).2.2.1 = some (tyX1 k) := by decide +kernel
def RX2 : String := "SewnRoads$Past"
def TX2 : u_T := fun k => match k with
  | 0 => ("SewnRoads$Past", "states", "[LSewnRoads$State;", true)
  | 1 => ("SewnRoads$Past", "oldest", "I", false)
  | _ => ("SewnRoads$Past", "size", "I", false)
def tyX2 : Nat → FieldType := fun k => match k with
  | 0 => .array (.object "SewnRoads$State")
  | 1 => .int
  | _ => .int
theorem nmX2 : ∀ a, a < 3 → ∀ b, b < 3 → a ≠ b → (TX2 a).2.1 ≠ (TX2 b).2.1 := by decide +kernel
theorem tyX2_ok : ∀ k, k < 3 → parseFieldDescriptor (TX2 k).2.2.1 = some (tyX2 k) := by decide +kernel
def RX3 : String := "SewnRoads$Plan"
def TX3 : u_T := fun k => match k with
  | 0 => ("SewnRoads$Plan", "towns", "I", false)
  | 1 => ("SewnRoads$Plan", "seams", "I", false)
  | 2 => ("SewnRoads$Plan", "women", "I", false)
  | 3 => ("SewnRoads$Plan", "carts", "I", false)
  | 4 => ("SewnRoads$Plan", "stitches", "I", false)
  | 5 => ("SewnRoads$Plan", "thread", "I", false)
  | 6 => ("SewnRoads$Plan", "frost", "I", false)
  | 7 => ("SewnRoads$Plan", "seed", "I", false)
  | 8 => ("SewnRoads$Plan", "first", "[I", true)
  | 9 => ("SewnRoads$Plan", "second", "[I", true)
  | 10 => ("SewnRoads$Plan", "ends", "[I", true)
  | 11 => ("SewnRoads$Plan", "length", "[I", true)
  | 12 => ("SewnRoads$Plan", "sewn", "[I", true)
  | 13 => ("SewnRoads$Plan", "ways", "[I", true)
  | 14 => ("SewnRoads$Plan", "from", "[I", true)
  | 15 => ("SewnRoads$Plan", "to", "[I", true)
  | 16 => ("SewnRoads$Plan", "load", "[I", true)
  | _ => ("SewnRoads$Plan", "laws", "LSewnRoads$Laws;", true)
def tyX3 : Nat → FieldType := fun k => match k with
  | 0 => .int
  | 1 => .int
  | 2 => .int
  | 3 => .int
  | 4 => .int
  | 5 => .int
  | 6 => .int
  | 7 => .int
  | 8 => .array .int
  | 9 => .array .int
  | 10 => .array .int
  | 11 => .array .int
  | 12 => .array .int
  | 13 => .array .int
  | 14 => .array .int
  | 15 => .array .int
  | 16 => .array .int
  | _ => .object "SewnRoads$Laws"
theorem nmX3 : ∀ a, a < 18 → ∀ b, b < 18 → a ≠ b → (TX3 a).2.1 ≠ (TX3 b).2.1 := by decide +kernel
theorem tyX3_ok : ∀ k, k < 18 → parseFieldDescriptor (TX3 k).2.2.1 = some (tyX3 k) := by decide +kernel
def RX4 : String := "SewnRoads$Reader"
def TX4 : u_T := fun k => match k with
  | 0 => ("SewnRoads$Reader", "draft", "LSewnRoads$Plan;", true)
  | 1 => ("SewnRoads$Reader", "faultPlace", "I", false)
  | 2 => ("SewnRoads$Reader", "tokens", "LSewnRoads$Tokens;", true)
  | 3 => ("SewnRoads$Reader", "names", "[J", true)
  | 4 => ("SewnRoads$Reader", "townOfName", "[I", true)
  | 5 => ("SewnRoads$Reader", "nameCount", "I", false)
  | 6 => ("SewnRoads$Reader", "at", "I", false)
  | 7 => ("SewnRoads$Reader", "kind", "I", false)
  | 8 => ("SewnRoads$Reader", "fault", "I", false)
  | 9 => ("SewnRoads$Reader", "softFault", "I", false)
  | _ => ("SewnRoads$Reader", "softPlace", "I", false)
def tyX4 : Nat → FieldType := fun k => match k with
  | 0 => .object "SewnRoads$Plan"
  | 1 => .int
  | 2 => .object "SewnRoads$Tokens"
  | 3 => .array .long
  | 4 => .array .int
  | 5 => .int
  | 6 => .int
  | 7 => .int
  | 8 => .int
  | 9 => .int
  | _ => .int
theorem nmX4 : ∀ a, a < 11 → ∀ b, b < 11 → a ≠ b → (TX4 a).2.1 ≠ (TX4 b).2.1 := by decide +kernel
theorem tyX4_ok : ∀ k, k < 11 → parseFieldDescriptor (TX4 k).2.2.1 = some (tyX4 k) := by decide +kernel
def RX5 : String := "SewnRoads$Rules"
def TX5 : u_T := fun k => match k with
  | 0 => ("SewnRoads$Rules", "plan", "LSewnRoads$Plan;", true)
  | 1 => ("SewnRoads$Rules", "vars", "[I", true)
  | _ => ("SewnRoads$Rules", "setCost", "[I", true)
def tyX5 : Nat → FieldType := fun k => match k with
  | 0 => .object "SewnRoads$Plan"
  | 1 => .array .int
  | _ => .array .int
theorem nmX5 : ∀ a, a < 3 → ∀ b, b < 3 → a ≠ b → (TX5 a).2.1 ≠ (TX5 b).2.1 := by decide +kernel
theorem tyX5_ok : ∀ k, k < 3 → parseFieldDescriptor (TX5 k).2.2.1 = some (tyX5 k) := by decide +kernel
def RX6 : String := "SewnRoads$Search"
def TX6 : u_T := fun k => match k with
  | 0 => ("SewnRoads$Search", "plan", "LSewnRoads$Plan;", true)
  | 1 => ("SewnRoads$Search", "net", "LSewnRoads$Net;", true)
  | 2 => ("SewnRoads$Search", "town", "[I", true)
  | 3 => ("SewnRoads$Search", "other", "[I", true)
  | 4 => ("SewnRoads$Search", "way", "[I", true)
  | 5 => ("SewnRoads$Search", "gap", "[I", true)
  | _ => ("SewnRoads$Search", "told", "I", false)
def tyX6 : Nat → FieldType := fun k => match k with
  | 0 => .object "SewnRoads$Plan"
  | 1 => .object "SewnRoads$Net"
  | 2 => .array .int
  | 3 => .array .int
  | 4 => .array .int
  | 5 => .array .int
  | _ => .int
theorem nmX6 : ∀ a, a < 7 → ∀ b, b < 7 → a ≠ b → (TX6 a).2.1 ≠ (TX6 b).2.1 := by decide +kernel
theorem tyX6_ok : ∀ k, k < 7 → parseFieldDescriptor (TX6 k).2.2.1 = some (tyX6 k) := by decide +kernel
def RX7 : String := "SewnRoads$Season"
def TX7 : u_T := fun k => match k with
  | 0 => ("SewnRoads$Season", "plan", "LSewnRoads$Plan;", true)
  | 1 => ("SewnRoads$Season", "rules", "LSewnRoads$Rules;", true)
  | 2 => ("SewnRoads$Season", "net", "LSewnRoads$Net;", true)
  | 3 => ("SewnRoads$Season", "carted", "[I", true)
  | 4 => ("SewnRoads$Season", "way", "[I", true)
  | _ => ("SewnRoads$Season", "life", "[I", true)
def tyX7 : Nat → FieldType := fun k => match k with
  | 0 => .object "SewnRoads$Plan"
  | 1 => .object "SewnRoads$Rules"
  | 2 => .object "SewnRoads$Net"
  | 3 => .array .int
  | 4 => .array .int
  | _ => .array .int
theorem nmX7 : ∀ a, a < 6 → ∀ b, b < 6 → a ≠ b → (TX7 a).2.1 ≠ (TX7 b).2.1 := by decide +kernel
theorem tyX7_ok : ∀ k, k < 6 → parseFieldDescriptor (TX7 k).2.2.1 = some (tyX7 k) := by decide +kernel
def RX8 : String := "SewnRoads$State"
def TX8 : u_T := fun k => match k with
  | 0 => ("SewnRoads$State", "week", "I", false)
  | 1 => ("SewnRoads$State", "thread", "I", false)
  | 2 => ("SewnRoads$State", "sewn", "[I", true)
  | _ => ("SewnRoads$State", "carts", "[I", true)
def tyX8 : Nat → FieldType := fun k => match k with
  | 0 => .int
  | 1 => .int
  | 2 => .array .int
  | _ => .array .int
theorem nmX8 : ∀ a, a < 4 → ∀ b, b < 4 → a ≠ b → (TX8 a).2.1 ≠ (TX8 b).2.1 := by decide +kernel
theorem tyX8_ok : ∀ k, k < 4 → parseFieldDescriptor (TX8 k).2.2.1 = some (tyX8 k) := by decide +kernel
def RX9 : String := "SewnRoads$Tape"
def TX9 : u_T := fun k => match k with
  | 0 => ("SewnRoads$Tape", "bytes", "[B", true)
  | _ => ("SewnRoads$Tape", "length", "I", false)
def tyX9 : Nat → FieldType := fun k => match k with
  | 0 => .array .byte
  | _ => .int
theorem nmX9 : ∀ a, a < 2 → ∀ b, b < 2 → a ≠ b → (TX9 a).2.1 ≠ (TX9 b).2.1 := by decide +kernel
theorem tyX9_ok : ∀ k, k < 2 → parseFieldDescriptor (TX9 k).2.2.1 = some (tyX9 k) := by decide +kernel
def RX10 : String := "SewnRoads$Tokens"
def TX10 : u_T := fun k => match k with
  | 0 => ("SewnRoads$Tokens", "kind", "[I", true)
  | 1 => ("SewnRoads$Tokens", "start", "[I", true)
  | 2 => ("SewnRoads$Tokens", "value", "[J", true)
  | 3 => ("SewnRoads$Tokens", "words", "[J", true)
  | _ => ("SewnRoads$Tokens", "size", "I", false)
def tyX10 : Nat → FieldType := fun k => match k with
  | 0 => .array .int
  | 1 => .array .int
  | 2 => .array .long
  | 3 => .array .long
  | _ => .int
theorem nmX10 : ∀ a, a < 5 → ∀ b, b < 5 → a ≠ b → (TX10 a).2.1 ≠ (TX10 b).2.1 := by decide +kernel
theorem tyX10_ok : ∀ k, k < 5 → parseFieldDescriptor (TX10 k).2.2.1 = some (tyX10 k) := by decide +kernel
def RX11 : String := "SewnRoads"
def TX11 : u_T := fun k => match k with
  | 0 => ("SewnRoads", "tape", "LSewnRoads$Tape;", true)
  | 1 => ("SewnRoads", "reader", "LSewnRoads$Reader;", true)
  | 2 => ("SewnRoads", "plan", "LSewnRoads$Plan;", true)
  | 3 => ("SewnRoads", "now", "LSewnRoads$State;", true)
  | 4 => ("SewnRoads", "later", "LSewnRoads$State;", true)
  | 5 => ("SewnRoads", "past", "LSewnRoads$Past;", true)
  | 6 => ("SewnRoads", "slots", "[LSewnRoads$State;", true)
  | 7 => ("SewnRoads", "held", "[Z", true)
  | 8 => ("SewnRoads", "rules", "LSewnRoads$Rules;", true)
  | 9 => ("SewnRoads", "net", "LSewnRoads$Net;", true)
  | 10 => ("SewnRoads", "season", "LSewnRoads$Season;", true)
  | 11 => ("SewnRoads", "search", "LSewnRoads$Search;", true)
  | _ => ("SewnRoads", "faultPlace", "I", false)
def tyX11 : Nat → FieldType := fun k => match k with
  | 0 => .object "SewnRoads$Tape"
  | 1 => .object "SewnRoads$Reader"
  | 2 => .object "SewnRoads$Plan"
  | 3 => .object "SewnRoads$State"
  | 4 => .object "SewnRoads$State"
  | 5 => .object "SewnRoads$Past"
  | 6 => .array (.object "SewnRoads$State")
  | 7 => .array .boolean
  | 8 => .object "SewnRoads$Rules"
  | 9 => .object "SewnRoads$Net"
  | 10 => .object "SewnRoads$Season"
  | 11 => .object "SewnRoads$Search"
  | _ => .int
theorem nmX11 : ∀ a, a < 13 → ∀ b, b < 13 → a ≠ b → (TX11 a).2.1 ≠ (TX11 b).2.1 := by decide +kernel
theorem tyX11_ok : ∀ k, k < 13 → parseFieldDescriptor (TX11 k).2.2.1 = some (tyX11 k) := by decide +kernel
def RX12 : String := "SewnRoadsModel"
def TX12 : u_T := fun k => match k with
  | 0 => ("SewnRoadsModel", "thrown", "I", false)
  | 1 => ("SewnRoadsModel", "tape", "[B", true)
  | 2 => ("SewnRoadsModel", "taped", "I", false)
  | 3 => ("SewnRoadsModel", "text", "[B", true)
  | 4 => ("SewnRoadsModel", "size", "I", false)
  | 5 => ("SewnRoadsModel", "tKind", "[I", true)
  | 6 => ("SewnRoadsModel", "tPlace", "[I", true)
  | 7 => ("SewnRoadsModel", "tValue", "[I", true)
  | 8 => ("SewnRoadsModel", "tName", "[J", true)
  | 9 => ("SewnRoadsModel", "keys", "[J", true)
  | 10 => ("SewnRoadsModel", "tokens", "I", false)
  | 11 => ("SewnRoadsModel", "t", "I", false)
  | 12 => ("SewnRoadsModel", "open", "I", false)
  | 13 => ("SewnRoadsModel", "fault", "I", false)
  | 14 => ("SewnRoadsModel", "faultPlace", "I", false)
  | 15 => ("SewnRoadsModel", "worst", "I", false)
  | 16 => ("SewnRoadsModel", "worstPlace", "I", false)
  | 17 => ("SewnRoadsModel", "place", "I", false)
  | 18 => ("SewnRoadsModel", "live", "I", false)
  | 19 => ("SewnRoadsModel", "side", "I", false)
  | 20 => ("SewnRoadsModel", "names", "I", false)
  | 21 => ("SewnRoadsModel", "nameOf", "[J", true)
  | 22 => ("SewnRoadsModel", "nameAt", "[I", true)
  | 23 => ("SewnRoadsModel", "towns", "[I", true)
  | 24 => ("SewnRoadsModel", "seams", "[I", true)
  | 25 => ("SewnRoadsModel", "fromOf", "[I", true)
  | 26 => ("SewnRoadsModel", "toOf", "[I", true)
  | 27 => ("SewnRoadsModel", "lengthOf", "[I", true)
  | 28 => ("SewnRoadsModel", "sewnTold", "[I", true)
  | 29 => ("SewnRoadsModel", "women", "[I", true)
  | 30 => ("SewnRoadsModel", "stitches", "[I", true)
  | 31 => ("SewnRoadsModel", "carts", "[I", true)
  | 32 => ("SewnRoadsModel", "startOf", "[I", true)
  | 33 => ("SewnRoadsModel", "endOf", "[I", true)
  | 34 => ("SewnRoadsModel", "loadOf", "[I", true)
  | 35 => ("SewnRoadsModel", "threadTold", "[I", true)
  | 36 => ("SewnRoadsModel", "frost", "[I", true)
  | 37 => ("SewnRoadsModel", "seed", "[I", true)
  | 38 => ("SewnRoadsModel", "lawFirst", "[I", true)
  | 39 => ("SewnRoadsModel", "lawLast", "[I", true)
  | 40 => ("SewnRoadsModel", "branches", "I", false)
  | 41 => ("SewnRoadsModel", "hasTest", "[Z", true)
  | 42 => ("SewnRoadsModel", "testFrom", "[I", true)
  | 43 => ("SewnRoadsModel", "testMid", "[I", true)
  | 44 => ("SewnRoadsModel", "testTo", "[I", true)
  | 45 => ("SewnRoadsModel", "termTo", "[I", true)
  | 46 => ("SewnRoadsModel", "codes", "I", false)
  | 47 => ("SewnRoadsModel", "code", "[I", true)
  | 48 => ("SewnRoadsModel", "codeInt", "[I", true)
  | 49 => ("SewnRoadsModel", "waits", "[I", true)
  | 50 => ("SewnRoadsModel", "waiting", "I", false)
  | 51 => ("SewnRoadsModel", "variables", "[I", true)
  | 52 => ("SewnRoadsModel", "pile", "[I", true)
  | 53 => ("SewnRoadsModel", "isBroken", "Z", false)
  | 54 => ("SewnRoadsModel", "now", "[I", true)
  | 55 => ("SewnRoadsModel", "row", "[I", true)
  | 56 => ("SewnRoadsModel", "lots", "I", false)
  | 57 => ("SewnRoadsModel", "isStill", "Z", false)
  | 58 => ("SewnRoadsModel", "farOf", "[I", true)
  | 59 => ("SewnRoadsModel", "waysNow", "[I", true)
  | 60 => ("SewnRoadsModel", "cartedOn", "[I", true)
  | 61 => ("SewnRoadsModel", "sewnThen", "[I", true)
  | 62 => ("SewnRoadsModel", "undos", "I", false)
  | 63 => ("SewnRoadsModel", "history", "[I", true)
  | 64 => ("SewnRoadsModel", "takesBy", "[I", true)
  | 65 => ("SewnRoadsModel", "tolds", "I", false)
  | 66 => ("SewnRoadsModel", "toldFrom", "[I", true)
  | 67 => ("SewnRoadsModel", "toldTo", "[I", true)
  | 68 => ("SewnRoadsModel", "toldWay", "[I", true)
  | 69 => ("SewnRoadsModel", "wayBy", "[I", true)
  | 70 => ("SewnRoadsModel", "isHeld", "[Z", true)
  | _ => ("SewnRoadsModel", "heldRows", "[I", true)
def tyX12 : Nat → FieldType := fun k => match k with
  | 0 => .int
  | 1 => .array .byte
  | 2 => .int
  | 3 => .array .byte
  | 4 => .int
  | 5 => .array .int
  | 6 => .array .int
  | 7 => .array .int
  | 8 => .array .long
  | 9 => .array .long
  | 10 => .int
  | 11 => .int
  | 12 => .int
  | 13 => .int
  | 14 => .int
  | 15 => .int
  | 16 => .int
  | 17 => .int
  | 18 => .int
  | 19 => .int
  | 20 => .int
  | 21 => .array .long
  | 22 => .array .int
  | 23 => .array .int
  | 24 => .array .int
  | 25 => .array .int
  | 26 => .array .int
  | 27 => .array .int
  | 28 => .array .int
  | 29 => .array .int
  | 30 => .array .int
  | 31 => .array .int
  | 32 => .array .int
  | 33 => .array .int
  | 34 => .array .int
  | 35 => .array .int
  | 36 => .array .int
  | 37 => .array .int
  | 38 => .array .int
  | 39 => .array .int
  | 40 => .int
  | 41 => .array .boolean
  | 42 => .array .int
  | 43 => .array .int
  | 44 => .array .int
  | 45 => .array .int
  | 46 => .int
  | 47 => .array .int
  | 48 => .array .int
  | 49 => .array .int
  | 50 => .int
  | 51 => .array .int
  | 52 => .array .int
  | 53 => .boolean
  | 54 => .array .int
  | 55 => .array .int
  | 56 => .int
  | 57 => .boolean
  | 58 => .array .int
  | 59 => .array .int
  | 60 => .array .int
  | 61 => .array .int
  | 62 => .int
  | 63 => .array .int
  | 64 => .array .int
  | 65 => .int
  | 66 => .array .int
  | 67 => .array .int
  | 68 => .array .int
  | 69 => .array .int
  | 70 => .array .boolean
  | _ => .array .int
theorem nmX12 : ∀ a, a < 72 → ∀ b, b < 72 → a ≠ b → (TX12 a).2.1 ≠ (TX12 b).2.1 := by decide +kernel
theorem tyX12_ok : ∀ k, k < 72 → parseFieldDescriptor (TX12 k).2.2.1 = some (tyX12 k) := by decide +kernel
abbrev vwCl : List vw_C := [(RX0, TX0, 4), (RX1, TX1, 2), (RX2, TX2, 3), (RX3, TX3, 18), (RX4, TX4, 11), (RX5, TX5, 3), (RX6, TX6, 7), (RX7, TX7, 6), (RX8, TX8, 4), (RX9, TX9, 2), (RX10, TX10, 5), (RX11, TX11, 13), (RX12, TX12, 72)]
/-- the words that a callee may take along -/
def gtb : List Cond := lw_tbl.filter goodWord
/-- of each class's fields: 0 an int, 1 a boolean, 2 a reference -/
def fkt : List (List Nat) := [[2, 2, 2, 0], [2, 2], [2, 0, 0], [0, 0, 0, 0, 0, 0, 0, 0, 2, 2, 2, 2, 2, 2, 2, 2, 2, 2], [2, 0, 2, 2, 2, 0, 0, 0, 0, 0, 0], [2, 2, 2], [2, 2, 2, 2, 2, 2, 0], [2, 2, 2, 2, 2, 2], [0, 0, 2, 2], [2, 0], [2, 2, 2, 2, 0], [2, 2, 2, 2, 2, 2, 2, 2, 2, 2, 2, 2, 0], [0, 2, 0, 2, 0, 2, 2, 2, 2, 2, 0, 0, 0, 0, 0, 0, 0, 0, 0, 0, 0, 2, 2, 2, 2, 2, 2, 2, 2, 2, 2, 2, 2, 2, 2, 2, 2, 2, 2, 2, 0, 2, 2, 2, 2, 2, 0, 2, 2, 2, 0, 2, 2, 1, 2, 2, 0, 1, 2, 2, 2, 2, 0, 2, 2, 0, 2, 2, 2, 2, 2, 2]]
def p_fk (ci j : Nat) : Nat := (fkt.getD ci []).getD j 9
end
section
/-! ===== the pure machine: a static part PT (how many cells, how many slots, the cells' kinds, their references), a moving part IJ (ints, longs) ===== -/
abbrev PT : Type := Nat × Nat × (Nat → Nat × Nat) × (Nat → Nat → Nat)
abbrev IJ : Type := (Nat → Nat → Int32) × (Nat → Nat → Int64)
/-- an instruction, where the next one stands, two numbers, a constant, numbers -/
abbrev PE : Type := Instr × Nat × Nat × Nat × Int32 × List Nat
abbrev Rs : Type := Option Value × IJ
abbrev Ora : Type := PT → Nat → List Value → IJ → Option Rs
abbrev PX : Type := Option (Nat × (Nat → Int32))
abbrev un : Value := .retAddr 0
def p_kd (T : PT) (k : Nat) : Nat × Nat := if k < T.1 then T.2.2.1 k else (999, 0)
def p_wr (I : Nat → Nat → Int32) (k j : Nat) (x : Int32) : Nat → Nat → Int32 := fun a => if a = k then upd (I a) j x else I a
def p_wrJ (J : Nat → Nat → Int64) (k j : Nat) (x : Int64) : Nat → Nat → Int64 := fun a => if a = k then vp_updL (J a) j x else J a
def p_cp (I : Nat → Nat → Int32) (k0 k1 sp dp n : Nat) : Nat → Nat → Int32 := fun a => if a = k1 then va_cpy (I k0) (I k1) sp dp n else I a
def p_in (i : Int32) (n : Nat) : Bool := !(decide (i < 0)) && decide (i.toNatClampNeg < n)
/-- storing a value of one slot, of two -/
def p_clr (L : List Value) (i : Nat) : List Value := match i with
  | 0 => L
  | j + 1 => match L[j]? with
    | some v => if v.category = 2 then L.set j un else L
    | none => L
def p_st1 (L : List Value) (i : Nat) (v : Value) : List Value := (p_clr L i).set i v
def p_st2 (L : List Value) (i : Nat) (v : Value) : List Value := ((p_clr L i).set (i + 1) un).set i v
def p_msk (mk : List Bool) (L : List Value) : List Value := List.zipWith (fun b v => if b then v else un) mk L
def p_sw {α : Type} (k : Nat → α) (d : Nat) (x : Int32) : Nat → List Nat → α
  | _, [] => k d
  | n, t :: ts => if x = nI n then k t else p_sw k d x (n + 1) ts
def p_cv {α : Type} (o : Option Rs) (k : IJ → Option α) : Option α := match o with
  | some (none, ij) => k ij
  | _ => none
def p_ci {α : Type} (o : Option Rs) (k : Int32 → IJ → Option α) : Option α := match o with
  | some (some (.int v), ij) => k v ij
  | _ => none
def p_cl {α : Type} (o : Option Rs) (k : Int64 → IJ → Option α) : Option α := match o with
  | some (some (.long v), ij) => k v ij
  | _ => none
def p_out {α : Type} (k : List Value → IJ → Option α) (rk : Nat) (o : Option Rs) (rest : List Value) : Option α := match rk with
  | 0 => p_cv o (fun ij => k rest ij)
  | 1 => p_ci o (fun v ij => k (.int v :: rest) ij)
  | _ => p_cl o (fun v ij => k (.long v :: rest) ij)
def p_words (st : List Value) : Nat := (st.map fun v => v.category).sum
def p_b1 {α : Type} (st : List Value) (f : Int32 → Value) (k : List Value → Option α) : Option α := match st with
  | .int x :: r => k (f x :: r)
  | _ => none
def p_b2 {α : Type} (st : List Value) (f : Int32 → Int32 → Value) (k : List Value → Option α) : Option α := match st with
  | .int y :: .int x :: r => k (f x y :: r)
  | _ => none
def p_l1 {α : Type} (st : List Value) (f : Int64 → Value) (k : List Value → Option α) : Option α := match st with
  | .long x :: r => k (f x :: r)
  | _ => none
def p_l2 {α : Type} (st : List Value) (f : Int64 → Int64 → Value) (k : List Value → Option α) : Option α := match st with
  | .long y :: .long x :: r => k (f x y :: r)
  | _ => none
def p_ldi {α : Type} (L : List Value) (i : Nat) (st : List Value) (k : List Value → Option α) : Option α := match L[i]? with
  | some (.int x) => k (.int x :: st)
  | _ => none
def p_ldl {α : Type} (L : List Value) (i : Nat) (st : List Value) (k : List Value → Option α) : Option α := match L[i]? with
  | some (.long x) => k (.long x :: st)
  | _ => none
def p_lda {α : Type} (L : List Value) (i : Nat) (st : List Value) (k : List Value → Option α) : Option α := match L[i]? with
  | some (.ref x) => k (.ref x :: st)
  | _ => none
def p_sti {α : Type} (L : List Value) (i : Nat) (st : List Value) (k : List Value → List Value → Option α) : Option α := match st with
  | .int x :: r => if i < L.length then k (p_st1 L i (.int x)) r else none
  | _ => none
def p_sta {α : Type} (L : List Value) (i : Nat) (st : List Value) (k : List Value → List Value → Option α) : Option α := match st with
  | .ref x :: r => if i < L.length then k (p_st1 L i (.ref x)) r else none
  | _ => none
def p_stl {α : Type} (L : List Value) (i : Nat) (st : List Value) (k : List Value → List Value → Option α) : Option α := match st with
  | .long x :: r => if i + 1 < L.length then k (p_st2 L i (.long x)) r else none
  | _ => none
def p_inc {α : Type} (L : List Value) (i : Nat) (v : Int32) (k : List Value → Option α) : Option α := match L[i]? with
  | some (.int x) => k (p_st1 L i (.int (x + v)))
  | _ => none
def p_br1 {α : Type} (cd : ClassFile.Cond) (x : Int32) (kt kf : Option α) : Option α := match cd with
  | .eq => if x = 0 then kt else kf
  | .ne => if x = 0 then kf else kt
  | .lt => if x < 0 then kt else kf
  | .ge => if 0 ≤ x then kt else kf
  | .gt => if 0 < x then kt else kf
  | .le => if x ≤ 0 then kt else kf
def p_br2 {α : Type} (cd : ClassFile.Cond) (x y : Int32) (kt kf : Option α) : Option α := match cd with
  | .eq => if x = y then kt else kf
  | .ne => if x = y then kf else kt
  | .lt => if x < y then kt else kf
  | .ge => if y ≤ x then kt else kf
  | .gt => if y < x then kt else kf
  | .le => if x ≤ y then kt else kf
def p_if1 {α : Type} (cd : ClassFile.Cond) (st : List Value) (kt kf : List Value → Option α) : Option α := match st with
  | .int x :: r => p_br1 cd x (kt r) (kf r)
  | _ => none
def p_if2 {α : Type} (cd : ClassFile.Cond) (st : List Value) (kt kf : List Value → Option α) : Option α := match st with
  | .int y :: .int x :: r => p_br2 cd x y (kt r) (kf r)
  | _ => none
def p_ald {α : Type} (X : PX) (T : PT) (ij : IJ) (st : List Value) (k : List Value → Option α) : Option α := match st with
  | .int i :: .ref q :: r =>
    if q = 100000 then (match X with
      | some X => if p_in i X.1 then k (.int (X.2 i.toNatClampNeg) :: r) else none
      | none => none)
    else if (p_kd T q).1 = 100 then (if p_in i (p_kd T q).2 then k (.int (ij.1 q i.toNatClampNeg) :: r) else none) else none
  | _ => none
def p_bld {α : Type} (T : PT) (ij : IJ) (st : List Value) (k : List Value → Option α) : Option α := match st with
  | .int i :: .ref q :: r => if (p_kd T q).1 = 101 ∨ (p_kd T q).1 = 102 then (if p_in i (p_kd T q).2 then k (.int (ij.1 q i.toNatClampNeg) :: r) else none) else none
  | _ => none
def p_lld {α : Type} (T : PT) (ij : IJ) (st : List Value) (k : List Value → Option α) : Option α := match st with
  | .int i :: .ref q :: r => if (p_kd T q).1 = 103 then (if p_in i (p_kd T q).2 then k (.long (ij.2 q i.toNatClampNeg) :: r) else none) else none
  | _ => none
def p_qld {α : Type} (T : PT) (st : List Value) (k : List Value → Option α) : Option α := match st with
  | .int i :: .ref q :: r => if (p_kd T q).1 = 104 then (if p_in i (p_kd T q).2 then (match T.2.2.2 q i.toNatClampNeg with
      | 0 => none
      | t + 1 => k (.ref t :: r)) else none) else none
  | _ => none
def p_ast {α : Type} (T : PT) (ij : IJ) (st : List Value) (k : List Value → IJ → Option α) : Option α := match st with
  | .int x :: .int i :: .ref q :: r => if (p_kd T q).1 = 100 then (if p_in i (p_kd T q).2 then k r (p_wr ij.1 q i.toNatClampNeg x, ij.2) else none) else none
  | _ => none
def p_bst {α : Type} (T : PT) (ij : IJ) (st : List Value) (k : List Value → IJ → Option α) : Option α := match st with
  | .int x :: .int i :: .ref q :: r =>
    if (p_kd T q).1 = 101 then (if p_in i (p_kd T q).2 then k r (p_wr ij.1 q i.toNatClampNeg (vp_nar .byte x), ij.2) else none)
    else if (p_kd T q).1 = 102 then (if p_in i (p_kd T q).2 then k r (p_wr ij.1 q i.toNatClampNeg (vp_nar .boolean x), ij.2) else none) else none
  | _ => none
def p_lst {α : Type} (T : PT) (ij : IJ) (st : List Value) (k : List Value → IJ → Option α) : Option α := match st with
  | .long x :: .int i :: .ref q :: r => if (p_kd T q).1 = 103 then (if p_in i (p_kd T q).2 then k r (ij.1, p_wrJ ij.2 q i.toNatClampNeg x) else none) else none
  | _ => none
def p_len {α : Type} (X : PX) (T : PT) (st : List Value) (k : List Value → Option α) : Option α := match st with
  | .ref q :: r =>
    if q = 100000 then (match X with
      | some X => k (.int (Int32.ofNat X.1) :: r)
      | none => none)
    else if 100 ≤ (p_kd T q).1 ∧ (p_kd T q).1 ≤ 103 then k (.int (Int32.ofNat (p_kd T q).2) :: r) else none
  | _ => none
def p_get {α : Type} (T : PT) (ij : IJ) (a b : Nat) (st : List Value) (k : List Value → Option α) : Option α := match st with
  | .ref q :: r => if (p_kd T q).1 = a then (if b < (p_kd T q).2 then (if p_fk a b = 2 then (match T.2.2.2 q b with
      | 0 => none
      | t + 1 => k (.ref t :: r)) else k (.int (ij.1 q b) :: r)) else none) else none
  | _ => none
def p_put {α : Type} (T : PT) (ij : IJ) (a b : Nat) (st : List Value) (k : List Value → IJ → Option α) : Option α := match st with
  | .int x :: .ref q :: r => if (p_kd T q).1 = a then (if b < (p_kd T q).2 then (match p_fk a b with
      | 0 => k r (p_wr ij.1 q b x, ij.2)
      | 1 => if vp_nar .boolean x = x then k r (p_wr ij.1 q b x, ij.2) else none
      | _ => none) else none) else none
  | _ => none
def p_acp {α : Type} (T : PT) (ij : IJ) (st : List Value) (k : List Value → IJ → Option α) : Option α := match st with
  | .int n :: .int dp :: .ref q1 :: .int sp :: .ref q0 :: r =>
    if (p_kd T q0).1 = 100 then (if (p_kd T q1).1 = 100 then (if 0 ≤ sp ∧ 0 ≤ dp ∧ 0 ≤ n ∧ sp.toNatClampNeg + n.toNatClampNeg ≤ (p_kd T q0).2 ∧ dp.toNatClampNeg + n.toNatClampNeg ≤ (p_kd T q1).2 ∧ p_words r ≤ 8
      then k r (p_cp ij.1 q0 q1 sp.toNatClampNeg dp.toNatClampNeg n.toNatClampNeg, ij.2) else none) else none) else none
  | _ => none
def p_call {α : Type} (O : Ora) (T : PT) (ij : IJ) (a b rk : Nat) (st : List Value) (k : List Value → IJ → Option α) : Option α :=
  if b ≤ st.length then (if p_words (st.drop b) ≤ 8 then p_out k rk (O T a (st.take b).reverse ij) (st.drop b) else none) else none
def p_inv {α : Type} (O : Ora) (T : PT) (ij : IJ) (a b : Nat) (ts : List Nat) (st : List Value) (k : List Value → IJ → Option α) : Option α := match ts with
  | [rk] => p_call O T ij a b rk st k
  | [_, 1] => if p_words st ≤ 8 then p_b2 st (fun x y => .int (if x < y then y else x)) (fun st => k st ij) else none
  | [_, 2] => if p_words st ≤ 8 then p_b2 st (fun x y => .int (if y < x then y else x)) (fun st => k st ij) else none
  | [_, 3] => p_acp T ij st k
  | _ => none
/-- a call of an object's method: its class is cn -/
def p_inw {α : Type} (O : Ora) (T : PT) (ij : IJ) (a b : Nat) (ts : List Nat) (st : List Value) (k : List Value → IJ → Option α) : Option α := match ts with
  | [rk, cn] => (match (st.take b).getLast? with
    | some (.ref q) => if (p_kd T q).1 = cn then p_call O T ij a b rk st k else none
    | _ => none)
  | _ => none
/-- one step of the pure machine, in a static world; k goes on, rt ends -/
def stpS {α : Type} (O : Ora) (X : PX) (T : PT) (e : PE) (L st : List Value) (ij : IJ) (k : Nat → List Value → List Value → IJ → Option α) (rt : Option Value → IJ → Option α) : Option α := match e.1 with
  | .iconst _ => k e.2.1 L (.int e.2.2.2.2.1 :: st) ij
  | .bipush _ => k e.2.1 L (.int e.2.2.2.2.1 :: st) ij
  | .sipush _ => k e.2.1 L (.int e.2.2.2.2.1 :: st) ij
  | .ldc _ => k e.2.1 L (.int e.2.2.2.2.1 :: st) ij
  | .ldc_w _ => k e.2.1 L (.int e.2.2.2.2.1 :: st) ij
  | .lconst _ => k e.2.1 L (.long (Int64.ofNat e.2.2.1) :: st) ij
  | .ldc2_w _ => k e.2.1 L (.long (Int64.ofNat e.2.2.1) :: st) ij
  | .iload i => p_ldi L i st (fun st => k e.2.1 L st ij)
  | .iload_n i => p_ldi L i st (fun st => k e.2.1 L st ij)
  | .lload i => p_ldl L i st (fun st => k e.2.1 L st ij)
  | .lload_n i => p_ldl L i st (fun st => k e.2.1 L st ij)
  | .aload i => p_lda L i st (fun st => k e.2.1 L st ij)
  | .aload_n i => p_lda L i st (fun st => k e.2.1 L st ij)
  | .istore i => p_sti L i st (fun L st => k e.2.1 L st ij)
  | .istore_n i => p_sti L i st (fun L st => k e.2.1 L st ij)
  | .lstore i => p_stl L i st (fun L st => k e.2.1 L st ij)
  | .lstore_n i => p_stl L i st (fun L st => k e.2.1 L st ij)
  | .astore i => p_sta L i st (fun L st => k e.2.1 L st ij)
  | .astore_n i => p_sta L i st (fun L st => k e.2.1 L st ij)
  | .iinc i _ => p_inc L i e.2.2.2.2.1 (fun L => k e.2.1 L st ij)
  | .iadd => p_b2 st (fun x y => .int (x + y)) (fun st => k e.2.1 L st ij)
  | .isub => p_b2 st (fun x y => .int (x - y)) (fun st => k e.2.1 L st ij)
  | .imul => p_b2 st (fun x y => .int (x * y)) (fun st => k e.2.1 L st ij)
  | .iand => p_b2 st (fun x y => .int (x &&& y)) (fun st => k e.2.1 L st ij)
  | .ior => p_b2 st (fun x y => .int (x ||| y)) (fun st => k e.2.1 L st ij)
  | .ixor => p_b2 st (fun x y => .int (x ^^^ y)) (fun st => k e.2.1 L st ij)
  | .ishl => p_b2 st (fun x y => .int (x <<< (y &&& 31))) (fun st => k e.2.1 L st ij)
  | .ishr => p_b2 st (fun x y => .int (x >>> (y &&& 31))) (fun st => k e.2.1 L st ij)
  | .iushr => p_b2 st (fun x y => .int (x.toUInt32 >>> (y.toUInt32 &&& Int32.toUInt32 31)).toInt32) (fun st => k e.2.1 L st ij)
  | .idiv => (match st with
    | .int y :: .int x :: r => if y = 0 then none else k e.2.1 L (.int (x / y) :: r) ij
    | _ => none)
  | .irem => (match st with
    | .int y :: .int x :: r => if y = 0 then none else k e.2.1 L (.int (x - x / y * y) :: r) ij
    | _ => none)
  | .ineg => p_b1 st (fun x => .int (-x)) (fun st => k e.2.1 L st ij)
  | .i2l => p_b1 st (fun x => .long x.toInt64) (fun st => k e.2.1 L st ij)
  | .i2b => p_b1 st (fun x => .int x.toInt8.toInt32) (fun st => k e.2.1 L st ij)
  | .i2c => p_b1 st (fun x => .int (x.toUInt32 % 65536).toInt32) (fun st => k e.2.1 L st ij)
  | .l2i => p_l1 st (fun x => .int x.toInt32) (fun st => k e.2.1 L st ij)
  | .ladd => p_l2 st (fun x y => .long (x + y)) (fun st => k e.2.1 L st ij)
  | .lsub => p_l2 st (fun x y => .long (x - y)) (fun st => k e.2.1 L st ij)
  | .lmul => p_l2 st (fun x y => .long (x * y)) (fun st => k e.2.1 L st ij)
  | .lcmp => p_l2 st (fun x y => .int (lg_cmp x y)) (fun st => k e.2.1 L st ij)
  | .dup => (match st with
    | v :: r => if v.category = 1 then k e.2.1 L (v :: v :: r) ij else none
    | _ => none)
  | .dup2 => (match st with
    | v :: w :: r => if v.category = 1 then (if w.category = 1 then k e.2.1 L (v :: w :: v :: w :: r) ij else none) else none
    | _ => none)
  | .pop => (match st with
    | v :: r => if v.category = 1 then k e.2.1 L r ij else none
    | _ => none)
  | .ifCond cd _ => p_if1 cd st (fun st => k e.2.2.1 L st ij) (fun st => k e.2.1 L st ij)
  | .if_icmp cd _ => p_if2 cd st (fun st => k e.2.2.1 L st ij) (fun st => k e.2.1 L st ij)
  | .goto _ => k e.2.2.1 L st ij
  | .tableswitch _ _ _ _ => (match st with
    | .int x :: r => p_sw (fun t => k t L r ij) e.2.2.1 x e.2.2.2.1 e.2.2.2.2.2
    | _ => none)
  | .iaload => p_ald X T ij st (fun st => k e.2.1 L st ij)
  | .baload => p_bld T ij st (fun st => k e.2.1 L st ij)
  | .laload => p_lld T ij st (fun st => k e.2.1 L st ij)
  | .aaload => p_qld T st (fun st => k e.2.1 L st ij)
  | .iastore => p_ast T ij st (fun st ij => k e.2.1 L st ij)
  | .bastore => p_bst T ij st (fun st ij => k e.2.1 L st ij)
  | .lastore => p_lst T ij st (fun st ij => k e.2.1 L st ij)
  | .arraylength => p_len X T st (fun st => k e.2.1 L st ij)
  | .getfield _ => p_get T ij e.2.2.1 e.2.2.2.1 st (fun st => k e.2.1 L st ij)
  | .putfield _ => p_put T ij e.2.2.1 e.2.2.2.1 st (fun st ij => k e.2.1 L st ij)
  | .invokevirtual _ => p_inw O T ij e.2.2.1 e.2.2.2.1 e.2.2.2.2.2 st (fun st ij => k e.2.1 L st ij)
  | .invokestatic _ => p_inv O T ij e.2.2.1 e.2.2.2.1 e.2.2.2.2.2 st (fun st ij => k e.2.1 L st ij)
  | .ireturn => (match st with
    | [.int v] => rt (some (.int v)) ij
    | _ => none)
  | .lreturn => (match st with
    | [.long v] => rt (some (.long v)) ij
    | _ => none)
  | .return_ => (match st with
    | [] => rt none ij
    | _ => none)
  | _ => none
/-- from a place to the next cuts: K goes on there -/
def blkS {α : Type} (O : Ora) (X : PX) (T : PT) (C : Nat → Option PE) (cuts : Nat → Option (List Bool)) (K : Nat → List Value → List Value → IJ → Option α) (rt : Option Value → IJ → Option α) (n : Nat) : Nat → List Value → List Value → IJ → Option α :=
  Nat.rec (fun _ _ _ _ => none) (fun _ ih pc L st ij => match C pc with
    | none => none
    | some e => stpS O X T e L st ij (fun pc L st ij => match cuts pc with
      | some km => K pc (p_msk km L) st ij
      | none => ih pc L st ij) rt) n
/-- n cuts at most -/
def runS {α : Type} (O : Ora) (X : PX) (T : PT) (C : Nat → Option PE) (cuts : Nat → Option (List Bool)) (rt : Option Value → IJ → Option α) (f n : Nat) : Nat → List Value → List Value → IJ → Option α :=
  Nat.rec (fun _ _ _ _ => none) (fun _ ih => blkS O X T C cuts ih rt f) n
end
section
/-! ===== the classes' facts, by their numbers ===== -/
def cT (ci : Nat) : vw_C := vwCl.getD ci ("", TX0, 0)
theorem mem_gtb {w : Cond} (h : w ∈ lw_tbl) (hg : goodWord w = true) : w ∈ gtb := List.mem_filter.mpr ⟨h, hg⟩
theorem gtb_good : GoodIn gtb gtb := fun w h => ⟨h, good_of_word (List.mem_filter.mp h).2⟩
theorem gtb_sub : ∀ w ∈ gtb, w ∈ lw_tbl := fun w h => (List.mem_filter.mp h).1
def cF (ci : Nat) (ty0 : Nat → FieldType) : Prop := vwCl[ci]? = some (cT ci) ∧ (∀ w ∈ u_ws (cT ci).1 (cT ci).2.1 (cT ci).2.2, w ∈ gtb) ∧ (∀ k, k < (cT ci).2.2 → parseFieldDescriptor ((cT ci).2.1 k).2.2.1 = some (ty0 k)) ∧ (∀ a, a < (cT ci).2.2 → ∀ b, b < (cT ci).2.2 → a ≠ b → ((cT ci).2.1 a).2.1 ≠ ((cT ci).2.1 b).2.1) ∧
  (∀ k, k < (cT ci).2.2 → p_fk ci k = 0 → ty0 k = .int ∧ ((cT ci).2.1 k).2.2.2 = false) ∧ (∀ k, k < (cT ci).2.2 → p_fk ci k = 1 → ty0 k = .boolean ∧ ((cT ci).2.1 k).2.2.2 = false)
theorem u_mem {ws : List Cond} (h : ws.all (fun w => decide (w ∈ lw_tbl) && goodWord w) = true) : ∀ w ∈ ws, w ∈ gtb := by
  intro w hw
  have h1 := List.all_eq_true.mp h w hw
  simp only [Bool.and_eq_true, decide_eq_true_eq] at h1
  exact mem_gtb h1.1 h1.2
set_option maxRecDepth 100000 in
theorem cf_0 : cF 0 tyX0 := ⟨rfl, u_mem (by decide +kernel), tyX0_ok, nmX0, by decide +kernel, by decide +kernel⟩
set_option maxRecDepth 100000 in
theorem cf_1 : cF 1 tyX1 := ⟨rfl, u_mem (by decide +kernel), tyX1_ok, nmX1, by decide +kernel, by decide +kernel⟩
set_option maxRecDepth 100000 in
theorem cf_2 : cF 2 tyX2 := ⟨rfl, u_mem (by decide +kernel), tyX2_ok, nmX2, by decide +kernel, by decide +kernel⟩
set_option maxRecDepth 100000 in
theorem cf_3 : cF 3 tyX3 := ⟨rfl, u_mem (by decide +kernel), tyX3_ok, nmX3, by decide +kernel, by decide +kernel⟩
set_option maxRecDepth 100000 in
theorem cf_4 : cF 4 tyX4 := ⟨rfl, u_mem (by decide +kernel), tyX4_ok, nmX4, by decide +kernel, by decide +kernel⟩
set_option maxRecDepth 100000 in
theorem cf_5 : cF 5 tyX5 := ⟨rfl, u_mem (by decide +kernel), tyX5_ok, nmX5, by decide +kernel, by decide +kernel⟩
set_option maxRecDepth 100000 in
theorem cf_6 : cF 6 tyX6 := ⟨rfl, u_mem (by decide +kernel), tyX6_ok, nmX6, by decide +kernel, by decide +kernel⟩
set_option maxRecDepth 100000 in
theorem cf_7 : cF 7 tyX7 := ⟨rfl, u_mem (by decide +kernel), tyX7_ok, nmX7, by decide +kernel, by decide +kernel⟩
set_option maxRecDepth 100000 in
theorem cf_8 : cF 8 tyX8 := ⟨rfl, u_mem (by decide +kernel), tyX8_ok, nmX8, by decide +kernel, by decide +kernel⟩
set_option maxRecDepth 100000 in
theorem cf_9 : cF 9 tyX9 := ⟨rfl, u_mem (by decide +kernel), tyX9_ok, nmX9, by decide +kernel, by decide +kernel⟩
set_option maxRecDepth 100000 in
theorem cf_10 : cF 10 tyX10 := ⟨rfl, u_mem (by decide +kernel), tyX10_ok, nmX10, by decide +kernel, by decide +kernel⟩
set_option maxRecDepth 100000 in
theorem cf_11 : cF 11 tyX11 := ⟨rfl, u_mem (by decide +kernel), tyX11_ok, nmX11, by decide +kernel, by decide +kernel⟩
set_option maxRecDepth 100000 in
theorem cf_12 : cF 12 tyX12 := ⟨rfl, u_mem (by decide +kernel), tyX12_ok, nmX12, by decide +kernel, by decide +kernel⟩
theorem cf_all : ∀ ci, ci < 13 → ∃ ty0, cF ci ty0 := by
  intro ci h
  match ci, h with
  | 0, _ => exact ⟨_, cf_0⟩
  | 1, _ => exact ⟨_, cf_1⟩
  | 2, _ => exact ⟨_, cf_2⟩
  | 3, _ => exact ⟨_, cf_3⟩
  | 4, _ => exact ⟨_, cf_4⟩
  | 5, _ => exact ⟨_, cf_5⟩
  | 6, _ => exact ⟨_, cf_6⟩
  | 7, _ => exact ⟨_, cf_7⟩
  | 8, _ => exact ⟨_, cf_8⟩
  | 9, _ => exact ⟨_, cf_9⟩
  | 10, _ => exact ⟨_, cf_10⟩
  | 11, _ => exact ⟨_, cf_11⟩
  | 12, _ => exact ⟨_, cf_12⟩
  | n + 13, h => exact absurd h (by omega)
end
