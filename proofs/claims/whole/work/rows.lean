section
-- ===== PART A: goes FIRST, ahead of the names: the tables' words, and 'selects' of the private methods out of them =====
/-- a private method of a class that the tables say can be made, by its rows of tables_1 -/
def lw_okq (q : MethodName × Nat) : Prop := (q.1.cls ≠ "java/lang/invoke/MethodHandle" ∧ q.1.cls ≠ "java/lang/invoke/VarHandle") ∧ Cond.instantiable q.1.cls q.2 ∈ tables_1 ∧ Cond.privateMethod q.1 ∈ tables_1 ∧ Cond.instanceMethod q.1 ∈ tables_1
theorem lw_p0 : lw_okq (⟨"SewnRoads$Laws", "addDefault", "(III)V"⟩, 4) := ⟨⟨by decide +kernel, by decide +kernel⟩, List.mem_of_getElem? (i := 60) (by decide +kernel), List.mem_of_getElem? (i := 70) (by decide +kernel), List.mem_of_getElem? (i := 71) (by decide +kernel)⟩
theorem lw_p1 : lw_okq (⟨"SewnRoads$Tokens", "scanOne", "(LSewnRoads$Tape;I)I"⟩, 5) := ⟨⟨by decide +kernel, by decide +kernel⟩, List.mem_of_getElem? (i := 197) (by decide +kernel), List.mem_of_getElem? (i := 542) (by decide +kernel), List.mem_of_getElem? (i := 543) (by decide +kernel)⟩
theorem lw_p2 : lw_okq (⟨"SewnRoads$Tokens", "scanLetters", "(LSewnRoads$Tape;I)I"⟩, 5) := ⟨⟨by decide +kernel, by decide +kernel⟩, List.mem_of_getElem? (i := 197) (by decide +kernel), List.mem_of_getElem? (i := 549) (by decide +kernel), List.mem_of_getElem? (i := 550) (by decide +kernel)⟩
theorem lw_p3 : lw_okq (⟨"SewnRoads$Tokens", "sortOfLetters", "(J)I"⟩, 5) := ⟨⟨by decide +kernel, by decide +kernel⟩, List.mem_of_getElem? (i := 197) (by decide +kernel), List.mem_of_getElem? (i := 553) (by decide +kernel), List.mem_of_getElem? (i := 554) (by decide +kernel)⟩
theorem lw_p4 : lw_okq (⟨"SewnRoads$Tokens", "add", "(IIJ)V"⟩, 5) := ⟨⟨by decide +kernel, by decide +kernel⟩, List.mem_of_getElem? (i := 197) (by decide +kernel), List.mem_of_getElem? (i := 557) (by decide +kernel), List.mem_of_getElem? (i := 558) (by decide +kernel)⟩
theorem lw_p5 : lw_okq (⟨"SewnRoads$Tokens", "scanDigits", "(LSewnRoads$Tape;I)I"⟩, 5) := ⟨⟨by decide +kernel, by decide +kernel⟩, List.mem_of_getElem? (i := 197) (by decide +kernel), List.mem_of_getElem? (i := 564) (by decide +kernel), List.mem_of_getElem? (i := 565) (by decide +kernel)⟩
theorem lw_p6 : lw_okq (⟨"SewnRoads$Reader", "readTell", "()V"⟩, 11) := ⟨⟨by decide +kernel, by decide +kernel⟩, List.mem_of_getElem? (i := 48) (by decide +kernel), List.mem_of_getElem? (i := 635) (by decide +kernel), List.mem_of_getElem? (i := 636) (by decide +kernel)⟩
theorem lw_p7 : lw_okq (⟨"SewnRoads$Reader", "readTown", "()V"⟩, 11) := ⟨⟨by decide +kernel, by decide +kernel⟩, List.mem_of_getElem? (i := 48) (by decide +kernel), List.mem_of_getElem? (i := 639) (by decide +kernel), List.mem_of_getElem? (i := 640) (by decide +kernel)⟩
theorem lw_p8 : lw_okq (⟨"SewnRoads$Reader", "takeFirst", "(Z)V"⟩, 11) := ⟨⟨by decide +kernel, by decide +kernel⟩, List.mem_of_getElem? (i := 48) (by decide +kernel), List.mem_of_getElem? (i := 643) (by decide +kernel), List.mem_of_getElem? (i := 644) (by decide +kernel)⟩
theorem lw_p9 : lw_okq (⟨"SewnRoads$Reader", "take", "(I)I"⟩, 11) := ⟨⟨by decide +kernel, by decide +kernel⟩, List.mem_of_getElem? (i := 48) (by decide +kernel), List.mem_of_getElem? (i := 647) (by decide +kernel), List.mem_of_getElem? (i := 648) (by decide +kernel)⟩
theorem lw_p10 : lw_okq (⟨"SewnRoads$Reader", "addName", "(II)V"⟩, 11) := ⟨⟨by decide +kernel, by decide +kernel⟩, List.mem_of_getElem? (i := 48) (by decide +kernel), List.mem_of_getElem? (i := 651) (by decide +kernel), List.mem_of_getElem? (i := 652) (by decide +kernel)⟩
theorem lw_p11 : lw_okq (⟨"SewnRoads$Reader", "findName", "(I)I"⟩, 11) := ⟨⟨by decide +kernel, by decide +kernel⟩, List.mem_of_getElem? (i := 48) (by decide +kernel), List.mem_of_getElem? (i := 655) (by decide +kernel), List.mem_of_getElem? (i := 656) (by decide +kernel)⟩
theorem lw_p12 : lw_okq (⟨"SewnRoads$Reader", "note", "(II)V"⟩, 11) := ⟨⟨by decide +kernel, by decide +kernel⟩, List.mem_of_getElem? (i := 48) (by decide +kernel), List.mem_of_getElem? (i := 663) (by decide +kernel), List.mem_of_getElem? (i := 664) (by decide +kernel)⟩
theorem lw_p13 : lw_okq (⟨"SewnRoads$Reader", "readSeam", "()V"⟩, 11) := ⟨⟨by decide +kernel, by decide +kernel⟩, List.mem_of_getElem? (i := 48) (by decide +kernel), List.mem_of_getElem? (i := 671) (by decide +kernel), List.mem_of_getElem? (i := 672) (by decide +kernel)⟩
theorem lw_p14 : lw_okq (⟨"SewnRoads$Reader", "townAt", "(I)I"⟩, 11) := ⟨⟨by decide +kernel, by decide +kernel⟩, List.mem_of_getElem? (i := 48) (by decide +kernel), List.mem_of_getElem? (i := 675) (by decide +kernel), List.mem_of_getElem? (i := 676) (by decide +kernel)⟩
theorem lw_p15 : lw_okq (⟨"SewnRoads$Reader", "numberAt", "(III)I"⟩, 11) := ⟨⟨by decide +kernel, by decide +kernel⟩, List.mem_of_getElem? (i := 48) (by decide +kernel), List.mem_of_getElem? (i := 683) (by decide +kernel), List.mem_of_getElem? (i := 684) (by decide +kernel)⟩
def lw_privs_1 : List (MethodName × Nat) := [(⟨"SewnRoads$Laws", "addDefault", "(III)V"⟩, 4), (⟨"SewnRoads$Tokens", "scanOne", "(LSewnRoads$Tape;I)I"⟩, 5), (⟨"SewnRoads$Tokens", "scanLetters", "(LSewnRoads$Tape;I)I"⟩, 5), (⟨"SewnRoads$Tokens", "sortOfLetters", "(J)I"⟩, 5), (⟨"SewnRoads$Tokens", "add", "(IIJ)V"⟩, 5), (⟨"SewnRoads$Tokens", "scanDigits", "(LSewnRoads$Tape;I)I"⟩, 5), (⟨"SewnRoads$Reader", "readTell", "()V"⟩, 11), (⟨"SewnRoads$Reader", "readTown", "()V"⟩, 11), (⟨"SewnRoads$Reader", "takeFirst", "(Z)V"⟩, 11), (⟨"SewnRoads$Reader", "take", "(I)I"⟩, 11), (⟨"SewnRoads$Reader", "addName", "(II)V"⟩, 11), (⟨"SewnRoads$Reader", "findName", "(I)I"⟩, 11), (⟨"SewnRoads$Reader", "note", "(II)V"⟩, 11), (⟨"SewnRoads$Reader", "readSeam", "()V"⟩, 11), (⟨"SewnRoads$Reader", "townAt", "(I)I"⟩, 11), (⟨"SewnRoads$Reader", "numberAt", "(III)I"⟩, 11)]
theorem lw_r1 : ∀ q ∈ lw_privs_1, lw_okq q := List.forall_mem_cons.mpr ⟨lw_p0, List.forall_mem_cons.mpr ⟨lw_p1, List.forall_mem_cons.mpr ⟨lw_p2, List.forall_mem_cons.mpr ⟨lw_p3, List.forall_mem_cons.mpr ⟨lw_p4, List.forall_mem_cons.mpr ⟨lw_p5, List.forall_mem_cons.mpr ⟨lw_p6, List.forall_mem_cons.mpr ⟨lw_p7, List.forall_mem_cons.mpr ⟨lw_p8, List.forall_mem_cons.mpr ⟨lw_p9, List.forall_mem_cons.mpr ⟨lw_p10, List.forall_mem_cons.mpr ⟨lw_p11, List.forall_mem_cons.mpr ⟨lw_p12, List.forall_mem_cons.mpr ⟨lw_p13, List.forall_mem_cons.mpr ⟨lw_p14, List.forall_mem_cons.mpr ⟨lw_p15, fun _ h => absurd h List.not_mem_nil⟩⟩⟩⟩⟩⟩⟩⟩⟩⟩⟩⟩⟩⟩⟩⟩
theorem lw_p16 : lw_okq (⟨"SewnRoads$Reader", "readWoman", "()V"⟩, 11) := ⟨⟨by decide +kernel, by decide +kernel⟩, List.mem_of_getElem? (i := 48) (by decide +kernel), List.mem_of_getElem? (i := 694) (by decide +kernel), List.mem_of_getElem? (i := 695) (by decide +kernel)⟩
theorem lw_p17 : lw_okq (⟨"SewnRoads$Reader", "readCart", "()V"⟩, 11) := ⟨⟨by decide +kernel, by decide +kernel⟩, List.mem_of_getElem? (i := 48) (by decide +kernel), List.mem_of_getElem? (i := 698) (by decide +kernel), List.mem_of_getElem? (i := 699) (by decide +kernel)⟩
theorem lw_p18 : lw_okq (⟨"SewnRoads$Reader", "readNumber", "(I)I"⟩, 11) := ⟨⟨by decide +kernel, by decide +kernel⟩, List.mem_of_getElem? (i := 48) (by decide +kernel), List.mem_of_getElem? (i := 706) (by decide +kernel), List.mem_of_getElem? (i := 707) (by decide +kernel)⟩
theorem lw_p19 : lw_okq (⟨"SewnRoads$Reader", "readLaw", "()V"⟩, 11) := ⟨⟨by decide +kernel, by decide +kernel⟩, List.mem_of_getElem? (i := 48) (by decide +kernel), List.mem_of_getElem? (i := 710) (by decide +kernel), List.mem_of_getElem? (i := 711) (by decide +kernel)⟩
theorem lw_p20 : lw_okq (⟨"SewnRoads$Reader", "readSum", "(I)V"⟩, 11) := ⟨⟨by decide +kernel, by decide +kernel⟩, List.mem_of_getElem? (i := 48) (by decide +kernel), List.mem_of_getElem? (i := 718) (by decide +kernel), List.mem_of_getElem? (i := 719) (by decide +kernel)⟩
theorem lw_p21 : lw_okq (⟨"SewnRoads$Reader", "readProduct", "(I)V"⟩, 11) := ⟨⟨by decide +kernel, by decide +kernel⟩, List.mem_of_getElem? (i := 48) (by decide +kernel), List.mem_of_getElem? (i := 722) (by decide +kernel), List.mem_of_getElem? (i := 723) (by decide +kernel)⟩
theorem lw_p22 : lw_okq (⟨"SewnRoads$Reader", "readUnit", "(I)V"⟩, 11) := ⟨⟨by decide +kernel, by decide +kernel⟩, List.mem_of_getElem? (i := 48) (by decide +kernel), List.mem_of_getElem? (i := 726) (by decide +kernel), List.mem_of_getElem? (i := 727) (by decide +kernel)⟩
theorem lw_p23 : lw_okq (⟨"SewnRoads$Plan", "countWays", "()V"⟩, 18) := ⟨⟨by decide +kernel, by decide +kernel⟩, List.mem_of_getElem? (i := 54) (by decide +kernel), List.mem_of_getElem? (i := 750) (by decide +kernel), List.mem_of_getElem? (i := 751) (by decide +kernel)⟩
theorem lw_p24 : lw_okq (⟨"SewnRoads", "emptySlots", "()V"⟩, 13) := ⟨⟨by decide +kernel, by decide +kernel⟩, List.mem_of_getElem? (i := 24) (by decide +kernel), List.mem_of_getElem? (i := 765) (by decide +kernel), List.mem_of_getElem? (i := 766) (by decide +kernel)⟩
theorem lw_p25 : lw_okq (⟨"SewnRoads", "isSeam", "(I)Z"⟩, 13) := ⟨⟨by decide +kernel, by decide +kernel⟩, List.mem_of_getElem? (i := 24) (by decide +kernel), List.mem_of_getElem? (i := 777) (by decide +kernel), List.mem_of_getElem? (i := 778) (by decide +kernel)⟩
theorem lw_p26 : lw_okq (⟨"SewnRoads$Rules", "look", "(III)V"⟩, 3) := ⟨⟨by decide +kernel, by decide +kernel⟩, List.mem_of_getElem? (i := 359) (by decide +kernel), List.mem_of_getElem? (i := 785) (by decide +kernel), List.mem_of_getElem? (i := 786) (by decide +kernel)⟩
theorem lw_p27 : lw_okq (⟨"SewnRoads", "isCart", "(I)Z"⟩, 13) := ⟨⟨by decide +kernel, by decide +kernel⟩, List.mem_of_getElem? (i := 24) (by decide +kernel), List.mem_of_getElem? (i := 814) (by decide +kernel), List.mem_of_getElem? (i := 815) (by decide +kernel)⟩
theorem lw_p28 : lw_okq (⟨"SewnRoads$Season", "moveCarts", "(LSewnRoads$State;)V"⟩, 6) := ⟨⟨by decide +kernel, by decide +kernel⟩, List.mem_of_getElem? (i := 393) (by decide +kernel), List.mem_of_getElem? (i := 876) (by decide +kernel), List.mem_of_getElem? (i := 877) (by decide +kernel)⟩
theorem lw_p29 : lw_okq (⟨"SewnRoads$Season", "moveCart", "(LSewnRoads$State;II)V"⟩, 6) := ⟨⟨by decide +kernel, by decide +kernel⟩, List.mem_of_getElem? (i := 393) (by decide +kernel), List.mem_of_getElem? (i := 895) (by decide +kernel), List.mem_of_getElem? (i := 896) (by decide +kernel)⟩
theorem lw_p30 : lw_okq (⟨"SewnRoads$Net", "shorten", "(III)Z"⟩, 2) := ⟨⟨by decide +kernel, by decide +kernel⟩, List.mem_of_getElem? (i := 377) (by decide +kernel), List.mem_of_getElem? (i := 907) (by decide +kernel), List.mem_of_getElem? (i := 908) (by decide +kernel)⟩
theorem lw_p31 : lw_okq (⟨"SewnRoads$Season", "nextSeam", "(II)I"⟩, 6) := ⟨⟨by decide +kernel, by decide +kernel⟩, List.mem_of_getElem? (i := 393) (by decide +kernel), List.mem_of_getElem? (i := 915) (by decide +kernel), List.mem_of_getElem? (i := 916) (by decide +kernel)⟩
def lw_privs_2 : List (MethodName × Nat) := [(⟨"SewnRoads$Reader", "readWoman", "()V"⟩, 11), (⟨"SewnRoads$Reader", "readCart", "()V"⟩, 11), (⟨"SewnRoads$Reader", "readNumber", "(I)I"⟩, 11), (⟨"SewnRoads$Reader", "readLaw", "()V"⟩, 11), (⟨"SewnRoads$Reader", "readSum", "(I)V"⟩, 11), (⟨"SewnRoads$Reader", "readProduct", "(I)V"⟩, 11), (⟨"SewnRoads$Reader", "readUnit", "(I)V"⟩, 11), (⟨"SewnRoads$Plan", "countWays", "()V"⟩, 18), (⟨"SewnRoads", "emptySlots", "()V"⟩, 13), (⟨"SewnRoads", "isSeam", "(I)Z"⟩, 13), (⟨"SewnRoads$Rules", "look", "(III)V"⟩, 3), (⟨"SewnRoads", "isCart", "(I)Z"⟩, 13), (⟨"SewnRoads$Season", "moveCarts", "(LSewnRoads$State;)V"⟩, 6), (⟨"SewnRoads$Season", "moveCart", "(LSewnRoads$State;II)V"⟩, 6), (⟨"SewnRoads$Net", "shorten", "(III)Z"⟩, 2), (⟨"SewnRoads$Season", "nextSeam", "(II)I"⟩, 6)]
theorem lw_r2 : ∀ q ∈ lw_privs_2, lw_okq q := List.forall_mem_cons.mpr ⟨lw_p16, List.forall_mem_cons.mpr ⟨lw_p17, List.forall_mem_cons.mpr ⟨lw_p18, List.forall_mem_cons.mpr ⟨lw_p19, List.forall_mem_cons.mpr ⟨lw_p20, List.forall_mem_cons.mpr ⟨lw_p21, List.forall_mem_cons.mpr ⟨lw_p22, List.forall_mem_cons.mpr ⟨lw_p23, List.forall_mem_cons.mpr ⟨lw_p24, List.forall_mem_cons.mpr ⟨lw_p25, List.forall_mem_cons.mpr ⟨lw_p26, List.forall_mem_cons.mpr ⟨lw_p27, List.forall_mem_cons.mpr ⟨lw_p28, List.forall_mem_cons.mpr ⟨lw_p29, List.forall_mem_cons.mpr ⟨lw_p30, List.forall_mem_cons.mpr ⟨lw_p31, fun _ h => absurd h List.not_mem_nil⟩⟩⟩⟩⟩⟩⟩⟩⟩⟩⟩⟩⟩⟩⟩⟩
theorem lw_p32 : lw_okq (⟨"SewnRoads$Season", "otherEnd", "(II)I"⟩, 6) := ⟨⟨by decide +kernel, by decide +kernel⟩, List.mem_of_getElem? (i := 393) (by decide +kernel), List.mem_of_getElem? (i := 919) (by decide +kernel), List.mem_of_getElem? (i := 920) (by decide +kernel)⟩
theorem lw_p33 : lw_okq (⟨"SewnRoads$Season", "wearSeams", "(LSewnRoads$State;I)V"⟩, 6) := ⟨⟨by decide +kernel, by decide +kernel⟩, List.mem_of_getElem? (i := 393) (by decide +kernel), List.mem_of_getElem? (i := 941) (by decide +kernel), List.mem_of_getElem? (i := 942) (by decide +kernel)⟩
theorem lw_p34 : lw_okq (⟨"SewnRoads", "isTown", "(I)Z"⟩, 13) := ⟨⟨by decide +kernel, by decide +kernel⟩, List.mem_of_getElem? (i := 24) (by decide +kernel), List.mem_of_getElem? (i := 959) (by decide +kernel), List.mem_of_getElem? (i := 960) (by decide +kernel)⟩
theorem lw_p35 : lw_okq (⟨"SewnRoads", "areTwoTowns", "(II)Z"⟩, 13) := ⟨⟨by decide +kernel, by decide +kernel⟩, List.mem_of_getElem? (i := 24) (by decide +kernel), List.mem_of_getElem? (i := 1023) (by decide +kernel), List.mem_of_getElem? (i := 1024) (by decide +kernel)⟩
theorem lw_p36 : lw_okq (⟨"SewnRoads$Net", "seamsAsWide", "([II)I"⟩, 2) := ⟨⟨by decide +kernel, by decide +kernel⟩, List.mem_of_getElem? (i := 377) (by decide +kernel), List.mem_of_getElem? (i := 1031) (by decide +kernel), List.mem_of_getElem? (i := 1032) (by decide +kernel)⟩
theorem lw_p37 : lw_okq (⟨"SewnRoads$Season", "lifeOf", "(III)I"⟩, 6) := ⟨⟨by decide +kernel, by decide +kernel⟩, List.mem_of_getElem? (i := 393) (by decide +kernel), List.mem_of_getElem? (i := 1043) (by decide +kernel), List.mem_of_getElem? (i := 1044) (by decide +kernel)⟩
theorem lw_p38 : lw_okq (⟨"SewnRoads$Net", "oddTowns", "(II)I"⟩, 2) := ⟨⟨by decide +kernel, by decide +kernel⟩, List.mem_of_getElem? (i := 377) (by decide +kernel), List.mem_of_getElem? (i := 1063) (by decide +kernel), List.mem_of_getElem? (i := 1064) (by decide +kernel)⟩
theorem lw_p39 : lw_okq (⟨"SewnRoads", "lookAhead", "(I)V"⟩, 13) := ⟨⟨by decide +kernel, by decide +kernel⟩, List.mem_of_getElem? (i := 24) (by decide +kernel), List.mem_of_getElem? (i := 1098) (by decide +kernel), List.mem_of_getElem? (i := 1099) (by decide +kernel)⟩
theorem lw_p40 : lw_okq (⟨"SewnRoads", "staysJoined", "(IIII)Z"⟩, 13) := ⟨⟨by decide +kernel, by decide +kernel⟩, List.mem_of_getElem? (i := 24) (by decide +kernel), List.mem_of_getElem? (i := 1115) (by decide +kernel), List.mem_of_getElem? (i := 1116) (by decide +kernel)⟩
theorem lw_p41 : lw_okq (⟨"SewnRoads", "possibleCuts", "(I)I"⟩, 13) := ⟨⟨by decide +kernel, by decide +kernel⟩, List.mem_of_getElem? (i := 24) (by decide +kernel), List.mem_of_getElem? (i := 1136) (by decide +kernel), List.mem_of_getElem? (i := 1137) (by decide +kernel)⟩
theorem lw_p42 : lw_okq (⟨"SewnRoads$Search", "fits", "(II)Z"⟩, 7) := ⟨⟨by decide +kernel, by decide +kernel⟩, List.mem_of_getElem? (i := 420) (by decide +kernel), List.mem_of_getElem? (i := 1154) (by decide +kernel), List.mem_of_getElem? (i := 1155) (by decide +kernel)⟩
theorem lw_p43 : lw_okq (⟨"SewnRoads$Search", "mostAlike", "(III)I"⟩, 7) := ⟨⟨by decide +kernel, by decide +kernel⟩, List.mem_of_getElem? (i := 420) (by decide +kernel), List.mem_of_getElem? (i := 1167) (by decide +kernel), List.mem_of_getElem? (i := 1168) (by decide +kernel)⟩
theorem lw_p44 : lw_okq (⟨"SewnRoads$Search", "alike", "(IIII)I"⟩, 7) := ⟨⟨by decide +kernel, by decide +kernel⟩, List.mem_of_getElem? (i := 420) (by decide +kernel), List.mem_of_getElem? (i := 1171) (by decide +kernel), List.mem_of_getElem? (i := 1172) (by decide +kernel)⟩
theorem lw_p45 : lw_okq (⟨"SewnRoads", "heldSlots", "()I"⟩, 13) := ⟨⟨by decide +kernel, by decide +kernel⟩, List.mem_of_getElem? (i := 24) (by decide +kernel), List.mem_of_getElem? (i := 1189) (by decide +kernel), List.mem_of_getElem? (i := 1190) (by decide +kernel)⟩
theorem lw_p46 : lw_okq (⟨"SewnRoadsModel", "plain", "(I)V"⟩, 72) := ⟨⟨by decide +kernel, by decide +kernel⟩, List.mem_of_getElem? (i := 1198) (by decide +kernel), List.mem_of_getElem? (i := 1204) (by decide +kernel), List.mem_of_getElem? (i := 1205) (by decide +kernel)⟩
theorem lw_p47 : lw_okq (⟨"SewnRoadsModel", "begins", "()V"⟩, 72) := ⟨⟨by decide +kernel, by decide +kernel⟩, List.mem_of_getElem? (i := 1198) (by decide +kernel), List.mem_of_getElem? (i := 1215) (by decide +kernel), List.mem_of_getElem? (i := 1216) (by decide +kernel)⟩
def lw_privs_3 : List (MethodName × Nat) := [(⟨"SewnRoads$Season", "otherEnd", "(II)I"⟩, 6), (⟨"SewnRoads$Season", "wearSeams", "(LSewnRoads$State;I)V"⟩, 6), (⟨"SewnRoads", "isTown", "(I)Z"⟩, 13), (⟨"SewnRoads", "areTwoTowns", "(II)Z"⟩, 13), (⟨"SewnRoads$Net", "seamsAsWide", "([II)I"⟩, 2), (⟨"SewnRoads$Season", "lifeOf", "(III)I"⟩, 6), (⟨"SewnRoads$Net", "oddTowns", "(II)I"⟩, 2), (⟨"SewnRoads", "lookAhead", "(I)V"⟩, 13), (⟨"SewnRoads", "staysJoined", "(IIII)Z"⟩, 13), (⟨"SewnRoads", "possibleCuts", "(I)I"⟩, 13), (⟨"SewnRoads$Search", "fits", "(II)Z"⟩, 7), (⟨"SewnRoads$Search", "mostAlike", "(III)I"⟩, 7), (⟨"SewnRoads$Search", "alike", "(IIII)I"⟩, 7), (⟨"SewnRoads", "heldSlots", "()I"⟩, 13), (⟨"SewnRoadsModel", "plain", "(I)V"⟩, 72), (⟨"SewnRoadsModel", "begins", "()V"⟩, 72)]
theorem lw_r3 : ∀ q ∈ lw_privs_3, lw_okq q := List.forall_mem_cons.mpr ⟨lw_p32, List.forall_mem_cons.mpr ⟨lw_p33, List.forall_mem_cons.mpr ⟨lw_p34, List.forall_mem_cons.mpr ⟨lw_p35, List.forall_mem_cons.mpr ⟨lw_p36, List.forall_mem_cons.mpr ⟨lw_p37, List.forall_mem_cons.mpr ⟨lw_p38, List.forall_mem_cons.mpr ⟨lw_p39, List.forall_mem_cons.mpr ⟨lw_p40, List.forall_mem_cons.mpr ⟨lw_p41, List.forall_mem_cons.mpr ⟨lw_p42, List.forall_mem_cons.mpr ⟨lw_p43, List.forall_mem_cons.mpr ⟨lw_p44, List.forall_mem_cons.mpr ⟨lw_p45, List.forall_mem_cons.mpr ⟨lw_p46, List.forall_mem_cons.mpr ⟨lw_p47, fun _ h => absurd h List.not_mem_nil⟩⟩⟩⟩⟩⟩⟩⟩⟩⟩⟩⟩⟩⟩⟩⟩
theorem lw_p48 : lw_okq (⟨"SewnRoadsModel", "keepsRow", "()V"⟩, 72) := ⟨⟨by decide +kernel, by decide +kernel⟩, List.mem_of_getElem? (i := 1198) (by decide +kernel), List.mem_of_getElem? (i := 1219) (by decide +kernel), List.mem_of_getElem? (i := 1220) (by decide +kernel)⟩
theorem lw_p49 : lw_okq (⟨"SewnRoadsModel", "put", "(I)V"⟩, 72) := ⟨⟨by decide +kernel, by decide +kernel⟩, List.mem_of_getElem? (i := 1198) (by decide +kernel), List.mem_of_getElem? (i := 1443) (by decide +kernel), List.mem_of_getElem? (i := 1444) (by decide +kernel)⟩
theorem lw_p50 : lw_okq (⟨"SewnRoadsModel", "cutsUp", "()V"⟩, 72) := ⟨⟨by decide +kernel, by decide +kernel⟩, List.mem_of_getElem? (i := 1198) (by decide +kernel), List.mem_of_getElem? (i := 1455) (by decide +kernel), List.mem_of_getElem? (i := 1456) (by decide +kernel)⟩
theorem lw_p51 : lw_okq (⟨"SewnRoadsModel", "byteAt", "(I)I"⟩, 72) := ⟨⟨by decide +kernel, by decide +kernel⟩, List.mem_of_getElem? (i := 1198) (by decide +kernel), List.mem_of_getElem? (i := 1459) (by decide +kernel), List.mem_of_getElem? (i := 1460) (by decide +kernel)⟩
theorem lw_p52 : lw_okq (⟨"SewnRoadsModel", "token", "(IIIJ)V"⟩, 72) := ⟨⟨by decide +kernel, by decide +kernel⟩, List.mem_of_getElem? (i := 1198) (by decide +kernel), List.mem_of_getElem? (i := 1463) (by decide +kernel), List.mem_of_getElem? (i := 1464) (by decide +kernel)⟩
theorem lw_p53 : lw_okq (⟨"SewnRoadsModel", "sign", "(III)I"⟩, 72) := ⟨⟨by decide +kernel, by decide +kernel⟩, List.mem_of_getElem? (i := 1198) (by decide +kernel), List.mem_of_getElem? (i := 1473) (by decide +kernel), List.mem_of_getElem? (i := 1474) (by decide +kernel)⟩
theorem lw_p54 : lw_okq (⟨"SewnRoadsModel", "is", "(I)Z"⟩, 72) := ⟨⟨by decide +kernel, by decide +kernel⟩, List.mem_of_getElem? (i := 1198) (by decide +kernel), List.mem_of_getElem? (i := 1477) (by decide +kernel), List.mem_of_getElem? (i := 1478) (by decide +kernel)⟩
theorem lw_p55 : lw_okq (⟨"SewnRoadsModel", "tellOne", "()V"⟩, 72) := ⟨⟨by decide +kernel, by decide +kernel⟩, List.mem_of_getElem? (i := 1198) (by decide +kernel), List.mem_of_getElem? (i := 1481) (by decide +kernel), List.mem_of_getElem? (i := 1482) (by decide +kernel)⟩
theorem lw_p56 : lw_okq (⟨"SewnRoadsModel", "roomFor", "(II)V"⟩, 72) := ⟨⟨by decide +kernel, by decide +kernel⟩, List.mem_of_getElem? (i := 1198) (by decide +kernel), List.mem_of_getElem? (i := 1485) (by decide +kernel), List.mem_of_getElem? (i := 1486) (by decide +kernel)⟩
theorem lw_p57 : lw_okq (⟨"SewnRoadsModel", "fail", "(I)V"⟩, 72) := ⟨⟨by decide +kernel, by decide +kernel⟩, List.mem_of_getElem? (i := 1198) (by decide +kernel), List.mem_of_getElem? (i := 1489) (by decide +kernel), List.mem_of_getElem? (i := 1490) (by decide +kernel)⟩
theorem lw_p58 : lw_okq (⟨"SewnRoadsModel", "goesOn", "()V"⟩, 72) := ⟨⟨by decide +kernel, by decide +kernel⟩, List.mem_of_getElem? (i := 1198) (by decide +kernel), List.mem_of_getElem? (i := 1493) (by decide +kernel), List.mem_of_getElem? (i := 1494) (by decide +kernel)⟩
theorem lw_p59 : lw_okq (⟨"SewnRoadsModel", "named", "()I"⟩, 72) := ⟨⟨by decide +kernel, by decide +kernel⟩, List.mem_of_getElem? (i := 1198) (by decide +kernel), List.mem_of_getElem? (i := 1497) (by decide +kernel), List.mem_of_getElem? (i := 1498) (by decide +kernel)⟩
theorem lw_p60 : lw_okq (⟨"SewnRoadsModel", "must", "(I)V"⟩, 72) := ⟨⟨by decide +kernel, by decide +kernel⟩, List.mem_of_getElem? (i := 1198) (by decide +kernel), List.mem_of_getElem? (i := 1501) (by decide +kernel), List.mem_of_getElem? (i := 1502) (by decide +kernel)⟩
theorem lw_p61 : lw_okq (⟨"SewnRoadsModel", "wrong", "(II)V"⟩, 72) := ⟨⟨by decide +kernel, by decide +kernel⟩, List.mem_of_getElem? (i := 1198) (by decide +kernel), List.mem_of_getElem? (i := 1505) (by decide +kernel), List.mem_of_getElem? (i := 1506) (by decide +kernel)⟩
theorem lw_p62 : lw_okq (⟨"SewnRoadsModel", "ends", "(II)V"⟩, 72) := ⟨⟨by decide +kernel, by decide +kernel⟩, List.mem_of_getElem? (i := 1198) (by decide +kernel), List.mem_of_getElem? (i := 1509) (by decide +kernel), List.mem_of_getElem? (i := 1510) (by decide +kernel)⟩
theorem lw_p63 : lw_okq (⟨"SewnRoadsModel", "tellSeam", "()V"⟩, 72) := ⟨⟨by decide +kernel, by decide +kernel⟩, List.mem_of_getElem? (i := 1198) (by decide +kernel), List.mem_of_getElem? (i := 1513) (by decide +kernel), List.mem_of_getElem? (i := 1514) (by decide +kernel)⟩
def lw_privs_4 : List (MethodName × Nat) := [(⟨"SewnRoadsModel", "keepsRow", "()V"⟩, 72), (⟨"SewnRoadsModel", "put", "(I)V"⟩, 72), (⟨"SewnRoadsModel", "cutsUp", "()V"⟩, 72), (⟨"SewnRoadsModel", "byteAt", "(I)I"⟩, 72), (⟨"SewnRoadsModel", "token", "(IIIJ)V"⟩, 72), (⟨"SewnRoadsModel", "sign", "(III)I"⟩, 72), (⟨"SewnRoadsModel", "is", "(I)Z"⟩, 72), (⟨"SewnRoadsModel", "tellOne", "()V"⟩, 72), (⟨"SewnRoadsModel", "roomFor", "(II)V"⟩, 72), (⟨"SewnRoadsModel", "fail", "(I)V"⟩, 72), (⟨"SewnRoadsModel", "goesOn", "()V"⟩, 72), (⟨"SewnRoadsModel", "named", "()I"⟩, 72), (⟨"SewnRoadsModel", "must", "(I)V"⟩, 72), (⟨"SewnRoadsModel", "wrong", "(II)V"⟩, 72), (⟨"SewnRoadsModel", "ends", "(II)V"⟩, 72), (⟨"SewnRoadsModel", "tellSeam", "()V"⟩, 72)]
theorem lw_r4 : ∀ q ∈ lw_privs_4, lw_okq q := List.forall_mem_cons.mpr ⟨lw_p48, List.forall_mem_cons.mpr ⟨lw_p49, List.forall_mem_cons.mpr ⟨lw_p50, List.forall_mem_cons.mpr ⟨lw_p51, List.forall_mem_cons.mpr ⟨lw_p52, List.forall_mem_cons.mpr ⟨lw_p53, List.forall_mem_cons.mpr ⟨lw_p54, List.forall_mem_cons.mpr ⟨lw_p55, List.forall_mem_cons.mpr ⟨lw_p56, List.forall_mem_cons.mpr ⟨lw_p57, List.forall_mem_cons.mpr ⟨lw_p58, List.forall_mem_cons.mpr ⟨lw_p59, List.forall_mem_cons.mpr ⟨lw_p60, List.forall_mem_cons.mpr ⟨lw_p61, List.forall_mem_cons.mpr ⟨lw_p62, List.forall_mem_cons.mpr ⟨lw_p63, fun _ h => absurd h List.not_mem_nil⟩⟩⟩⟩⟩⟩⟩⟩⟩⟩⟩⟩⟩⟩⟩⟩
theorem lw_p64 : lw_okq (⟨"SewnRoadsModel", "knownTown", "()I"⟩, 72) := ⟨⟨by decide +kernel, by decide +kernel⟩, List.mem_of_getElem? (i := 1198) (by decide +kernel), List.mem_of_getElem? (i := 1517) (by decide +kernel), List.mem_of_getElem? (i := 1518) (by decide +kernel)⟩
theorem lw_p65 : lw_okq (⟨"SewnRoadsModel", "hasSeam", "(II)Z"⟩, 72) := ⟨⟨by decide +kernel, by decide +kernel⟩, List.mem_of_getElem? (i := 1198) (by decide +kernel), List.mem_of_getElem? (i := 1521) (by decide +kernel), List.mem_of_getElem? (i := 1522) (by decide +kernel)⟩
theorem lw_p66 : lw_okq (⟨"SewnRoadsModel", "bounded", "(II)I"⟩, 72) := ⟨⟨by decide +kernel, by decide +kernel⟩, List.mem_of_getElem? (i := 1198) (by decide +kernel), List.mem_of_getElem? (i := 1525) (by decide +kernel), List.mem_of_getElem? (i := 1526) (by decide +kernel)⟩
theorem lw_p67 : lw_okq (⟨"SewnRoadsModel", "tellCart", "()V"⟩, 72) := ⟨⟨by decide +kernel, by decide +kernel⟩, List.mem_of_getElem? (i := 1198) (by decide +kernel), List.mem_of_getElem? (i := 1529) (by decide +kernel), List.mem_of_getElem? (i := 1530) (by decide +kernel)⟩
theorem lw_p68 : lw_okq (⟨"SewnRoadsModel", "toldInt", "(II)I"⟩, 72) := ⟨⟨by decide +kernel, by decide +kernel⟩, List.mem_of_getElem? (i := 1198) (by decide +kernel), List.mem_of_getElem? (i := 1533) (by decide +kernel), List.mem_of_getElem? (i := 1534) (by decide +kernel)⟩
theorem lw_p69 : lw_okq (⟨"SewnRoadsModel", "tellLaw", "(I)V"⟩, 72) := ⟨⟨by decide +kernel, by decide +kernel⟩, List.mem_of_getElem? (i := 1198) (by decide +kernel), List.mem_of_getElem? (i := 1537) (by decide +kernel), List.mem_of_getElem? (i := 1538) (by decide +kernel)⟩
theorem lw_p70 : lw_okq (⟨"SewnRoadsModel", "expression", "()V"⟩, 72) := ⟨⟨by decide +kernel, by decide +kernel⟩, List.mem_of_getElem? (i := 1198) (by decide +kernel), List.mem_of_getElem? (i := 1541) (by decide +kernel), List.mem_of_getElem? (i := 1542) (by decide +kernel)⟩
theorem lw_p71 : lw_okq (⟨"SewnRoadsModel", "unit", "()V"⟩, 72) := ⟨⟨by decide +kernel, by decide +kernel⟩, List.mem_of_getElem? (i := 1198) (by decide +kernel), List.mem_of_getElem? (i := 1545) (by decide +kernel), List.mem_of_getElem? (i := 1546) (by decide +kernel)⟩
theorem lw_p72 : lw_okq (⟨"SewnRoadsModel", "emit", "(II)V"⟩, 72) := ⟨⟨by decide +kernel, by decide +kernel⟩, List.mem_of_getElem? (i := 1198) (by decide +kernel), List.mem_of_getElem? (i := 1549) (by decide +kernel), List.mem_of_getElem? (i := 1550) (by decide +kernel)⟩
theorem lw_p73 : lw_okq (⟨"SewnRoadsModel", "comesOut", "(Z)V"⟩, 72) := ⟨⟨by decide +kernel, by decide +kernel⟩, List.mem_of_getElem? (i := 1198) (by decide +kernel), List.mem_of_getElem? (i := 1553) (by decide +kernel), List.mem_of_getElem? (i := 1554) (by decide +kernel)⟩
theorem lw_p74 : lw_okq (⟨"SewnRoadsModel", "term", "()V"⟩, 72) := ⟨⟨by decide +kernel, by decide +kernel⟩, List.mem_of_getElem? (i := 1198) (by decide +kernel), List.mem_of_getElem? (i := 1557) (by decide +kernel), List.mem_of_getElem? (i := 1558) (by decide +kernel)⟩
theorem lw_p75 : lw_okq (⟨"SewnRoadsModel", "isSeam", "(I)Z"⟩, 72) := ⟨⟨by decide +kernel, by decide +kernel⟩, List.mem_of_getElem? (i := 1198) (by decide +kernel), List.mem_of_getElem? (i := 1569) (by decide +kernel), List.mem_of_getElem? (i := 1570) (by decide +kernel)⟩
theorem lw_p76 : lw_okq (⟨"SewnRoadsModel", "copies", "()V"⟩, 72) := ⟨⟨by decide +kernel, by decide +kernel⟩, List.mem_of_getElem? (i := 1198) (by decide +kernel), List.mem_of_getElem? (i := 1576) (by decide +kernel), List.mem_of_getElem? (i := 1577) (by decide +kernel)⟩
theorem lw_p77 : lw_okq (⟨"SewnRoadsModel", "costsNow", "(I)I"⟩, 72) := ⟨⟨by decide +kernel, by decide +kernel⟩, List.mem_of_getElem? (i := 1198) (by decide +kernel), List.mem_of_getElem? (i := 1580) (by decide +kernel), List.mem_of_getElem? (i := 1581) (by decide +kernel)⟩
theorem lw_p78 : lw_okq (⟨"SewnRoadsModel", "looks", "(I)V"⟩, 72) := ⟨⟨by decide +kernel, by decide +kernel⟩, List.mem_of_getElem? (i := 1198) (by decide +kernel), List.mem_of_getElem? (i := 1584) (by decide +kernel), List.mem_of_getElem? (i := 1585) (by decide +kernel)⟩
theorem lw_p79 : lw_okq (⟨"SewnRoadsModel", "waysAt", "(I)I"⟩, 72) := ⟨⟨by decide +kernel, by decide +kernel⟩, List.mem_of_getElem? (i := 1198) (by decide +kernel), List.mem_of_getElem? (i := 1588) (by decide +kernel), List.mem_of_getElem? (i := 1589) (by decide +kernel)⟩
def lw_privs_5 : List (MethodName × Nat) := [(⟨"SewnRoadsModel", "knownTown", "()I"⟩, 72), (⟨"SewnRoadsModel", "hasSeam", "(II)Z"⟩, 72), (⟨"SewnRoadsModel", "bounded", "(II)I"⟩, 72), (⟨"SewnRoadsModel", "tellCart", "()V"⟩, 72), (⟨"SewnRoadsModel", "toldInt", "(II)I"⟩, 72), (⟨"SewnRoadsModel", "tellLaw", "(I)V"⟩, 72), (⟨"SewnRoadsModel", "expression", "()V"⟩, 72), (⟨"SewnRoadsModel", "unit", "()V"⟩, 72), (⟨"SewnRoadsModel", "emit", "(II)V"⟩, 72), (⟨"SewnRoadsModel", "comesOut", "(Z)V"⟩, 72), (⟨"SewnRoadsModel", "term", "()V"⟩, 72), (⟨"SewnRoadsModel", "isSeam", "(I)Z"⟩, 72), (⟨"SewnRoadsModel", "copies", "()V"⟩, 72), (⟨"SewnRoadsModel", "costsNow", "(I)I"⟩, 72), (⟨"SewnRoadsModel", "looks", "(I)V"⟩, 72), (⟨"SewnRoadsModel", "waysAt", "(I)I"⟩, 72)]
theorem lw_r5 : ∀ q ∈ lw_privs_5, lw_okq q := List.forall_mem_cons.mpr ⟨lw_p64, List.forall_mem_cons.mpr ⟨lw_p65, List.forall_mem_cons.mpr ⟨lw_p66, List.forall_mem_cons.mpr ⟨lw_p67, List.forall_mem_cons.mpr ⟨lw_p68, List.forall_mem_cons.mpr ⟨lw_p69, List.forall_mem_cons.mpr ⟨lw_p70, List.forall_mem_cons.mpr ⟨lw_p71, List.forall_mem_cons.mpr ⟨lw_p72, List.forall_mem_cons.mpr ⟨lw_p73, List.forall_mem_cons.mpr ⟨lw_p74, List.forall_mem_cons.mpr ⟨lw_p75, List.forall_mem_cons.mpr ⟨lw_p76, List.forall_mem_cons.mpr ⟨lw_p77, List.forall_mem_cons.mpr ⟨lw_p78, List.forall_mem_cons.mpr ⟨lw_p79, fun _ h => absurd h List.not_mem_nil⟩⟩⟩⟩⟩⟩⟩⟩⟩⟩⟩⟩⟩⟩⟩⟩
theorem lw_p80 : lw_okq (⟨"SewnRoadsModel", "asks", "(II)I"⟩, 72) := ⟨⟨by decide +kernel, by decide +kernel⟩, List.mem_of_getElem? (i := 1198) (by decide +kernel), List.mem_of_getElem? (i := 1592) (by decide +kernel), List.mem_of_getElem? (i := 1593) (by decide +kernel)⟩
theorem lw_p81 : lw_okq (⟨"SewnRoadsModel", "lawTells", "(I)I"⟩, 72) := ⟨⟨by decide +kernel, by decide +kernel⟩, List.mem_of_getElem? (i := 1198) (by decide +kernel), List.mem_of_getElem? (i := 1596) (by decide +kernel), List.mem_of_getElem? (i := 1597) (by decide +kernel)⟩
theorem lw_p82 : lw_okq (⟨"SewnRoadsModel", "termOf", "(II)I"⟩, 72) := ⟨⟨by decide +kernel, by decide +kernel⟩, List.mem_of_getElem? (i := 1198) (by decide +kernel), List.mem_of_getElem? (i := 1600) (by decide +kernel), List.mem_of_getElem? (i := 1601) (by decide +kernel)⟩
theorem lw_p83 : lw_okq (⟨"SewnRoadsModel", "wearsNow", "(IZI)I"⟩, 72) := ⟨⟨by decide +kernel, by decide +kernel⟩, List.mem_of_getElem? (i := 1198) (by decide +kernel), List.mem_of_getElem? (i := 1607) (by decide +kernel), List.mem_of_getElem? (i := 1608) (by decide +kernel)⟩
theorem lw_p84 : lw_okq (⟨"SewnRoadsModel", "wayOf", "(I)I"⟩, 72) := ⟨⟨by decide +kernel, by decide +kernel⟩, List.mem_of_getElem? (i := 1198) (by decide +kernel), List.mem_of_getElem? (i := 1611) (by decide +kernel), List.mem_of_getElem? (i := 1612) (by decide +kernel)⟩
theorem lw_p85 : lw_okq (⟨"SewnRoadsModel", "isCart", "(I)Z"⟩, 72) := ⟨⟨by decide +kernel, by decide +kernel⟩, List.mem_of_getElem? (i := 1198) (by decide +kernel), List.mem_of_getElem? (i := 1619) (by decide +kernel), List.mem_of_getElem? (i := 1620) (by decide +kernel)⟩
theorem lw_p86 : lw_okq (⟨"SewnRoadsModel", "tollOf", "(II)I"⟩, 72) := ⟨⟨by decide +kernel, by decide +kernel⟩, List.mem_of_getElem? (i := 1198) (by decide +kernel), List.mem_of_getElem? (i := 1627) (by decide +kernel), List.mem_of_getElem? (i := 1628) (by decide +kernel)⟩
theorem lw_p87 : lw_okq (⟨"SewnRoadsModel", "records", "()V"⟩, 72) := ⟨⟨by decide +kernel, by decide +kernel⟩, List.mem_of_getElem? (i := 1198) (by decide +kernel), List.mem_of_getElem? (i := 1635) (by decide +kernel), List.mem_of_getElem? (i := 1636) (by decide +kernel)⟩
theorem lw_p88 : lw_okq (⟨"SewnRoadsModel", "goes", "(I)V"⟩, 72) := ⟨⟨by decide +kernel, by decide +kernel⟩, List.mem_of_getElem? (i := 1198) (by decide +kernel), List.mem_of_getElem? (i := 1655) (by decide +kernel), List.mem_of_getElem? (i := 1656) (by decide +kernel)⟩
theorem lw_p89 : lw_okq (⟨"SewnRoadsModel", "weekGoes", "()V"⟩, 72) := ⟨⟨by decide +kernel, by decide +kernel⟩, List.mem_of_getElem? (i := 1198) (by decide +kernel), List.mem_of_getElem? (i := 1659) (by decide +kernel), List.mem_of_getElem? (i := 1660) (by decide +kernel)⟩
theorem lw_p90 : lw_okq (⟨"SewnRoadsModel", "fillsWays", "()V"⟩, 72) := ⟨⟨by decide +kernel, by decide +kernel⟩, List.mem_of_getElem? (i := 1198) (by decide +kernel), List.mem_of_getElem? (i := 1663) (by decide +kernel), List.mem_of_getElem? (i := 1664) (by decide +kernel)⟩
theorem lw_p91 : lw_okq (⟨"SewnRoadsModel", "cartGoes", "(I)V"⟩, 72) := ⟨⟨by decide +kernel, by decide +kernel⟩, List.mem_of_getElem? (i := 1198) (by decide +kernel), List.mem_of_getElem? (i := 1668) (by decide +kernel), List.mem_of_getElem? (i := 1669) (by decide +kernel)⟩
theorem lw_p92 : lw_okq (⟨"SewnRoadsModel", "roadOf", "(I)I"⟩, 72) := ⟨⟨by decide +kernel, by decide +kernel⟩, List.mem_of_getElem? (i := 1198) (by decide +kernel), List.mem_of_getElem? (i := 1672) (by decide +kernel), List.mem_of_getElem? (i := 1673) (by decide +kernel)⟩
theorem lw_p93 : lw_okq (⟨"SewnRoadsModel", "fillsFar", "(I)V"⟩, 72) := ⟨⟨by decide +kernel, by decide +kernel⟩, List.mem_of_getElem? (i := 1198) (by decide +kernel), List.mem_of_getElem? (i := 1676) (by decide +kernel), List.mem_of_getElem? (i := 1677) (by decide +kernel)⟩
theorem lw_p94 : lw_okq (⟨"SewnRoadsModel", "otherEnd", "(II)I"⟩, 72) := ⟨⟨by decide +kernel, by decide +kernel⟩, List.mem_of_getElem? (i := 1198) (by decide +kernel), List.mem_of_getElem? (i := 1680) (by decide +kernel), List.mem_of_getElem? (i := 1681) (by decide +kernel)⟩
theorem lw_p95 : lw_okq (⟨"SewnRoadsModel", "isFrost", "()Z"⟩, 72) := ⟨⟨by decide +kernel, by decide +kernel⟩, List.mem_of_getElem? (i := 1198) (by decide +kernel), List.mem_of_getElem? (i := 1684) (by decide +kernel), List.mem_of_getElem? (i := 1685) (by decide +kernel)⟩
def lw_privs_6 : List (MethodName × Nat) := [(⟨"SewnRoadsModel", "asks", "(II)I"⟩, 72), (⟨"SewnRoadsModel", "lawTells", "(I)I"⟩, 72), (⟨"SewnRoadsModel", "termOf", "(II)I"⟩, 72), (⟨"SewnRoadsModel", "wearsNow", "(IZI)I"⟩, 72), (⟨"SewnRoadsModel", "wayOf", "(I)I"⟩, 72), (⟨"SewnRoadsModel", "isCart", "(I)Z"⟩, 72), (⟨"SewnRoadsModel", "tollOf", "(II)I"⟩, 72), (⟨"SewnRoadsModel", "records", "()V"⟩, 72), (⟨"SewnRoadsModel", "goes", "(I)V"⟩, 72), (⟨"SewnRoadsModel", "weekGoes", "()V"⟩, 72), (⟨"SewnRoadsModel", "fillsWays", "()V"⟩, 72), (⟨"SewnRoadsModel", "cartGoes", "(I)V"⟩, 72), (⟨"SewnRoadsModel", "roadOf", "(I)I"⟩, 72), (⟨"SewnRoadsModel", "fillsFar", "(I)V"⟩, 72), (⟨"SewnRoadsModel", "otherEnd", "(II)I"⟩, 72), (⟨"SewnRoadsModel", "isFrost", "()Z"⟩, 72)]
theorem lw_r6 : ∀ q ∈ lw_privs_6, lw_okq q := List.forall_mem_cons.mpr ⟨lw_p80, List.forall_mem_cons.mpr ⟨lw_p81, List.forall_mem_cons.mpr ⟨lw_p82, List.forall_mem_cons.mpr ⟨lw_p83, List.forall_mem_cons.mpr ⟨lw_p84, List.forall_mem_cons.mpr ⟨lw_p85, List.forall_mem_cons.mpr ⟨lw_p86, List.forall_mem_cons.mpr ⟨lw_p87, List.forall_mem_cons.mpr ⟨lw_p88, List.forall_mem_cons.mpr ⟨lw_p89, List.forall_mem_cons.mpr ⟨lw_p90, List.forall_mem_cons.mpr ⟨lw_p91, List.forall_mem_cons.mpr ⟨lw_p92, List.forall_mem_cons.mpr ⟨lw_p93, List.forall_mem_cons.mpr ⟨lw_p94, List.forall_mem_cons.mpr ⟨lw_p95, fun _ h => absurd h List.not_mem_nil⟩⟩⟩⟩⟩⟩⟩⟩⟩⟩⟩⟩⟩⟩⟩⟩
theorem lw_p96 : lw_okq (⟨"SewnRoadsModel", "isTown", "(I)Z"⟩, 72) := ⟨⟨by decide +kernel, by decide +kernel⟩, List.mem_of_getElem? (i := 1198) (by decide +kernel), List.mem_of_getElem? (i := 1700) (by decide +kernel), List.mem_of_getElem? (i := 1701) (by decide +kernel)⟩
theorem lw_p97 : lw_okq (⟨"SewnRoadsModel", "areJoined", "(II)Z"⟩, 72) := ⟨⟨by decide +kernel, by decide +kernel⟩, List.mem_of_getElem? (i := 1198) (by decide +kernel), List.mem_of_getElem? (i := 1708) (by decide +kernel), List.mem_of_getElem? (i := 1709) (by decide +kernel)⟩
theorem lw_p98 : lw_okq (⟨"SewnRoadsModel", "joinedTo", "(I)I"⟩, 72) := ⟨⟨by decide +kernel, by decide +kernel⟩, List.mem_of_getElem? (i := 1198) (by decide +kernel), List.mem_of_getElem? (i := 1716) (by decide +kernel), List.mem_of_getElem? (i := 1717) (by decide +kernel)⟩
theorem lw_p99 : lw_okq (⟨"SewnRoadsModel", "takesNow", "(II)I"⟩, 72) := ⟨⟨by decide +kernel, by decide +kernel⟩, List.mem_of_getElem? (i := 1198) (by decide +kernel), List.mem_of_getElem? (i := 1731) (by decide +kernel), List.mem_of_getElem? (i := 1732) (by decide +kernel)⟩
theorem lw_p100 : lw_okq (⟨"SewnRoadsModel", "joinsAll", "(II)Z"⟩, 72) := ⟨⟨by decide +kernel, by decide +kernel⟩, List.mem_of_getElem? (i := 1198) (by decide +kernel), List.mem_of_getElem? (i := 1739) (by decide +kernel), List.mem_of_getElem? (i := 1740) (by decide +kernel)⟩
theorem lw_p101 : lw_okq (⟨"SewnRoadsModel", "holdsFor", "(II)I"⟩, 72) := ⟨⟨by decide +kernel, by decide +kernel⟩, List.mem_of_getElem? (i := 1198) (by decide +kernel), List.mem_of_getElem? (i := 1755) (by decide +kernel), List.mem_of_getElem? (i := 1756) (by decide +kernel)⟩
theorem lw_p102 : lw_okq (⟨"SewnRoadsModel", "wholeAt", "(I)I"⟩, 72) := ⟨⟨by decide +kernel, by decide +kernel⟩, List.mem_of_getElem? (i := 1198) (by decide +kernel), List.mem_of_getElem? (i := 1763) (by decide +kernel), List.mem_of_getElem? (i := 1764) (by decide +kernel)⟩
theorem lw_p103 : lw_okq (⟨"SewnRoadsModel", "cutBits", "(I)I"⟩, 72) := ⟨⟨by decide +kernel, by decide +kernel⟩, List.mem_of_getElem? (i := 1198) (by decide +kernel), List.mem_of_getElem? (i := 1802) (by decide +kernel), List.mem_of_getElem? (i := 1803) (by decide +kernel)⟩
theorem lw_p104 : lw_okq (⟨"SewnRoadsModel", "cutsOne", "(I)V"⟩, 72) := ⟨⟨by decide +kernel, by decide +kernel⟩, List.mem_of_getElem? (i := 1198) (by decide +kernel), List.mem_of_getElem? (i := 1806) (by decide +kernel), List.mem_of_getElem? (i := 1807) (by decide +kernel)⟩
theorem lw_p105 : lw_okq (⟨"SewnRoadsModel", "wayBetween", "(II)I"⟩, 72) := ⟨⟨by decide +kernel, by decide +kernel⟩, List.mem_of_getElem? (i := 1198) (by decide +kernel), List.mem_of_getElem? (i := 1810) (by decide +kernel), List.mem_of_getElem? (i := 1811) (by decide +kernel)⟩
theorem lw_p106 : lw_okq (⟨"SewnRoadsModel", "worstOf", "(III)I"⟩, 72) := ⟨⟨by decide +kernel, by decide +kernel⟩, List.mem_of_getElem? (i := 1198) (by decide +kernel), List.mem_of_getElem? (i := 1821) (by decide +kernel), List.mem_of_getElem? (i := 1822) (by decide +kernel)⟩
def lw_privs_7 : List (MethodName × Nat) := [(⟨"SewnRoadsModel", "isTown", "(I)Z"⟩, 72), (⟨"SewnRoadsModel", "areJoined", "(II)Z"⟩, 72), (⟨"SewnRoadsModel", "joinedTo", "(I)I"⟩, 72), (⟨"SewnRoadsModel", "takesNow", "(II)I"⟩, 72), (⟨"SewnRoadsModel", "joinsAll", "(II)Z"⟩, 72), (⟨"SewnRoadsModel", "holdsFor", "(II)I"⟩, 72), (⟨"SewnRoadsModel", "wholeAt", "(I)I"⟩, 72), (⟨"SewnRoadsModel", "cutBits", "(I)I"⟩, 72), (⟨"SewnRoadsModel", "cutsOne", "(I)V"⟩, 72), (⟨"SewnRoadsModel", "wayBetween", "(II)I"⟩, 72), (⟨"SewnRoadsModel", "worstOf", "(III)I"⟩, 72)]
theorem lw_r7 : ∀ q ∈ lw_privs_7, lw_okq q := List.forall_mem_cons.mpr ⟨lw_p96, List.forall_mem_cons.mpr ⟨lw_p97, List.forall_mem_cons.mpr ⟨lw_p98, List.forall_mem_cons.mpr ⟨lw_p99, List.forall_mem_cons.mpr ⟨lw_p100, List.forall_mem_cons.mpr ⟨lw_p101, List.forall_mem_cons.mpr ⟨lw_p102, List.forall_mem_cons.mpr ⟨lw_p103, List.forall_mem_cons.mpr ⟨lw_p104, List.forall_mem_cons.mpr ⟨lw_p105, List.forall_mem_cons.mpr ⟨lw_p106, fun _ h => absurd h List.not_mem_nil⟩⟩⟩⟩⟩⟩⟩⟩⟩⟩⟩
def lw_privs : List (MethodName × Nat) := lw_privs_1 ++ (lw_privs_2 ++ (lw_privs_3 ++ (lw_privs_4 ++ (lw_privs_5 ++ (lw_privs_6 ++ (lw_privs_7))))))
def lw_tbl : List Cond := k2_sels lw_privs ++ tables_1
theorem lw_privs_ok : ∀ q ∈ lw_privs, lw_okq q := by
  show ∀ q ∈ lw_privs_1 ++ (lw_privs_2 ++ (lw_privs_3 ++ (lw_privs_4 ++ (lw_privs_5 ++ (lw_privs_6 ++ (lw_privs_7)))))), lw_okq q
  exact List.forall_mem_append.mpr ⟨lw_r1, List.forall_mem_append.mpr ⟨lw_r2, List.forall_mem_append.mpr ⟨lw_r3, List.forall_mem_append.mpr ⟨lw_r4, List.forall_mem_append.mpr ⟨lw_r5, List.forall_mem_append.mpr ⟨lw_r6, lw_r7⟩⟩⟩⟩⟩⟩
end
section
def RX0 : String := "SewnRoads$Laws"
def TX0 : u_T := fun k => match k with
  | 0 => ("SewnRoads$Laws", "steps", "[I", true)
  | 1 => ("SewnRoads$Laws", "stack", "[I", true)
  | 2 => ("SewnRoads$Laws", "begins", "[I", true)
  | _ => ("SewnRoads$Laws", "size", "I", false)
def tyX0 : Nat → FieldType := fun k => match k with
  | 0 => .array .int
  | 1 => .array .int
  | 2 => .array .int
  | _ => .int
theorem nmX0 : ∀ a, a < 4 → ∀ b, b < 4 → a ≠ b → (TX0 a).2.1 ≠ (TX0 b).2.1 := by decide +kernel
theorem tyX0_ok : ∀ k, k < 4 → parseFieldDescriptor (TX0 k).2.2.1 = some (tyX0 k) := by decide +kernel
def RX1 : String := "SewnRoads$Net"
def TX1 : u_T := fun k => match k with
  | 0 => ("SewnRoads$Net", "plan", "LSewnRoads$Plan;", true)
  | _ => ("SewnRoads$Net", "distance", "[I", true)
def tyX1 : Nat → FieldType := fun k => match k with
  | 0 => .object "SewnRoads$Plan"
  | _ => .array .int
theorem nmX1 : ∀ a, a < 2 → ∀ b, b < 2 → a ≠ b → (TX1 a).2.1 ≠ (TX1 b).2.1 := by decide +kernel
theorem tyX1_ok : ∀ k, k < 2 → parseFieldDescriptor (TX1 k).2.2.1 = some (tyX1 k) := by decide +kernel
def RX2 : String := "SewnRoads$Past"
def TX2 : u_T := fun k => match k with
  | 0 => ("SewnRoads$Past", "states", "[LSewnRoads$State;", true)
  | 1 => ("SewnRoads$Past", "oldest", "I", false)
  | _ => ("SewnRoads$Past", "size", "I", false)
def tyX2 : Nat → FieldType := fun k => match k with
  | 0 => .array (.object "SewnRoads$State")
  | 1 => .int
  | _ => .int
theorem nmX2 : ∀ a, a < 3 → ∀ b, b < 3 → a ≠ b → (TX2 a).2.1 ≠ (TX2 b).2.1 := by decide +kernel
theorem tyX2_ok : ∀ k, k < 3 → parseFieldDescriptor (TX2 k).2.2.1 = some (tyX2 k) := by decide +kernel
def RX3 : String := "SewnRoads$Plan"
def TX3 : u_T := fun k => match k with
  | 0 => ("SewnRoads$Plan", "towns", "I", false)
  | 1 => ("SewnRoads$Plan", "seams", "I", false)
  | 2 => ("SewnRoads$Plan", "women", "I", false)
  | 3 => ("SewnRoads$Plan", "carts", "I", false)
  | 4 => ("SewnRoads$Plan", "stitches", "I", false)
  | 5 => ("SewnRoads$Plan", "thread", "I", false)
  | 6 => ("SewnRoads$Plan", "frost", "I", false)
  | 7 => ("SewnRoads$Plan", "seed", "I", false)
  | 8 => ("SewnRoads$Plan", "first", "[I", true)
  | 9 => ("SewnRoads$Plan", "second", "[I", true)
  | 10 => ("SewnRoads$Plan", "ends", "[I", true)
  | 11 => ("SewnRoads$Plan", "length", "[I", true)
  | 12 => ("SewnRoads$Plan", "sewn", "[I", true)
  | 13 => ("SewnRoads$Plan", "ways", "[I", true)
  | 14 => ("SewnRoads$Plan", "from", "[I", true)
  | 15 => ("SewnRoads$Plan", "to", "[I", true)
  | 16 => ("SewnRoads$Plan", "load", "[I", true)
  | _ => ("SewnRoads$Plan", "laws", "LSewnRoads$Laws;", true)
def tyX3 : Nat → FieldType := fun k => match k with
  | 0 => .int
  | 1 => .int
  | 2 => .int
  | 3 => .int
  | 4 => .int
  | 5 => .int
  | 6 => .int
  | 7 => .int
  | 8 => .array .int
  | 9 => .array .int
  | 10 => .array .int
  | 11 => .array .int
  | 12 => .array .int
  | 13 => .array .int
  | 14 => .array .int
  | 15 => .array .int
  | 16 => .array .int
  | _ => .object "SewnRoads$Laws"
theorem nmX3 : ∀ a, a < 18 → ∀ b, b < 18 → a ≠ b → (TX3 a).2.1 ≠ (TX3 b).2.1 := by decide +kernel
theorem tyX3_ok : ∀ k, k < 18 → parseFieldDescriptor (TX3 k).2.2.1 = some (tyX3 k) := by decide +kernel
def RX4 : String := "SewnRoads$Reader"
def TX4 : u_T := fun k => match k with
  | 0 => ("SewnRoads$Reader", "draft", "LSewnRoads$Plan;", true)
  | 1 => ("SewnRoads$Reader", "faultPlace", "I", false)
  | 2 => ("SewnRoads$Reader", "tokens", "LSewnRoads$Tokens;", true)
  | 3 => ("SewnRoads$Reader", "names", "[J", true)
  | 4 => ("SewnRoads$Reader", "townOfName", "[I", true)
  | 5 => ("SewnRoads$Reader", "nameCount", "I", false)
  | 6 => ("SewnRoads$Reader", "at", "I", false)
  | 7 => ("SewnRoads$Reader", "kind", "I", false)
  | 8 => ("SewnRoads$Reader", "fault", "I", false)
  | 9 => ("SewnRoads$Reader", "softFault", "I", false)
  | _ => ("SewnRoads$Reader", "softPlace", "I", false)
def tyX4 : Nat → FieldType := fun k => match k with
  | 0 => .object "SewnRoads$Plan"
  | 1 => .int
  | 2 => .object "SewnRoads$Tokens"
  | 3 => .array .long
  | 4 => .array .int
  | 5 => .int
  | 6 => .int
  | 7 => .int
  | 8 => .int
  | 9 => .int
  | _ => .int
theorem nmX4 : ∀ a, a < 11 → ∀ b, b < 11 → a ≠ b → (TX4 a).2.1 ≠ (TX4 b).2.1 := by decide +kernel
theorem tyX4_ok : ∀ k, k < 11 → parseFieldDescriptor (TX4 k).2.2.1 = some (tyX4 k) := by decide +kernel
def RX5 : String := "SewnRoads$Rules"
def TX5 : u_T := fun k => match k with
  | 0 => ("SewnRoads$Rules", "plan", "LSewnRoads$Plan;", true)
  | 1 => ("SewnRoads$Rules", "vars", "[I", true)
  | _ => ("SewnRoads$Rules", "setCost", "[I", true)
def tyX5 : Nat → FieldType := fun k => match k with
  | 0 => .object "SewnRoads$Plan"
  | 1 => .array .int
  | _ => .array .int
theorem nmX5 : ∀ a, a < 3 → ∀ b, b < 3 → a ≠ b → (TX5 a).2.1 ≠ (TX5 b).2.1 := by decide +kernel
theorem tyX5_ok : ∀ k, k < 3 → parseFieldDescriptor (TX5 k).2.2.1 = some (tyX5 k) := by decide +kernel
def RX6 : String := "SewnRoads$Search"
def TX6 : u_T := fun k => match k with
  | 0 => ("SewnRoads$Search", "plan", "LSewnRoads$Plan;", true)
  | 1 => ("SewnRoads$Search", "net", "LSewnRoads$Net;", true)
  | 2 => ("SewnRoads$Search", "town", "[I", true)
  | 3 => ("SewnRoads$Search", "other", "[I", true)
  | 4 => ("SewnRoads$Search", "way", "[I", true)
  | 5 => ("SewnRoads$Search", "gap", "[I", true)
  | _ => ("SewnRoads$Search", "told", "I", false)
def tyX6 : Nat → FieldType := fun k => match k with
  | 0 => .object "SewnRoads$Plan"
  | 1 => .object "SewnRoads$Net"
  | 2 => .array .int
  | 3 => .array .int
  | 4 => .array .int
  | 5 => .array .int
  | _ => .int
theorem nmX6 : ∀ a, a < 7 → ∀ b, b < 7 → a ≠ b → (TX6 a).2.1 ≠ (TX6 b).2.1 := by decide +kernel
theorem tyX6_ok : ∀ k, k < 7 → parseFieldDescriptor (TX6 k).2.2.1 = some (tyX6 k) := by decide +kernel
def RX7 : String := "SewnRoads$Season"
def TX7 : u_T := fun k => match k with
  | 0 => ("SewnRoads$Season", "plan", "LSewnRoads$Plan;", true)
  | 1 => ("SewnRoads$Season", "rules", "LSewnRoads$Rules;", true)
  | 2 => ("SewnRoads$Season", "net", "LSewnRoads$Net;", true)
  | 3 => ("SewnRoads$Season", "carted", "[I", true)
  | 4 => ("SewnRoads$Season", "way", "[I", true)
  | _ => ("SewnRoads$Season", "life", "[I", true)
def tyX7 : Nat → FieldType := fun k => match k with
  | 0 => .object "SewnRoads$Plan"
  | 1 => .object "SewnRoads$Rules"
  | 2 => .object "SewnRoads$Net"
  | 3 => .array .int
  | 4 => .array .int
  | _ => .array .int
theorem nmX7 : ∀ a, a < 6 → ∀ b, b < 6 → a ≠ b → (TX7 a).2.1 ≠ (TX7 b).2.1 := by decide +kernel
theorem tyX7_ok : ∀ k, k < 6 → parseFieldDescriptor (TX7 k).2.2.1 = some (tyX7 k) := by decide +kernel
def RX8 : String := "SewnRoads$State"
def TX8 : u_T := fun k => match k with
  | 0 => ("SewnRoads$State", "week", "I", false)
  | 1 => ("SewnRoads$State", "thread", "I", false)
  | 2 => ("SewnRoads$State", "sewn", "[I", true)
  | _ => ("SewnRoads$State", "carts", "[I", true)
def tyX8 : Nat → FieldType := fun k => match k with
  | 0 => .int
  | 1 => .int
  | 2 => .array .int
  | _ => .array .int
theorem nmX8 : ∀ a, a < 4 → ∀ b, b < 4 → a ≠ b → (TX8 a).2.1 ≠ (TX8 b).2.1 := by decide +kernel
theorem tyX8_ok : ∀ k, k < 4 → parseFieldDescriptor (TX8 k).2.2.1 = some (tyX8 k) := by decide +kernel
def RX9 : String := "SewnRoads$Tape"
def TX9 : u_T := fun k => match k with
  | 0 => ("SewnRoads$Tape", "bytes", "[B", true)
  | _ => ("SewnRoads$Tape", "length", "I", false)
def tyX9 : Nat → FieldType := fun k => match k with
  | 0 => .array .byte
  | _ => .int
theorem nmX9 : ∀ a, a < 2 → ∀ b, b < 2 → a ≠ b → (TX9 a).2.1 ≠ (TX9 b).2.1 := by decide +kernel
theorem tyX9_ok : ∀ k, k < 2 → parseFieldDescriptor (TX9 k).2.2.1 = some (tyX9 k) := by decide +kernel
def RX10 : String := "SewnRoads$Tokens"
def TX10 : u_T := fun k => match k with
  | 0 => ("SewnRoads$Tokens", "kind", "[I", true)
  | 1 => ("SewnRoads$Tokens", "start", "[I", true)
  | 2 => ("SewnRoads$Tokens", "value", "[J", true)
  | 3 => ("SewnRoads$Tokens", "words", "[J", true)
  | _ => ("SewnRoads$Tokens", "size", "I", false)
def tyX10 : Nat → FieldType := fun k => match k with
  | 0 => .array .int
  | 1 => .array .int
  | 2 => .array .long
  | 3 => .array .long
  | _ => .int
theorem nmX10 : ∀ a, a < 5 → ∀ b, b < 5 → a ≠ b → (TX10 a).2.1 ≠ (TX10 b).2.1 := by decide +kernel
theorem tyX10_ok : ∀ k, k < 5 → parseFieldDescriptor (TX10 k).2.2.1 = some (tyX10 k) := by decide +kernel
def RX11 : String := "SewnRoads"
def TX11 : u_T := fun k => match k with
  | 0 => ("SewnRoads", "tape", "LSewnRoads$Tape;", true)
  | 1 => ("SewnRoads", "reader", "LSewnRoads$Reader;", true)
  | 2 => ("SewnRoads", "plan", "LSewnRoads$Plan;", true)
  | 3 => ("SewnRoads", "now", "LSewnRoads$State;", true)
  | 4 => ("SewnRoads", "later", "LSewnRoads$State;", true)
  | 5 => ("SewnRoads", "past", "LSewnRoads$Past;", true)
  | 6 => ("SewnRoads", "slots", "[LSewnRoads$State;", true)
  | 7 => ("SewnRoads", "held", "[Z", true)
  | 8 => ("SewnRoads", "rules", "LSewnRoads$Rules;", true)
  | 9 => ("SewnRoads", "net", "LSewnRoads$Net;", true)
  | 10 => ("SewnRoads", "season", "LSewnRoads$Season;", true)
  | 11 => ("SewnRoads", "search", "LSewnRoads$Search;", true)
  | _ => ("SewnRoads", "faultPlace", "I", false)
def tyX11 : Nat → FieldType := fun k => match k with
  | 0 => .object "SewnRoads$Tape"
  | 1 => .object "SewnRoads$Reader"
  | 2 => .object "SewnRoads$Plan"
  | 3 => .object "SewnRoads$State"
  | 4 => .object "SewnRoads$State"
  | 5 => .object "SewnRoads$Past"
  | 6 => .array (.object "SewnRoads$State")
  | 7 => .array .boolean
  | 8 => .object "SewnRoads$Rules"
  | 9 => .object "SewnRoads$Net"
  | 10 => .object "SewnRoads$Season"
  | 11 => .object "SewnRoads$Search"
  | _ => .int
theorem nmX11 : ∀ a, a < 13 → ∀ b, b < 13 → a ≠ b → (TX11 a).2.1 ≠ (TX11 b).2.1 := by decide +kernel
theorem tyX11_ok : ∀ k, k < 13 → parseFieldDescriptor (TX11 k).2.2.1 = some (tyX11 k) := by decide +kernel
def RX12 : String := "SewnRoadsModel"
def TX12 : u_T := fun k => match k with
  | 0 => ("SewnRoadsModel", "thrown", "I", false)
  | 1 => ("SewnRoadsModel", "tape", "[B", true)
  | 2 => ("SewnRoadsModel", "taped", "I", false)
  | 3 => ("SewnRoadsModel", "text", "[B", true)
  | 4 => ("SewnRoadsModel", "size", "I", false)
  | 5 => ("SewnRoadsModel", "tKind", "[I", true)
  | 6 => ("SewnRoadsModel", "tPlace", "[I", true)
  | 7 => ("SewnRoadsModel", "tValue", "[I", true)
  | 8 => ("SewnRoadsModel", "tName", "[J", true)
  | 9 => ("SewnRoadsModel", "keys", "[J", true)
  | 10 => ("SewnRoadsModel", "tokens", "I", false)
  | 11 => ("SewnRoadsModel", "t", "I", false)
  | 12 => ("SewnRoadsModel", "open", "I", false)
  | 13 => ("SewnRoadsModel", "fault", "I", false)
  | 14 => ("SewnRoadsModel", "faultPlace", "I", false)
  | 15 => ("SewnRoadsModel", "worst", "I", false)
  | 16 => ("SewnRoadsModel", "worstPlace", "I", false)
  | 17 => ("SewnRoadsModel", "place", "I", false)
  | 18 => ("SewnRoadsModel", "live", "I", false)
  | 19 => ("SewnRoadsModel", "side", "I", false)
  | 20 => ("SewnRoadsModel", "names", "I", false)
  | 21 => ("SewnRoadsModel", "nameOf", "[J", true)
  | 22 => ("SewnRoadsModel", "nameAt", "[I", true)
  | 23 => ("SewnRoadsModel", "towns", "[I", true)
  | 24 => ("SewnRoadsModel", "seams", "[I", true)
  | 25 => ("SewnRoadsModel", "fromOf", "[I", true)
  | 26 => ("SewnRoadsModel", "toOf", "[I", true)
  | 27 => ("SewnRoadsModel", "lengthOf", "[I", true)
  | 28 => ("SewnRoadsModel", "sewnTold", "[I", true)
  | 29 => ("SewnRoadsModel", "women", "[I", true)
  | 30 => ("SewnRoadsModel", "stitches", "[I", true)
  | 31 => ("SewnRoadsModel", "carts", "[I", true)
  | 32 => ("SewnRoadsModel", "startOf", "[I", true)
  | 33 => ("SewnRoadsModel", "endOf", "[I", true)
  | 34 => ("SewnRoadsModel", "loadOf", "[I", true)
  | 35 => ("SewnRoadsModel", "threadTold", "[I", true)
  | 36 => ("SewnRoadsModel", "frost", "[I", true)
  | 37 => ("SewnRoadsModel", "seed", "[I", true)
  | 38 => ("SewnRoadsModel", "lawFirst", "[I", true)
  | 39 => ("SewnRoadsModel", "lawLast", "[I", true)
  | 40 => ("SewnRoadsModel", "branches", "I", false)
  | 41 => ("SewnRoadsModel", "hasTest", "[Z", true)
  | 42 => ("SewnRoadsModel", "testFrom", "[I", true)
  | 43 => ("SewnRoadsModel", "testMid", "[I", true)
  | 44 => ("SewnRoadsModel", "testTo", "[I", true)
  | 45 => ("SewnRoadsModel", "termTo", "[I", true)
  | 46 => ("SewnRoadsModel", "codes", "I", false)
  | 47 => ("SewnRoadsModel", "code", "[I", true)
  | 48 => ("SewnRoadsModel", "codeInt", "[I", true)
  | 49 => ("SewnRoadsModel", "waits", "[I", true)
  | 50 => ("SewnRoadsModel", "waiting", "I", false)
  | 51 => ("SewnRoadsModel", "variables", "[I", true)
  | 52 => ("SewnRoadsModel", "pile", "[I", true)
  | 53 => ("SewnRoadsModel", "isBroken", "Z", false)
  | 54 => ("SewnRoadsModel", "now", "[I", true)
  | 55 => ("SewnRoadsModel", "row", "[I", true)
  | 56 => ("SewnRoadsModel", "lots", "I", false)
  | 57 => ("SewnRoadsModel", "isStill", "Z", false)
  | 58 => ("SewnRoadsModel", "farOf", "[I", true)
  | 59 => ("SewnRoadsModel", "waysNow", "[I", true)
  | 60 => ("SewnRoadsModel", "cartedOn", "[I", true)
  | 61 => ("SewnRoadsModel", "sewnThen", "[I", true)
  | 62 => ("SewnRoadsModel", "undos", "I", false)
  | 63 => ("SewnRoadsModel", "history", "[I", true)
  | 64 => ("SewnRoadsModel", "takesBy", "[I", true)
  | 65 => ("SewnRoadsModel", "tolds", "I", false)
  | 66 => ("SewnRoadsModel", "toldFrom", "[I", true)
  | 67 => ("SewnRoadsModel", "toldTo", "[I", true)
  | 68 => ("SewnRoadsModel", "toldWay", "[I", true)
  | 69 => ("SewnRoadsModel", "wayBy", "[I", true)
  | 70 => ("SewnRoadsModel", "isHeld", "[Z", true)
  | _ => ("SewnRoadsModel", "heldRows", "[I", true)
def tyX12 : Nat → FieldType := fun k => match k with
  | 0 => .int
  | 1 => .array .byte
  | 2 => .int
  | 3 => .array .byte
  | 4 => .int
  | 5 => .array .int
  | 6 => .array .int
  | 7 => .array .int
  | 8 => .array .long
  | 9 => .array .long
  | 10 => .int
  | 11 => .int
  | 12 => .int
  | 13 => .int
  | 14 => .int
  | 15 => .int
  | 16 => .int
  | 17 => .int
  | 18 => .int
  | 19 => .int
  | 20 => .int
  | 21 => .array .long
  | 22 => .array .int
  | 23 => .array .int
  | 24 => .array .int
  | 25 => .array .int
  | 26 => .array .int
  | 27 => .array .int
  | 28 => .array .int
  | 29 => .array .int
  | 30 => .array .int
  | 31 => .array .int
  | 32 => .array .int
  | 33 => .array .int
  | 34 => .array .int
  | 35 => .array .int
  | 36 => .array .int
  | 37 => .array .int
  | 38 => .array .int
  | 39 => .array .int
  | 40 => .int
  | 41 => .array .boolean
  | 42 => .array .int
  | 43 => .array .int
  | 44 => .array .int
  | 45 => .array .int
  | 46 => .int
  | 47 => .array .int
  | 48 => .array .int
  | 49 => .array .int
  | 50 => .int
  | 51 => .array .int
  | 52 => .array .int
  | 53 => .boolean
  | 54 => .array .int
  | 55 => .array .int
  | 56 => .int
  | 57 => .boolean
  | 58 => .array .int
  | 59 => .array .int
  | 60 => .array .int
  | 61 => .array .int
  | 62 => .int
  | 63 => .array .int
  | 64 => .array .int
  | 65 => .int
  | 66 => .array .int
  | 67 => .array .int
  | 68 => .array .int
  | 69 => .array .int
  | 70 => .array .boolean
  | _ => .array .int
theorem nmX12 : ∀ a, a < 72 → ∀ b, b < 72 → a ≠ b → (TX12 a).2.1 ≠ (TX12 b).2.1 := by decide +kernel
theorem tyX12_ok : ∀ k, k < 72 → parseFieldDescriptor (TX12 k).2.2.1 = some (tyX12 k) := by decide +kernel
abbrev vwCl : List vw_C := [(RX0, TX0, 4), (RX1, TX1, 2), (RX2, TX2, 3), (RX3, TX3, 18), (RX4, TX4, 11), (RX5, TX5, 3), (RX6, TX6, 7), (RX7, TX7, 6), (RX8, TX8, 4), (RX9, TX9, 2), (RX10, TX10, 5), (RX11, TX11, 13), (RX12, TX12, 72)]
/-- the words that a callee may take along -/
def gtb : List Cond := lw_tbl.filter goodWord
/-- of each class's fields: 0 an int, 1 a boolean, 2 a reference -/
def fkt : List (List Nat) := [[2, 2, 2, 0], [2, 2], [2, 0, 0], [0, 0, 0, 0, 0, 0, 0, 0, 2, 2, 2, 2, 2, 2, 2, 2, 2, 2], [2, 0, 2, 2, 2, 0, 0, 0, 0, 0, 0], [2, 2, 2], [2, 2, 2, 2, 2, 2, 0], [2, 2, 2, 2, 2, 2], [0, 0, 2, 2], [2, 0], [2, 2, 2, 2, 0], [2, 2, 2, 2, 2, 2, 2, 2, 2, 2, 2, 2, 0], [0, 2, 0, 2, 0, 2, 2, 2, 2, 2, 0, 0, 0, 0, 0, 0, 0, 0, 0, 0, 0, 2, 2, 2, 2, 2, 2, 2, 2, 2, 2, 2, 2, 2, 2, 2, 2, 2, 2, 2, 0, 2, 2, 2, 2, 2, 0, 2, 2, 2, 0, 2, 2, 1, 2, 2, 0, 1, 2, 2, 2, 2, 0, 2, 2, 0, 2, 2, 2, 2, 2, 2]]
def p_fk (ci j : Nat) : Nat := (fkt.getD ci []).getD j 9
end
section
/-! ===== the classes' facts, by their numbers ===== -/
def cT (ci : Nat) : vw_C := vwCl.getD ci ("", TX0, 0)
theorem mem_gtb {w : Cond} (h : w ∈ lw_tbl) (hg : goodWord w = true) : w ∈ gtb := List.mem_filter.mpr ⟨h, hg⟩
theorem gtb_good : GoodIn gtb gtb := fun w h => ⟨h, good_of_word (List.mem_filter.mp h).2⟩
theorem gtb_sub : ∀ w ∈ gtb, w ∈ lw_tbl := fun w h => (List.mem_filter.mp h).1
def cF (ci : Nat) (ty0 : Nat → FieldType) : Prop := vwCl[ci]? = some (cT ci) ∧ (∀ w ∈ u_ws (cT ci).1 (cT ci).2.1 (cT ci).2.2, w ∈ gtb) ∧ (∀ k, k < (cT ci).2.2 → parseFieldDescriptor ((cT ci).2.1 k).2.2.1 = some (ty0 k)) ∧ (∀ a, a < (cT ci).2.2 → ∀ b, b < (cT ci).2.2 → a ≠ b → ((cT ci).2.1 a).2.1 ≠ ((cT ci).2.1 b).2.1) ∧
  (∀ k, k < (cT ci).2.2 → p_fk ci k = 0 → ty0 k = .int ∧ ((cT ci).2.1 k).2.2.2 = false) ∧ (∀ k, k < (cT ci).2.2 → p_fk ci k = 1 → ty0 k = .boolean ∧ ((cT ci).2.1 k).2.2.2 = false)
theorem u_mem {ws : List Cond} (h : ws.all (fun w => decide (w ∈ lw_tbl) && goodWord w) = true) : ∀ w ∈ ws, w ∈ gtb := by
  intro w hw
  have h1 := List.all_eq_true.mp h w hw
  simp only [Bool.and_eq_true, decide_eq_true_eq] at h1
  exact mem_gtb h1.1 h1.2
set_option maxRecDepth 100000 in
theorem cf_0 : cF 0 tyX0 := ⟨rfl, u_mem (by decide +kernel), tyX0_ok, nmX0, by decide +kernel, by decide +kernel⟩
set_option maxRecDepth 100000 in
theorem cf_1 : cF 1 tyX1 := ⟨rfl, u_mem (by decide +kernel), tyX1_ok, nmX1, by decide +kernel, by decide +kernel⟩
set_option maxRecDepth 100000 in
theorem cf_2 : cF 2 tyX2 := ⟨rfl, u_mem (by decide +kernel), tyX2_ok, nmX2, by decide +kernel, by decide +kernel⟩
set_option maxRecDepth 100000 in
theorem cf_3 : cF 3 tyX3 := ⟨rfl, u_mem (by decide +kernel), tyX3_ok, nmX3, by decide +kernel, by decide +kernel⟩
set_option maxRecDepth 100000 in
theorem cf_4 : cF 4 tyX4 := ⟨rfl, u_mem (by decide +kernel), tyX4_ok, nmX4, by decide +kernel, by decide +kernel⟩
set_option maxRecDepth 100000 in
theorem cf_5 : cF 5 tyX5 := ⟨rfl, u_mem (by decide +kernel), tyX5_ok, nmX5, by decide +kernel, by decide +kernel⟩
set_option maxRecDepth 100000 in
theorem cf_6 : cF 6 tyX6 := ⟨rfl, u_mem (by decide +kernel), tyX6_ok, nmX6, by decide +kernel, by decide +kernel⟩
set_option maxRecDepth 100000 in
theorem cf_7 : cF 7 tyX7 := ⟨rfl, u_mem (by decide +kernel), tyX7_ok, nmX7, by decide +kernel, by decide +kernel⟩
set_option maxRecDepth 100000 in
theorem cf_8 : cF 8 tyX8 := ⟨rfl, u_mem (by decide +kernel), tyX8_ok, nmX8, by decide +kernel, by decide +kernel⟩
set_option maxRecDepth 100000 in
theorem cf_9 : cF 9 tyX9 := ⟨rfl, u_mem (by decide +kernel), tyX9_ok, nmX9, by decide +kernel, by decide +kernel⟩
set_option maxRecDepth 100000 in
theorem cf_10 : cF 10 tyX10 := ⟨rfl, u_mem (by decide +kernel), tyX10_ok, nmX10, by decide +kernel, by decide +kernel⟩
set_option maxRecDepth 100000 in
theorem cf_11 : cF 11 tyX11 := ⟨rfl, u_mem (by decide +kernel), tyX11_ok, nmX11, by decide +kernel, by decide +kernel⟩
set_option maxRecDepth 100000 in
theorem cf_12 : cF 12 tyX12 := ⟨rfl, u_mem (by decide +kernel), tyX12_ok, nmX12, by decide +kernel, by decide +kernel⟩
theorem cf_all : ∀ ci, ci < 13 → ∃ ty0, cF ci ty0 := by
  intro ci h
  match ci, h with
  | 0, _ => exact ⟨_, cf_0⟩
  | 1, _ => exact ⟨_, cf_1⟩
  | 2, _ => exact ⟨_, cf_2⟩
  | 3, _ => exact ⟨_, cf_3⟩
  | 4, _ => exact ⟨_, cf_4⟩
  | 5, _ => exact ⟨_, cf_5⟩
  | 6, _ => exact ⟨_, cf_6⟩
  | 7, _ => exact ⟨_, cf_7⟩
  | 8, _ => exact ⟨_, cf_8⟩
  | 9, _ => exact ⟨_, cf_9⟩
  | 10, _ => exact ⟨_, cf_10⟩
  | 11, _ => exact ⟨_, cf_11⟩
  | 12, _ => exact ⟨_, cf_12⟩
  | n + 13, h => exact absurd h (by omega)
end
section
/-! ===== the methods, by their numbers: name, code, locals, what it returns, 0 static or one more than its class ===== -/
def mt_0 : List (MethodName × ByteArray × Nat × Option FieldType × Nat) := [(⟨"SewnRoads$Laws", "<init>", "()V"⟩, prog_2_method_1_code, 1, none, 1),
  (⟨"SewnRoads$Laws", "clear", "()V"⟩, prog_2_method_2_code, 1, none, 1),
  (⟨"SewnRoads$Laws", "copyFrom", "(LSewnRoads$Laws;)V"⟩, prog_2_method_3_code, 2, none, 1),
  (⟨"SewnRoads$Laws", "nextStep", "()I"⟩, prog_2_method_4_code, 1, (some .int), 1),
  (⟨"SewnRoads$Laws", "beginLaw", "(II)V"⟩, prog_2_method_5_code, 3, none, 1),
  (⟨"SewnRoads$Laws", "addStep", "(II)V"⟩, prog_2_method_6_code, 3, none, 1),
  (⟨"SewnRoads$Laws", "leadHere", "(I)V"⟩, prog_2_method_7_code, 2, none, 1),
  (⟨"SewnRoads$Laws", "say", "(I[I)I"⟩, prog_2_method_8_code, 8, (some .int), 1),
  (⟨"SewnRoads$Laws", "reckon", "(III)I"⟩, prog_2_method_9_code, 3, (some .int), 0),
  (⟨"SewnRoads$Laws", "addDefault", "(III)V"⟩, prog_2_method_10_code, 4, none, 1),
  (⟨"SewnRoads$Net", "<init>", "(LSewnRoads$Plan;)V"⟩, prog_3_method_1_code, 2, none, 2),
  (⟨"SewnRoads$Net", "spread", "(II)I"⟩, prog_3_method_2_code, 5, (some .int), 2),
  (⟨"SewnRoads$Net", "reach", "(II)I"⟩, prog_3_method_3_code, 6, (some .int), 2),
  (⟨"SewnRoads$Net", "joins", "(III)Z"⟩, prog_3_method_4_code, 4, (some .boolean), 2),
  (⟨"SewnRoads$Net", "measure", "(I[II)V"⟩, prog_3_method_5_code, 7, none, 2),
  (⟨"SewnRoads$Net", "isReached", "(I)Z"⟩, prog_3_method_6_code, 2, (some .boolean), 2),
  (⟨"SewnRoads$Net", "widest", "([III)I"⟩, prog_3_method_7_code, 6, (some .int), 2),
  (⟨"SewnRoads$Net", "cheapestSeams", "([II)I"⟩, prog_3_method_8_code, 7, (some .int), 2),
  (⟨"SewnRoads$Net", "bridges", "(I)I"⟩, prog_3_method_9_code, 5, (some .int), 2),
  (⟨"SewnRoads$Net", "walks", "(I)I"⟩, prog_3_method_10_code, 6, (some .int), 2),
  (⟨"SewnRoads$Net", "oddTowns", "(II)I"⟩, prog_3_method_11_code, 5, (some .int), 2),
  (⟨"SewnRoads$Net", "seamsAsWide", "([II)I"⟩, prog_3_method_12_code, 5, (some .int), 2),
  (⟨"SewnRoads$Net", "shorten", "(III)Z"⟩, prog_3_method_13_code, 4, (some .boolean), 2),
  (⟨"SewnRoads$Past", "<init>", "()V"⟩, prog_4_method_1_code, 2, none, 3),
  (⟨"SewnRoads$Past", "clear", "()V"⟩, prog_4_method_2_code, 1, none, 3),
  (⟨"SewnRoads$Past", "keep", "(LSewnRoads$State;)V"⟩, prog_4_method_3_code, 2, none, 3),
  (⟨"SewnRoads$Past", "takeBack", "(LSewnRoads$State;)Z"⟩, prog_4_method_4_code, 2, (some .boolean), 3),
  (⟨"SewnRoads$Plan", "<init>", "()V"⟩, prog_5_method_1_code, 1, none, 4),
  (⟨"SewnRoads$Plan", "clear", "()V"⟩, prog_5_method_2_code, 1, none, 4),
  (⟨"SewnRoads$Plan", "copyFrom", "(LSewnRoads$Plan;)V"⟩, prog_5_method_3_code, 2, none, 4),
  (⟨"SewnRoads$Plan", "addSeam", "(IIII)V"⟩, prog_5_method_4_code, 5, none, 4),
  (⟨"SewnRoads$Plan", "addCart", "(III)V"⟩, prog_5_method_5_code, 4, none, 4),
  (⟨"SewnRoads$Plan", "hasSeam", "(II)Z"⟩, prog_5_method_6_code, 4, (some .boolean), 4),
  (⟨"SewnRoads$Plan", "countWays", "()V"⟩, prog_5_method_7_code, 3, none, 4),
  (⟨"SewnRoads$Reader", "<init>", "()V"⟩, prog_6_method_1_code, 1, none, 5),
  (⟨"SewnRoads$Reader", "readText", "(LSewnRoads$Tape;)I"⟩, prog_6_method_2_code, 3, (some .int), 5),
  (⟨"SewnRoads$Reader", "readTell", "()V"⟩, prog_6_method_3_code, 1, none, 5),
  (⟨"SewnRoads$Reader", "readTown", "()V"⟩, prog_6_method_4_code, 2, none, 5),
  (⟨"SewnRoads$Reader", "readSeam", "()V"⟩, prog_6_method_5_code, 7, none, 5),
  (⟨"SewnRoads$Reader", "readWoman", "()V"⟩, prog_6_method_6_code, 3, none, 5)]
def mt_1 : List (MethodName × ByteArray × Nat × Option FieldType × Nat) := [(⟨"SewnRoads$Reader", "readCart", "()V"⟩, prog_6_method_7_code, 7, none, 5),
  (⟨"SewnRoads$Reader", "readNumber", "(I)I"⟩, prog_6_method_8_code, 3, (some .int), 5),
  (⟨"SewnRoads$Reader", "readLaw", "()V"⟩, prog_6_method_9_code, 6, none, 5),
  (⟨"SewnRoads$Reader", "readSum", "(I)V"⟩, prog_6_method_10_code, 4, none, 5),
  (⟨"SewnRoads$Reader", "readProduct", "(I)V"⟩, prog_6_method_11_code, 4, none, 5),
  (⟨"SewnRoads$Reader", "readUnit", "(I)V"⟩, prog_6_method_12_code, 2, none, 5),
  (⟨"SewnRoads$Reader", "takeFirst", "(Z)V"⟩, prog_6_method_13_code, 2, none, 5),
  (⟨"SewnRoads$Reader", "take", "(I)I"⟩, prog_6_method_14_code, 3, (some .int), 5),
  (⟨"SewnRoads$Reader", "note", "(II)V"⟩, prog_6_method_15_code, 3, none, 5),
  (⟨"SewnRoads$Reader", "addName", "(II)V"⟩, prog_6_method_16_code, 3, none, 5),
  (⟨"SewnRoads$Reader", "findName", "(I)I"⟩, prog_6_method_17_code, 3, (some .int), 5),
  (⟨"SewnRoads$Reader", "townAt", "(I)I"⟩, prog_6_method_18_code, 4, (some .int), 5),
  (⟨"SewnRoads$Reader", "numberAt", "(III)I"⟩, prog_6_method_19_code, 5, (some .int), 5),
  (⟨"SewnRoads$Rules", "<init>", "(LSewnRoads$Plan;)V"⟩, prog_7_method_1_code, 2, none, 6),
  (⟨"SewnRoads$Rules", "stitchCost", "(III)I"⟩, prog_7_method_2_code, 4, (some .int), 6),
  (⟨"SewnRoads$Rules", "wear", "(IIIII)I"⟩, prog_7_method_3_code, 6, (some .int), 6),
  (⟨"SewnRoads$Rules", "wayLong", "(III)I"⟩, prog_7_method_4_code, 4, (some .int), 6),
  (⟨"SewnRoads$Rules", "tollFor", "(IIII)I"⟩, prog_7_method_5_code, 5, (some .int), 6),
  (⟨"SewnRoads$Rules", "canStitch", "(ILSewnRoads$State;)Z"⟩, prog_7_method_6_code, 4, (some .boolean), 6),
  (⟨"SewnRoads$Rules", "threadUpTo", "(IILSewnRoads$State;)I"⟩, prog_7_method_7_code, 6, (some .int), 6),
  (⟨"SewnRoads$Rules", "fillSetCosts", "(ILSewnRoads$State;)V"⟩, prog_7_method_8_code, 7, none, 6),
  (⟨"SewnRoads$Rules", "look", "(III)V"⟩, prog_7_method_9_code, 4, none, 6),
  (⟨"SewnRoads$Rules", "held", "(I)I"⟩, prog_7_method_10_code, 1, (some .int), 0),
  (⟨"SewnRoads$Search", "<init>", "(LSewnRoads$Plan;LSewnRoads$Net;)V"⟩, prog_8_method_1_code, 3, none, 7),
  (⟨"SewnRoads$Search", "clear", "()V"⟩, prog_8_method_2_code, 1, none, 7),
  (⟨"SewnRoads$Search", "addTold", "(III)I"⟩, prog_8_method_3_code, 4, (some .int), 7),
  (⟨"SewnRoads$Search", "measureCuts", "(I[I)V"⟩, prog_8_method_4_code, 6, none, 7),
  (⟨"SewnRoads$Search", "cutsKnownBy", "(II)I"⟩, prog_8_method_5_code, 5, (some .int), 7),
  (⟨"SewnRoads$Search", "bestQuestion", "(I)I"⟩, prog_8_method_6_code, 7, (some .int), 7),
  (⟨"SewnRoads$Search", "fits", "(II)Z"⟩, prog_8_method_7_code, 4, (some .boolean), 7),
  (⟨"SewnRoads$Search", "mostAlike", "(III)I"⟩, prog_8_method_8_code, 6, (some .int), 7),
  (⟨"SewnRoads$Search", "alike", "(IIII)I"⟩, prog_8_method_9_code, 7, (some .int), 7),
  (⟨"SewnRoads$Search", "pairOf", "(III)I"⟩, prog_8_method_10_code, 3, (some .int), 0),
  (⟨"SewnRoads$Season", "<init>", "(LSewnRoads$Plan;LSewnRoads$Rules;LSewnRoads$Net;)V"⟩, prog_9_method_1_code, 4, none, 8),
  (⟨"SewnRoads$Season", "fillWays", "(LSewnRoads$State;)V"⟩, prog_9_method_2_code, 3, none, 8),
  (⟨"SewnRoads$Season", "passWeeks", "(LSewnRoads$State;II)V"⟩, prog_9_method_3_code, 5, none, 8),
  (⟨"SewnRoads$Season", "hasChance", "()Z"⟩, prog_9_method_4_code, 1, (some .boolean), 8),
  (⟨"SewnRoads$Season", "isFrost", "(II)Z"⟩, prog_9_method_5_code, 3, (some .boolean), 8),
  (⟨"SewnRoads$Season", "fillLives", "(LSewnRoads$State;)V"⟩, prog_9_method_6_code, 3, none, 8),
  (⟨"SewnRoads$Season", "seamsOutliving", "(I)I"⟩, prog_9_method_7_code, 4, (some .int), 8)]
def mt_2 : List (MethodName × ByteArray × Nat × Option FieldType × Nat) := [(⟨"SewnRoads$Season", "bestToDouble", "(LSewnRoads$State;III)I"⟩, prog_9_method_8_code, 10, (some .int), 8),
  (⟨"SewnRoads$Season", "lifeOf", "(III)I"⟩, prog_9_method_9_code, 6, (some .int), 8),
  (⟨"SewnRoads$Season", "moveCarts", "(LSewnRoads$State;)V"⟩, prog_9_method_10_code, 5, none, 8),
  (⟨"SewnRoads$Season", "moveCart", "(LSewnRoads$State;II)V"⟩, prog_9_method_11_code, 8, none, 8),
  (⟨"SewnRoads$Season", "nextSeam", "(II)I"⟩, prog_9_method_12_code, 7, (some .int), 8),
  (⟨"SewnRoads$Season", "otherEnd", "(II)I"⟩, prog_9_method_13_code, 3, (some .int), 8),
  (⟨"SewnRoads$Season", "wearSeams", "(LSewnRoads$State;I)V"⟩, prog_9_method_14_code, 5, none, 8),
  (⟨"SewnRoads$Season", "lotOfHundred", "(II)I"⟩, prog_9_method_15_code, 3, (some .int), 0),
  (⟨"SewnRoads$Season", "mixed", "(II)I"⟩, prog_9_method_16_code, 3, (some .int), 0),
  (⟨"SewnRoads$State", "<init>", "()V"⟩, prog_10_method_1_code, 1, none, 9),
  (⟨"SewnRoads$State", "begin", "(LSewnRoads$Plan;)V"⟩, prog_10_method_2_code, 3, none, 9),
  (⟨"SewnRoads$State", "copyFrom", "(LSewnRoads$State;)V"⟩, prog_10_method_3_code, 2, none, 9),
  (⟨"SewnRoads$State", "cartField", "(II)I"⟩, prog_10_method_4_code, 3, (some .int), 9),
  (⟨"SewnRoads$State", "setCartField", "(III)V"⟩, prog_10_method_5_code, 4, none, 9),
  (⟨"SewnRoads$State", "addToCartField", "(III)V"⟩, prog_10_method_6_code, 4, none, 9),
  (⟨"SewnRoads$State", "isOnRoad", "(I)Z"⟩, prog_10_method_7_code, 2, (some .boolean), 9),
  (⟨"SewnRoads$State", "wholeSeams", "(LSewnRoads$Plan;)I"⟩, prog_10_method_8_code, 4, (some .int), 9),
  (⟨"SewnRoads$State", "cartsOnRoad", "(LSewnRoads$Plan;)I"⟩, prog_10_method_9_code, 4, (some .int), 9),
  (⟨"SewnRoads$State", "sewnTogether", "(LSewnRoads$Plan;)I"⟩, prog_10_method_10_code, 4, (some .int), 9),
  (⟨"SewnRoads$State", "evenLevel", "(LSewnRoads$Plan;I)I"⟩, prog_10_method_11_code, 6, (some .int), 9),
  (⟨"SewnRoads$Tape", "<init>", "()V"⟩, prog_11_method_1_code, 1, none, 10),
  (⟨"SewnRoads$Tape", "hasRoomFor", "(I)Z"⟩, prog_11_method_2_code, 2, (some .boolean), 10),
  (⟨"SewnRoads$Tape", "append", "(I)V"⟩, prog_11_method_3_code, 3, none, 10),
  (⟨"SewnRoads$Tape", "byteAt", "(I)I"⟩, prog_11_method_4_code, 2, (some .int), 10),
  (⟨"SewnRoads$Tokens", "<init>", "()V"⟩, prog_12_method_1_code, 6, none, 11),
  (⟨"SewnRoads$Tokens", "kindOf", "(I)I"⟩, prog_12_method_2_code, 2, (some .int), 11),
  (⟨"SewnRoads$Tokens", "startOf", "(I)I"⟩, prog_12_method_3_code, 2, (some .int), 11),
  (⟨"SewnRoads$Tokens", "valueOf", "(I)J"⟩, prog_12_method_4_code, 2, (some .long), 11),
  (⟨"SewnRoads$Tokens", "scan", "(LSewnRoads$Tape;)V"⟩, prog_12_method_5_code, 4, none, 11),
  (⟨"SewnRoads$Tokens", "scanOne", "(LSewnRoads$Tape;I)I"⟩, prog_12_method_6_code, 4, (some .int), 11),
  (⟨"SewnRoads$Tokens", "scanLetters", "(LSewnRoads$Tape;I)I"⟩, prog_12_method_7_code, 7, (some .int), 11),
  (⟨"SewnRoads$Tokens", "scanDigits", "(LSewnRoads$Tape;I)I"⟩, prog_12_method_8_code, 6, (some .int), 11),
  (⟨"SewnRoads$Tokens", "sortOfLetters", "(J)I"⟩, prog_12_method_9_code, 4, (some .int), 11),
  (⟨"SewnRoads$Tokens", "add", "(IIJ)V"⟩, prog_12_method_10_code, 5, none, 11),
  (⟨"SewnRoads$Tokens", "afterBlanks", "(LSewnRoads$Tape;I)I"⟩, prog_12_method_11_code, 3, (some .int), 0),
  (⟨"SewnRoads$Tokens", "withLetter", "(JI)J"⟩, prog_12_method_12_code, 3, (some .long), 0),
  (⟨"SewnRoads$Tokens", "isBlank", "(I)Z"⟩, prog_12_method_13_code, 1, (some .boolean), 0),
  (⟨"SewnRoads$Tokens", "isLetter", "(I)Z"⟩, prog_12_method_14_code, 1, (some .boolean), 0),
  (⟨"SewnRoads$Tokens", "isDigit", "(I)Z"⟩, prog_12_method_15_code, 1, (some .boolean), 0),
  (⟨"SewnRoads", "<init>", "()V"⟩, prog_1_method_1_code, 2, none, 12)]
def mt_3 : List (MethodName × ByteArray × Nat × Option FieldType × Nat) := [(⟨"SewnRoads", "feed", "(IIIII)I"⟩, prog_1_method_2_code, 6, (some .int), 12),
  (⟨"SewnRoads", "back", "(I)I"⟩, prog_1_method_3_code, 2, (some .int), 12),
  (⟨"SewnRoads", "read", "()I"⟩, prog_1_method_4_code, 2, (some .int), 12),
  (⟨"SewnRoads", "place", "()I"⟩, prog_1_method_5_code, 1, (some .int), 12),
  (⟨"SewnRoads", "seam", "(II)I"⟩, prog_1_method_6_code, 4, (some .int), 12),
  (⟨"SewnRoads", "cart", "(II)I"⟩, prog_1_method_7_code, 3, (some .int), 12),
  (⟨"SewnRoads", "toll", "(II)I"⟩, prog_1_method_8_code, 3, (some .int), 12),
  (⟨"SewnRoads", "sew", "(II)I"⟩, prog_1_method_9_code, 4, (some .int), 12),
  (⟨"SewnRoads", "cut", "(I)I"⟩, prog_1_method_10_code, 3, (some .int), 12),
  (⟨"SewnRoads", "unpick", "(II)I"⟩, prog_1_method_11_code, 4, (some .int), 12),
  (⟨"SewnRoads", "send", "(I)Z"⟩, prog_1_method_12_code, 2, (some .boolean), 12),
  (⟨"SewnRoads", "weeks", "(I)I"⟩, prog_1_method_13_code, 2, (some .int), 12),
  (⟨"SewnRoads", "undo", "()Z"⟩, prog_1_method_14_code, 1, (some .boolean), 12),
  (⟨"SewnRoads", "far", "(II)I"⟩, prog_1_method_15_code, 3, (some .int), 12),
  (⟨"SewnRoads", "hops", "(II)I"⟩, prog_1_method_16_code, 6, (some .int), 12),
  (⟨"SewnRoads", "joined", "(I)I"⟩, prog_1_method_17_code, 2, (some .int), 12),
  (⟨"SewnRoads", "hangs", "()I"⟩, prog_1_method_18_code, 1, (some .int), 12),
  (⟨"SewnRoads", "takes", "(II)I"⟩, prog_1_method_19_code, 3, (some .int), 12),
  (⟨"SewnRoads", "sewing", "(III)I"⟩, prog_1_method_20_code, 5, (some .int), 12),
  (⟨"SewnRoads", "surest", "(II)I"⟩, prog_1_method_21_code, 4, (some .int), 12),
  (⟨"SewnRoads", "soon", "(II)I"⟩, prog_1_method_22_code, 5, (some .int), 12),
  (⟨"SewnRoads", "holds", "(II)I"⟩, prog_1_method_23_code, 4, (some .int), 12),
  (⟨"SewnRoads", "rows", "()I"⟩, prog_1_method_24_code, 1, (some .int), 12),
  (⟨"SewnRoads", "march", "(I)I"⟩, prog_1_method_25_code, 2, (some .int), 12),
  (⟨"SewnRoads", "doubles", "(III)I"⟩, prog_1_method_26_code, 4, (some .int), 12),
  (⟨"SewnRoads", "then", "(II)I"⟩, prog_1_method_27_code, 3, (some .int), 12),
  (⟨"SewnRoads", "cartIn", "(III)I"⟩, prog_1_method_28_code, 5, (some .int), 12),
  (⟨"SewnRoads", "year", "(IIII)I"⟩, prog_1_method_29_code, 7, (some .int), 12),
  (⟨"SewnRoads", "tell", "(III)I"⟩, prog_1_method_30_code, 4, (some .int), 12),
  (⟨"SewnRoads", "forget", "()I"⟩, prog_1_method_31_code, 2, (some .int), 12),
  (⟨"SewnRoads", "cuts", "(II)I"⟩, prog_1_method_32_code, 4, (some .int), 12),
  (⟨"SewnRoads", "ask", "(I)I"⟩, prog_1_method_33_code, 3, (some .int), 12),
  (⟨"SewnRoads", "hold", "(I)Z"⟩, prog_1_method_34_code, 2, (some .boolean), 12),
  (⟨"SewnRoads", "restore", "(I)Z"⟩, prog_1_method_35_code, 2, (some .boolean), 12),
  (⟨"SewnRoads", "count", "(I)I"⟩, prog_1_method_36_code, 2, (some .int), 12),
  (⟨"SewnRoads", "emptySlots", "()V"⟩, prog_1_method_37_code, 2, none, 12),
  (⟨"SewnRoads", "heldSlots", "()I"⟩, prog_1_method_38_code, 3, (some .int), 12),
  (⟨"SewnRoads", "lookAhead", "(I)V"⟩, prog_1_method_39_code, 2, none, 12),
  (⟨"SewnRoads", "staysJoined", "(IIII)Z"⟩, prog_1_method_40_code, 7, (some .boolean), 12),
  (⟨"SewnRoads", "possibleCuts", "(I)I"⟩, prog_1_method_41_code, 3, (some .int), 12)]
def mt_4 : List (MethodName × ByteArray × Nat × Option FieldType × Nat) := [(⟨"SewnRoads", "isTown", "(I)Z"⟩, prog_1_method_42_code, 2, (some .boolean), 12),
  (⟨"SewnRoads", "areTwoTowns", "(II)Z"⟩, prog_1_method_43_code, 3, (some .boolean), 12),
  (⟨"SewnRoads", "isSeam", "(I)Z"⟩, prog_1_method_44_code, 2, (some .boolean), 12),
  (⟨"SewnRoads", "isCart", "(I)Z"⟩, prog_1_method_45_code, 2, (some .boolean), 12),
  (⟨"SewnRoads", "within", "(III)Z"⟩, prog_1_method_46_code, 3, (some .boolean), 0),
  (⟨"SewnRoads", "hasBit", "(II)Z"⟩, prog_1_method_47_code, 2, (some .boolean), 0),
  (⟨"SewnRoadsModel", "<init>", "()V"⟩, prog_14_method_2_code, 1, none, 13),
  (⟨"SewnRoadsModel", "feed", "(IIIII)I"⟩, prog_14_method_3_code, 6, (some .int), 13),
  (⟨"SewnRoadsModel", "put", "(I)V"⟩, prog_14_method_4_code, 3, none, 13),
  (⟨"SewnRoadsModel", "back", "(I)I"⟩, prog_14_method_5_code, 2, (some .int), 13),
  (⟨"SewnRoadsModel", "byteAt", "(I)I"⟩, prog_14_method_6_code, 2, (some .int), 13),
  (⟨"SewnRoadsModel", "isDigit", "(I)Z"⟩, prog_14_method_7_code, 1, (some .boolean), 0),
  (⟨"SewnRoadsModel", "isLetter", "(I)Z"⟩, prog_14_method_8_code, 1, (some .boolean), 0),
  (⟨"SewnRoadsModel", "appends", "(JI)J"⟩, prog_14_method_9_code, 3, (some .long), 0),
  (⟨"SewnRoadsModel", "word", "(IIIIIII)J"⟩, prog_14_method_10_code, 7, (some .long), 0),
  (⟨"SewnRoadsModel", "token", "(IIIJ)V"⟩, prog_14_method_11_code, 6, none, 13),
  (⟨"SewnRoadsModel", "cutsUp", "()V"⟩, prog_14_method_12_code, 8, none, 13),
  (⟨"SewnRoadsModel", "sign", "(III)I"⟩, prog_14_method_13_code, 5, (some .int), 13),
  (⟨"SewnRoadsModel", "is", "(I)Z"⟩, prog_14_method_14_code, 2, (some .boolean), 13),
  (⟨"SewnRoadsModel", "fail", "(I)V"⟩, prog_14_method_15_code, 2, none, 13),
  (⟨"SewnRoadsModel", "wrong", "(II)V"⟩, prog_14_method_16_code, 4, none, 13),
  (⟨"SewnRoadsModel", "goesOn", "()V"⟩, prog_14_method_17_code, 1, none, 13),
  (⟨"SewnRoadsModel", "must", "(I)V"⟩, prog_14_method_18_code, 2, none, 13),
  (⟨"SewnRoadsModel", "plain", "(I)V"⟩, prog_14_method_19_code, 3, none, 13),
  (⟨"SewnRoadsModel", "read", "()I"⟩, prog_14_method_20_code, 2, (some .int), 13),
  (⟨"SewnRoadsModel", "place", "()I"⟩, prog_14_method_21_code, 1, (some .int), 13),
  (⟨"SewnRoadsModel", "roomFor", "(II)V"⟩, prog_14_method_22_code, 3, none, 13),
  (⟨"SewnRoadsModel", "toldInt", "(II)I"⟩, prog_14_method_23_code, 4, (some .int), 13),
  (⟨"SewnRoadsModel", "tellOne", "()V"⟩, prog_14_method_24_code, 2, none, 13),
  (⟨"SewnRoadsModel", "named", "()I"⟩, prog_14_method_25_code, 3, (some .int), 13),
  (⟨"SewnRoadsModel", "ends", "(II)V"⟩, prog_14_method_26_code, 3, none, 13),
  (⟨"SewnRoadsModel", "knownTown", "()I"⟩, prog_14_method_27_code, 3, (some .int), 13),
  (⟨"SewnRoadsModel", "bounded", "(II)I"⟩, prog_14_method_28_code, 4, (some .int), 13),
  (⟨"SewnRoadsModel", "hasSeam", "(II)Z"⟩, prog_14_method_29_code, 4, (some .boolean), 13),
  (⟨"SewnRoadsModel", "tellSeam", "()V"⟩, prog_14_method_30_code, 5, none, 13),
  (⟨"SewnRoadsModel", "tellCart", "()V"⟩, prog_14_method_31_code, 6, none, 13),
  (⟨"SewnRoadsModel", "tellLaw", "(I)V"⟩, prog_14_method_32_code, 4, none, 13),
  (⟨"SewnRoadsModel", "term", "()V"⟩, prog_14_method_33_code, 1, none, 13),
  (⟨"SewnRoadsModel", "emit", "(II)V"⟩, prog_14_method_34_code, 3, none, 13),
  (⟨"SewnRoadsModel", "comesOut", "(Z)V"⟩, prog_14_method_35_code, 3, none, 13)]
def mt_5 : List (MethodName × ByteArray × Nat × Option FieldType × Nat) := [(⟨"SewnRoadsModel", "expression", "()V"⟩, prog_14_method_36_code, 3, none, 13),
  (⟨"SewnRoadsModel", "unit", "()V"⟩, prog_14_method_37_code, 1, none, 13),
  (⟨"SewnRoadsModel", "termOf", "(II)I"⟩, prog_14_method_38_code, 8, (some .int), 13),
  (⟨"SewnRoadsModel", "in", "(III)Z"⟩, prog_14_method_39_code, 3, (some .boolean), 0),
  (⟨"SewnRoadsModel", "held", "(III)I"⟩, prog_14_method_40_code, 3, (some .int), 0),
  (⟨"SewnRoadsModel", "isTown", "(I)Z"⟩, prog_14_method_41_code, 2, (some .boolean), 13),
  (⟨"SewnRoadsModel", "isSeam", "(I)Z"⟩, prog_14_method_42_code, 2, (some .boolean), 13),
  (⟨"SewnRoadsModel", "isCart", "(I)Z"⟩, prog_14_method_43_code, 2, (some .boolean), 13),
  (⟨"SewnRoadsModel", "begins", "()V"⟩, prog_14_method_44_code, 2, none, 13),
  (⟨"SewnRoadsModel", "keepsRow", "()V"⟩, prog_14_method_45_code, 2, none, 13),
  (⟨"SewnRoadsModel", "copies", "()V"⟩, prog_14_method_46_code, 2, none, 13),
  (⟨"SewnRoadsModel", "mixed", "(II)I"⟩, prog_14_method_47_code, 3, (some .int), 0),
  (⟨"SewnRoadsModel", "isFrost", "()Z"⟩, prog_14_method_48_code, 1, (some .boolean), 13),
  (⟨"SewnRoadsModel", "waysAt", "(I)I"⟩, prog_14_method_49_code, 4, (some .int), 13),
  (⟨"SewnRoadsModel", "looks", "(I)V"⟩, prog_14_method_50_code, 3, none, 13),
  (⟨"SewnRoadsModel", "asks", "(II)I"⟩, prog_14_method_51_code, 5, (some .int), 13),
  (⟨"SewnRoadsModel", "lawTells", "(I)I"⟩, prog_14_method_52_code, 5, (some .int), 13),
  (⟨"SewnRoadsModel", "costsNow", "(I)I"⟩, prog_14_method_53_code, 2, (some .int), 13),
  (⟨"SewnRoadsModel", "wearsNow", "(IZI)I"⟩, prog_14_method_54_code, 4, (some .int), 13),
  (⟨"SewnRoadsModel", "wayOf", "(I)I"⟩, prog_14_method_55_code, 3, (some .int), 13),
  (⟨"SewnRoadsModel", "tollOf", "(II)I"⟩, prog_14_method_56_code, 3, (some .int), 13),
  (⟨"SewnRoadsModel", "fillsWays", "()V"⟩, prog_14_method_57_code, 2, none, 13),
  (⟨"SewnRoadsModel", "fillsFar", "(I)V"⟩, prog_14_method_58_code, 6, none, 13),
  (⟨"SewnRoadsModel", "areJoined", "(II)Z"⟩, prog_14_method_59_code, 4, (some .boolean), 13),
  (⟨"SewnRoadsModel", "otherEnd", "(II)I"⟩, prog_14_method_60_code, 4, (some .int), 13),
  (⟨"SewnRoadsModel", "roadOf", "(I)I"⟩, prog_14_method_61_code, 6, (some .int), 13),
  (⟨"SewnRoadsModel", "cartGoes", "(I)V"⟩, prog_14_method_62_code, 3, none, 13),
  (⟨"SewnRoadsModel", "weekGoes", "()V"⟩, prog_14_method_63_code, 3, none, 13),
  (⟨"SewnRoadsModel", "goes", "(I)V"⟩, prog_14_method_64_code, 3, none, 13),
  (⟨"SewnRoadsModel", "seam", "(II)I"⟩, prog_14_method_65_code, 3, (some .int), 13),
  (⟨"SewnRoadsModel", "cart", "(II)I"⟩, prog_14_method_66_code, 3, (some .int), 13),
  (⟨"SewnRoadsModel", "toll", "(II)I"⟩, prog_14_method_67_code, 3, (some .int), 13),
  (⟨"SewnRoadsModel", "records", "()V"⟩, prog_14_method_68_code, 2, none, 13),
  (⟨"SewnRoadsModel", "sew", "(II)I"⟩, prog_14_method_69_code, 5, (some .int), 13),
  (⟨"SewnRoadsModel", "cut", "(I)I"⟩, prog_14_method_70_code, 3, (some .int), 13),
  (⟨"SewnRoadsModel", "unpick", "(II)I"⟩, prog_14_method_71_code, 4, (some .int), 13),
  (⟨"SewnRoadsModel", "send", "(I)Z"⟩, prog_14_method_72_code, 2, (some .boolean), 13),
  (⟨"SewnRoadsModel", "weeks", "(I)I"⟩, prog_14_method_73_code, 2, (some .int), 13),
  (⟨"SewnRoadsModel", "undo", "()Z"⟩, prog_14_method_74_code, 2, (some .boolean), 13),
  (⟨"SewnRoadsModel", "far", "(II)I"⟩, prog_14_method_75_code, 3, (some .int), 13)]
def mt_6 : List (MethodName × ByteArray × Nat × Option FieldType × Nat) := [(⟨"SewnRoadsModel", "hops", "(II)I"⟩, prog_14_method_76_code, 3, (some .int), 13),
  (⟨"SewnRoadsModel", "joinedTo", "(I)I"⟩, prog_14_method_77_code, 4, (some .int), 13),
  (⟨"SewnRoadsModel", "joined", "(I)I"⟩, prog_14_method_78_code, 2, (some .int), 13),
  (⟨"SewnRoadsModel", "hangs", "()I"⟩, prog_14_method_79_code, 3, (some .int), 13),
  (⟨"SewnRoadsModel", "takesNow", "(II)I"⟩, prog_14_method_80_code, 5, (some .int), 13),
  (⟨"SewnRoadsModel", "isSewn", "(I)Z"⟩, prog_14_method_81_code, 1, (some .boolean), 0),
  (⟨"SewnRoadsModel", "takes", "(II)I"⟩, prog_14_method_82_code, 3, (some .int), 13),
  (⟨"SewnRoadsModel", "joinsAll", "(II)Z"⟩, prog_14_method_83_code, 5, (some .boolean), 13),
  (⟨"SewnRoadsModel", "sewing", "(III)I"⟩, prog_14_method_84_code, 9, (some .int), 13),
  (⟨"SewnRoadsModel", "surest", "(II)I"⟩, prog_14_method_85_code, 5, (some .int), 13),
  (⟨"SewnRoadsModel", "soon", "(II)I"⟩, prog_14_method_86_code, 7, (some .int), 13),
  (⟨"SewnRoadsModel", "holdsFor", "(II)I"⟩, prog_14_method_87_code, 4, (some .int), 13),
  (⟨"SewnRoadsModel", "holds", "(II)I"⟩, prog_14_method_88_code, 4, (some .int), 13),
  (⟨"SewnRoadsModel", "wholeAt", "(I)I"⟩, prog_14_method_89_code, 4, (some .int), 13),
  (⟨"SewnRoadsModel", "rows", "()I"⟩, prog_14_method_90_code, 7, (some .int), 13),
  (⟨"SewnRoadsModel", "isLong", "(I)Z"⟩, prog_14_method_91_code, 1, (some .boolean), 0),
  (⟨"SewnRoadsModel", "march", "(I)I"⟩, prog_14_method_92_code, 6, (some .int), 13),
  (⟨"SewnRoadsModel", "doubles", "(III)I"⟩, prog_14_method_93_code, 8, (some .int), 13),
  (⟨"SewnRoadsModel", "then", "(II)I"⟩, prog_14_method_94_code, 3, (some .int), 13),
  (⟨"SewnRoadsModel", "cartIn", "(III)I"⟩, prog_14_method_95_code, 4, (some .int), 13),
  (⟨"SewnRoadsModel", "year", "(IIII)I"⟩, prog_14_method_96_code, 7, (some .int), 13),
  (⟨"SewnRoadsModel", "tell", "(III)I"⟩, prog_14_method_97_code, 4, (some .int), 13),
  (⟨"SewnRoadsModel", "forget", "()I"⟩, prog_14_method_98_code, 2, (some .int), 13),
  (⟨"SewnRoadsModel", "wayBetween", "(II)I"⟩, prog_14_method_99_code, 3, (some .int), 13),
  (⟨"SewnRoadsModel", "cutsOne", "(I)V"⟩, prog_14_method_100_code, 2, none, 13),
  (⟨"SewnRoadsModel", "cutBits", "(I)I"⟩, prog_14_method_101_code, 6, (some .int), 13),
  (⟨"SewnRoadsModel", "bits", "(I)I"⟩, prog_14_method_102_code, 3, (some .int), 0),
  (⟨"SewnRoadsModel", "cuts", "(II)I"⟩, prog_14_method_103_code, 4, (some .int), 13),
  (⟨"SewnRoadsModel", "worstOf", "(III)I"⟩, prog_14_method_104_code, 8, (some .int), 13),
  (⟨"SewnRoadsModel", "ask", "(I)I"⟩, prog_14_method_105_code, 8, (some .int), 13),
  (⟨"SewnRoadsModel", "hold", "(I)Z"⟩, prog_14_method_106_code, 3, (some .boolean), 13),
  (⟨"SewnRoadsModel", "restore", "(I)Z"⟩, prog_14_method_107_code, 3, (some .boolean), 13),
  (⟨"SewnRoadsModel", "count", "(I)I"⟩, prog_14_method_108_code, 4, (some .int), 13),
  (⟨"java/lang/Character", "isValidCodePoint", "(I)Z"⟩, prog_15_method_11_code, 2, (some .boolean), 0),
  (⟨"java/lang/Character", "highSurrogate", "(I)C"⟩, prog_15_method_28_code, 1, (some .char), 0),
  (⟨"java/lang/Character", "lowSurrogate", "(I)C"⟩, prog_15_method_29_code, 1, (some .char), 0),
  (⟨"java/lang/Integer", "bitCount", "(I)I"⟩, prog_16_method_49_code, 1, (some .int), 0),
  (⟨"java/lang/Math", "max", "(II)I"⟩, prog_17_method_65_code, 2, (some .int), 0),
  (⟨"java/lang/Math", "min", "(II)I"⟩, prog_17_method_69_code, 2, (some .int), 0),
  (⟨"java/lang/String", "length", "()I"⟩, prog_18_method_54_code, 1, (some .int), 999)]
def mt_7 : List (MethodName × ByteArray × Nat × Option FieldType × Nat) := [(⟨"java/lang/String", "charAt", "(I)C"⟩, prog_18_method_56_code, 2, (some .char), 999),
  (⟨"java/lang/String", "indexOf", "(I)I"⟩, prog_18_method_79_code, 2, (some .int), 999),
  (⟨"java/lang/String", "indexOf", "(II)I"⟩, prog_18_method_80_code, 3, (some .int), 999),
  (⟨"java/lang/String", "coder", "()B"⟩, prog_18_method_152_code, 1, (some .byte), 999),
  (⟨"java/lang/String", "isLatin1", "()Z"⟩, prog_18_method_154_code, 1, (some .boolean), 999),
  (⟨"java/lang/String", "checkIndex", "(II)V"⟩, prog_18_method_155_code, 2, none, 0),
  (⟨"java/lang/String", "checkBoundsBeginEnd", "(III)V"⟩, prog_18_method_158_code, 3, none, 0),
  (⟨"java/lang/StringLatin1", "charAt", "([BI)C"⟩, prog_19_method_2_code, 2, (some .char), 0),
  (⟨"java/lang/StringLatin1", "canEncode", "(I)Z"⟩, prog_19_method_4_code, 1, (some .boolean), 0),
  (⟨"java/lang/StringLatin1", "indexOf", "([BIII)I"⟩, prog_19_method_22_code, 4, (some .int), 0),
  (⟨"java/lang/StringLatin1", "indexOfChar", "([BIII)I"⟩, prog_19_method_23_code, 6, (some .int), 0),
  (⟨"java/lang/StringUTF16", "getChar", "([BI)C"⟩, prog_20_method_5_code, 2, (some .char), 0),
  (⟨"java/lang/StringUTF16", "length", "([B)I"⟩, prog_20_method_6_code, 1, (some .int), 0),
  (⟨"java/lang/StringUTF16", "indexOf", "([BIII)I"⟩, prog_20_method_40_code, 4, (some .int), 0),
  (⟨"java/lang/StringUTF16", "indexOfChar", "([BIII)I"⟩, prog_20_method_47_code, 4, (some .int), 0),
  (⟨"java/lang/StringUTF16", "indexOfCharUnsafe", "([BIII)I"⟩, prog_20_method_48_code, 5, (some .int), 0),
  (⟨"java/lang/StringUTF16", "indexOfSupplementary", "([BIII)I"⟩, prog_20_method_49_code, 7, (some .int), 0),
  (⟨"java/lang/StringUTF16", "charAt", "([BI)C"⟩, prog_20_method_83_code, 2, (some .char), 0),
  (⟨"java/lang/StringUTF16", "checkIndex", "(I[B)V"⟩, prog_20_method_91_code, 2, none, 0),
  (⟨"java/lang/StringUTF16", "checkBoundsBeginEnd", "(II[B)V"⟩, prog_20_method_93_code, 3, none, 0),
  (⟨"java/util/Arrays", "fill", "([II)V"⟩, prog_22_method_103_code, 4, none, 0),
  (⟨"jdk/internal/util/Preconditions", "checkIndex", "(IILjava/util/function/BiFunction;)I"⟩, prog_23_method_11_code, 3, (some .int), 0),
  (⟨"jdk/internal/util/Preconditions", "checkFromToIndex", "(IIILjava/util/function/BiFunction;)I"⟩, prog_23_method_12_code, 4, (some .int), 0),
  (⟨"SewnRoadsLaw", "law", "([I)Z"⟩, code, 4, (some .boolean), 0)]
def mtab : List (MethodName × ByteArray × Nat × Option FieldType × Nat) := mt_0 ++ mt_1 ++ mt_2 ++ mt_3 ++ mt_4 ++ mt_5 ++ mt_6 ++ mt_7
def mE (y : Nat) : MethodName × ByteArray × Nat × Option FieldType × Nat := mtab.getD y (⟨"", "", ""⟩, code, 0, none, 999)
def mN (y : Nat) : MethodName := (mE y).1
def mB (y : Nat) : ByteArray := (mE y).2.1
def mL (y : Nat) : Nat := (mE y).2.2.1
def mR (y : Nat) : Option FieldType := (mE y).2.2.2.1
def mK (y : Nat) : Nat := (mE y).2.2.2.2
theorem gat {i : Nat} {w : Cond} (h : lw_tbl[i]? = some w) (hg : goodWord w = true) : w ∈ gtb := mem_gtb (List.mem_of_getElem? h) hg
theorem gats {β : Type} {l : List β} {f : β → Nat} {g : β → Cond} (h : l.map (fun q => lw_tbl[f q]?) = l.map (fun q => some (g q))) (hg : ∀ q, goodWord (g q) = true) : ∀ q ∈ l, g q ∈ gtb := fun q hq => gat (List.map_inj_left.mp h q hq) (hg q)
/-- what a callee needs of the tables -/
def mF (y : Nat) : Prop := Cond.code (mN y) (mB y) (mL y) (mR y) ∈ gtb ∧ Cond.initialized (mN y).cls ∈ gtb ∧ ((mN y).cls ≠ "java/lang/invoke/MethodHandle" ∧ (mN y).cls ≠ "java/lang/invoke/VarHandle") ∧ mL y ≤ 40 ∧ plainName (mN y).cls = true ∧ (mK y = 0 → Cond.static (mN y) ∈ gtb) ∧ ∀ cn, mK y = cn + 1 → Cond.instanceMethod (mN y) ∈ gtb ∧ Cond.selects (cT cn).1 (mN y) (mN y) ∈ gtb ∧ cn < 13
def mw_s0 : List (Nat × Nat × Nat × Nat) := [(8, 902, 112, 901), (62, 905, 120, 904), (72, 1254, 123, 1253), (87, 1042, 122, 1041), (88, 1045, 122, 1044), (114, 640, 113, 639), (115, 360, 113, 359), (116, 647, 113, 646), (117, 654, 113, 653), (118, 669, 113, 668), (164, 795, 108, 794), (165, 862, 108, 861), (171, 1578, 126, 1577), (172, 1575, 126, 1574), (173, 1319, 126, 1318), (174, 1316, 126, 1315), (203, 1681, 126, 1680), (204, 1712, 126, 1711), (211, 1796, 126, 1795), (245, 1836, 126, 1835), (255, 1879, 126, 1878), (266, 1922, 126, 1921), (276, 1175, 129, 1174), (300, 564, 125, 563)]
set_option maxRecDepth 100000 in
theorem mc_s0a : mw_s0.map (fun q => lw_tbl[q.2.1]?) = mw_s0.map (fun q => some (Cond.code (mN q.1) (mB q.1) (mL q.1) (mR q.1))) := rfl
set_option maxRecDepth 100000 in
theorem mc_s0b : mw_s0.map (fun q => lw_tbl[q.2.2.1]?) = mw_s0.map (fun q => some (Cond.initialized (mN q.1).cls)) := rfl
set_option maxRecDepth 100000 in
theorem mc_s0c : mw_s0.map (fun q => lw_tbl[q.2.2.2]?) = mw_s0.map (fun q => some (Cond.static (mN q.1))) := rfl
set_option maxRecDepth 100000 in
theorem mc_s0d : ∀ q ∈ mw_s0, ((mN q.1).cls ≠ "java/lang/invoke/MethodHandle" ∧ (mN q.1).cls ≠ "java/lang/invoke/VarHandle") ∧ mL q.1 ≤ 40 ∧ plainName (mN q.1).cls = true ∧ mK q.1 = 0 := by decide +kernel
theorem mf_s0 : ∀ q ∈ mw_s0, mF q.1 := by
  intro q h
  obtain ⟨h1, h2, h3, h4⟩ := mc_s0d q h
  exact ⟨gats mc_s0a (fun _ => rfl) q h, gats mc_s0b (fun _ => rfl) q h, h1, h2, h3, fun _ => gats mc_s0c (fun _ => rfl) q h, fun cn hc => by omega⟩
def mw_i0 : List (Nat × Nat × Nat × Nat × Nat) := [(1, 175, 112, 173, 174), (2, 854, 112, 852, 853), (3, 823, 112, 821, 822), (4, 844, 112, 842, 843), (5, 183, 112, 181, 182), (6, 840, 112, 838, 839), (7, 898, 112, 896, 897), (9, 179, 112, 178, 0), (11, 1081, 121, 1079, 1080), (12, 1089, 121, 1087, 1088), (13, 1102, 121, 1100, 1101), (14, 1009, 121, 1007, 1008), (15, 1020, 121, 1018, 1019), (16, 1136, 121, 1134, 1135), (17, 1124, 121, 1122, 1123), (18, 1098, 121, 1096, 1097), (19, 1168, 121, 1166, 1167), (20, 1172, 121, 1171, 38), (21, 1140, 121, 1139, 36), (22, 1016, 121, 1015, 30), (24, 866, 119, 864, 865), (25, 949, 119, 947, 948), (26, 1060, 119, 1058, 1059), (28, 201, 111, 199, 200)]
set_option maxRecDepth 100000 in
theorem mc_i0a : mw_i0.map (fun q => lw_tbl[q.2.1]?) = mw_i0.map (fun q => some (Cond.code (mN q.1) (mB q.1) (mL q.1) (mR q.1))) := rfl
set_option maxRecDepth 100000 in
theorem mc_i0b : mw_i0.map (fun q => lw_tbl[q.2.2.1]?) = mw_i0.map (fun q => some (Cond.initialized (mN q.1).cls)) := rfl
set_option maxRecDepth 100000 in
theorem mc_i0c : mw_i0.map (fun q => lw_tbl[q.2.2.2.1]?) = mw_i0.map (fun q => some (Cond.instanceMethod (mN q.1))) := rfl
set_option maxRecDepth 100000 in
theorem mc_i0d : mw_i0.map (fun q => lw_tbl[q.2.2.2.2]?) = mw_i0.map (fun q => some (Cond.selects (cT (mK q.1 - 1)).1 (mN q.1) (mN q.1))) := rfl
set_option maxRecDepth 100000 in
theorem mc_i0e : ∀ q ∈ mw_i0, ((mN q.1).cls ≠ "java/lang/invoke/MethodHandle" ∧ (mN q.1).cls ≠ "java/lang/invoke/VarHandle") ∧ mL q.1 ≤ 40 ∧ plainName (mN q.1).cls = true ∧ 1 ≤ mK q.1 ∧ mK q.1 ≤ 13 := by decide +kernel
theorem mf_i0 : ∀ q ∈ mw_i0, mF q.1 := by
  intro q h
  obtain ⟨h1, h2, h3, h4, h5⟩ := mc_i0e q h
  refine ⟨gats mc_i0a (fun _ => rfl) q h, gats mc_i0b (fun _ => rfl) q h, h1, h2, h3, fun hc => by omega, fun cn hc => ⟨gats mc_i0c (fun _ => rfl) q h, ?_, by omega⟩⟩
  have h6 := gats mc_i0d (fun _ => rfl) q h
  rw [hc] at h6
  exact h6
def mw_i1 : List (Nat × Nat × Nat × Nat × Nat) := [(29, 849, 111, 847, 848), (30, 799, 111, 797, 798), (31, 811, 111, 809, 810), (32, 788, 111, 786, 787), (33, 859, 111, 858, 23), (35, 632, 110, 630, 631), (36, 744, 110, 743, 6), (37, 748, 110, 747, 7), (38, 780, 110, 779, 13), (39, 803, 110, 802, 16), (40, 807, 110, 806, 17), (41, 815, 110, 814, 18), (42, 819, 110, 818, 19), (43, 827, 110, 826, 20), (44, 831, 110, 830, 21), (45, 835, 110, 834, 22), (46, 752, 110, 751, 8), (47, 756, 110, 755, 9), (48, 772, 110, 771, 12), (49, 760, 110, 759, 10), (50, 764, 110, 763, 11), (51, 784, 110, 783, 14), (52, 792, 110, 791, 15), (54, 890, 120, 888, 889)]
set_option maxRecDepth 100000 in
theorem mc_i1a : mw_i1.map (fun q => lw_tbl[q.2.1]?) = mw_i1.map (fun q => some (Cond.code (mN q.1) (mB q.1) (mL q.1) (mR q.1))) := rfl
set_option maxRecDepth 100000 in
theorem mc_i1b : mw_i1.map (fun q => lw_tbl[q.2.2.1]?) = mw_i1.map (fun q => some (Cond.initialized (mN q.1).cls)) := rfl
set_option maxRecDepth 100000 in
theorem mc_i1c : mw_i1.map (fun q => lw_tbl[q.2.2.2.1]?) = mw_i1.map (fun q => some (Cond.instanceMethod (mN q.1))) := rfl
set_option maxRecDepth 100000 in
theorem mc_i1d : mw_i1.map (fun q => lw_tbl[q.2.2.2.2]?) = mw_i1.map (fun q => some (Cond.selects (cT (mK q.1 - 1)).1 (mN q.1) (mN q.1))) := rfl
set_option maxRecDepth 100000 in
theorem mc_i1e : ∀ q ∈ mw_i1, ((mN q.1).cls ≠ "java/lang/invoke/MethodHandle" ∧ (mN q.1).cls ≠ "java/lang/invoke/VarHandle") ∧ mL q.1 ≤ 40 ∧ plainName (mN q.1).cls = true ∧ 1 ≤ mK q.1 ∧ mK q.1 ≤ 13 := by decide +kernel
theorem mf_i1 : ∀ q ∈ mw_i1, mF q.1 := by
  intro q h
  obtain ⟨h1, h2, h3, h4, h5⟩ := mc_i1e q h
  refine ⟨gats mc_i1a (fun _ => rfl) q h, gats mc_i1b (fun _ => rfl) q h, h1, h2, h3, fun hc => by omega, fun cn hc => ⟨gats mc_i1c (fun _ => rfl) q h, ?_, by omega⟩⟩
  have h6 := gats mc_i1d (fun _ => rfl) q h
  rw [hc] at h6
  exact h6
def mw_i2 : List (Nat × Nat × Nat × Nat × Nat) := [(55, 911, 120, 909, 910), (56, 915, 120, 913, 914), (57, 936, 120, 934, 935), (58, 944, 120, 942, 943), (59, 1111, 120, 1109, 1110), (60, 1119, 120, 1117, 1118), (61, 894, 120, 893, 26), (64, 870, 123, 868, 869), (65, 1233, 123, 1231, 1232), (66, 1249, 123, 1247, 1248), (67, 1259, 123, 1257, 1258), (68, 1272, 123, 1270, 1271), (69, 1263, 123, 1262, 42), (70, 1276, 123, 1275, 43), (71, 1280, 123, 1279, 44), (74, 998, 122, 996, 997), (75, 980, 122, 978, 979), (76, 1220, 122, 1218, 1219), (77, 1039, 122, 1037, 1038), (78, 1148, 122, 1146, 1147), (79, 1156, 122, 1154, 1155), (80, 1196, 122, 1194, 1195), (81, 1152, 122, 1151, 37), (82, 985, 122, 984, 28)]
set_option maxRecDepth 100000 in
theorem mc_i2a : mw_i2.map (fun q => lw_tbl[q.2.1]?) = mw_i2.map (fun q => some (Cond.code (mN q.1) (mB q.1) (mL q.1) (mR q.1))) := rfl
set_option maxRecDepth 100000 in
theorem mc_i2b : mw_i2.map (fun q => lw_tbl[q.2.2.1]?) = mw_i2.map (fun q => some (Cond.initialized (mN q.1).cls)) := rfl
set_option maxRecDepth 100000 in
theorem mc_i2c : mw_i2.map (fun q => lw_tbl[q.2.2.2.1]?) = mw_i2.map (fun q => some (Cond.instanceMethod (mN q.1))) := rfl
set_option maxRecDepth 100000 in
theorem mc_i2d : mw_i2.map (fun q => lw_tbl[q.2.2.2.2]?) = mw_i2.map (fun q => some (Cond.selects (cT (mK q.1 - 1)).1 (mN q.1) (mN q.1))) := rfl
set_option maxRecDepth 100000 in
theorem mc_i2e : ∀ q ∈ mw_i2, ((mN q.1).cls ≠ "java/lang/invoke/MethodHandle" ∧ (mN q.1).cls ≠ "java/lang/invoke/VarHandle") ∧ mL q.1 ≤ 40 ∧ plainName (mN q.1).cls = true ∧ 1 ≤ mK q.1 ∧ mK q.1 ≤ 13 := by decide +kernel
theorem mf_i2 : ∀ q ∈ mw_i2, mF q.1 := by
  intro q h
  obtain ⟨h1, h2, h3, h4, h5⟩ := mc_i2e q h
  refine ⟨gats mc_i2a (fun _ => rfl) q h, gats mc_i2b (fun _ => rfl) q h, h1, h2, h3, fun hc => by omega, fun cn hc => ⟨gats mc_i2c (fun _ => rfl) q h, ?_, by omega⟩⟩
  have h6 := gats mc_i2d (fun _ => rfl) q h
  rw [hc] at h6
  exact h6
def mw_i3 : List (Nat × Nat × Nat × Nat × Nat) := [(83, 1004, 122, 1003, 29), (84, 1024, 122, 1023, 31), (85, 1028, 122, 1027, 32), (86, 1050, 122, 1049, 33), (90, 558, 118, 556, 557), (91, 953, 118, 951, 952), (92, 928, 118, 926, 927), (93, 568, 118, 566, 567), (94, 1033, 118, 1031, 1032), (95, 970, 118, 968, 969), (96, 994, 118, 992, 993), (97, 989, 118, 987, 988), (98, 1303, 118, 1301, 1302), (99, 1187, 118, 1185, 1186), (101, 616, 109, 614, 615), (102, 620, 109, 618, 619), (103, 644, 109, 642, 643), (105, 739, 113, 737, 738), (106, 776, 113, 774, 775), (107, 768, 113, 766, 767), (108, 637, 113, 635, 636), (109, 651, 113, 650, 1), (110, 658, 113, 657, 2), (111, 673, 113, 672, 5)]
set_option maxRecDepth 100000 in
theorem mc_i3a : mw_i3.map (fun q => lw_tbl[q.2.1]?) = mw_i3.map (fun q => some (Cond.code (mN q.1) (mB q.1) (mL q.1) (mR q.1))) := rfl
set_option maxRecDepth 100000 in
theorem mc_i3b : mw_i3.map (fun q => lw_tbl[q.2.2.1]?) = mw_i3.map (fun q => some (Cond.initialized (mN q.1).cls)) := rfl
set_option maxRecDepth 100000 in
theorem mc_i3c : mw_i3.map (fun q => lw_tbl[q.2.2.2.1]?) = mw_i3.map (fun q => some (Cond.instanceMethod (mN q.1))) := rfl
set_option maxRecDepth 100000 in
theorem mc_i3d : mw_i3.map (fun q => lw_tbl[q.2.2.2.2]?) = mw_i3.map (fun q => some (Cond.selects (cT (mK q.1 - 1)).1 (mN q.1) (mN q.1))) := rfl
set_option maxRecDepth 100000 in
theorem mc_i3e : ∀ q ∈ mw_i3, ((mN q.1).cls ≠ "java/lang/invoke/MethodHandle" ∧ (mN q.1).cls ≠ "java/lang/invoke/VarHandle") ∧ mL q.1 ≤ 40 ∧ plainName (mN q.1).cls = true ∧ 1 ≤ mK q.1 ∧ mK q.1 ≤ 13 := by decide +kernel
theorem mf_i3 : ∀ q ∈ mw_i3, mF q.1 := by
  intro q h
  obtain ⟨h1, h2, h3, h4, h5⟩ := mc_i3e q h
  refine ⟨gats mc_i3a (fun _ => rfl) q h, gats mc_i3b (fun _ => rfl) q h, h1, h2, h3, fun hc => by omega, fun cn hc => ⟨gats mc_i3c (fun _ => rfl) q h, ?_, by omega⟩⟩
  have h6 := gats mc_i3d (fun _ => rfl) q h
  rw [hc] at h6
  exact h6
def mw_i4 : List (Nat × Nat × Nat × Nat × Nat) := [(112, 662, 113, 661, 3), (113, 666, 113, 665, 4), (120, 612, 108, 610, 611), (121, 624, 108, 622, 623), (122, 628, 108, 626, 627), (123, 878, 108, 876, 877), (124, 882, 108, 880, 881), (125, 919, 108, 917, 918), (126, 932, 108, 930, 931), (127, 940, 108, 938, 939), (128, 957, 108, 955, 956), (129, 961, 108, 959, 960), (130, 966, 108, 964, 965), (131, 976, 108, 974, 975), (132, 1056, 108, 1054, 1055), (133, 1064, 108, 1062, 1063), (134, 1076, 108, 1074, 1075), (135, 1085, 108, 1083, 1084), (136, 1094, 108, 1092, 1093), (137, 1107, 108, 1105, 1106), (138, 1115, 108, 1113, 1114), (139, 1128, 108, 1126, 1127), (140, 1144, 108, 1142, 1143), (141, 1160, 108, 1158, 1159)]
set_option maxRecDepth 100000 in
theorem mc_i4a : mw_i4.map (fun q => lw_tbl[q.2.1]?) = mw_i4.map (fun q => some (Cond.code (mN q.1) (mB q.1) (mL q.1) (mR q.1))) := rfl
set_option maxRecDepth 100000 in
theorem mc_i4b : mw_i4.map (fun q => lw_tbl[q.2.2.1]?) = mw_i4.map (fun q => some (Cond.initialized (mN q.1).cls)) := rfl
set_option maxRecDepth 100000 in
theorem mc_i4c : mw_i4.map (fun q => lw_tbl[q.2.2.2.1]?) = mw_i4.map (fun q => some (Cond.instanceMethod (mN q.1))) := rfl
set_option maxRecDepth 100000 in
theorem mc_i4d : mw_i4.map (fun q => lw_tbl[q.2.2.2.2]?) = mw_i4.map (fun q => some (Cond.selects (cT (mK q.1 - 1)).1 (mN q.1) (mN q.1))) := rfl
set_option maxRecDepth 100000 in
theorem mc_i4e : ∀ q ∈ mw_i4, ((mN q.1).cls ≠ "java/lang/invoke/MethodHandle" ∧ (mN q.1).cls ≠ "java/lang/invoke/VarHandle") ∧ mL q.1 ≤ 40 ∧ plainName (mN q.1).cls = true ∧ 1 ≤ mK q.1 ∧ mK q.1 ≤ 13 := by decide +kernel
theorem mf_i4 : ∀ q ∈ mw_i4, mF q.1 := by
  intro q h
  obtain ⟨h1, h2, h3, h4, h5⟩ := mc_i4e q h
  refine ⟨gats mc_i4a (fun _ => rfl) q h, gats mc_i4b (fun _ => rfl) q h, h1, h2, h3, fun hc => by omega, fun cn hc => ⟨gats mc_i4c (fun _ => rfl) q h, ?_, by omega⟩⟩
  have h6 := gats mc_i4d (fun _ => rfl) q h
  rw [hc] at h6
  exact h6
def mw_i5 : List (Nat × Nat × Nat × Nat × Nat) := [(142, 1164, 108, 1162, 1163), (143, 1183, 108, 1181, 1182), (144, 1192, 108, 1190, 1191), (145, 1203, 108, 1201, 1202), (146, 1212, 108, 1210, 1211), (147, 1216, 108, 1214, 1215), (148, 1229, 108, 1227, 1228), (149, 1237, 108, 1235, 1236), (150, 1241, 108, 1239, 1240), (151, 1268, 108, 1266, 1267), (152, 1285, 108, 1283, 1284), (153, 1289, 108, 1287, 1288), (154, 1293, 108, 1291, 1292), (155, 874, 108, 873, 24), (156, 1298, 108, 1297, 45), (157, 1207, 108, 1206, 39), (158, 1224, 108, 1223, 40), (159, 1245, 108, 1244, 41), (160, 1068, 108, 1067, 34), (161, 1132, 108, 1131, 35), (162, 886, 108, 885, 25), (163, 923, 108, 922, 27), (167, 1548, 126, 1546, 1547), (168, 1552, 126, 1551, 49)]
set_option maxRecDepth 100000 in
theorem mc_i5a : mw_i5.map (fun q => lw_tbl[q.2.1]?) = mw_i5.map (fun q => some (Cond.code (mN q.1) (mB q.1) (mL q.1) (mR q.1))) := rfl
set_option maxRecDepth 100000 in
theorem mc_i5b : mw_i5.map (fun q => lw_tbl[q.2.2.1]?) = mw_i5.map (fun q => some (Cond.initialized (mN q.1).cls)) := rfl
set_option maxRecDepth 100000 in
theorem mc_i5c : mw_i5.map (fun q => lw_tbl[q.2.2.2.1]?) = mw_i5.map (fun q => some (Cond.instanceMethod (mN q.1))) := rfl
set_option maxRecDepth 100000 in
theorem mc_i5d : mw_i5.map (fun q => lw_tbl[q.2.2.2.2]?) = mw_i5.map (fun q => some (Cond.selects (cT (mK q.1 - 1)).1 (mN q.1) (mN q.1))) := rfl
set_option maxRecDepth 100000 in
theorem mc_i5e : ∀ q ∈ mw_i5, ((mN q.1).cls ≠ "java/lang/invoke/MethodHandle" ∧ (mN q.1).cls ≠ "java/lang/invoke/VarHandle") ∧ mL q.1 ≤ 40 ∧ plainName (mN q.1).cls = true ∧ 1 ≤ mK q.1 ∧ mK q.1 ≤ 13 := by decide +kernel
theorem mf_i5 : ∀ q ∈ mw_i5, mF q.1 := by
  intro q h
  obtain ⟨h1, h2, h3, h4, h5⟩ := mc_i5e q h
  refine ⟨gats mc_i5a (fun _ => rfl) q h, gats mc_i5b (fun _ => rfl) q h, h1, h2, h3, fun hc => by omega, fun cn hc => ⟨gats mc_i5c (fun _ => rfl) q h, ?_, by omega⟩⟩
  have h6 := gats mc_i5d (fun _ => rfl) q h
  rw [hc] at h6
  exact h6
def mw_i6 : List (Nat × Nat × Nat × Nat × Nat) := [(169, 1556, 126, 1554, 1555), (170, 1568, 126, 1567, 51), (175, 1572, 126, 1571, 52), (176, 1564, 126, 1563, 50), (177, 1582, 126, 1581, 53), (178, 1586, 126, 1585, 54), (179, 1598, 126, 1597, 57), (180, 1614, 126, 1613, 61), (181, 1602, 126, 1601, 58), (182, 1610, 126, 1609, 60), (183, 1313, 126, 1312, 46), (184, 1560, 126, 1558, 1559), (185, 1670, 126, 1668, 1669), (186, 1594, 126, 1593, 56), (187, 1642, 126, 1641, 68), (188, 1590, 126, 1589, 55), (189, 1606, 126, 1605, 59), (190, 1618, 126, 1617, 62), (191, 1626, 126, 1625, 64), (192, 1634, 126, 1633, 66), (193, 1630, 126, 1629, 65), (194, 1622, 126, 1621, 63), (195, 1638, 126, 1637, 67), (196, 1646, 126, 1645, 69)]
set_option maxRecDepth 100000 in
theorem mc_i6a : mw_i6.map (fun q => lw_tbl[q.2.1]?) = mw_i6.map (fun q => some (Cond.code (mN q.1) (mB q.1) (mL q.1) (mR q.1))) := rfl
set_option maxRecDepth 100000 in
theorem mc_i6b : mw_i6.map (fun q => lw_tbl[q.2.2.1]?) = mw_i6.map (fun q => some (Cond.initialized (mN q.1).cls)) := rfl
set_option maxRecDepth 100000 in
theorem mc_i6c : mw_i6.map (fun q => lw_tbl[q.2.2.2.1]?) = mw_i6.map (fun q => some (Cond.instanceMethod (mN q.1))) := rfl
set_option maxRecDepth 100000 in
theorem mc_i6d : mw_i6.map (fun q => lw_tbl[q.2.2.2.2]?) = mw_i6.map (fun q => some (Cond.selects (cT (mK q.1 - 1)).1 (mN q.1) (mN q.1))) := rfl
set_option maxRecDepth 100000 in
theorem mc_i6e : ∀ q ∈ mw_i6, ((mN q.1).cls ≠ "java/lang/invoke/MethodHandle" ∧ (mN q.1).cls ≠ "java/lang/invoke/VarHandle") ∧ mL q.1 ≤ 40 ∧ plainName (mN q.1).cls = true ∧ 1 ≤ mK q.1 ∧ mK q.1 ≤ 13 := by decide +kernel
theorem mf_i6 : ∀ q ∈ mw_i6, mF q.1 := by
  intro q h
  obtain ⟨h1, h2, h3, h4, h5⟩ := mc_i6e q h
  refine ⟨gats mc_i6a (fun _ => rfl) q h, gats mc_i6b (fun _ => rfl) q h, h1, h2, h3, fun hc => by omega, fun cn hc => ⟨gats mc_i6c (fun _ => rfl) q h, ?_, by omega⟩⟩
  have h6 := gats mc_i6d (fun _ => rfl) q h
  rw [hc] at h6
  exact h6
def mw_i7 : List (Nat × Nat × Nat × Nat × Nat) := [(197, 1666, 126, 1665, 74), (198, 1658, 126, 1657, 72), (199, 1662, 126, 1661, 73), (200, 1650, 126, 1649, 70), (201, 1654, 126, 1653, 71), (202, 1709, 126, 1708, 82), (205, 1809, 126, 1808, 96), (206, 1678, 126, 1677, 75), (207, 1728, 126, 1727, 85), (208, 1324, 126, 1323, 47), (209, 1328, 126, 1327, 48), (210, 1685, 126, 1684, 76), (212, 1793, 126, 1792, 95), (213, 1697, 126, 1696, 79), (214, 1693, 126, 1692, 78), (215, 1701, 126, 1700, 80), (216, 1705, 126, 1704, 81), (217, 1689, 126, 1688, 77), (218, 1716, 126, 1715, 83), (219, 1720, 126, 1719, 84), (220, 1736, 126, 1735, 86), (221, 1772, 126, 1771, 90), (222, 1785, 126, 1784, 93), (223, 1817, 126, 1816, 97)]
set_option maxRecDepth 100000 in
theorem mc_i7a : mw_i7.map (fun q => lw_tbl[q.2.1]?) = mw_i7.map (fun q => some (Cond.code (mN q.1) (mB q.1) (mL q.1) (mR q.1))) := rfl
set_option maxRecDepth 100000 in
theorem mc_i7b : mw_i7.map (fun q => lw_tbl[q.2.2.1]?) = mw_i7.map (fun q => some (Cond.initialized (mN q.1).cls)) := rfl
set_option maxRecDepth 100000 in
theorem mc_i7c : mw_i7.map (fun q => lw_tbl[q.2.2.2.1]?) = mw_i7.map (fun q => some (Cond.instanceMethod (mN q.1))) := rfl
set_option maxRecDepth 100000 in
theorem mc_i7d : mw_i7.map (fun q => lw_tbl[q.2.2.2.2]?) = mw_i7.map (fun q => some (Cond.selects (cT (mK q.1 - 1)).1 (mN q.1) (mN q.1))) := rfl
set_option maxRecDepth 100000 in
theorem mc_i7e : ∀ q ∈ mw_i7, ((mN q.1).cls ≠ "java/lang/invoke/MethodHandle" ∧ (mN q.1).cls ≠ "java/lang/invoke/VarHandle") ∧ mL q.1 ≤ 40 ∧ plainName (mN q.1).cls = true ∧ 1 ≤ mK q.1 ∧ mK q.1 ≤ 13 := by decide +kernel
theorem mf_i7 : ∀ q ∈ mw_i7, mF q.1 := by
  intro q h
  obtain ⟨h1, h2, h3, h4, h5⟩ := mc_i7e q h
  refine ⟨gats mc_i7a (fun _ => rfl) q h, gats mc_i7b (fun _ => rfl) q h, h1, h2, h3, fun hc => by omega, fun cn hc => ⟨gats mc_i7c (fun _ => rfl) q h, ?_, by omega⟩⟩
  have h6 := gats mc_i7d (fun _ => rfl) q h
  rw [hc] at h6
  exact h6
def mw_i8 : List (Nat × Nat × Nat × Nat × Nat) := [(224, 1789, 126, 1788, 94), (225, 1781, 126, 1780, 92), (226, 1777, 126, 1776, 91), (227, 1768, 126, 1767, 89), (228, 1764, 126, 1763, 88), (229, 1674, 126, 1672, 1673), (230, 1724, 126, 1722, 1723), (231, 1732, 126, 1730, 1731), (232, 1744, 126, 1743, 87), (233, 1740, 126, 1738, 1739), (234, 1748, 126, 1746, 1747), (235, 1752, 126, 1750, 1751), (236, 1756, 126, 1754, 1755), (237, 1760, 126, 1758, 1759), (238, 1801, 126, 1799, 1800), (239, 1805, 126, 1803, 1804), (240, 1813, 126, 1811, 1812), (241, 1825, 126, 1824, 98), (242, 1821, 126, 1819, 1820), (243, 1829, 126, 1827, 1828), (244, 1840, 126, 1839, 99), (246, 1833, 126, 1831, 1832), (247, 1848, 126, 1847, 100), (248, 1844, 126, 1842, 1843)]
set_option maxRecDepth 100000 in
theorem mc_i8a : mw_i8.map (fun q => lw_tbl[q.2.1]?) = mw_i8.map (fun q => some (Cond.code (mN q.1) (mB q.1) (mL q.1) (mR q.1))) := rfl
set_option maxRecDepth 100000 in
theorem mc_i8b : mw_i8.map (fun q => lw_tbl[q.2.2.1]?) = mw_i8.map (fun q => some (Cond.initialized (mN q.1).cls)) := rfl
set_option maxRecDepth 100000 in
theorem mc_i8c : mw_i8.map (fun q => lw_tbl[q.2.2.2.1]?) = mw_i8.map (fun q => some (Cond.instanceMethod (mN q.1))) := rfl
set_option maxRecDepth 100000 in
theorem mc_i8d : mw_i8.map (fun q => lw_tbl[q.2.2.2.2]?) = mw_i8.map (fun q => some (Cond.selects (cT (mK q.1 - 1)).1 (mN q.1) (mN q.1))) := rfl
set_option maxRecDepth 100000 in
theorem mc_i8e : ∀ q ∈ mw_i8, ((mN q.1).cls ≠ "java/lang/invoke/MethodHandle" ∧ (mN q.1).cls ≠ "java/lang/invoke/VarHandle") ∧ mL q.1 ≤ 40 ∧ plainName (mN q.1).cls = true ∧ 1 ≤ mK q.1 ∧ mK q.1 ≤ 13 := by decide +kernel
theorem mf_i8 : ∀ q ∈ mw_i8, mF q.1 := by
  intro q h
  obtain ⟨h1, h2, h3, h4, h5⟩ := mc_i8e q h
  refine ⟨gats mc_i8a (fun _ => rfl) q h, gats mc_i8b (fun _ => rfl) q h, h1, h2, h3, fun hc => by omega, fun cn hc => ⟨gats mc_i8c (fun _ => rfl) q h, ?_, by omega⟩⟩
  have h6 := gats mc_i8d (fun _ => rfl) q h
  rw [hc] at h6
  exact h6
def mw_i9 : List (Nat × Nat × Nat × Nat × Nat) := [(249, 1852, 126, 1850, 1851), (250, 1856, 126, 1854, 1855), (251, 1864, 126, 1863, 101), (252, 1860, 126, 1858, 1859), (253, 1872, 126, 1871, 102), (254, 1868, 126, 1866, 1867), (256, 1876, 126, 1874, 1875), (257, 1883, 126, 1881, 1882), (258, 1887, 126, 1885, 1886), (259, 1891, 126, 1889, 1890), (260, 1895, 126, 1893, 1894), (261, 1899, 126, 1897, 1898), (262, 1903, 126, 1901, 1902), (263, 1919, 126, 1918, 105), (264, 1915, 126, 1914, 104), (265, 1911, 126, 1910, 103), (267, 1907, 126, 1905, 1906), (268, 1930, 126, 1929, 106), (269, 1926, 126, 1924, 1925), (270, 1934, 126, 1932, 1933), (271, 1938, 126, 1936, 1937), (272, 1942, 126, 1940, 1941)]
set_option maxRecDepth 100000 in
theorem mc_i9a : mw_i9.map (fun q => lw_tbl[q.2.1]?) = mw_i9.map (fun q => some (Cond.code (mN q.1) (mB q.1) (mL q.1) (mR q.1))) := rfl
set_option maxRecDepth 100000 in
theorem mc_i9b : mw_i9.map (fun q => lw_tbl[q.2.2.1]?) = mw_i9.map (fun q => some (Cond.initialized (mN q.1).cls)) := rfl
set_option maxRecDepth 100000 in
theorem mc_i9c : mw_i9.map (fun q => lw_tbl[q.2.2.2.1]?) = mw_i9.map (fun q => some (Cond.instanceMethod (mN q.1))) := rfl
set_option maxRecDepth 100000 in
theorem mc_i9d : mw_i9.map (fun q => lw_tbl[q.2.2.2.2]?) = mw_i9.map (fun q => some (Cond.selects (cT (mK q.1 - 1)).1 (mN q.1) (mN q.1))) := rfl
set_option maxRecDepth 100000 in
theorem mc_i9e : ∀ q ∈ mw_i9, ((mN q.1).cls ≠ "java/lang/invoke/MethodHandle" ∧ (mN q.1).cls ≠ "java/lang/invoke/VarHandle") ∧ mL q.1 ≤ 40 ∧ plainName (mN q.1).cls = true ∧ 1 ≤ mK q.1 ∧ mK q.1 ≤ 13 := by decide +kernel
theorem mf_i9 : ∀ q ∈ mw_i9, mF q.1 := by
  intro q h
  obtain ⟨h1, h2, h3, h4, h5⟩ := mc_i9e q h
  refine ⟨gats mc_i9a (fun _ => rfl) q h, gats mc_i9b (fun _ => rfl) q h, h1, h2, h3, fun hc => by omega, fun cn hc => ⟨gats mc_i9c (fun _ => rfl) q h, ?_, by omega⟩⟩
  have h6 := gats mc_i9d (fun _ => rfl) q h
  rw [hc] at h6
  exact h6
def mws : List Nat := mw_s0.map (fun q => q.1) ++ mw_i0.map (fun q => q.1) ++ mw_i1.map (fun q => q.1) ++ mw_i2.map (fun q => q.1) ++ mw_i3.map (fun q => q.1) ++ mw_i4.map (fun q => q.1) ++ mw_i5.map (fun q => q.1) ++ mw_i6.map (fun q => q.1) ++ mw_i7.map (fun q => q.1) ++ mw_i8.map (fun q => q.1) ++ mw_i9.map (fun q => q.1)
theorem mF_all {y : Nat} (h : y ∈ mws) : mF y := by
  unfold mws at h
  simp only [List.mem_append] at h
  rcases h with (((((((((h | h) | h) | h) | h) | h) | h) | h) | h) | h) | h
  · obtain ⟨q, hq, rfl⟩ := List.mem_map.mp h
    exact mf_s0 q hq
  · obtain ⟨q, hq, rfl⟩ := List.mem_map.mp h
    exact mf_i0 q hq
  · obtain ⟨q, hq, rfl⟩ := List.mem_map.mp h
    exact mf_i1 q hq
  · obtain ⟨q, hq, rfl⟩ := List.mem_map.mp h
    exact mf_i2 q hq
  · obtain ⟨q, hq, rfl⟩ := List.mem_map.mp h
    exact mf_i3 q hq
  · obtain ⟨q, hq, rfl⟩ := List.mem_map.mp h
    exact mf_i4 q hq
  · obtain ⟨q, hq, rfl⟩ := List.mem_map.mp h
    exact mf_i5 q hq
  · obtain ⟨q, hq, rfl⟩ := List.mem_map.mp h
    exact mf_i6 q hq
  · obtain ⟨q, hq, rfl⟩ := List.mem_map.mp h
    exact mf_i7 q hq
  · obtain ⟨q, hq, rfl⟩ := List.mem_map.mp h
    exact mf_i8 q hq
  · obtain ⟨q, hq, rfl⟩ := List.mem_map.mp h
    exact mf_i9 q hq
end
section
/-! ===== what the constant pools name ===== -/
def isNst : Cond → Bool
  | .fieldLinkNest .. => true
  | .methodLinkNest .. => true
  | _ => false
/-- the words of nest mates: they aren't taken along by themselves, a contract's start holds them -/
def nws : List Cond := lw_tbl.filter isNst
theorem nats {β : Type} {l : List β} {f : β → Nat} {g : β → Cond} (h : l.map (fun q => lw_tbl[f q]?) = l.map (fun q => some (g q))) (hg : ∀ q, isNst (g q) = true) : ∀ q ∈ l, g q ∈ nws := fun q hq => List.mem_filter.mpr ⟨List.mem_of_getElem? (List.map_inj_left.mp h q hq), hg q⟩
theorem nws_warm {s U : State} (hW : s.WarmedH U.vm) (h : ∀ w ∈ nws, va_Nw w s) : ∀ w ∈ nws, va_Nw w U := by
  intro w hw
  have h1 := (List.mem_filter.mp hw).2
  have h2 := h w hw
  cases w <;> first | exact va_Nw.warmF hW h2 | exact va_Nw.warmM hW h2 | cases h1
theorem nws_same {u U : State} (hv : u.vm = U.vm) (h : ∀ w ∈ nws, va_Nw w u) : ∀ w ∈ nws, va_Nw w U := by
  intro w hw
  have h1 := (List.mem_filter.mp hw).2
  have h2 := h w hw
  cases w <;> first | exact va_Nw.same rfl hv h2 | cases h1
def oNs : List String := ["SewnRoads$Laws", "SewnRoads$Net", "SewnRoads$Past", "SewnRoads$Plan", "SewnRoads$Reader", "SewnRoads$Rules", "SewnRoads$Search", "SewnRoads$Season", "SewnRoads$State", "SewnRoads$Tape", "SewnRoads$Tokens", "SewnRoads", "SewnRoadsModel", "SewnRoadsLaw", "java/util/Arrays", "java/lang/Integer"]
def oN (o : Nat) : String := oNs.getD o ""
def fl_t : List (List (Nat × Nat × Nat × Nat)) := [[(11, 0, 0, 184), (15, 0, 1, 185), (18, 0, 2, 186), (21, 0, 3, 187)],
  [(9, 1, 1, 490), (15, 1, 0, 489), (19, 3, 1, 210), (29, 3, 10, 245), (46, 3, 8, 237), (49, 3, 9, 241), (63, 3, 0, 206)],
  [(11, 2, 0, 454), (17, 2, 1, 455), (21, 2, 2, 456)],
  [(9, 3, 8, 236), (15, 3, 9, 240), (18, 3, 10, 244), (21, 3, 11, 247), (24, 3, 12, 250), (27, 3, 13, 252), (30, 3, 14, 254), (33, 3, 15, 257), (36, 3, 16, 260), (42, 3, 17, 263), (49, 3, 0, 203), (53, 3, 1, 208), (56, 3, 2, 216), (59, 3, 3, 219), (62, 3, 4, 224), (65, 3, 5, 228), (68, 3, 6, 230), (71, 3, 7, 233)],
  [(12, 4, 0, 380), (18, 4, 1, 382), (25, 4, 2, 384), (29, 4, 3, 385), (33, 4, 4, 386), (37, 4, 5, 387), (40, 4, 6, 388), (43, 4, 7, 389), (46, 4, 8, 390), (49, 4, 9, 391), (52, 4, 10, 392), (87, 3, 5, 229), (90, 3, 6, 231), (93, 3, 7, 234), (99, 3, 0, 204), (113, 3, 1, 212), (134, 3, 2, 217), (137, 3, 4, 225), (140, 3, 3, 221), (151, 3, 17, 265)],
  [(9, 5, 1, 472), (15, 5, 2, 473), (18, 5, 0, 471), (26, 3, 17, 264), (42, 3, 11, 248), (51, 8, 2, 433), (56, 8, 0, 426), (64, 8, 1, 429), (67, 3, 1, 214), (74, 3, 13, 253)],
  [(9, 6, 2, 534), (15, 6, 3, 535), (18, 6, 4, 536), (21, 6, 5, 537), (24, 6, 6, 538), (28, 6, 0, 532), (32, 6, 1, 533), (36, 3, 1, 211), (45, 3, 0, 205), (62, 1, 1, 491)],
  [(9, 7, 3, 508), (15, 7, 4, 509), (18, 7, 5, 511), (21, 7, 0, 505), (25, 7, 1, 506), (29, 7, 2, 507), (33, 3, 1, 209), (39, 8, 2, 432), (44, 8, 0, 425), (71, 3, 6, 232), (109, 3, 3, 222), (122, 3, 15, 259), (136, 3, 16, 262), (149, 3, 10, 246), (156, 1, 1, 492), (159, 3, 8, 239), (162, 3, 9, 243)],
  [(9, 8, 2, 431), (15, 8, 3, 435), (18, 8, 0, 424), (22, 3, 5, 227), (27, 8, 1, 428), (28, 3, 12, 251), (41, 3, 3, 220), (43, 3, 14, 255), (54, 3, 1, 213)],
  [(9, 9, 0, 144), (15, 9, 1, 145)],
  [(9, 10, 0, 362), (15, 10, 1, 364), (18, 10, 2, 365), (22, 10, 3, 366), (25, 10, 4, 367), (83, 9, 1, 147)],
  [(10, 11, 0, 569), (19, 11, 1, 570), (26, 11, 2, 571), (33, 11, 3, 572), (37, 11, 4, 573), (43, 11, 5, 574), (47, 11, 6, 575), (51, 11, 7, 576), (60, 11, 8, 577), (67, 11, 9, 578), (76, 11, 10, 579), (85, 11, 11, 580), (89, 11, 12, 581), (104, 9, 1, 146), (111, 4, 1, 383), (112, 4, 0, 381), (128, 8, 2, 434), (132, 3, 8, 238), (135, 3, 9, 242), (138, 3, 11, 249), (140, 8, 0, 427), (157, 3, 14, 256), (160, 3, 15, 258), (163, 3, 16, 261), (186, 8, 1, 430), (201, 3, 7, 235), (222, 7, 4, 510), (232, 1, 1, 493), (253, 3, 0, 207), (260, 5, 2, 474), (280, 7, 5, 512), (286, 3, 1, 215), (289, 3, 4, 226), (314, 6, 6, 539), (330, 3, 2, 218), (333, 3, 3, 223), (339, 2, 2, 457)],
  [(13, 12, 1, 1329), (17, 12, 3, 1331), (20, 12, 5, 1333), (24, 12, 6, 1334), (27, 12, 7, 1335), (30, 12, 8, 1336), (34, 12, 9, 1337), (37, 12, 17, 1345), (40, 12, 21, 1349), (43, 12, 22, 1350), (46, 12, 23, 1351), (49, 12, 24, 1352), (52, 12, 25, 1353), (55, 12, 26, 1354), (58, 12, 27, 1355), (61, 12, 28, 1356), (64, 12, 29, 1357), (67, 12, 30, 1358), (70, 12, 31, 1359), (73, 12, 32, 1360), (76, 12, 33, 1361), (79, 12, 34, 1362), (82, 12, 35, 1363), (85, 12, 36, 1364), (88, 12, 37, 1365), (91, 12, 38, 1366), (94, 12, 39, 1367), (97, 12, 41, 1369), (101, 12, 42, 1370), (104, 12, 43, 1371), (107, 12, 44, 1372), (110, 12, 45, 1373), (113, 12, 47, 1375), (116, 12, 48, 1376), (119, 12, 49, 1377), (122, 12, 51, 1379), (125, 12, 52, 1380), (128, 12, 54, 1382), (131, 12, 55, 1383), (134, 12, 58, 1386), (137, 12, 59, 1387), (140, 12, 60, 1388), (143, 12, 61, 1389), (146, 12, 63, 1391), (149, 12, 64, 1392), (152, 12, 66, 1394), (155, 12, 67, 1395), (158, 12, 68, 1396), (161, 12, 69, 1397), (164, 12, 70, 1398), (167, 12, 71, 1399), (184, 12, 2, 1330), (190, 12, 4, 1332), (199, 12, 10, 1338), (221, 12, 13, 1341), (224, 12, 11, 1339), (227, 12, 14, 1342), (230, 12, 15, 1343), (233, 12, 16, 1344), (248, 12, 12, 1340), (251, 12, 18, 1346), (254, 12, 19, 1347), (257, 12, 20, 1348), (260, 12, 40, 1368), (263, 12, 46, 1374), (269, 12, 62, 1390), (272, 12, 65, 1393), (321, 12, 50, 1378), (334, 12, 53, 1381), (342, 12, 56, 1384), (345, 12, 57, 1385)],
  [],
  [],
  []]
def fn_t : List (List (Nat × Nat × Nat × Nat)) := [[],
  [],
  [],
  [],
  [(184, 10, 0, 363)],
  [],
  [],
  [],
  [],
  [],
  [],
  [],
  [],
  [],
  [],
  []]
def ml_t : List (List (Nat × Nat × Nat × Nat × Nat)) := [[(25, 1, 0, 24, 172), (28, 9, 3, 31, 176), (48, 8, 3, 0, 900), (52, 5, 2, 28, 180)],
  [(32, 11, 2, 32, 1090), (36, 12, 2, 33, 1103), (40, 300, 2, 23, 1011), (52, 22, 3, 43, 1013), (56, 21, 2, 42, 1137), (60, 13, 3, 34, 1099), (66, 20, 2, 41, 1169), (74, 276, 1, 22, 1173), (80, 15, 1, 36, 1017)],
  [(25, 91, 1, 101, 950)],
  [(46, 28, 0, 47, 198), (74, 1, 0, 24, 202), (81, 2, 1, 25, 851), (85, 33, 0, 52, 856)],
  [(55, 28, 0, 47, 633), (58, 108, 1, 116, 634), (62, 105, 1, 113, 740), (66, 36, 0, 54, 741), (69, 106, 1, 114, 773), (72, 37, 0, 55, 745), (75, 38, 0, 56, 777), (78, 39, 0, 57, 800), (81, 40, 0, 58, 804), (84, 41, 1, 59, 812), (96, 42, 0, 60, 816), (102, 46, 1, 64, 749), (106, 47, 1, 65, 753), (109, 49, 2, 67, 757), (116, 51, 1, 69, 781), (119, 32, 2, 51, 785), (123, 48, 2, 66, 769), (126, 52, 3, 70, 789), (130, 30, 4, 49, 796), (143, 31, 3, 50, 808), (155, 3, 0, 26, 820), (161, 43, 1, 61, 824), (165, 5, 2, 28, 836), (168, 6, 1, 29, 837), (171, 4, 2, 27, 841), (174, 44, 1, 62, 828), (177, 45, 1, 63, 832), (180, 107, 1, 115, 765), (186, 50, 1, 68, 761)],
  [(22, 61, 3, 78, 891), (32, 7, 2, 30, 895), (38, 62, 1, 1, 903), (60, 54, 3, 71, 945), (70, 59, 3, 76, 1120)],
  [(48, 14, 3, 35, 1251), (54, 72, 3, 2, 1252), (58, 15, 1, 36, 1255), (65, 69, 2, 84, 1260), (68, 70, 3, 85, 1273), (71, 71, 4, 86, 1277)],
  [(47, 56, 3, 73, 999), (53, 300, 2, 23, 981), (59, 82, 1, 95, 982), (63, 77, 2, 90, 1036), (67, 86, 2, 99, 1047), (74, 87, 2, 3, 1040), (78, 81, 3, 94, 1149), (81, 78, 1, 91, 1197), (84, 16, 3, 37, 1198), (95, 55, 5, 72, 1051), (99, 97, 1, 107, 986), (103, 96, 1, 106, 991), (106, 74, 1, 87, 995), (115, 83, 3, 96, 1001), (119, 92, 2, 102, 1005), (125, 14, 3, 35, 1006), (129, 84, 2, 97, 1021), (132, 94, 3, 104, 1030), (139, 57, 4, 74, 1034), (143, 85, 2, 98, 1025), (146, 93, 3, 103, 1035), (152, 15, 1, 36, 1029), (168, 88, 2, 4, 1043)],
  [(35, 300, 2, 23, 562), (46, 93, 3, 103, 565), (50, 92, 2, 102, 971), (57, 95, 1, 105, 990)],
  [],
  [(41, 115, 2, 6, 358), (45, 114, 2, 5, 638), (49, 109, 2, 117, 648), (52, 105, 1, 113, 736), (56, 103, 1, 112, 641), (61, 117, 1, 8, 652), (65, 110, 2, 118, 655), (68, 118, 1, 9, 667), (71, 111, 2, 119, 670), (74, 113, 3, 121, 663), (85, 112, 1, 120, 659), (93, 116, 1, 7, 645)],
  [(93, 90, 1, 100, 555), (96, 101, 1, 110, 613), (100, 102, 1, 111, 617), (107, 35, 1, 53, 629), (115, 29, 1, 48, 846), (118, 24, 0, 44, 863), (121, 64, 0, 79, 867), (122, 155, 0, 157, 871), (125, 162, 1, 164, 883), (143, 54, 3, 71, 887), (147, 55, 5, 72, 908), (151, 56, 3, 73, 912), (154, 163, 1, 165, 920), (166, 164, 3, 10, 924), (170, 92, 2, 102, 925), (174, 57, 4, 74, 933), (178, 58, 2, 75, 941), (182, 25, 1, 45, 946), (194, 95, 1, 105, 967), (197, 93, 3, 103, 972), (204, 75, 3, 88, 977), (208, 26, 1, 46, 1057), (212, 160, 1, 162, 1065), (215, 74, 1, 87, 1069), (218, 96, 1, 106, 1070), (225, 14, 3, 35, 1071), (229, 15, 1, 36, 1072), (235, 165, 2, 11, 1077), (239, 11, 2, 32, 1078), (242, 12, 2, 33, 1086), (245, 18, 1, 39, 1095), (249, 59, 3, 76, 1108), (256, 60, 2, 77, 1116), (263, 17, 2, 38, 1121), (267, 161, 2, 163, 1129), (270, 16, 3, 37, 1133), (274, 78, 1, 91, 1145), (277, 79, 1, 92, 1153), (283, 19, 1, 40, 1165), (292, 99, 2, 109, 1184), (296, 80, 4, 93, 1193), (300, 157, 1, 159, 1204), (303, 76, 0, 89, 1217), (307, 158, 4, 160, 1221), (311, 65, 3, 80, 1230), (317, 159, 1, 161, 1242), (320, 276, 1, 22, 1264), (325, 68, 1, 83, 1269), (328, 91, 1, 101, 1208), (336, 97, 1, 107, 1294), (342, 156, 0, 158, 1295), (346, 77, 2, 90, 1299), (349, 98, 1, 108, 1300), (352, 13, 3, 34, 1225), (355, 66, 2, 81, 1246), (359, 67, 2, 82, 1256)],
  [(170, 183, 1, 178, 1310), (174, 174, 7, 15, 1314), (178, 208, 0, 201, 1321), (181, 209, 0, 202, 1325), (187, 168, 1, 167, 1549), (195, 173, 2, 14, 1317), (202, 170, 1, 169, 1565), (206, 175, 4, 170, 1569), (210, 172, 1, 13, 1573), (214, 171, 1, 12, 1576), (217, 177, 3, 172, 1579), (236, 179, 1, 174, 1595), (239, 178, 1, 173, 1583), (242, 181, 0, 176, 1599), (245, 176, 0, 171, 1561), (266, 188, 0, 183, 1587), (275, 192, 2, 187, 1631), (279, 182, 1, 177, 1607), (282, 186, 2, 181, 1591), (286, 189, 0, 184, 1603), (290, 190, 2, 185, 1615), (293, 194, 0, 189, 1619), (296, 195, 0, 190, 1635), (299, 187, 2, 182, 1639), (302, 196, 1, 191, 1643), (305, 180, 2, 175, 1611), (308, 191, 0, 186, 1623), (311, 193, 2, 188, 1627), (315, 200, 0, 195, 1647), (318, 197, 0, 192, 1663), (324, 198, 2, 193, 1655), (327, 201, 0, 196, 1651), (330, 199, 1, 194, 1659), (338, 203, 3, 16, 1679), (349, 211, 2, 18, 1794), (352, 213, 1, 205, 1694), (355, 216, 1, 208, 1702), (358, 204, 3, 17, 1710), (361, 202, 2, 197, 1706), (364, 214, 1, 206, 1690), (367, 215, 2, 207, 1698), (370, 219, 1, 211, 1717), (374, 222, 1, 214, 1782), (377, 224, 2, 216, 1786), (380, 225, 1, 217, 1778), (383, 220, 2, 212, 1733), (386, 221, 0, 213, 1769), (389, 226, 1, 218, 1774), (392, 212, 0, 204, 1790), (396, 218, 3, 210, 1713), (400, 227, 0, 219, 1765), (403, 206, 1, 199, 1675), (406, 210, 0, 203, 1682), (409, 217, 1, 209, 1686), (412, 207, 1, 200, 1725), (415, 232, 0, 224, 1741), (418, 228, 1, 220, 1761), (421, 205, 1, 198, 1806), (424, 223, 2, 215, 1814), (427, 241, 1, 233, 1822), (430, 245, 1, 19, 1834), (433, 244, 2, 236, 1837), (436, 247, 2, 238, 1845), (439, 251, 2, 242, 1861), (442, 253, 1, 244, 1869), (445, 255, 1, 20, 1877), (448, 264, 1, 254, 1912), (451, 263, 2, 253, 1916), (454, 265, 1, 255, 1908), (457, 266, 1, 21, 1920), (460, 268, 3, 257, 1927)],
  [(13, 120, 5, 122, 609), (17, 167, 5, 166, 1545), (18, 121, 1, 123, 621), (22, 169, 1, 168, 1553), (23, 122, 0, 124, 625), (27, 184, 0, 179, 1557), (28, 123, 0, 125, 875), (31, 185, 0, 180, 1667), (32, 124, 2, 126, 879), (36, 229, 2, 221, 1671), (37, 125, 2, 127, 916), (40, 230, 2, 222, 1721), (41, 126, 2, 128, 929), (44, 231, 2, 223, 1729), (45, 127, 2, 129, 937), (48, 233, 2, 225, 1737), (49, 128, 1, 130, 954), (52, 234, 1, 226, 1745), (53, 129, 2, 131, 958), (56, 235, 2, 227, 1749), (57, 130, 1, 132, 963), (61, 236, 1, 228, 1753), (62, 131, 1, 133, 973), (65, 237, 1, 229, 1757), (66, 132, 0, 134, 1053), (70, 238, 0, 230, 1798), (71, 133, 2, 135, 1061), (74, 239, 2, 231, 1802), (75, 134, 2, 136, 1073), (78, 240, 2, 232, 1810), (79, 135, 1, 137, 1082), (82, 242, 1, 234, 1818), (83, 136, 0, 138, 1091), (86, 243, 0, 235, 1826), (87, 137, 2, 139, 1104), (90, 246, 2, 237, 1830), (91, 138, 3, 140, 1112), (95, 248, 3, 239, 1841), (96, 139, 2, 141, 1125), (99, 249, 2, 240, 1849), (100, 140, 2, 142, 1141), (103, 250, 2, 241, 1853), (104, 141, 2, 143, 1157), (107, 252, 2, 243, 1857), (108, 142, 0, 144, 1161), (111, 254, 0, 245, 1865), (112, 143, 1, 145, 1180), (115, 256, 1, 246, 1873), (116, 144, 3, 146, 1189), (119, 257, 3, 247, 1880), (120, 145, 2, 147, 1200), (123, 258, 2, 248, 1884), (124, 146, 3, 148, 1209), (127, 259, 3, 249, 1888), (128, 147, 4, 149, 1213), (132, 260, 4, 250, 1892), (133, 148, 3, 150, 1226), (136, 261, 3, 251, 1896), (137, 149, 0, 151, 1234), (140, 262, 0, 252, 1900), (141, 150, 2, 152, 1238), (144, 267, 2, 256, 1904), (145, 151, 1, 153, 1265), (148, 269, 1, 258, 1923), (149, 152, 1, 154, 1282), (152, 270, 1, 259, 1931), (153, 153, 1, 155, 1286), (156, 271, 1, 260, 1935), (157, 154, 1, 156, 1290), (160, 272, 1, 261, 1939)],
  [],
  []]
def mn_t : List (List (Nat × Nat × Nat × Nat × Nat)) := [[(38, 164, 3, 10, 845)],
  [(25, 165, 2, 11, 1012)],
  [],
  [(88, 165, 2, 11, 860)],
  [(147, 164, 3, 10, 793)],
  [],
  [(41, 165, 2, 11, 1250)],
  [(112, 165, 2, 11, 1000)],
  [],
  [],
  [],
  [],
  [],
  [],
  [],
  []]
def flk (o : Nat) : List (Nat × Nat × Nat × Nat) := fl_t.getD o []
def fnk (o : Nat) : List (Nat × Nat × Nat × Nat) := fn_t.getD o []
def mlk (o : Nat) : List (Nat × Nat × Nat × Nat × Nat) := ml_t.getD o []
def mnk (o : Nat) : List (Nat × Nat × Nat × Nat × Nat) := mn_t.getD o []
def fW (o idx a b : Nat) : Cond := Cond.fieldLink (oN o) idx ((cT a).2.1 b).1 ((cT a).2.1 b).2.1 ((cT a).2.1 b).2.2.1
def fV (o idx a b : Nat) : Cond := Cond.fieldLinkNest (oN o) idx ((cT a).2.1 b).1 ((cT a).2.1 b).2.1 ((cT a).2.1 b).2.2.1 "SewnRoads"
def mW (o idx y : Nat) : Cond := Cond.methodLink (oN o) idx (mN y)
def mV (o idx y : Nat) : Cond := Cond.methodLinkNest (oN o) idx (mN y) "SewnRoads"
def mP (y n : Nat) : Prop := (parseMethodDescriptor (mN y).desc).map (fun d => d.parameters.length) = some n
theorem mws_at {y i : Nat} (h : mws[i]? = some y) : mF y := mF_all (List.mem_of_getElem? h)
set_option maxRecDepth 100000 in
theorem fl_0_0 : (((flk 0).drop 0).take 30).map (fun q => lw_tbl[q.2.2.2]?) = (((flk 0).drop 0).take 30).map (fun q => some (fW 0 q.1 q.2.1 q.2.2.1)) := rfl
set_option maxRecDepth 100000 in
theorem flb_0 : ∀ q ∈ flk 0, q.2.1 < 13 ∧ q.2.2.1 < (cT q.2.1).2.2 := by decide +kernel
set_option maxRecDepth 100000 in
theorem fn_0_0 : (((fnk 0).drop 0).take 30).map (fun q => lw_tbl[q.2.2.2]?) = (((fnk 0).drop 0).take 30).map (fun q => some (fV 0 q.1 q.2.1 q.2.2.1)) := rfl
set_option maxRecDepth 100000 in
theorem fnb_0 : ∀ q ∈ fnk 0, q.2.1 < 13 ∧ q.2.2.1 < (cT q.2.1).2.2 := by decide +kernel
set_option maxRecDepth 100000 in
theorem ml_0_0 : (((mlk 0).drop 0).take 30).map (fun q => lw_tbl[q.2.2.2.2]?) = (((mlk 0).drop 0).take 30).map (fun q => some (mW 0 q.1 q.2.1)) := rfl
set_option maxRecDepth 100000 in
theorem mlc_0_0 : (((mlk 0).drop 0).take 30).map (fun q => mws[q.2.2.2.1]?) = (((mlk 0).drop 0).take 30).map (fun q => some q.2.1) := rfl
set_option maxRecDepth 100000 in
theorem mlb_0 : ∀ q ∈ mlk 0, (parseMethodDescriptor (mN q.2.1).desc).map (fun d => d.parameters.length) = some q.2.2.1 := by decide +kernel
set_option maxRecDepth 100000 in
theorem mn_0_0 : (((mnk 0).drop 0).take 30).map (fun q => lw_tbl[q.2.2.2.2]?) = (((mnk 0).drop 0).take 30).map (fun q => some (mV 0 q.1 q.2.1)) := rfl
set_option maxRecDepth 100000 in
theorem mnc_0_0 : (((mnk 0).drop 0).take 30).map (fun q => mws[q.2.2.2.1]?) = (((mnk 0).drop 0).take 30).map (fun q => some q.2.1) := rfl
set_option maxRecDepth 100000 in
theorem mnb_0 : ∀ q ∈ mnk 0, (parseMethodDescriptor (mN q.2.1).desc).map (fun d => d.parameters.length) = some q.2.2.1 := by decide +kernel
set_option maxRecDepth 100000 in
theorem fl_1_0 : (((flk 1).drop 0).take 30).map (fun q => lw_tbl[q.2.2.2]?) = (((flk 1).drop 0).take 30).map (fun q => some (fW 1 q.1 q.2.1 q.2.2.1)) := rfl
set_option maxRecDepth 100000 in
theorem flb_1 : ∀ q ∈ flk 1, q.2.1 < 13 ∧ q.2.2.1 < (cT q.2.1).2.2 := by decide +kernel
set_option maxRecDepth 100000 in
theorem fn_1_0 : (((fnk 1).drop 0).take 30).map (fun q => lw_tbl[q.2.2.2]?) = (((fnk 1).drop 0).take 30).map (fun q => some (fV 1 q.1 q.2.1 q.2.2.1)) := rfl
set_option maxRecDepth 100000 in
theorem fnb_1 : ∀ q ∈ fnk 1, q.2.1 < 13 ∧ q.2.2.1 < (cT q.2.1).2.2 := by decide +kernel
set_option maxRecDepth 100000 in
theorem ml_1_0 : (((mlk 1).drop 0).take 30).map (fun q => lw_tbl[q.2.2.2.2]?) = (((mlk 1).drop 0).take 30).map (fun q => some (mW 1 q.1 q.2.1)) := rfl
set_option maxRecDepth 100000 in
theorem mlc_1_0 : (((mlk 1).drop 0).take 30).map (fun q => mws[q.2.2.2.1]?) = (((mlk 1).drop 0).take 30).map (fun q => some q.2.1) := rfl
set_option maxRecDepth 100000 in
theorem mlb_1 : ∀ q ∈ mlk 1, (parseMethodDescriptor (mN q.2.1).desc).map (fun d => d.parameters.length) = some q.2.2.1 := by decide +kernel
set_option maxRecDepth 100000 in
theorem mn_1_0 : (((mnk 1).drop 0).take 30).map (fun q => lw_tbl[q.2.2.2.2]?) = (((mnk 1).drop 0).take 30).map (fun q => some (mV 1 q.1 q.2.1)) := rfl
set_option maxRecDepth 100000 in
theorem mnc_1_0 : (((mnk 1).drop 0).take 30).map (fun q => mws[q.2.2.2.1]?) = (((mnk 1).drop 0).take 30).map (fun q => some q.2.1) := rfl
set_option maxRecDepth 100000 in
theorem mnb_1 : ∀ q ∈ mnk 1, (parseMethodDescriptor (mN q.2.1).desc).map (fun d => d.parameters.length) = some q.2.2.1 := by decide +kernel
set_option maxRecDepth 100000 in
theorem fl_2_0 : (((flk 2).drop 0).take 30).map (fun q => lw_tbl[q.2.2.2]?) = (((flk 2).drop 0).take 30).map (fun q => some (fW 2 q.1 q.2.1 q.2.2.1)) := rfl
set_option maxRecDepth 100000 in
theorem flb_2 : ∀ q ∈ flk 2, q.2.1 < 13 ∧ q.2.2.1 < (cT q.2.1).2.2 := by decide +kernel
set_option maxRecDepth 100000 in
theorem fn_2_0 : (((fnk 2).drop 0).take 30).map (fun q => lw_tbl[q.2.2.2]?) = (((fnk 2).drop 0).take 30).map (fun q => some (fV 2 q.1 q.2.1 q.2.2.1)) := rfl
set_option maxRecDepth 100000 in
theorem fnb_2 : ∀ q ∈ fnk 2, q.2.1 < 13 ∧ q.2.2.1 < (cT q.2.1).2.2 := by decide +kernel
set_option maxRecDepth 100000 in
theorem ml_2_0 : (((mlk 2).drop 0).take 30).map (fun q => lw_tbl[q.2.2.2.2]?) = (((mlk 2).drop 0).take 30).map (fun q => some (mW 2 q.1 q.2.1)) := rfl
set_option maxRecDepth 100000 in
theorem mlc_2_0 : (((mlk 2).drop 0).take 30).map (fun q => mws[q.2.2.2.1]?) = (((mlk 2).drop 0).take 30).map (fun q => some q.2.1) := rfl
set_option maxRecDepth 100000 in
theorem mlb_2 : ∀ q ∈ mlk 2, (parseMethodDescriptor (mN q.2.1).desc).map (fun d => d.parameters.length) = some q.2.2.1 := by decide +kernel
set_option maxRecDepth 100000 in
theorem mn_2_0 : (((mnk 2).drop 0).take 30).map (fun q => lw_tbl[q.2.2.2.2]?) = (((mnk 2).drop 0).take 30).map (fun q => some (mV 2 q.1 q.2.1)) := rfl
set_option maxRecDepth 100000 in
theorem mnc_2_0 : (((mnk 2).drop 0).take 30).map (fun q => mws[q.2.2.2.1]?) = (((mnk 2).drop 0).take 30).map (fun q => some q.2.1) := rfl
set_option maxRecDepth 100000 in
theorem mnb_2 : ∀ q ∈ mnk 2, (parseMethodDescriptor (mN q.2.1).desc).map (fun d => d.parameters.length) = some q.2.2.1 := by decide +kernel
set_option maxRecDepth 100000 in
theorem fl_3_0 : (((flk 3).drop 0).take 30).map (fun q => lw_tbl[q.2.2.2]?) = (((flk 3).drop 0).take 30).map (fun q => some (fW 3 q.1 q.2.1 q.2.2.1)) := rfl
set_option maxRecDepth 100000 in
theorem flb_3 : ∀ q ∈ flk 3, q.2.1 < 13 ∧ q.2.2.1 < (cT q.2.1).2.2 := by decide +kernel
set_option maxRecDepth 100000 in
theorem fn_3_0 : (((fnk 3).drop 0).take 30).map (fun q => lw_tbl[q.2.2.2]?) = (((fnk 3).drop 0).take 30).map (fun q => some (fV 3 q.1 q.2.1 q.2.2.1)) := rfl
set_option maxRecDepth 100000 in
theorem fnb_3 : ∀ q ∈ fnk 3, q.2.1 < 13 ∧ q.2.2.1 < (cT q.2.1).2.2 := by decide +kernel
set_option maxRecDepth 100000 in
theorem ml_3_0 : (((mlk 3).drop 0).take 30).map (fun q => lw_tbl[q.2.2.2.2]?) = (((mlk 3).drop 0).take 30).map (fun q => some (mW 3 q.1 q.2.1)) := rfl
set_option maxRecDepth 100000 in
theorem mlc_3_0 : (((mlk 3).drop 0).take 30).map (fun q => mws[q.2.2.2.1]?) = (((mlk 3).drop 0).take 30).map (fun q => some q.2.1) := rfl
set_option maxRecDepth 100000 in
theorem mlb_3 : ∀ q ∈ mlk 3, (parseMethodDescriptor (mN q.2.1).desc).map (fun d => d.parameters.length) = some q.2.2.1 := by decide +kernel
set_option maxRecDepth 100000 in
theorem mn_3_0 : (((mnk 3).drop 0).take 30).map (fun q => lw_tbl[q.2.2.2.2]?) = (((mnk 3).drop 0).take 30).map (fun q => some (mV 3 q.1 q.2.1)) := rfl
set_option maxRecDepth 100000 in
theorem mnc_3_0 : (((mnk 3).drop 0).take 30).map (fun q => mws[q.2.2.2.1]?) = (((mnk 3).drop 0).take 30).map (fun q => some q.2.1) := rfl
set_option maxRecDepth 100000 in
theorem mnb_3 : ∀ q ∈ mnk 3, (parseMethodDescriptor (mN q.2.1).desc).map (fun d => d.parameters.length) = some q.2.2.1 := by decide +kernel
set_option maxRecDepth 100000 in
theorem fl_4_0 : (((flk 4).drop 0).take 30).map (fun q => lw_tbl[q.2.2.2]?) = (((flk 4).drop 0).take 30).map (fun q => some (fW 4 q.1 q.2.1 q.2.2.1)) := rfl
set_option maxRecDepth 100000 in
theorem flb_4 : ∀ q ∈ flk 4, q.2.1 < 13 ∧ q.2.2.1 < (cT q.2.1).2.2 := by decide +kernel
set_option maxRecDepth 100000 in
theorem fn_4_0 : (((fnk 4).drop 0).take 30).map (fun q => lw_tbl[q.2.2.2]?) = (((fnk 4).drop 0).take 30).map (fun q => some (fV 4 q.1 q.2.1 q.2.2.1)) := rfl
set_option maxRecDepth 100000 in
theorem fnb_4 : ∀ q ∈ fnk 4, q.2.1 < 13 ∧ q.2.2.1 < (cT q.2.1).2.2 := by decide +kernel
set_option maxRecDepth 100000 in
theorem ml_4_0 : (((mlk 4).drop 0).take 30).map (fun q => lw_tbl[q.2.2.2.2]?) = (((mlk 4).drop 0).take 30).map (fun q => some (mW 4 q.1 q.2.1)) := rfl
set_option maxRecDepth 100000 in
theorem mlc_4_0 : (((mlk 4).drop 0).take 30).map (fun q => mws[q.2.2.2.1]?) = (((mlk 4).drop 0).take 30).map (fun q => some q.2.1) := rfl
set_option maxRecDepth 100000 in
theorem mlb_4 : ∀ q ∈ mlk 4, (parseMethodDescriptor (mN q.2.1).desc).map (fun d => d.parameters.length) = some q.2.2.1 := by decide +kernel
set_option maxRecDepth 100000 in
theorem mn_4_0 : (((mnk 4).drop 0).take 30).map (fun q => lw_tbl[q.2.2.2.2]?) = (((mnk 4).drop 0).take 30).map (fun q => some (mV 4 q.1 q.2.1)) := rfl
set_option maxRecDepth 100000 in
theorem mnc_4_0 : (((mnk 4).drop 0).take 30).map (fun q => mws[q.2.2.2.1]?) = (((mnk 4).drop 0).take 30).map (fun q => some q.2.1) := rfl
set_option maxRecDepth 100000 in
theorem mnb_4 : ∀ q ∈ mnk 4, (parseMethodDescriptor (mN q.2.1).desc).map (fun d => d.parameters.length) = some q.2.2.1 := by decide +kernel
set_option maxRecDepth 100000 in
theorem fl_5_0 : (((flk 5).drop 0).take 30).map (fun q => lw_tbl[q.2.2.2]?) = (((flk 5).drop 0).take 30).map (fun q => some (fW 5 q.1 q.2.1 q.2.2.1)) := rfl
set_option maxRecDepth 100000 in
theorem flb_5 : ∀ q ∈ flk 5, q.2.1 < 13 ∧ q.2.2.1 < (cT q.2.1).2.2 := by decide +kernel
set_option maxRecDepth 100000 in
theorem fn_5_0 : (((fnk 5).drop 0).take 30).map (fun q => lw_tbl[q.2.2.2]?) = (((fnk 5).drop 0).take 30).map (fun q => some (fV 5 q.1 q.2.1 q.2.2.1)) := rfl
set_option maxRecDepth 100000 in
theorem fnb_5 : ∀ q ∈ fnk 5, q.2.1 < 13 ∧ q.2.2.1 < (cT q.2.1).2.2 := by decide +kernel
set_option maxRecDepth 100000 in
theorem ml_5_0 : (((mlk 5).drop 0).take 30).map (fun q => lw_tbl[q.2.2.2.2]?) = (((mlk 5).drop 0).take 30).map (fun q => some (mW 5 q.1 q.2.1)) := rfl
set_option maxRecDepth 100000 in
theorem mlc_5_0 : (((mlk 5).drop 0).take 30).map (fun q => mws[q.2.2.2.1]?) = (((mlk 5).drop 0).take 30).map (fun q => some q.2.1) := rfl
set_option maxRecDepth 100000 in
theorem mlb_5 : ∀ q ∈ mlk 5, (parseMethodDescriptor (mN q.2.1).desc).map (fun d => d.parameters.length) = some q.2.2.1 := by decide +kernel
set_option maxRecDepth 100000 in
theorem mn_5_0 : (((mnk 5).drop 0).take 30).map (fun q => lw_tbl[q.2.2.2.2]?) = (((mnk 5).drop 0).take 30).map (fun q => some (mV 5 q.1 q.2.1)) := rfl
set_option maxRecDepth 100000 in
theorem mnc_5_0 : (((mnk 5).drop 0).take 30).map (fun q => mws[q.2.2.2.1]?) = (((mnk 5).drop 0).take 30).map (fun q => some q.2.1) := rfl
set_option maxRecDepth 100000 in
theorem mnb_5 : ∀ q ∈ mnk 5, (parseMethodDescriptor (mN q.2.1).desc).map (fun d => d.parameters.length) = some q.2.2.1 := by decide +kernel
set_option maxRecDepth 100000 in
theorem fl_6_0 : (((flk 6).drop 0).take 30).map (fun q => lw_tbl[q.2.2.2]?) = (((flk 6).drop 0).take 30).map (fun q => some (fW 6 q.1 q.2.1 q.2.2.1)) := rfl
set_option maxRecDepth 100000 in
theorem flb_6 : ∀ q ∈ flk 6, q.2.1 < 13 ∧ q.2.2.1 < (cT q.2.1).2.2 := by decide +kernel
set_option maxRecDepth 100000 in
theorem fn_6_0 : (((fnk 6).drop 0).take 30).map (fun q => lw_tbl[q.2.2.2]?) = (((fnk 6).drop 0).take 30).map (fun q => some (fV 6 q.1 q.2.1 q.2.2.1)) := rfl
set_option maxRecDepth 100000 in
theorem fnb_6 : ∀ q ∈ fnk 6, q.2.1 < 13 ∧ q.2.2.1 < (cT q.2.1).2.2 := by decide +kernel
set_option maxRecDepth 100000 in
theorem ml_6_0 : (((mlk 6).drop 0).take 30).map (fun q => lw_tbl[q.2.2.2.2]?) = (((mlk 6).drop 0).take 30).map (fun q => some (mW 6 q.1 q.2.1)) := rfl
set_option maxRecDepth 100000 in
theorem mlc_6_0 : (((mlk 6).drop 0).take 30).map (fun q => mws[q.2.2.2.1]?) = (((mlk 6).drop 0).take 30).map (fun q => some q.2.1) := rfl
set_option maxRecDepth 100000 in
theorem mlb_6 : ∀ q ∈ mlk 6, (parseMethodDescriptor (mN q.2.1).desc).map (fun d => d.parameters.length) = some q.2.2.1 := by decide +kernel
set_option maxRecDepth 100000 in
theorem mn_6_0 : (((mnk 6).drop 0).take 30).map (fun q => lw_tbl[q.2.2.2.2]?) = (((mnk 6).drop 0).take 30).map (fun q => some (mV 6 q.1 q.2.1)) := rfl
set_option maxRecDepth 100000 in
theorem mnc_6_0 : (((mnk 6).drop 0).take 30).map (fun q => mws[q.2.2.2.1]?) = (((mnk 6).drop 0).take 30).map (fun q => some q.2.1) := rfl
set_option maxRecDepth 100000 in
theorem mnb_6 : ∀ q ∈ mnk 6, (parseMethodDescriptor (mN q.2.1).desc).map (fun d => d.parameters.length) = some q.2.2.1 := by decide +kernel
set_option maxRecDepth 100000 in
theorem fl_7_0 : (((flk 7).drop 0).take 30).map (fun q => lw_tbl[q.2.2.2]?) = (((flk 7).drop 0).take 30).map (fun q => some (fW 7 q.1 q.2.1 q.2.2.1)) := rfl
set_option maxRecDepth 100000 in
theorem flb_7 : ∀ q ∈ flk 7, q.2.1 < 13 ∧ q.2.2.1 < (cT q.2.1).2.2 := by decide +kernel
set_option maxRecDepth 100000 in
theorem fn_7_0 : (((fnk 7).drop 0).take 30).map (fun q => lw_tbl[q.2.2.2]?) = (((fnk 7).drop 0).take 30).map (fun q => some (fV 7 q.1 q.2.1 q.2.2.1)) := rfl
set_option maxRecDepth 100000 in
theorem fnb_7 : ∀ q ∈ fnk 7, q.2.1 < 13 ∧ q.2.2.1 < (cT q.2.1).2.2 := by decide +kernel
set_option maxRecDepth 100000 in
theorem ml_7_0 : (((mlk 7).drop 0).take 30).map (fun q => lw_tbl[q.2.2.2.2]?) = (((mlk 7).drop 0).take 30).map (fun q => some (mW 7 q.1 q.2.1)) := rfl
set_option maxRecDepth 100000 in
theorem mlc_7_0 : (((mlk 7).drop 0).take 30).map (fun q => mws[q.2.2.2.1]?) = (((mlk 7).drop 0).take 30).map (fun q => some q.2.1) := rfl
set_option maxRecDepth 100000 in
theorem mlb_7 : ∀ q ∈ mlk 7, (parseMethodDescriptor (mN q.2.1).desc).map (fun d => d.parameters.length) = some q.2.2.1 := by decide +kernel
set_option maxRecDepth 100000 in
theorem mn_7_0 : (((mnk 7).drop 0).take 30).map (fun q => lw_tbl[q.2.2.2.2]?) = (((mnk 7).drop 0).take 30).map (fun q => some (mV 7 q.1 q.2.1)) := rfl
set_option maxRecDepth 100000 in
theorem mnc_7_0 : (((mnk 7).drop 0).take 30).map (fun q => mws[q.2.2.2.1]?) = (((mnk 7).drop 0).take 30).map (fun q => some q.2.1) := rfl
set_option maxRecDepth 100000 in
theorem mnb_7 : ∀ q ∈ mnk 7, (parseMethodDescriptor (mN q.2.1).desc).map (fun d => d.parameters.length) = some q.2.2.1 := by decide +kernel
set_option maxRecDepth 100000 in
theorem fl_8_0 : (((flk 8).drop 0).take 30).map (fun q => lw_tbl[q.2.2.2]?) = (((flk 8).drop 0).take 30).map (fun q => some (fW 8 q.1 q.2.1 q.2.2.1)) := rfl
set_option maxRecDepth 100000 in
theorem flb_8 : ∀ q ∈ flk 8, q.2.1 < 13 ∧ q.2.2.1 < (cT q.2.1).2.2 := by decide +kernel
set_option maxRecDepth 100000 in
theorem fn_8_0 : (((fnk 8).drop 0).take 30).map (fun q => lw_tbl[q.2.2.2]?) = (((fnk 8).drop 0).take 30).map (fun q => some (fV 8 q.1 q.2.1 q.2.2.1)) := rfl
set_option maxRecDepth 100000 in
theorem fnb_8 : ∀ q ∈ fnk 8, q.2.1 < 13 ∧ q.2.2.1 < (cT q.2.1).2.2 := by decide +kernel
set_option maxRecDepth 100000 in
theorem ml_8_0 : (((mlk 8).drop 0).take 30).map (fun q => lw_tbl[q.2.2.2.2]?) = (((mlk 8).drop 0).take 30).map (fun q => some (mW 8 q.1 q.2.1)) := rfl
set_option maxRecDepth 100000 in
theorem mlc_8_0 : (((mlk 8).drop 0).take 30).map (fun q => mws[q.2.2.2.1]?) = (((mlk 8).drop 0).take 30).map (fun q => some q.2.1) := rfl
set_option maxRecDepth 100000 in
theorem mlb_8 : ∀ q ∈ mlk 8, (parseMethodDescriptor (mN q.2.1).desc).map (fun d => d.parameters.length) = some q.2.2.1 := by decide +kernel
set_option maxRecDepth 100000 in
theorem mn_8_0 : (((mnk 8).drop 0).take 30).map (fun q => lw_tbl[q.2.2.2.2]?) = (((mnk 8).drop 0).take 30).map (fun q => some (mV 8 q.1 q.2.1)) := rfl
set_option maxRecDepth 100000 in
theorem mnc_8_0 : (((mnk 8).drop 0).take 30).map (fun q => mws[q.2.2.2.1]?) = (((mnk 8).drop 0).take 30).map (fun q => some q.2.1) := rfl
set_option maxRecDepth 100000 in
theorem mnb_8 : ∀ q ∈ mnk 8, (parseMethodDescriptor (mN q.2.1).desc).map (fun d => d.parameters.length) = some q.2.2.1 := by decide +kernel
set_option maxRecDepth 100000 in
theorem fl_9_0 : (((flk 9).drop 0).take 30).map (fun q => lw_tbl[q.2.2.2]?) = (((flk 9).drop 0).take 30).map (fun q => some (fW 9 q.1 q.2.1 q.2.2.1)) := rfl
set_option maxRecDepth 100000 in
theorem flb_9 : ∀ q ∈ flk 9, q.2.1 < 13 ∧ q.2.2.1 < (cT q.2.1).2.2 := by decide +kernel
set_option maxRecDepth 100000 in
theorem fn_9_0 : (((fnk 9).drop 0).take 30).map (fun q => lw_tbl[q.2.2.2]?) = (((fnk 9).drop 0).take 30).map (fun q => some (fV 9 q.1 q.2.1 q.2.2.1)) := rfl
set_option maxRecDepth 100000 in
theorem fnb_9 : ∀ q ∈ fnk 9, q.2.1 < 13 ∧ q.2.2.1 < (cT q.2.1).2.2 := by decide +kernel
set_option maxRecDepth 100000 in
theorem ml_9_0 : (((mlk 9).drop 0).take 30).map (fun q => lw_tbl[q.2.2.2.2]?) = (((mlk 9).drop 0).take 30).map (fun q => some (mW 9 q.1 q.2.1)) := rfl
set_option maxRecDepth 100000 in
theorem mlc_9_0 : (((mlk 9).drop 0).take 30).map (fun q => mws[q.2.2.2.1]?) = (((mlk 9).drop 0).take 30).map (fun q => some q.2.1) := rfl
set_option maxRecDepth 100000 in
theorem mlb_9 : ∀ q ∈ mlk 9, (parseMethodDescriptor (mN q.2.1).desc).map (fun d => d.parameters.length) = some q.2.2.1 := by decide +kernel
set_option maxRecDepth 100000 in
theorem mn_9_0 : (((mnk 9).drop 0).take 30).map (fun q => lw_tbl[q.2.2.2.2]?) = (((mnk 9).drop 0).take 30).map (fun q => some (mV 9 q.1 q.2.1)) := rfl
set_option maxRecDepth 100000 in
theorem mnc_9_0 : (((mnk 9).drop 0).take 30).map (fun q => mws[q.2.2.2.1]?) = (((mnk 9).drop 0).take 30).map (fun q => some q.2.1) := rfl
set_option maxRecDepth 100000 in
theorem mnb_9 : ∀ q ∈ mnk 9, (parseMethodDescriptor (mN q.2.1).desc).map (fun d => d.parameters.length) = some q.2.2.1 := by decide +kernel
set_option maxRecDepth 100000 in
theorem fl_10_0 : (((flk 10).drop 0).take 30).map (fun q => lw_tbl[q.2.2.2]?) = (((flk 10).drop 0).take 30).map (fun q => some (fW 10 q.1 q.2.1 q.2.2.1)) := rfl
set_option maxRecDepth 100000 in
theorem flb_10 : ∀ q ∈ flk 10, q.2.1 < 13 ∧ q.2.2.1 < (cT q.2.1).2.2 := by decide +kernel
set_option maxRecDepth 100000 in
theorem fn_10_0 : (((fnk 10).drop 0).take 30).map (fun q => lw_tbl[q.2.2.2]?) = (((fnk 10).drop 0).take 30).map (fun q => some (fV 10 q.1 q.2.1 q.2.2.1)) := rfl
set_option maxRecDepth 100000 in
theorem fnb_10 : ∀ q ∈ fnk 10, q.2.1 < 13 ∧ q.2.2.1 < (cT q.2.1).2.2 := by decide +kernel
set_option maxRecDepth 100000 in
theorem ml_10_0 : (((mlk 10).drop 0).take 30).map (fun q => lw_tbl[q.2.2.2.2]?) = (((mlk 10).drop 0).take 30).map (fun q => some (mW 10 q.1 q.2.1)) := rfl
set_option maxRecDepth 100000 in
theorem mlc_10_0 : (((mlk 10).drop 0).take 30).map (fun q => mws[q.2.2.2.1]?) = (((mlk 10).drop 0).take 30).map (fun q => some q.2.1) := rfl
set_option maxRecDepth 100000 in
theorem mlb_10 : ∀ q ∈ mlk 10, (parseMethodDescriptor (mN q.2.1).desc).map (fun d => d.parameters.length) = some q.2.2.1 := by decide +kernel
set_option maxRecDepth 100000 in
theorem mn_10_0 : (((mnk 10).drop 0).take 30).map (fun q => lw_tbl[q.2.2.2.2]?) = (((mnk 10).drop 0).take 30).map (fun q => some (mV 10 q.1 q.2.1)) := rfl
set_option maxRecDepth 100000 in
theorem mnc_10_0 : (((mnk 10).drop 0).take 30).map (fun q => mws[q.2.2.2.1]?) = (((mnk 10).drop 0).take 30).map (fun q => some q.2.1) := rfl
set_option maxRecDepth 100000 in
theorem mnb_10 : ∀ q ∈ mnk 10, (parseMethodDescriptor (mN q.2.1).desc).map (fun d => d.parameters.length) = some q.2.2.1 := by decide +kernel
set_option maxRecDepth 100000 in
theorem fl_11_0 : (((flk 11).drop 0).take 30).map (fun q => lw_tbl[q.2.2.2]?) = (((flk 11).drop 0).take 30).map (fun q => some (fW 11 q.1 q.2.1 q.2.2.1)) := rfl
set_option maxRecDepth 100000 in
theorem fl_11_1 : (((flk 11).drop 30).take 30).map (fun q => lw_tbl[q.2.2.2]?) = (((flk 11).drop 30).take 30).map (fun q => some (fW 11 q.1 q.2.1 q.2.2.1)) := rfl
set_option maxRecDepth 100000 in
theorem flb_11 : ∀ q ∈ flk 11, q.2.1 < 13 ∧ q.2.2.1 < (cT q.2.1).2.2 := by decide +kernel
set_option maxRecDepth 100000 in
theorem fn_11_0 : (((fnk 11).drop 0).take 30).map (fun q => lw_tbl[q.2.2.2]?) = (((fnk 11).drop 0).take 30).map (fun q => some (fV 11 q.1 q.2.1 q.2.2.1)) := rfl
set_option maxRecDepth 100000 in
theorem fnb_11 : ∀ q ∈ fnk 11, q.2.1 < 13 ∧ q.2.2.1 < (cT q.2.1).2.2 := by decide +kernel
set_option maxRecDepth 100000 in
theorem ml_11_0 : (((mlk 11).drop 0).take 30).map (fun q => lw_tbl[q.2.2.2.2]?) = (((mlk 11).drop 0).take 30).map (fun q => some (mW 11 q.1 q.2.1)) := rfl
set_option maxRecDepth 100000 in
theorem mlc_11_0 : (((mlk 11).drop 0).take 30).map (fun q => mws[q.2.2.2.1]?) = (((mlk 11).drop 0).take 30).map (fun q => some q.2.1) := rfl
set_option maxRecDepth 100000 in
theorem ml_11_1 : (((mlk 11).drop 30).take 30).map (fun q => lw_tbl[q.2.2.2.2]?) = (((mlk 11).drop 30).take 30).map (fun q => some (mW 11 q.1 q.2.1)) := rfl
set_option maxRecDepth 100000 in
theorem mlc_11_1 : (((mlk 11).drop 30).take 30).map (fun q => mws[q.2.2.2.1]?) = (((mlk 11).drop 30).take 30).map (fun q => some q.2.1) := rfl
set_option maxRecDepth 100000 in
theorem mlb_11 : ∀ q ∈ mlk 11, (parseMethodDescriptor (mN q.2.1).desc).map (fun d => d.parameters.length) = some q.2.2.1 := by decide +kernel
set_option maxRecDepth 100000 in
theorem mn_11_0 : (((mnk 11).drop 0).take 30).map (fun q => lw_tbl[q.2.2.2.2]?) = (((mnk 11).drop 0).take 30).map (fun q => some (mV 11 q.1 q.2.1)) := rfl
set_option maxRecDepth 100000 in
theorem mnc_11_0 : (((mnk 11).drop 0).take 30).map (fun q => mws[q.2.2.2.1]?) = (((mnk 11).drop 0).take 30).map (fun q => some q.2.1) := rfl
set_option maxRecDepth 100000 in
theorem mnb_11 : ∀ q ∈ mnk 11, (parseMethodDescriptor (mN q.2.1).desc).map (fun d => d.parameters.length) = some q.2.2.1 := by decide +kernel
set_option maxRecDepth 100000 in
theorem fl_12_0 : (((flk 12).drop 0).take 30).map (fun q => lw_tbl[q.2.2.2]?) = (((flk 12).drop 0).take 30).map (fun q => some (fW 12 q.1 q.2.1 q.2.2.1)) := rfl
set_option maxRecDepth 100000 in
theorem fl_12_1 : (((flk 12).drop 30).take 30).map (fun q => lw_tbl[q.2.2.2]?) = (((flk 12).drop 30).take 30).map (fun q => some (fW 12 q.1 q.2.1 q.2.2.1)) := rfl
set_option maxRecDepth 100000 in
theorem fl_12_2 : (((flk 12).drop 60).take 30).map (fun q => lw_tbl[q.2.2.2]?) = (((flk 12).drop 60).take 30).map (fun q => some (fW 12 q.1 q.2.1 q.2.2.1)) := rfl
set_option maxRecDepth 100000 in
theorem flb_12 : ∀ q ∈ flk 12, q.2.1 < 13 ∧ q.2.2.1 < (cT q.2.1).2.2 := by decide +kernel
set_option maxRecDepth 100000 in
theorem fn_12_0 : (((fnk 12).drop 0).take 30).map (fun q => lw_tbl[q.2.2.2]?) = (((fnk 12).drop 0).take 30).map (fun q => some (fV 12 q.1 q.2.1 q.2.2.1)) := rfl
set_option maxRecDepth 100000 in
theorem fnb_12 : ∀ q ∈ fnk 12, q.2.1 < 13 ∧ q.2.2.1 < (cT q.2.1).2.2 := by decide +kernel
set_option maxRecDepth 100000 in
theorem ml_12_0 : (((mlk 12).drop 0).take 30).map (fun q => lw_tbl[q.2.2.2.2]?) = (((mlk 12).drop 0).take 30).map (fun q => some (mW 12 q.1 q.2.1)) := rfl
set_option maxRecDepth 100000 in
theorem mlc_12_0 : (((mlk 12).drop 0).take 30).map (fun q => mws[q.2.2.2.1]?) = (((mlk 12).drop 0).take 30).map (fun q => some q.2.1) := rfl
set_option maxRecDepth 100000 in
theorem ml_12_1 : (((mlk 12).drop 30).take 30).map (fun q => lw_tbl[q.2.2.2.2]?) = (((mlk 12).drop 30).take 30).map (fun q => some (mW 12 q.1 q.2.1)) := rfl
set_option maxRecDepth 100000 in
theorem mlc_12_1 : (((mlk 12).drop 30).take 30).map (fun q => mws[q.2.2.2.1]?) = (((mlk 12).drop 30).take 30).map (fun q => some q.2.1) := rfl
set_option maxRecDepth 100000 in
theorem ml_12_2 : (((mlk 12).drop 60).take 30).map (fun q => lw_tbl[q.2.2.2.2]?) = (((mlk 12).drop 60).take 30).map (fun q => some (mW 12 q.1 q.2.1)) := rfl
set_option maxRecDepth 100000 in
theorem mlc_12_2 : (((mlk 12).drop 60).take 30).map (fun q => mws[q.2.2.2.1]?) = (((mlk 12).drop 60).take 30).map (fun q => some q.2.1) := rfl
set_option maxRecDepth 100000 in
theorem mlb_12 : ∀ q ∈ mlk 12, (parseMethodDescriptor (mN q.2.1).desc).map (fun d => d.parameters.length) = some q.2.2.1 := by decide +kernel
set_option maxRecDepth 100000 in
theorem mn_12_0 : (((mnk 12).drop 0).take 30).map (fun q => lw_tbl[q.2.2.2.2]?) = (((mnk 12).drop 0).take 30).map (fun q => some (mV 12 q.1 q.2.1)) := rfl
set_option maxRecDepth 100000 in
theorem mnc_12_0 : (((mnk 12).drop 0).take 30).map (fun q => mws[q.2.2.2.1]?) = (((mnk 12).drop 0).take 30).map (fun q => some q.2.1) := rfl
set_option maxRecDepth 100000 in
theorem mnb_12 : ∀ q ∈ mnk 12, (parseMethodDescriptor (mN q.2.1).desc).map (fun d => d.parameters.length) = some q.2.2.1 := by decide +kernel
set_option maxRecDepth 100000 in
theorem fl_13_0 : (((flk 13).drop 0).take 30).map (fun q => lw_tbl[q.2.2.2]?) = (((flk 13).drop 0).take 30).map (fun q => some (fW 13 q.1 q.2.1 q.2.2.1)) := rfl
set_option maxRecDepth 100000 in
theorem flb_13 : ∀ q ∈ flk 13, q.2.1 < 13 ∧ q.2.2.1 < (cT q.2.1).2.2 := by decide +kernel
set_option maxRecDepth 100000 in
theorem fn_13_0 : (((fnk 13).drop 0).take 30).map (fun q => lw_tbl[q.2.2.2]?) = (((fnk 13).drop 0).take 30).map (fun q => some (fV 13 q.1 q.2.1 q.2.2.1)) := rfl
set_option maxRecDepth 100000 in
theorem fnb_13 : ∀ q ∈ fnk 13, q.2.1 < 13 ∧ q.2.2.1 < (cT q.2.1).2.2 := by decide +kernel
set_option maxRecDepth 100000 in
theorem ml_13_0 : (((mlk 13).drop 0).take 30).map (fun q => lw_tbl[q.2.2.2.2]?) = (((mlk 13).drop 0).take 30).map (fun q => some (mW 13 q.1 q.2.1)) := rfl
set_option maxRecDepth 100000 in
theorem mlc_13_0 : (((mlk 13).drop 0).take 30).map (fun q => mws[q.2.2.2.1]?) = (((mlk 13).drop 0).take 30).map (fun q => some q.2.1) := rfl
set_option maxRecDepth 100000 in
theorem ml_13_1 : (((mlk 13).drop 30).take 30).map (fun q => lw_tbl[q.2.2.2.2]?) = (((mlk 13).drop 30).take 30).map (fun q => some (mW 13 q.1 q.2.1)) := rfl
set_option maxRecDepth 100000 in
theorem mlc_13_1 : (((mlk 13).drop 30).take 30).map (fun q => mws[q.2.2.2.1]?) = (((mlk 13).drop 30).take 30).map (fun q => some q.2.1) := rfl
set_option maxRecDepth 100000 in
theorem ml_13_2 : (((mlk 13).drop 60).take 30).map (fun q => lw_tbl[q.2.2.2.2]?) = (((mlk 13).drop 60).take 30).map (fun q => some (mW 13 q.1 q.2.1)) := rfl
set_option maxRecDepth 100000 in
theorem mlc_13_2 : (((mlk 13).drop 60).take 30).map (fun q => mws[q.2.2.2.1]?) = (((mlk 13).drop 60).take 30).map (fun q => some q.2.1) := rfl
set_option maxRecDepth 100000 in
theorem mlb_13 : ∀ q ∈ mlk 13, (parseMethodDescriptor (mN q.2.1).desc).map (fun d => d.parameters.length) = some q.2.2.1 := by decide +kernel
set_option maxRecDepth 100000 in
theorem mn_13_0 : (((mnk 13).drop 0).take 30).map (fun q => lw_tbl[q.2.2.2.2]?) = (((mnk 13).drop 0).take 30).map (fun q => some (mV 13 q.1 q.2.1)) := rfl
set_option maxRecDepth 100000 in
theorem mnc_13_0 : (((mnk 13).drop 0).take 30).map (fun q => mws[q.2.2.2.1]?) = (((mnk 13).drop 0).take 30).map (fun q => some q.2.1) := rfl
set_option maxRecDepth 100000 in
theorem mnb_13 : ∀ q ∈ mnk 13, (parseMethodDescriptor (mN q.2.1).desc).map (fun d => d.parameters.length) = some q.2.2.1 := by decide +kernel
set_option maxRecDepth 100000 in
theorem fl_14_0 : (((flk 14).drop 0).take 30).map (fun q => lw_tbl[q.2.2.2]?) = (((flk 14).drop 0).take 30).map (fun q => some (fW 14 q.1 q.2.1 q.2.2.1)) := rfl
set_option maxRecDepth 100000 in
theorem flb_14 : ∀ q ∈ flk 14, q.2.1 < 13 ∧ q.2.2.1 < (cT q.2.1).2.2 := by decide +kernel
set_option maxRecDepth 100000 in
theorem fn_14_0 : (((fnk 14).drop 0).take 30).map (fun q => lw_tbl[q.2.2.2]?) = (((fnk 14).drop 0).take 30).map (fun q => some (fV 14 q.1 q.2.1 q.2.2.1)) := rfl
set_option maxRecDepth 100000 in
theorem fnb_14 : ∀ q ∈ fnk 14, q.2.1 < 13 ∧ q.2.2.1 < (cT q.2.1).2.2 := by decide +kernel
set_option maxRecDepth 100000 in
theorem ml_14_0 : (((mlk 14).drop 0).take 30).map (fun q => lw_tbl[q.2.2.2.2]?) = (((mlk 14).drop 0).take 30).map (fun q => some (mW 14 q.1 q.2.1)) := rfl
set_option maxRecDepth 100000 in
theorem mlc_14_0 : (((mlk 14).drop 0).take 30).map (fun q => mws[q.2.2.2.1]?) = (((mlk 14).drop 0).take 30).map (fun q => some q.2.1) := rfl
set_option maxRecDepth 100000 in
theorem mlb_14 : ∀ q ∈ mlk 14, (parseMethodDescriptor (mN q.2.1).desc).map (fun d => d.parameters.length) = some q.2.2.1 := by decide +kernel
set_option maxRecDepth 100000 in
theorem mn_14_0 : (((mnk 14).drop 0).take 30).map (fun q => lw_tbl[q.2.2.2.2]?) = (((mnk 14).drop 0).take 30).map (fun q => some (mV 14 q.1 q.2.1)) := rfl
set_option maxRecDepth 100000 in
theorem mnc_14_0 : (((mnk 14).drop 0).take 30).map (fun q => mws[q.2.2.2.1]?) = (((mnk 14).drop 0).take 30).map (fun q => some q.2.1) := rfl
set_option maxRecDepth 100000 in
theorem mnb_14 : ∀ q ∈ mnk 14, (parseMethodDescriptor (mN q.2.1).desc).map (fun d => d.parameters.length) = some q.2.2.1 := by decide +kernel
set_option maxRecDepth 100000 in
theorem fl_15_0 : (((flk 15).drop 0).take 30).map (fun q => lw_tbl[q.2.2.2]?) = (((flk 15).drop 0).take 30).map (fun q => some (fW 15 q.1 q.2.1 q.2.2.1)) := rfl
set_option maxRecDepth 100000 in
theorem flb_15 : ∀ q ∈ flk 15, q.2.1 < 13 ∧ q.2.2.1 < (cT q.2.1).2.2 := by decide +kernel
set_option maxRecDepth 100000 in
theorem fn_15_0 : (((fnk 15).drop 0).take 30).map (fun q => lw_tbl[q.2.2.2]?) = (((fnk 15).drop 0).take 30).map (fun q => some (fV 15 q.1 q.2.1 q.2.2.1)) := rfl
set_option maxRecDepth 100000 in
theorem fnb_15 : ∀ q ∈ fnk 15, q.2.1 < 13 ∧ q.2.2.1 < (cT q.2.1).2.2 := by decide +kernel
set_option maxRecDepth 100000 in
theorem ml_15_0 : (((mlk 15).drop 0).take 30).map (fun q => lw_tbl[q.2.2.2.2]?) = (((mlk 15).drop 0).take 30).map (fun q => some (mW 15 q.1 q.2.1)) := rfl
set_option maxRecDepth 100000 in
theorem mlc_15_0 : (((mlk 15).drop 0).take 30).map (fun q => mws[q.2.2.2.1]?) = (((mlk 15).drop 0).take 30).map (fun q => some q.2.1) := rfl
set_option maxRecDepth 100000 in
theorem mlb_15 : ∀ q ∈ mlk 15, (parseMethodDescriptor (mN q.2.1).desc).map (fun d => d.parameters.length) = some q.2.2.1 := by decide +kernel
set_option maxRecDepth 100000 in
theorem mn_15_0 : (((mnk 15).drop 0).take 30).map (fun q => lw_tbl[q.2.2.2.2]?) = (((mnk 15).drop 0).take 30).map (fun q => some (mV 15 q.1 q.2.1)) := rfl
set_option maxRecDepth 100000 in
theorem mnc_15_0 : (((mnk 15).drop 0).take 30).map (fun q => mws[q.2.2.2.1]?) = (((mnk 15).drop 0).take 30).map (fun q => some q.2.1) := rfl
set_option maxRecDepth 100000 in
theorem mnb_15 : ∀ q ∈ mnk 15, (parseMethodDescriptor (mN q.2.1).desc).map (fun d => d.parameters.length) = some q.2.2.1 := by decide +kernel
theorem dt_all {β : Type} {P : β → Prop} {l : List β} {k n : Nat} (h1 : ∀ q ∈ (l.drop k).take n, P q) (h2 : ∀ q ∈ l.drop (k + n), P q) : ∀ q ∈ l.drop k, P q := by
  intro q hq
  rw [← List.take_append_drop n (l.drop k), List.drop_drop, List.mem_append] at hq
  exact hq.elim (h1 q) (h2 q)
theorem dt_end {β : Type} {P : β → Prop} {l : List β} {k : Nat} (h : l.drop k = []) : ∀ q ∈ l.drop k, P q := by
  intro q hq
  rw [h] at hq
  cases hq
theorem fl_0 : ∀ q ∈ flk 0, fW 0 q.1 q.2.1 q.2.2.1 ∈ gtb := (dt_all (k := 0) (n := 30) (gats fl_0_0 (fun _ => rfl)) (dt_end (k := 30) rfl))
theorem fn_0 : ∀ q ∈ fnk 0, fV 0 q.1 q.2.1 q.2.2.1 ∈ nws := (dt_all (k := 0) (n := 30) (nats fn_0_0 (fun _ => rfl)) (dt_end (k := 30) rfl))
theorem ml_0 : ∀ q ∈ mlk 0, mW 0 q.1 q.2.1 ∈ gtb := (dt_all (k := 0) (n := 30) (gats ml_0_0 (fun _ => rfl)) (dt_end (k := 30) rfl))
theorem mlm_0 : ∀ q ∈ mlk 0, mF q.2.1 := (dt_all (k := 0) (n := 30) (fun q h => mws_at (List.map_inj_left.mp mlc_0_0 q h)) (dt_end (k := 30) rfl))
theorem mn_0 : ∀ q ∈ mnk 0, mV 0 q.1 q.2.1 ∈ nws := (dt_all (k := 0) (n := 30) (nats mn_0_0 (fun _ => rfl)) (dt_end (k := 30) rfl))
theorem mnm_0 : ∀ q ∈ mnk 0, mF q.2.1 := (dt_all (k := 0) (n := 30) (fun q h => mws_at (List.map_inj_left.mp mnc_0_0 q h)) (dt_end (k := 30) rfl))
theorem fl_1 : ∀ q ∈ flk 1, fW 1 q.1 q.2.1 q.2.2.1 ∈ gtb := (dt_all (k := 0) (n := 30) (gats fl_1_0 (fun _ => rfl)) (dt_end (k := 30) rfl))
theorem fn_1 : ∀ q ∈ fnk 1, fV 1 q.1 q.2.1 q.2.2.1 ∈ nws := (dt_all (k := 0) (n := 30) (nats fn_1_0 (fun _ => rfl)) (dt_end (k := 30) rfl))
theorem ml_1 : ∀ q ∈ mlk 1, mW 1 q.1 q.2.1 ∈ gtb := (dt_all (k := 0) (n := 30) (gats ml_1_0 (fun _ => rfl)) (dt_end (k := 30) rfl))
theorem mlm_1 : ∀ q ∈ mlk 1, mF q.2.1 := (dt_all (k := 0) (n := 30) (fun q h => mws_at (List.map_inj_left.mp mlc_1_0 q h)) (dt_end (k := 30) rfl))
theorem mn_1 : ∀ q ∈ mnk 1, mV 1 q.1 q.2.1 ∈ nws := (dt_all (k := 0) (n := 30) (nats mn_1_0 (fun _ => rfl)) (dt_end (k := 30) rfl))
theorem mnm_1 : ∀ q ∈ mnk 1, mF q.2.1 := (dt_all (k := 0) (n := 30) (fun q h => mws_at (List.map_inj_left.mp mnc_1_0 q h)) (dt_end (k := 30) rfl))
theorem fl_2 : ∀ q ∈ flk 2, fW 2 q.1 q.2.1 q.2.2.1 ∈ gtb := (dt_all (k := 0) (n := 30) (gats fl_2_0 (fun _ => rfl)) (dt_end (k := 30) rfl))
theorem fn_2 : ∀ q ∈ fnk 2, fV 2 q.1 q.2.1 q.2.2.1 ∈ nws := (dt_all (k := 0) (n := 30) (nats fn_2_0 (fun _ => rfl)) (dt_end (k := 30) rfl))
theorem ml_2 : ∀ q ∈ mlk 2, mW 2 q.1 q.2.1 ∈ gtb := (dt_all (k := 0) (n := 30) (gats ml_2_0 (fun _ => rfl)) (dt_end (k := 30) rfl))
theorem mlm_2 : ∀ q ∈ mlk 2, mF q.2.1 := (dt_all (k := 0) (n := 30) (fun q h => mws_at (List.map_inj_left.mp mlc_2_0 q h)) (dt_end (k := 30) rfl))
theorem mn_2 : ∀ q ∈ mnk 2, mV 2 q.1 q.2.1 ∈ nws := (dt_all (k := 0) (n := 30) (nats mn_2_0 (fun _ => rfl)) (dt_end (k := 30) rfl))
theorem mnm_2 : ∀ q ∈ mnk 2, mF q.2.1 := (dt_all (k := 0) (n := 30) (fun q h => mws_at (List.map_inj_left.mp mnc_2_0 q h)) (dt_end (k := 30) rfl))
theorem fl_3 : ∀ q ∈ flk 3, fW 3 q.1 q.2.1 q.2.2.1 ∈ gtb := (dt_all (k := 0) (n := 30) (gats fl_3_0 (fun _ => rfl)) (dt_end (k := 30) rfl))
theorem fn_3 : ∀ q ∈ fnk 3, fV 3 q.1 q.2.1 q.2.2.1 ∈ nws := (dt_all (k := 0) (n := 30) (nats fn_3_0 (fun _ => rfl)) (dt_end (k := 30) rfl))
theorem ml_3 : ∀ q ∈ mlk 3, mW 3 q.1 q.2.1 ∈ gtb := (dt_all (k := 0) (n := 30) (gats ml_3_0 (fun _ => rfl)) (dt_end (k := 30) rfl))
theorem mlm_3 : ∀ q ∈ mlk 3, mF q.2.1 := (dt_all (k := 0) (n := 30) (fun q h => mws_at (List.map_inj_left.mp mlc_3_0 q h)) (dt_end (k := 30) rfl))
theorem mn_3 : ∀ q ∈ mnk 3, mV 3 q.1 q.2.1 ∈ nws := (dt_all (k := 0) (n := 30) (nats mn_3_0 (fun _ => rfl)) (dt_end (k := 30) rfl))
theorem mnm_3 : ∀ q ∈ mnk 3, mF q.2.1 := (dt_all (k := 0) (n := 30) (fun q h => mws_at (List.map_inj_left.mp mnc_3_0 q h)) (dt_end (k := 30) rfl))
theorem fl_4 : ∀ q ∈ flk 4, fW 4 q.1 q.2.1 q.2.2.1 ∈ gtb := (dt_all (k := 0) (n := 30) (gats fl_4_0 (fun _ => rfl)) (dt_end (k := 30) rfl))
theorem fn_4 : ∀ q ∈ fnk 4, fV 4 q.1 q.2.1 q.2.2.1 ∈ nws := (dt_all (k := 0) (n := 30) (nats fn_4_0 (fun _ => rfl)) (dt_end (k := 30) rfl))
theorem ml_4 : ∀ q ∈ mlk 4, mW 4 q.1 q.2.1 ∈ gtb := (dt_all (k := 0) (n := 30) (gats ml_4_0 (fun _ => rfl)) (dt_end (k := 30) rfl))
theorem mlm_4 : ∀ q ∈ mlk 4, mF q.2.1 := (dt_all (k := 0) (n := 30) (fun q h => mws_at (List.map_inj_left.mp mlc_4_0 q h)) (dt_end (k := 30) rfl))
theorem mn_4 : ∀ q ∈ mnk 4, mV 4 q.1 q.2.1 ∈ nws := (dt_all (k := 0) (n := 30) (nats mn_4_0 (fun _ => rfl)) (dt_end (k := 30) rfl))
theorem mnm_4 : ∀ q ∈ mnk 4, mF q.2.1 := (dt_all (k := 0) (n := 30) (fun q h => mws_at (List.map_inj_left.mp mnc_4_0 q h)) (dt_end (k := 30) rfl))
theorem fl_5 : ∀ q ∈ flk 5, fW 5 q.1 q.2.1 q.2.2.1 ∈ gtb := (dt_all (k := 0) (n := 30) (gats fl_5_0 (fun _ => rfl)) (dt_end (k := 30) rfl))
theorem fn_5 : ∀ q ∈ fnk 5, fV 5 q.1 q.2.1 q.2.2.1 ∈ nws := (dt_all (k := 0) (n := 30) (nats fn_5_0 (fun _ => rfl)) (dt_end (k := 30) rfl))
theorem ml_5 : ∀ q ∈ mlk 5, mW 5 q.1 q.2.1 ∈ gtb := (dt_all (k := 0) (n := 30) (gats ml_5_0 (fun _ => rfl)) (dt_end (k := 30) rfl))
theorem mlm_5 : ∀ q ∈ mlk 5, mF q.2.1 := (dt_all (k := 0) (n := 30) (fun q h => mws_at (List.map_inj_left.mp mlc_5_0 q h)) (dt_end (k := 30) rfl))
theorem mn_5 : ∀ q ∈ mnk 5, mV 5 q.1 q.2.1 ∈ nws := (dt_all (k := 0) (n := 30) (nats mn_5_0 (fun _ => rfl)) (dt_end (k := 30) rfl))
theorem mnm_5 : ∀ q ∈ mnk 5, mF q.2.1 := (dt_all (k := 0) (n := 30) (fun q h => mws_at (List.map_inj_left.mp mnc_5_0 q h)) (dt_end (k := 30) rfl))
theorem fl_6 : ∀ q ∈ flk 6, fW 6 q.1 q.2.1 q.2.2.1 ∈ gtb := (dt_all (k := 0) (n := 30) (gats fl_6_0 (fun _ => rfl)) (dt_end (k := 30) rfl))
theorem fn_6 : ∀ q ∈ fnk 6, fV 6 q.1 q.2.1 q.2.2.1 ∈ nws := (dt_all (k := 0) (n := 30) (nats fn_6_0 (fun _ => rfl)) (dt_end (k := 30) rfl))
theorem ml_6 : ∀ q ∈ mlk 6, mW 6 q.1 q.2.1 ∈ gtb := (dt_all (k := 0) (n := 30) (gats ml_6_0 (fun _ => rfl)) (dt_end (k := 30) rfl))
theorem mlm_6 : ∀ q ∈ mlk 6, mF q.2.1 := (dt_all (k := 0) (n := 30) (fun q h => mws_at (List.map_inj_left.mp mlc_6_0 q h)) (dt_end (k := 30) rfl))
theorem mn_6 : ∀ q ∈ mnk 6, mV 6 q.1 q.2.1 ∈ nws := (dt_all (k := 0) (n := 30) (nats mn_6_0 (fun _ => rfl)) (dt_end (k := 30) rfl))
theorem mnm_6 : ∀ q ∈ mnk 6, mF q.2.1 := (dt_all (k := 0) (n := 30) (fun q h => mws_at (List.map_inj_left.mp mnc_6_0 q h)) (dt_end (k := 30) rfl))
theorem fl_7 : ∀ q ∈ flk 7, fW 7 q.1 q.2.1 q.2.2.1 ∈ gtb := (dt_all (k := 0) (n := 30) (gats fl_7_0 (fun _ => rfl)) (dt_end (k := 30) rfl))
theorem fn_7 : ∀ q ∈ fnk 7, fV 7 q.1 q.2.1 q.2.2.1 ∈ nws := (dt_all (k := 0) (n := 30) (nats fn_7_0 (fun _ => rfl)) (dt_end (k := 30) rfl))
theorem ml_7 : ∀ q ∈ mlk 7, mW 7 q.1 q.2.1 ∈ gtb := (dt_all (k := 0) (n := 30) (gats ml_7_0 (fun _ => rfl)) (dt_end (k := 30) rfl))
theorem mlm_7 : ∀ q ∈ mlk 7, mF q.2.1 := (dt_all (k := 0) (n := 30) (fun q h => mws_at (List.map_inj_left.mp mlc_7_0 q h)) (dt_end (k := 30) rfl))
theorem mn_7 : ∀ q ∈ mnk 7, mV 7 q.1 q.2.1 ∈ nws := (dt_all (k := 0) (n := 30) (nats mn_7_0 (fun _ => rfl)) (dt_end (k := 30) rfl))
theorem mnm_7 : ∀ q ∈ mnk 7, mF q.2.1 := (dt_all (k := 0) (n := 30) (fun q h => mws_at (List.map_inj_left.mp mnc_7_0 q h)) (dt_end (k := 30) rfl))
theorem fl_8 : ∀ q ∈ flk 8, fW 8 q.1 q.2.1 q.2.2.1 ∈ gtb := (dt_all (k := 0) (n := 30) (gats fl_8_0 (fun _ => rfl)) (dt_end (k := 30) rfl))
theorem fn_8 : ∀ q ∈ fnk 8, fV 8 q.1 q.2.1 q.2.2.1 ∈ nws := (dt_all (k := 0) (n := 30) (nats fn_8_0 (fun _ => rfl)) (dt_end (k := 30) rfl))
theorem ml_8 : ∀ q ∈ mlk 8, mW 8 q.1 q.2.1 ∈ gtb := (dt_all (k := 0) (n := 30) (gats ml_8_0 (fun _ => rfl)) (dt_end (k := 30) rfl))
theorem mlm_8 : ∀ q ∈ mlk 8, mF q.2.1 := (dt_all (k := 0) (n := 30) (fun q h => mws_at (List.map_inj_left.mp mlc_8_0 q h)) (dt_end (k := 30) rfl))
theorem mn_8 : ∀ q ∈ mnk 8, mV 8 q.1 q.2.1 ∈ nws := (dt_all (k := 0) (n := 30) (nats mn_8_0 (fun _ => rfl)) (dt_end (k := 30) rfl))
theorem mnm_8 : ∀ q ∈ mnk 8, mF q.2.1 := (dt_all (k := 0) (n := 30) (fun q h => mws_at (List.map_inj_left.mp mnc_8_0 q h)) (dt_end (k := 30) rfl))
theorem fl_9 : ∀ q ∈ flk 9, fW 9 q.1 q.2.1 q.2.2.1 ∈ gtb := (dt_all (k := 0) (n := 30) (gats fl_9_0 (fun _ => rfl)) (dt_end (k := 30) rfl))
theorem fn_9 : ∀ q ∈ fnk 9, fV 9 q.1 q.2.1 q.2.2.1 ∈ nws := (dt_all (k := 0) (n := 30) (nats fn_9_0 (fun _ => rfl)) (dt_end (k := 30) rfl))
theorem ml_9 : ∀ q ∈ mlk 9, mW 9 q.1 q.2.1 ∈ gtb := (dt_all (k := 0) (n := 30) (gats ml_9_0 (fun _ => rfl)) (dt_end (k := 30) rfl))
theorem mlm_9 : ∀ q ∈ mlk 9, mF q.2.1 := (dt_all (k := 0) (n := 30) (fun q h => mws_at (List.map_inj_left.mp mlc_9_0 q h)) (dt_end (k := 30) rfl))
theorem mn_9 : ∀ q ∈ mnk 9, mV 9 q.1 q.2.1 ∈ nws := (dt_all (k := 0) (n := 30) (nats mn_9_0 (fun _ => rfl)) (dt_end (k := 30) rfl))
theorem mnm_9 : ∀ q ∈ mnk 9, mF q.2.1 := (dt_all (k := 0) (n := 30) (fun q h => mws_at (List.map_inj_left.mp mnc_9_0 q h)) (dt_end (k := 30) rfl))
theorem fl_10 : ∀ q ∈ flk 10, fW 10 q.1 q.2.1 q.2.2.1 ∈ gtb := (dt_all (k := 0) (n := 30) (gats fl_10_0 (fun _ => rfl)) (dt_end (k := 30) rfl))
theorem fn_10 : ∀ q ∈ fnk 10, fV 10 q.1 q.2.1 q.2.2.1 ∈ nws := (dt_all (k := 0) (n := 30) (nats fn_10_0 (fun _ => rfl)) (dt_end (k := 30) rfl))
theorem ml_10 : ∀ q ∈ mlk 10, mW 10 q.1 q.2.1 ∈ gtb := (dt_all (k := 0) (n := 30) (gats ml_10_0 (fun _ => rfl)) (dt_end (k := 30) rfl))
theorem mlm_10 : ∀ q ∈ mlk 10, mF q.2.1 := (dt_all (k := 0) (n := 30) (fun q h => mws_at (List.map_inj_left.mp mlc_10_0 q h)) (dt_end (k := 30) rfl))
theorem mn_10 : ∀ q ∈ mnk 10, mV 10 q.1 q.2.1 ∈ nws := (dt_all (k := 0) (n := 30) (nats mn_10_0 (fun _ => rfl)) (dt_end (k := 30) rfl))
theorem mnm_10 : ∀ q ∈ mnk 10, mF q.2.1 := (dt_all (k := 0) (n := 30) (fun q h => mws_at (List.map_inj_left.mp mnc_10_0 q h)) (dt_end (k := 30) rfl))
theorem fl_11 : ∀ q ∈ flk 11, fW 11 q.1 q.2.1 q.2.2.1 ∈ gtb := (dt_all (k := 0) (n := 30) (gats fl_11_0 (fun _ => rfl)) (dt_all (k := 30) (n := 30) (gats fl_11_1 (fun _ => rfl)) (dt_end (k := 60) rfl)))
theorem fn_11 : ∀ q ∈ fnk 11, fV 11 q.1 q.2.1 q.2.2.1 ∈ nws := (dt_all (k := 0) (n := 30) (nats fn_11_0 (fun _ => rfl)) (dt_end (k := 30) rfl))
theorem ml_11 : ∀ q ∈ mlk 11, mW 11 q.1 q.2.1 ∈ gtb := (dt_all (k := 0) (n := 30) (gats ml_11_0 (fun _ => rfl)) (dt_all (k := 30) (n := 30) (gats ml_11_1 (fun _ => rfl)) (dt_end (k := 60) rfl)))
theorem mlm_11 : ∀ q ∈ mlk 11, mF q.2.1 := (dt_all (k := 0) (n := 30) (fun q h => mws_at (List.map_inj_left.mp mlc_11_0 q h)) (dt_all (k := 30) (n := 30) (fun q h => mws_at (List.map_inj_left.mp mlc_11_1 q h)) (dt_end (k := 60) rfl)))
theorem mn_11 : ∀ q ∈ mnk 11, mV 11 q.1 q.2.1 ∈ nws := (dt_all (k := 0) (n := 30) (nats mn_11_0 (fun _ => rfl)) (dt_end (k := 30) rfl))
theorem mnm_11 : ∀ q ∈ mnk 11, mF q.2.1 := (dt_all (k := 0) (n := 30) (fun q h => mws_at (List.map_inj_left.mp mnc_11_0 q h)) (dt_end (k := 30) rfl))
theorem fl_12 : ∀ q ∈ flk 12, fW 12 q.1 q.2.1 q.2.2.1 ∈ gtb := (dt_all (k := 0) (n := 30) (gats fl_12_0 (fun _ => rfl)) (dt_all (k := 30) (n := 30) (gats fl_12_1 (fun _ => rfl)) (dt_all (k := 60) (n := 30) (gats fl_12_2 (fun _ => rfl)) (dt_end (k := 90) rfl))))
theorem fn_12 : ∀ q ∈ fnk 12, fV 12 q.1 q.2.1 q.2.2.1 ∈ nws := (dt_all (k := 0) (n := 30) (nats fn_12_0 (fun _ => rfl)) (dt_end (k := 30) rfl))
theorem ml_12 : ∀ q ∈ mlk 12, mW 12 q.1 q.2.1 ∈ gtb := (dt_all (k := 0) (n := 30) (gats ml_12_0 (fun _ => rfl)) (dt_all (k := 30) (n := 30) (gats ml_12_1 (fun _ => rfl)) (dt_all (k := 60) (n := 30) (gats ml_12_2 (fun _ => rfl)) (dt_end (k := 90) rfl))))
theorem mlm_12 : ∀ q ∈ mlk 12, mF q.2.1 := (dt_all (k := 0) (n := 30) (fun q h => mws_at (List.map_inj_left.mp mlc_12_0 q h)) (dt_all (k := 30) (n := 30) (fun q h => mws_at (List.map_inj_left.mp mlc_12_1 q h)) (dt_all (k := 60) (n := 30) (fun q h => mws_at (List.map_inj_left.mp mlc_12_2 q h)) (dt_end (k := 90) rfl))))
theorem mn_12 : ∀ q ∈ mnk 12, mV 12 q.1 q.2.1 ∈ nws := (dt_all (k := 0) (n := 30) (nats mn_12_0 (fun _ => rfl)) (dt_end (k := 30) rfl))
theorem mnm_12 : ∀ q ∈ mnk 12, mF q.2.1 := (dt_all (k := 0) (n := 30) (fun q h => mws_at (List.map_inj_left.mp mnc_12_0 q h)) (dt_end (k := 30) rfl))
theorem fl_13 : ∀ q ∈ flk 13, fW 13 q.1 q.2.1 q.2.2.1 ∈ gtb := (dt_all (k := 0) (n := 30) (gats fl_13_0 (fun _ => rfl)) (dt_end (k := 30) rfl))
theorem fn_13 : ∀ q ∈ fnk 13, fV 13 q.1 q.2.1 q.2.2.1 ∈ nws := (dt_all (k := 0) (n := 30) (nats fn_13_0 (fun _ => rfl)) (dt_end (k := 30) rfl))
theorem ml_13 : ∀ q ∈ mlk 13, mW 13 q.1 q.2.1 ∈ gtb := (dt_all (k := 0) (n := 30) (gats ml_13_0 (fun _ => rfl)) (dt_all (k := 30) (n := 30) (gats ml_13_1 (fun _ => rfl)) (dt_all (k := 60) (n := 30) (gats ml_13_2 (fun _ => rfl)) (dt_end (k := 90) rfl))))
theorem mlm_13 : ∀ q ∈ mlk 13, mF q.2.1 := (dt_all (k := 0) (n := 30) (fun q h => mws_at (List.map_inj_left.mp mlc_13_0 q h)) (dt_all (k := 30) (n := 30) (fun q h => mws_at (List.map_inj_left.mp mlc_13_1 q h)) (dt_all (k := 60) (n := 30) (fun q h => mws_at (List.map_inj_left.mp mlc_13_2 q h)) (dt_end (k := 90) rfl))))
theorem mn_13 : ∀ q ∈ mnk 13, mV 13 q.1 q.2.1 ∈ nws := (dt_all (k := 0) (n := 30) (nats mn_13_0 (fun _ => rfl)) (dt_end (k := 30) rfl))
theorem mnm_13 : ∀ q ∈ mnk 13, mF q.2.1 := (dt_all (k := 0) (n := 30) (fun q h => mws_at (List.map_inj_left.mp mnc_13_0 q h)) (dt_end (k := 30) rfl))
theorem fl_14 : ∀ q ∈ flk 14, fW 14 q.1 q.2.1 q.2.2.1 ∈ gtb := (dt_all (k := 0) (n := 30) (gats fl_14_0 (fun _ => rfl)) (dt_end (k := 30) rfl))
theorem fn_14 : ∀ q ∈ fnk 14, fV 14 q.1 q.2.1 q.2.2.1 ∈ nws := (dt_all (k := 0) (n := 30) (nats fn_14_0 (fun _ => rfl)) (dt_end (k := 30) rfl))
theorem ml_14 : ∀ q ∈ mlk 14, mW 14 q.1 q.2.1 ∈ gtb := (dt_all (k := 0) (n := 30) (gats ml_14_0 (fun _ => rfl)) (dt_end (k := 30) rfl))
theorem mlm_14 : ∀ q ∈ mlk 14, mF q.2.1 := (dt_all (k := 0) (n := 30) (fun q h => mws_at (List.map_inj_left.mp mlc_14_0 q h)) (dt_end (k := 30) rfl))
theorem mn_14 : ∀ q ∈ mnk 14, mV 14 q.1 q.2.1 ∈ nws := (dt_all (k := 0) (n := 30) (nats mn_14_0 (fun _ => rfl)) (dt_end (k := 30) rfl))
theorem mnm_14 : ∀ q ∈ mnk 14, mF q.2.1 := (dt_all (k := 0) (n := 30) (fun q h => mws_at (List.map_inj_left.mp mnc_14_0 q h)) (dt_end (k := 30) rfl))
theorem fl_15 : ∀ q ∈ flk 15, fW 15 q.1 q.2.1 q.2.2.1 ∈ gtb := (dt_all (k := 0) (n := 30) (gats fl_15_0 (fun _ => rfl)) (dt_end (k := 30) rfl))
theorem fn_15 : ∀ q ∈ fnk 15, fV 15 q.1 q.2.1 q.2.2.1 ∈ nws := (dt_all (k := 0) (n := 30) (nats fn_15_0 (fun _ => rfl)) (dt_end (k := 30) rfl))
theorem ml_15 : ∀ q ∈ mlk 15, mW 15 q.1 q.2.1 ∈ gtb := (dt_all (k := 0) (n := 30) (gats ml_15_0 (fun _ => rfl)) (dt_end (k := 30) rfl))
theorem mlm_15 : ∀ q ∈ mlk 15, mF q.2.1 := (dt_all (k := 0) (n := 30) (fun q h => mws_at (List.map_inj_left.mp mlc_15_0 q h)) (dt_end (k := 30) rfl))
theorem mn_15 : ∀ q ∈ mnk 15, mV 15 q.1 q.2.1 ∈ nws := (dt_all (k := 0) (n := 30) (nats mn_15_0 (fun _ => rfl)) (dt_end (k := 30) rfl))
theorem mnm_15 : ∀ q ∈ mnk 15, mF q.2.1 := (dt_all (k := 0) (n := 30) (fun q h => mws_at (List.map_inj_left.mp mnc_15_0 q h)) (dt_end (k := 30) rfl))
theorem fl_all : ∀ o, ∀ q ∈ flk o, (q.2.1 < 13 ∧ q.2.2.1 < (cT q.2.1).2.2) ∧ fW o q.1 q.2.1 q.2.2.1 ∈ gtb := by
  intro o q h
  match o, h with
  | 0, h => exact ⟨flb_0 q h, fl_0 q h⟩
  | 1, h => exact ⟨flb_1 q h, fl_1 q h⟩
  | 2, h => exact ⟨flb_2 q h, fl_2 q h⟩
  | 3, h => exact ⟨flb_3 q h, fl_3 q h⟩
  | 4, h => exact ⟨flb_4 q h, fl_4 q h⟩
  | 5, h => exact ⟨flb_5 q h, fl_5 q h⟩
  | 6, h => exact ⟨flb_6 q h, fl_6 q h⟩
  | 7, h => exact ⟨flb_7 q h, fl_7 q h⟩
  | 8, h => exact ⟨flb_8 q h, fl_8 q h⟩
  | 9, h => exact ⟨flb_9 q h, fl_9 q h⟩
  | 10, h => exact ⟨flb_10 q h, fl_10 q h⟩
  | 11, h => exact ⟨flb_11 q h, fl_11 q h⟩
  | 12, h => exact ⟨flb_12 q h, fl_12 q h⟩
  | 13, h => exact ⟨flb_13 q h, fl_13 q h⟩
  | 14, h => exact ⟨flb_14 q h, fl_14 q h⟩
  | 15, h => exact ⟨flb_15 q h, fl_15 q h⟩
  | n + 16, h => exact absurd h (by simp [flk, fl_t])
theorem fn_all : ∀ o, ∀ q ∈ fnk o, (q.2.1 < 13 ∧ q.2.2.1 < (cT q.2.1).2.2) ∧ fV o q.1 q.2.1 q.2.2.1 ∈ nws := by
  intro o q h
  match o, h with
  | 0, h => exact ⟨fnb_0 q h, fn_0 q h⟩
  | 1, h => exact ⟨fnb_1 q h, fn_1 q h⟩
  | 2, h => exact ⟨fnb_2 q h, fn_2 q h⟩
  | 3, h => exact ⟨fnb_3 q h, fn_3 q h⟩
  | 4, h => exact ⟨fnb_4 q h, fn_4 q h⟩
  | 5, h => exact ⟨fnb_5 q h, fn_5 q h⟩
  | 6, h => exact ⟨fnb_6 q h, fn_6 q h⟩
  | 7, h => exact ⟨fnb_7 q h, fn_7 q h⟩
  | 8, h => exact ⟨fnb_8 q h, fn_8 q h⟩
  | 9, h => exact ⟨fnb_9 q h, fn_9 q h⟩
  | 10, h => exact ⟨fnb_10 q h, fn_10 q h⟩
  | 11, h => exact ⟨fnb_11 q h, fn_11 q h⟩
  | 12, h => exact ⟨fnb_12 q h, fn_12 q h⟩
  | 13, h => exact ⟨fnb_13 q h, fn_13 q h⟩
  | 14, h => exact ⟨fnb_14 q h, fn_14 q h⟩
  | 15, h => exact ⟨fnb_15 q h, fn_15 q h⟩
  | n + 16, h => exact absurd h (by simp [fnk, fn_t])
theorem ml_all : ∀ o, ∀ q ∈ mlk o, mP q.2.1 q.2.2.1 ∧ mF q.2.1 ∧ mW o q.1 q.2.1 ∈ gtb := by
  intro o q h
  match o, h with
  | 0, h => exact ⟨mlb_0 q h, mlm_0 q h, ml_0 q h⟩
  | 1, h => exact ⟨mlb_1 q h, mlm_1 q h, ml_1 q h⟩
  | 2, h => exact ⟨mlb_2 q h, mlm_2 q h, ml_2 q h⟩
  | 3, h => exact ⟨mlb_3 q h, mlm_3 q h, ml_3 q h⟩
  | 4, h => exact ⟨mlb_4 q h, mlm_4 q h, ml_4 q h⟩
  | 5, h => exact ⟨mlb_5 q h, mlm_5 q h, ml_5 q h⟩
  | 6, h => exact ⟨mlb_6 q h, mlm_6 q h, ml_6 q h⟩
  | 7, h => exact ⟨mlb_7 q h, mlm_7 q h, ml_7 q h⟩
  | 8, h => exact ⟨mlb_8 q h, mlm_8 q h, ml_8 q h⟩
  | 9, h => exact ⟨mlb_9 q h, mlm_9 q h, ml_9 q h⟩
  | 10, h => exact ⟨mlb_10 q h, mlm_10 q h, ml_10 q h⟩
  | 11, h => exact ⟨mlb_11 q h, mlm_11 q h, ml_11 q h⟩
  | 12, h => exact ⟨mlb_12 q h, mlm_12 q h, ml_12 q h⟩
  | 13, h => exact ⟨mlb_13 q h, mlm_13 q h, ml_13 q h⟩
  | 14, h => exact ⟨mlb_14 q h, mlm_14 q h, ml_14 q h⟩
  | 15, h => exact ⟨mlb_15 q h, mlm_15 q h, ml_15 q h⟩
  | n + 16, h => exact absurd h (by simp [mlk, ml_t])
theorem mn_all : ∀ o, ∀ q ∈ mnk o, mP q.2.1 q.2.2.1 ∧ mF q.2.1 ∧ mV o q.1 q.2.1 ∈ nws := by
  intro o q h
  match o, h with
  | 0, h => exact ⟨mnb_0 q h, mnm_0 q h, mn_0 q h⟩
  | 1, h => exact ⟨mnb_1 q h, mnm_1 q h, mn_1 q h⟩
  | 2, h => exact ⟨mnb_2 q h, mnm_2 q h, mn_2 q h⟩
  | 3, h => exact ⟨mnb_3 q h, mnm_3 q h, mn_3 q h⟩
  | 4, h => exact ⟨mnb_4 q h, mnm_4 q h, mn_4 q h⟩
  | 5, h => exact ⟨mnb_5 q h, mnm_5 q h, mn_5 q h⟩
  | 6, h => exact ⟨mnb_6 q h, mnm_6 q h, mn_6 q h⟩
  | 7, h => exact ⟨mnb_7 q h, mnm_7 q h, mn_7 q h⟩
  | 8, h => exact ⟨mnb_8 q h, mnm_8 q h, mn_8 q h⟩
  | 9, h => exact ⟨mnb_9 q h, mnm_9 q h, mn_9 q h⟩
  | 10, h => exact ⟨mnb_10 q h, mnm_10 q h, mn_10 q h⟩
  | 11, h => exact ⟨mnb_11 q h, mnm_11 q h, mn_11 q h⟩
  | 12, h => exact ⟨mnb_12 q h, mnm_12 q h, mn_12 q h⟩
  | 13, h => exact ⟨mnb_13 q h, mnm_13 q h, mn_13 q h⟩
  | 14, h => exact ⟨mnb_14 q h, mnm_14 q h, mn_14 q h⟩
  | 15, h => exact ⟨mnb_15 q h, mnm_15 q h, mn_15 q h⟩
  | n + 16, h => exact absurd h (by simp [mnk, mn_t])
end
section
/-! ===== constants, and the three methods of the JDK that have rows of their own ===== -/
def cI_t : List (List (Nat × Int32 × Nat)) := [[], [(39, 1000000, 1010)], [], [], [], [], [], [(171, 1103515245, 1046)], [], [], [], [], [(348, 1103515245, 1797), (373, 99999, 1773)], [], [], [(265, 1431655765, 1176), (266, 858993459, 1177), (267, 252645135, 1178)]]
def cJ_t : List (List (Nat × Nat × Nat)) := [[], [], [], [], [], [], [], [], [], [], [(89, 10, 674), (91, 48, 675), (96, 27, 361)], [], [(193, 27, 1320)], [], [], []]
def sp_t : List (List (Nat × Nat × Nat)) := [[(32, 3, 855), (42, 1, 899)], [(69, 1, 1179)], [], [(75, 3, 850)], [], [(45, 1, 907), (77, 2, 906)], [(75, 1, 1281)], [(90, 2, 1199), (165, 1, 1052)], [(29, 3, 559), (61, 1, 1188)], [], [], [(189, 2, 962)], [], [], [], []]
def cIk (o : Nat) : List (Nat × Int32 × Nat) := cI_t.getD o []
def cJk (o : Nat) : List (Nat × Nat × Nat) := cJ_t.getD o []
def spk (o : Nat) : List (Nat × Nat × Nat) := sp_t.getD o []
def spN (k : Nat) : MethodName := if k = 1 then Lib.Math.max.name else if k = 2 then Lib.Math.min.name else arraycopyName
set_option maxRecDepth 100000 in
theorem cI_0 : (cIk 0).map (fun q => lw_tbl[q.2.2]?) = (cIk 0).map (fun q => some (Cond.constant (oN 0) q.1 q.2.1)) := rfl
set_option maxRecDepth 100000 in
theorem cJ_0 : (cJk 0).map (fun q => lw_tbl[q.2.2]?) = (cJk 0).map (fun q => some (Cond.constantLong (oN 0) q.1 (Int64.ofNat q.2.1))) := rfl
set_option maxRecDepth 100000 in
theorem sp_0 : (spk 0).map (fun q => lw_tbl[q.2.2]?) = (spk 0).map (fun q => some (Cond.methodLink (oN 0) q.1 (spN q.2.1))) := rfl
set_option maxRecDepth 100000 in
theorem cI_1 : (cIk 1).map (fun q => lw_tbl[q.2.2]?) = (cIk 1).map (fun q => some (Cond.constant (oN 1) q.1 q.2.1)) := rfl
set_option maxRecDepth 100000 in
theorem cJ_1 : (cJk 1).map (fun q => lw_tbl[q.2.2]?) = (cJk 1).map (fun q => some (Cond.constantLong (oN 1) q.1 (Int64.ofNat q.2.1))) := rfl
set_option maxRecDepth 100000 in
theorem sp_1 : (spk 1).map (fun q => lw_tbl[q.2.2]?) = (spk 1).map (fun q => some (Cond.methodLink (oN 1) q.1 (spN q.2.1))) := rfl
set_option maxRecDepth 100000 in
theorem cI_2 : (cIk 2).map (fun q => lw_tbl[q.2.2]?) = (cIk 2).map (fun q => some (Cond.constant (oN 2) q.1 q.2.1)) := rfl
set_option maxRecDepth 100000 in
theorem cJ_2 : (cJk 2).map (fun q => lw_tbl[q.2.2]?) = (cJk 2).map (fun q => some (Cond.constantLong (oN 2) q.1 (Int64.ofNat q.2.1))) := rfl
set_option maxRecDepth 100000 in
theorem sp_2 : (spk 2).map (fun q => lw_tbl[q.2.2]?) = (spk 2).map (fun q => some (Cond.methodLink (oN 2) q.1 (spN q.2.1))) := rfl
set_option maxRecDepth 100000 in
theorem cI_3 : (cIk 3).map (fun q => lw_tbl[q.2.2]?) = (cIk 3).map (fun q => some (Cond.constant (oN 3) q.1 q.2.1)) := rfl
set_option maxRecDepth 100000 in
theorem cJ_3 : (cJk 3).map (fun q => lw_tbl[q.2.2]?) = (cJk 3).map (fun q => some (Cond.constantLong (oN 3) q.1 (Int64.ofNat q.2.1))) := rfl
set_option maxRecDepth 100000 in
theorem sp_3 : (spk 3).map (fun q => lw_tbl[q.2.2]?) = (spk 3).map (fun q => some (Cond.methodLink (oN 3) q.1 (spN q.2.1))) := rfl
set_option maxRecDepth 100000 in
theorem cI_4 : (cIk 4).map (fun q => lw_tbl[q.2.2]?) = (cIk 4).map (fun q => some (Cond.constant (oN 4) q.1 q.2.1)) := rfl
set_option maxRecDepth 100000 in
theorem cJ_4 : (cJk 4).map (fun q => lw_tbl[q.2.2]?) = (cJk 4).map (fun q => some (Cond.constantLong (oN 4) q.1 (Int64.ofNat q.2.1))) := rfl
set_option maxRecDepth 100000 in
theorem sp_4 : (spk 4).map (fun q => lw_tbl[q.2.2]?) = (spk 4).map (fun q => some (Cond.methodLink (oN 4) q.1 (spN q.2.1))) := rfl
set_option maxRecDepth 100000 in
theorem cI_5 : (cIk 5).map (fun q => lw_tbl[q.2.2]?) = (cIk 5).map (fun q => some (Cond.constant (oN 5) q.1 q.2.1)) := rfl
set_option maxRecDepth 100000 in
theorem cJ_5 : (cJk 5).map (fun q => lw_tbl[q.2.2]?) = (cJk 5).map (fun q => some (Cond.constantLong (oN 5) q.1 (Int64.ofNat q.2.1))) := rfl
set_option maxRecDepth 100000 in
theorem sp_5 : (spk 5).map (fun q => lw_tbl[q.2.2]?) = (spk 5).map (fun q => some (Cond.methodLink (oN 5) q.1 (spN q.2.1))) := rfl
set_option maxRecDepth 100000 in
theorem cI_6 : (cIk 6).map (fun q => lw_tbl[q.2.2]?) = (cIk 6).map (fun q => some (Cond.constant (oN 6) q.1 q.2.1)) := rfl
set_option maxRecDepth 100000 in
theorem cJ_6 : (cJk 6).map (fun q => lw_tbl[q.2.2]?) = (cJk 6).map (fun q => some (Cond.constantLong (oN 6) q.1 (Int64.ofNat q.2.1))) := rfl
set_option maxRecDepth 100000 in
theorem sp_6 : (spk 6).map (fun q => lw_tbl[q.2.2]?) = (spk 6).map (fun q => some (Cond.methodLink (oN 6) q.1 (spN q.2.1))) := rfl
set_option maxRecDepth 100000 in
theorem cI_7 : (cIk 7).map (fun q => lw_tbl[q.2.2]?) = (cIk 7).map (fun q => some (Cond.constant (oN 7) q.1 q.2.1)) := rfl
set_option maxRecDepth 100000 in
theorem cJ_7 : (cJk 7).map (fun q => lw_tbl[q.2.2]?) = (cJk 7).map (fun q => some (Cond.constantLong (oN 7) q.1 (Int64.ofNat q.2.1))) := rfl
set_option maxRecDepth 100000 in
theorem sp_7 : (spk 7).map (fun q => lw_tbl[q.2.2]?) = (spk 7).map (fun q => some (Cond.methodLink (oN 7) q.1 (spN q.2.1))) := rfl
set_option maxRecDepth 100000 in
theorem cI_8 : (cIk 8).map (fun q => lw_tbl[q.2.2]?) = (cIk 8).map (fun q => some (Cond.constant (oN 8) q.1 q.2.1)) := rfl
set_option maxRecDepth 100000 in
theorem cJ_8 : (cJk 8).map (fun q => lw_tbl[q.2.2]?) = (cJk 8).map (fun q => some (Cond.constantLong (oN 8) q.1 (Int64.ofNat q.2.1))) := rfl
set_option maxRecDepth 100000 in
theorem sp_8 : (spk 8).map (fun q => lw_tbl[q.2.2]?) = (spk 8).map (fun q => some (Cond.methodLink (oN 8) q.1 (spN q.2.1))) := rfl
set_option maxRecDepth 100000 in
theorem cI_9 : (cIk 9).map (fun q => lw_tbl[q.2.2]?) = (cIk 9).map (fun q => some (Cond.constant (oN 9) q.1 q.2.1)) := rfl
set_option maxRecDepth 100000 in
theorem cJ_9 : (cJk 9).map (fun q => lw_tbl[q.2.2]?) = (cJk 9).map (fun q => some (Cond.constantLong (oN 9) q.1 (Int64.ofNat q.2.1))) := rfl
set_option maxRecDepth 100000 in
theorem sp_9 : (spk 9).map (fun q => lw_tbl[q.2.2]?) = (spk 9).map (fun q => some (Cond.methodLink (oN 9) q.1 (spN q.2.1))) := rfl
set_option maxRecDepth 100000 in
theorem cI_10 : (cIk 10).map (fun q => lw_tbl[q.2.2]?) = (cIk 10).map (fun q => some (Cond.constant (oN 10) q.1 q.2.1)) := rfl
set_option maxRecDepth 100000 in
theorem cJ_10 : (cJk 10).map (fun q => lw_tbl[q.2.2]?) = (cJk 10).map (fun q => some (Cond.constantLong (oN 10) q.1 (Int64.ofNat q.2.1))) := rfl
set_option maxRecDepth 100000 in
theorem sp_10 : (spk 10).map (fun q => lw_tbl[q.2.2]?) = (spk 10).map (fun q => some (Cond.methodLink (oN 10) q.1 (spN q.2.1))) := rfl
set_option maxRecDepth 100000 in
theorem cI_11 : (cIk 11).map (fun q => lw_tbl[q.2.2]?) = (cIk 11).map (fun q => some (Cond.constant (oN 11) q.1 q.2.1)) := rfl
set_option maxRecDepth 100000 in
theorem cJ_11 : (cJk 11).map (fun q => lw_tbl[q.2.2]?) = (cJk 11).map (fun q => some (Cond.constantLong (oN 11) q.1 (Int64.ofNat q.2.1))) := rfl
set_option maxRecDepth 100000 in
theorem sp_11 : (spk 11).map (fun q => lw_tbl[q.2.2]?) = (spk 11).map (fun q => some (Cond.methodLink (oN 11) q.1 (spN q.2.1))) := rfl
set_option maxRecDepth 100000 in
theorem cI_12 : (cIk 12).map (fun q => lw_tbl[q.2.2]?) = (cIk 12).map (fun q => some (Cond.constant (oN 12) q.1 q.2.1)) := rfl
set_option maxRecDepth 100000 in
theorem cJ_12 : (cJk 12).map (fun q => lw_tbl[q.2.2]?) = (cJk 12).map (fun q => some (Cond.constantLong (oN 12) q.1 (Int64.ofNat q.2.1))) := rfl
set_option maxRecDepth 100000 in
theorem sp_12 : (spk 12).map (fun q => lw_tbl[q.2.2]?) = (spk 12).map (fun q => some (Cond.methodLink (oN 12) q.1 (spN q.2.1))) := rfl
set_option maxRecDepth 100000 in
theorem cI_13 : (cIk 13).map (fun q => lw_tbl[q.2.2]?) = (cIk 13).map (fun q => some (Cond.constant (oN 13) q.1 q.2.1)) := rfl
set_option maxRecDepth 100000 in
theorem cJ_13 : (cJk 13).map (fun q => lw_tbl[q.2.2]?) = (cJk 13).map (fun q => some (Cond.constantLong (oN 13) q.1 (Int64.ofNat q.2.1))) := rfl
set_option maxRecDepth 100000 in
theorem sp_13 : (spk 13).map (fun q => lw_tbl[q.2.2]?) = (spk 13).map (fun q => some (Cond.methodLink (oN 13) q.1 (spN q.2.1))) := rfl
set_option maxRecDepth 100000 in
theorem cI_14 : (cIk 14).map (fun q => lw_tbl[q.2.2]?) = (cIk 14).map (fun q => some (Cond.constant (oN 14) q.1 q.2.1)) := rfl
set_option maxRecDepth 100000 in
theorem cJ_14 : (cJk 14).map (fun q => lw_tbl[q.2.2]?) = (cJk 14).map (fun q => some (Cond.constantLong (oN 14) q.1 (Int64.ofNat q.2.1))) := rfl
set_option maxRecDepth 100000 in
theorem sp_14 : (spk 14).map (fun q => lw_tbl[q.2.2]?) = (spk 14).map (fun q => some (Cond.methodLink (oN 14) q.1 (spN q.2.1))) := rfl
set_option maxRecDepth 100000 in
theorem cI_15 : (cIk 15).map (fun q => lw_tbl[q.2.2]?) = (cIk 15).map (fun q => some (Cond.constant (oN 15) q.1 q.2.1)) := rfl
set_option maxRecDepth 100000 in
theorem cJ_15 : (cJk 15).map (fun q => lw_tbl[q.2.2]?) = (cJk 15).map (fun q => some (Cond.constantLong (oN 15) q.1 (Int64.ofNat q.2.1))) := rfl
set_option maxRecDepth 100000 in
theorem sp_15 : (spk 15).map (fun q => lw_tbl[q.2.2]?) = (spk 15).map (fun q => some (Cond.methodLink (oN 15) q.1 (spN q.2.1))) := rfl
theorem cI_all : ∀ o, ∀ q ∈ cIk o, Cond.constant (oN o) q.1 q.2.1 ∈ gtb := by
  intro o q h
  match o, h with
  | 0, h => exact gats cI_0 (fun _ => rfl) q h
  | 1, h => exact gats cI_1 (fun _ => rfl) q h
  | 2, h => exact gats cI_2 (fun _ => rfl) q h
  | 3, h => exact gats cI_3 (fun _ => rfl) q h
  | 4, h => exact gats cI_4 (fun _ => rfl) q h
  | 5, h => exact gats cI_5 (fun _ => rfl) q h
  | 6, h => exact gats cI_6 (fun _ => rfl) q h
  | 7, h => exact gats cI_7 (fun _ => rfl) q h
  | 8, h => exact gats cI_8 (fun _ => rfl) q h
  | 9, h => exact gats cI_9 (fun _ => rfl) q h
  | 10, h => exact gats cI_10 (fun _ => rfl) q h
  | 11, h => exact gats cI_11 (fun _ => rfl) q h
  | 12, h => exact gats cI_12 (fun _ => rfl) q h
  | 13, h => exact gats cI_13 (fun _ => rfl) q h
  | 14, h => exact gats cI_14 (fun _ => rfl) q h
  | 15, h => exact gats cI_15 (fun _ => rfl) q h
  | n + 16, h => exact absurd h (by simp [cIk, cI_t])
theorem cJ_all : ∀ o, ∀ q ∈ cJk o, Cond.constantLong (oN o) q.1 (Int64.ofNat q.2.1) ∈ gtb := by
  intro o q h
  match o, h with
  | 0, h => exact gats cJ_0 (fun _ => rfl) q h
  | 1, h => exact gats cJ_1 (fun _ => rfl) q h
  | 2, h => exact gats cJ_2 (fun _ => rfl) q h
  | 3, h => exact gats cJ_3 (fun _ => rfl) q h
  | 4, h => exact gats cJ_4 (fun _ => rfl) q h
  | 5, h => exact gats cJ_5 (fun _ => rfl) q h
  | 6, h => exact gats cJ_6 (fun _ => rfl) q h
  | 7, h => exact gats cJ_7 (fun _ => rfl) q h
  | 8, h => exact gats cJ_8 (fun _ => rfl) q h
  | 9, h => exact gats cJ_9 (fun _ => rfl) q h
  | 10, h => exact gats cJ_10 (fun _ => rfl) q h
  | 11, h => exact gats cJ_11 (fun _ => rfl) q h
  | 12, h => exact gats cJ_12 (fun _ => rfl) q h
  | 13, h => exact gats cJ_13 (fun _ => rfl) q h
  | 14, h => exact gats cJ_14 (fun _ => rfl) q h
  | 15, h => exact gats cJ_15 (fun _ => rfl) q h
  | n + 16, h => exact absurd h (by simp [cJk, cJ_t])
theorem sp_all : ∀ o, ∀ q ∈ spk o, Cond.methodLink (oN o) q.1 (spN q.2.1) ∈ gtb := by
  intro o q h
  match o, h with
  | 0, h => exact gats sp_0 (fun _ => rfl) q h
  | 1, h => exact gats sp_1 (fun _ => rfl) q h
  | 2, h => exact gats sp_2 (fun _ => rfl) q h
  | 3, h => exact gats sp_3 (fun _ => rfl) q h
  | 4, h => exact gats sp_4 (fun _ => rfl) q h
  | 5, h => exact gats sp_5 (fun _ => rfl) q h
  | 6, h => exact gats sp_6 (fun _ => rfl) q h
  | 7, h => exact gats sp_7 (fun _ => rfl) q h
  | 8, h => exact gats sp_8 (fun _ => rfl) q h
  | 9, h => exact gats sp_9 (fun _ => rfl) q h
  | 10, h => exact gats sp_10 (fun _ => rfl) q h
  | 11, h => exact gats sp_11 (fun _ => rfl) q h
  | 12, h => exact gats sp_12 (fun _ => rfl) q h
  | 13, h => exact gats sp_13 (fun _ => rfl) q h
  | 14, h => exact gats sp_14 (fun _ => rfl) q h
  | 15, h => exact gats sp_15 (fun _ => rfl) q h
  | n + 16, h => exact absurd h (by simp [spk, sp_t])
set_option maxRecDepth 100000 in
theorem w_acn : Cond.native arraycopyName ∈ gtb := gat (i := 561) rfl rfl
set_option maxRecDepth 100000 in
theorem w_acs : Cond.static arraycopyName ∈ gtb := gat (i := 560) rfl rfl
set_option maxRecDepth 100000 in
theorem w_aci : Cond.initialized "java/lang/System" ∈ gtb := gat (i := 124) rfl rfl
set_option maxRecDepth 100000 in
theorem w_mxs : Cond.static Lib.Math.max.name ∈ gtb := gat (i := 693) rfl rfl
set_option maxRecDepth 100000 in
theorem w_mxc : Cond.code Lib.Math.max.name Lib.Math.max.code 2 (some .int) ∈ gtb := gat (i := 694) rfl rfl
set_option maxRecDepth 100000 in
theorem w_mis : Cond.static Lib.Math.min.name ∈ gtb := gat (i := 696) rfl rfl
set_option maxRecDepth 100000 in
theorem w_mic : Cond.code Lib.Math.min.name Lib.Math.min.code 2 (some .int) ∈ gtb := gat (i := 697) rfl rfl
set_option maxRecDepth 100000 in
theorem w_mai : Cond.initialized "java/lang/Math" ∈ gtb := gat (i := 127) rfl rfl
end
section
/-! ===== the two literals, and what the JDK's methods answer on them ===== -/
def tx1 : String := "town seam woman cart costs wears puckers toll thread frost seed if then else length sewn week frosty carted which load new ways "
def tx2 : String := ";=+-*/<()"
def by1 : List Int32 := [116, 111, 119, 110, 32, 115, 101, 97, 109, 32, 119, 111, 109, 97, 110, 32, 99, 97, 114, 116, 32, 99, 111, 115, 116, 115, 32, 119, 101, 97, 114, 115, 32, 112, 117, 99, 107, 101, 114, 115, 32, 116, 111, 108, 108, 32, 116, 104, 114, 101, 97, 100, 32, 102, 114, 111, 115, 116, 32, 115, 101, 101, 100, 32, 105, 102, 32, 116, 104, 101, 110, 32, 101, 108, 115, 101, 32, 108, 101, 110, 103, 116, 104, 32, 115, 101, 119, 110, 32, 119, 101, 101, 107, 32, 102, 114, 111, 115, 116, 121, 32, 99, 97, 114, 116, 101, 100, 32, 119, 104, 105, 99, 104, 32, 108, 111, 97, 100, 32, 110, 101, 119, 32, 119, 97, 121, 115, 32]
def by2 : List Int32 := [59, 61, 43, 45, 42, 47, 60, 40, 41]
abbrev yk_len : MethodName := ⟨"java/lang/String", "length", "()I"⟩
abbrev bk_len : ByteArray := prog_18_method_54_code
theorem dk_len_0 : decode bk_len 0 = .ok (.aload_n 0, 1) := by decide +kernel
theorem dk_len_1 : decode bk_len 1 = .ok (.getfield 9, 3) := by decide +kernel
theorem dk_len_4 : decode bk_len 4 = .ok (.arraylength, 1) := by decide +kernel
theorem dk_len_5 : decode bk_len 5 = .ok (.aload_n 0, 1) := by decide +kernel
theorem dk_len_6 : decode bk_len 6 = .ok (.invokevirtual 335, 3) := by decide +kernel
theorem dk_len_9 : decode bk_len 9 = .ok (.ishr, 1) := by decide +kernel
theorem dk_len_10 : decode bk_len 10 = .ok (.ireturn, 1) := by decide +kernel
abbrev yk_chr : MethodName := ⟨"java/lang/String", "charAt", "(I)C"⟩
abbrev bk_chr : ByteArray := prog_18_method_56_code
theorem dk_chr_0 : decode bk_chr 0 = .ok (.aload_n 0, 1) := by decide +kernel
theorem dk_chr_1 : decode bk_chr 1 = .ok (.invokevirtual 492, 3) := by decide +kernel
theorem dk_chr_4 : decode bk_chr 4 = .ok (.ifCond .eq 12, 3) := by decide +kernel
theorem dk_chr_7 : decode bk_chr 7 = .ok (.aload_n 0, 1) := by decide +kernel
theorem dk_chr_8 : decode bk_chr 8 = .ok (.getfield 9, 3) := by decide +kernel
theorem dk_chr_11 : decode bk_chr 11 = .ok (.iload_n 1, 1) := by decide +kernel
theorem dk_chr_12 : decode bk_chr 12 = .ok (.invokestatic 495, 3) := by decide +kernel
theorem dk_chr_15 : decode bk_chr 15 = .ok (.ireturn, 1) := by decide +kernel
theorem dk_chr_16 : decode bk_chr 16 = .ok (.aload_n 0, 1) := by decide +kernel
theorem dk_chr_17 : decode bk_chr 17 = .ok (.getfield 9, 3) := by decide +kernel
theorem dk_chr_20 : decode bk_chr 20 = .ok (.iload_n 1, 1) := by decide +kernel
theorem dk_chr_21 : decode bk_chr 21 = .ok (.invokestatic 498, 3) := by decide +kernel
theorem dk_chr_24 : decode bk_chr 24 = .ok (.ireturn, 1) := by decide +kernel
abbrev yk_ix1 : MethodName := ⟨"java/lang/String", "indexOf", "(I)I"⟩
abbrev bk_ix1 : ByteArray := prog_18_method_79_code
theorem dk_ix1_0 : decode bk_ix1 0 = .ok (.aload_n 0, 1) := by decide +kernel
theorem dk_ix1_1 : decode bk_ix1 1 = .ok (.iload_n 1, 1) := by decide +kernel
theorem dk_ix1_2 : decode bk_ix1 2 = .ok (.iconst 0, 1) := by decide +kernel
theorem dk_ix1_3 : decode bk_ix1 3 = .ok (.invokevirtual 633, 3) := by decide +kernel
theorem dk_ix1_6 : decode bk_ix1 6 = .ok (.ireturn, 1) := by decide +kernel
abbrev yk_ix2 : MethodName := ⟨"java/lang/String", "indexOf", "(II)I"⟩
abbrev bk_ix2 : ByteArray := prog_18_method_80_code
theorem dk_ix2_0 : decode bk_ix2 0 = .ok (.aload_n 0, 1) := by decide +kernel
theorem dk_ix2_1 : decode bk_ix2 1 = .ok (.invokevirtual 492, 3) := by decide +kernel
theorem dk_ix2_4 : decode bk_ix2 4 = .ok (.ifCond .eq 19, 3) := by decide +kernel
theorem dk_ix2_7 : decode bk_ix2 7 = .ok (.aload_n 0, 1) := by decide +kernel
theorem dk_ix2_8 : decode bk_ix2 8 = .ok (.getfield 9, 3) := by decide +kernel
theorem dk_ix2_11 : decode bk_ix2 11 = .ok (.iload_n 1, 1) := by decide +kernel
theorem dk_ix2_12 : decode bk_ix2 12 = .ok (.iload_n 2, 1) := by decide +kernel
theorem dk_ix2_13 : decode bk_ix2 13 = .ok (.aload_n 0, 1) := by decide +kernel
theorem dk_ix2_14 : decode bk_ix2 14 = .ok (.invokevirtual 505, 3) := by decide +kernel
theorem dk_ix2_17 : decode bk_ix2 17 = .ok (.invokestatic 637, 3) := by decide +kernel
theorem dk_ix2_20 : decode bk_ix2 20 = .ok (.goto 16, 3) := by decide +kernel
theorem dk_ix2_23 : decode bk_ix2 23 = .ok (.aload_n 0, 1) := by decide +kernel
theorem dk_ix2_24 : decode bk_ix2 24 = .ok (.getfield 9, 3) := by decide +kernel
theorem dk_ix2_27 : decode bk_ix2 27 = .ok (.iload_n 1, 1) := by decide +kernel
theorem dk_ix2_28 : decode bk_ix2 28 = .ok (.iload_n 2, 1) := by decide +kernel
theorem dk_ix2_29 : decode bk_ix2 29 = .ok (.aload_n 0, 1) := by decide +kernel
theorem dk_ix2_30 : decode bk_ix2 30 = .ok (.invokevirtual 505, 3) := by decide +kernel
theorem dk_ix2_33 : decode bk_ix2 33 = .ok (.invokestatic 640, 3) := by decide +kernel
theorem dk_ix2_36 : decode bk_ix2 36 = .ok (.ireturn, 1) := by decide +kernel
abbrev yk_cod : MethodName := ⟨"java/lang/String", "coder", "()B"⟩
abbrev bk_cod : ByteArray := prog_18_method_152_code
theorem dk_cod_0 : decode bk_cod 0 = .ok (.getstatic 38, 3) := by decide +kernel
theorem dk_cod_3 : decode bk_cod 3 = .ok (.ifCond .eq 10, 3) := by decide +kernel
theorem dk_cod_6 : decode bk_cod 6 = .ok (.aload_n 0, 1) := by decide +kernel
theorem dk_cod_7 : decode bk_cod 7 = .ok (.getfield 15, 3) := by decide +kernel
theorem dk_cod_10 : decode bk_cod 10 = .ok (.goto 4, 3) := by decide +kernel
theorem dk_cod_13 : decode bk_cod 13 = .ok (.iconst 1, 1) := by decide +kernel
theorem dk_cod_14 : decode bk_cod 14 = .ok (.ireturn, 1) := by decide +kernel
abbrev yk_lat : MethodName := ⟨"java/lang/String", "isLatin1", "()Z"⟩
abbrev bk_lat : ByteArray := prog_18_method_154_code
theorem dk_lat_0 : decode bk_lat 0 = .ok (.getstatic 38, 3) := by decide +kernel
theorem dk_lat_3 : decode bk_lat 3 = .ok (.ifCond .eq 14, 3) := by decide +kernel
theorem dk_lat_6 : decode bk_lat 6 = .ok (.aload_n 0, 1) := by decide +kernel
theorem dk_lat_7 : decode bk_lat 7 = .ok (.getfield 15, 3) := by decide +kernel
theorem dk_lat_10 : decode bk_lat 10 = .ok (.ifCond .ne 7, 3) := by decide +kernel
theorem dk_lat_13 : decode bk_lat 13 = .ok (.iconst 1, 1) := by decide +kernel
theorem dk_lat_14 : decode bk_lat 14 = .ok (.goto 4, 3) := by decide +kernel
theorem dk_lat_17 : decode bk_lat 17 = .ok (.iconst 0, 1) := by decide +kernel
theorem dk_lat_18 : decode bk_lat 18 = .ok (.ireturn, 1) := by decide +kernel
abbrev yk_chk : MethodName := ⟨"java/lang/String", "checkIndex", "(II)V"⟩
abbrev bk_chk : ByteArray := prog_18_method_155_code
theorem dk_chk_0 : decode bk_chk 0 = .ok (.iload_n 0, 1) := by decide +kernel
theorem dk_chk_1 : decode bk_chk 1 = .ok (.iload_n 1, 1) := by decide +kernel
theorem dk_chk_2 : decode bk_chk 2 = .ok (.getstatic 1053, 3) := by decide +kernel
theorem dk_chk_5 : decode bk_chk 5 = .ok (.invokestatic 1059, 3) := by decide +kernel
theorem dk_chk_8 : decode bk_chk 8 = .ok (.pop, 1) := by decide +kernel
theorem dk_chk_9 : decode bk_chk 9 = .ok (.return_, 1) := by decide +kernel
abbrev yk_cha : MethodName := ⟨"java/lang/StringLatin1", "charAt", "([BI)C"⟩
abbrev bk_cha : ByteArray := prog_19_method_2_code
theorem dk_cha_0 : decode bk_cha 0 = .ok (.iload_n 1, 1) := by decide +kernel
theorem dk_cha_1 : decode bk_cha 1 = .ok (.aload_n 0, 1) := by decide +kernel
theorem dk_cha_2 : decode bk_cha 2 = .ok (.arraylength, 1) := by decide +kernel
theorem dk_cha_3 : decode bk_cha 3 = .ok (.invokestatic 9, 3) := by decide +kernel
theorem dk_cha_6 : decode bk_cha 6 = .ok (.aload_n 0, 1) := by decide +kernel
theorem dk_cha_7 : decode bk_cha 7 = .ok (.iload_n 1, 1) := by decide +kernel
theorem dk_cha_8 : decode bk_cha 8 = .ok (.baload, 1) := by decide +kernel
theorem dk_cha_9 : decode bk_cha 9 = .ok (.sipush 255, 3) := by decide +kernel
theorem dk_cha_12 : decode bk_cha 12 = .ok (.iand, 1) := by decide +kernel
theorem dk_cha_13 : decode bk_cha 13 = .ok (.i2c, 1) := by decide +kernel
theorem dk_cha_14 : decode bk_cha 14 = .ok (.ireturn, 1) := by decide +kernel
abbrev yk_can : MethodName := ⟨"java/lang/StringLatin1", "canEncode", "(I)Z"⟩
abbrev bk_can : ByteArray := prog_19_method_4_code
theorem dk_can_0 : decode bk_can 0 = .ok (.iload_n 0, 1) := by decide +kernel
theorem dk_can_1 : decode bk_can 1 = .ok (.ifCond .lt 14, 3) := by decide +kernel
theorem dk_can_4 : decode bk_can 4 = .ok (.iload_n 0, 1) := by decide +kernel
theorem dk_can_5 : decode bk_can 5 = .ok (.sipush 255, 3) := by decide +kernel
theorem dk_can_8 : decode bk_can 8 = .ok (.if_icmp .gt 7, 3) := by decide +kernel
theorem dk_can_11 : decode bk_can 11 = .ok (.iconst 1, 1) := by decide +kernel
theorem dk_can_12 : decode bk_can 12 = .ok (.goto 4, 3) := by decide +kernel
theorem dk_can_15 : decode bk_can 15 = .ok (.iconst 0, 1) := by decide +kernel
theorem dk_can_16 : decode bk_can 16 = .ok (.ireturn, 1) := by decide +kernel
abbrev yk_lix : MethodName := ⟨"java/lang/StringLatin1", "indexOf", "([BIII)I"⟩
abbrev bk_lix : ByteArray := prog_19_method_22_code
theorem dk_lix_0 : decode bk_lix 0 = .ok (.iload_n 1, 1) := by decide +kernel
theorem dk_lix_1 : decode bk_lix 1 = .ok (.invokestatic 88, 3) := by decide +kernel
theorem dk_lix_4 : decode bk_lix 4 = .ok (.ifCond .ne 5, 3) := by decide +kernel
theorem dk_lix_7 : decode bk_lix 7 = .ok (.iconst (-1), 1) := by decide +kernel
theorem dk_lix_8 : decode bk_lix 8 = .ok (.ireturn, 1) := by decide +kernel
theorem dk_lix_9 : decode bk_lix 9 = .ok (.iload_n 2, 1) := by decide +kernel
theorem dk_lix_10 : decode bk_lix 10 = .ok (.iconst 0, 1) := by decide +kernel
theorem dk_lix_11 : decode bk_lix 11 = .ok (.invokestatic 92, 3) := by decide +kernel
theorem dk_lix_14 : decode bk_lix 14 = .ok (.istore_n 2, 1) := by decide +kernel
theorem dk_lix_15 : decode bk_lix 15 = .ok (.iload_n 3, 1) := by decide +kernel
theorem dk_lix_16 : decode bk_lix 16 = .ok (.aload_n 0, 1) := by decide +kernel
theorem dk_lix_17 : decode bk_lix 17 = .ok (.arraylength, 1) := by decide +kernel
theorem dk_lix_18 : decode bk_lix 18 = .ok (.invokestatic 38, 3) := by decide +kernel
theorem dk_lix_21 : decode bk_lix 21 = .ok (.istore_n 3, 1) := by decide +kernel
theorem dk_lix_22 : decode bk_lix 22 = .ok (.iload_n 2, 1) := by decide +kernel
theorem dk_lix_23 : decode bk_lix 23 = .ok (.iload_n 3, 1) := by decide +kernel
theorem dk_lix_24 : decode bk_lix 24 = .ok (.if_icmp .lt 5, 3) := by decide +kernel
theorem dk_lix_27 : decode bk_lix 27 = .ok (.iconst (-1), 1) := by decide +kernel
theorem dk_lix_28 : decode bk_lix 28 = .ok (.ireturn, 1) := by decide +kernel
theorem dk_lix_29 : decode bk_lix 29 = .ok (.aload_n 0, 1) := by decide +kernel
theorem dk_lix_30 : decode bk_lix 30 = .ok (.iload_n 1, 1) := by decide +kernel
theorem dk_lix_31 : decode bk_lix 31 = .ok (.iload_n 2, 1) := by decide +kernel
theorem dk_lix_32 : decode bk_lix 32 = .ok (.iload_n 3, 1) := by decide +kernel
theorem dk_lix_33 : decode bk_lix 33 = .ok (.invokestatic 95, 3) := by decide +kernel
theorem dk_lix_36 : decode bk_lix 36 = .ok (.ireturn, 1) := by decide +kernel
abbrev yk_lic : MethodName := ⟨"java/lang/StringLatin1", "indexOfChar", "([BIII)I"⟩
abbrev bk_lic : ByteArray := prog_19_method_23_code
theorem dk_lic_0 : decode bk_lic 0 = .ok (.iload_n 1, 1) := by decide +kernel
theorem dk_lic_1 : decode bk_lic 1 = .ok (.i2b, 1) := by decide +kernel
theorem dk_lic_2 : decode bk_lic 2 = .ok (.istore 4, 2) := by decide +kernel
theorem dk_lic_4 : decode bk_lic 4 = .ok (.iload_n 2, 1) := by decide +kernel
theorem dk_lic_5 : decode bk_lic 5 = .ok (.istore 5, 2) := by decide +kernel
theorem dk_lic_7 : decode bk_lic 7 = .ok (.iload 5, 2) := by decide +kernel
theorem dk_lic_9 : decode bk_lic 9 = .ok (.iload_n 3, 1) := by decide +kernel
theorem dk_lic_10 : decode bk_lic 10 = .ok (.if_icmp .ge 21, 3) := by decide +kernel
theorem dk_lic_13 : decode bk_lic 13 = .ok (.aload_n 0, 1) := by decide +kernel
theorem dk_lic_14 : decode bk_lic 14 = .ok (.iload 5, 2) := by decide +kernel
theorem dk_lic_16 : decode bk_lic 16 = .ok (.baload, 1) := by decide +kernel
theorem dk_lic_17 : decode bk_lic 17 = .ok (.iload 4, 2) := by decide +kernel
theorem dk_lic_19 : decode bk_lic 19 = .ok (.if_icmp .ne 6, 3) := by decide +kernel
theorem dk_lic_22 : decode bk_lic 22 = .ok (.iload 5, 2) := by decide +kernel
theorem dk_lic_24 : decode bk_lic 24 = .ok (.ireturn, 1) := by decide +kernel
theorem dk_lic_25 : decode bk_lic 25 = .ok (.iinc 5 1, 3) := by decide +kernel
theorem dk_lic_28 : decode bk_lic 28 = .ok (.goto (-21), 3) := by decide +kernel
theorem dk_lic_31 : decode bk_lic 31 = .ok (.iconst (-1), 1) := by decide +kernel
theorem dk_lic_32 : decode bk_lic 32 = .ok (.ireturn, 1) := by decide +kernel
abbrev yk_pre : MethodName := ⟨"jdk/internal/util/Preconditions", "checkIndex", "(IILjava/util/function/BiFunction;)I"⟩
abbrev bk_pre : ByteArray := prog_23_method_11_code
theorem dk_pre_0 : decode bk_pre 0 = .ok (.iload_n 0, 1) := by decide +kernel
theorem dk_pre_1 : decode bk_pre 1 = .ok (.ifCond .lt 8, 3) := by decide +kernel
theorem dk_pre_4 : decode bk_pre 4 = .ok (.iload_n 0, 1) := by decide +kernel
theorem dk_pre_5 : decode bk_pre 5 = .ok (.iload_n 1, 1) := by decide +kernel
theorem dk_pre_6 : decode bk_pre 6 = .ok (.if_icmp .lt 10, 3) := by decide +kernel
theorem dk_pre_16 : decode bk_pre 16 = .ok (.iload_n 0, 1) := by decide +kernel
theorem dk_pre_17 : decode bk_pre 17 = .ok (.ireturn, 1) := by decide +kernel
set_option maxRecDepth 100000 in
theorem wk_len_c : Cond.code yk_len bk_len 1 (some .int) ∈ gtb := gat (i := 313) rfl rfl
set_option maxRecDepth 100000 in
theorem wk_len_i : Cond.instanceMethod yk_len ∈ gtb := gat (i := 311) rfl rfl
set_option maxRecDepth 100000 in
theorem wk_len_v : Cond.selects "java/lang/String" yk_len yk_len ∈ gtb := gat (i := 312) rfl rfl
set_option maxRecDepth 100000 in
theorem wk_chr_c : Cond.code yk_chr bk_chr 2 (some .char) ∈ gtb := gat (i := 323) rfl rfl
set_option maxRecDepth 100000 in
theorem wk_chr_i : Cond.instanceMethod yk_chr ∈ gtb := gat (i := 321) rfl rfl
set_option maxRecDepth 100000 in
theorem wk_chr_v : Cond.selects "java/lang/String" yk_chr yk_chr ∈ gtb := gat (i := 322) rfl rfl
set_option maxRecDepth 100000 in
theorem wk_ix1_c : Cond.code yk_ix1 bk_ix1 2 (some .int) ∈ gtb := gat (i := 680) rfl rfl
set_option maxRecDepth 100000 in
theorem wk_ix1_i : Cond.instanceMethod yk_ix1 ∈ gtb := gat (i := 678) rfl rfl
set_option maxRecDepth 100000 in
theorem wk_ix1_v : Cond.selects "java/lang/String" yk_ix1 yk_ix1 ∈ gtb := gat (i := 679) rfl rfl
set_option maxRecDepth 100000 in
theorem wk_ix2_c : Cond.code yk_ix2 bk_ix2 3 (some .int) ∈ gtb := gat (i := 684) rfl rfl
set_option maxRecDepth 100000 in
theorem wk_ix2_i : Cond.instanceMethod yk_ix2 ∈ gtb := gat (i := 682) rfl rfl
set_option maxRecDepth 100000 in
theorem wk_ix2_v : Cond.selects "java/lang/String" yk_ix2 yk_ix2 ∈ gtb := gat (i := 683) rfl rfl
set_option maxRecDepth 100000 in
theorem wk_cod_c : Cond.code yk_cod bk_cod 1 (some .byte) ∈ gtb := gat (i := 317) rfl rfl
set_option maxRecDepth 100000 in
theorem wk_cod_i : Cond.instanceMethod yk_cod ∈ gtb := gat (i := 315) rfl rfl
set_option maxRecDepth 100000 in
theorem wk_cod_v : Cond.selects "java/lang/String" yk_cod yk_cod ∈ gtb := gat (i := 316) rfl rfl
set_option maxRecDepth 100000 in
theorem wk_lat_c : Cond.code yk_lat bk_lat 1 (some .boolean) ∈ gtb := gat (i := 327) rfl rfl
set_option maxRecDepth 100000 in
theorem wk_lat_i : Cond.instanceMethod yk_lat ∈ gtb := gat (i := 325) rfl rfl
set_option maxRecDepth 100000 in
theorem wk_lat_v : Cond.selects "java/lang/String" yk_lat yk_lat ∈ gtb := gat (i := 326) rfl rfl
set_option maxRecDepth 100000 in
theorem wk_chk_c : Cond.code yk_chk bk_chk 2 none ∈ gtb := gat (i := 333) rfl rfl
set_option maxRecDepth 100000 in
theorem wk_chk_s : Cond.static yk_chk ∈ gtb := gat (i := 332) rfl rfl
set_option maxRecDepth 100000 in
theorem wk_cha_c : Cond.code yk_cha bk_cha 2 (some .char) ∈ gtb := gat (i := 330) rfl rfl
set_option maxRecDepth 100000 in
theorem wk_cha_s : Cond.static yk_cha ∈ gtb := gat (i := 329) rfl rfl
set_option maxRecDepth 100000 in
theorem wk_can_c : Cond.code yk_can bk_can 1 (some .boolean) ∈ gtb := gat (i := 691) rfl rfl
set_option maxRecDepth 100000 in
theorem wk_can_s : Cond.static yk_can ∈ gtb := gat (i := 690) rfl rfl
set_option maxRecDepth 100000 in
theorem wk_lix_c : Cond.code yk_lix bk_lix 4 (some .int) ∈ gtb := gat (i := 688) rfl rfl
set_option maxRecDepth 100000 in
theorem wk_lix_s : Cond.static yk_lix ∈ gtb := gat (i := 687) rfl rfl
set_option maxRecDepth 100000 in
theorem wk_lic_c : Cond.code yk_lic bk_lic 6 (some .int) ∈ gtb := gat (i := 700) rfl rfl
set_option maxRecDepth 100000 in
theorem wk_lic_s : Cond.static yk_lic ∈ gtb := gat (i := 699) rfl rfl
set_option maxRecDepth 100000 in
theorem wk_pre_c : Cond.code yk_pre bk_pre 3 (some .int) ∈ gtb := gat (i := 338) rfl rfl
set_option maxRecDepth 100000 in
theorem wk_pre_s : Cond.static yk_pre ∈ gtb := gat (i := 337) rfl rfl
set_option maxRecDepth 100000 in
theorem wk_iS : Cond.initialized "java/lang/String" ∈ gtb := gat (i := 114) rfl rfl
set_option maxRecDepth 100000 in
theorem wk_iL : Cond.initialized "java/lang/StringLatin1" ∈ gtb := gat (i := 115) rfl rfl
set_option maxRecDepth 100000 in
theorem wk_iP : Cond.initialized "jdk/internal/util/Preconditions" ∈ gtb := gat (i := 116) rfl rfl
set_option maxRecDepth 100000 in
theorem wl_cod_335 : Cond.methodLink "java/lang/String" 335 yk_cod ∈ gtb := gat (i := 314) rfl rfl
set_option maxRecDepth 100000 in
theorem wl_lat_492 : Cond.methodLink "java/lang/String" 492 yk_lat ∈ gtb := gat (i := 324) rfl rfl
set_option maxRecDepth 100000 in
theorem wl_cha_495 : Cond.methodLink "java/lang/String" 495 yk_cha ∈ gtb := gat (i := 328) rfl rfl
set_option maxRecDepth 100000 in
theorem wl_chk_9 : Cond.methodLink "java/lang/StringLatin1" 9 yk_chk ∈ gtb := gat (i := 331) rfl rfl
set_option maxRecDepth 100000 in
theorem wl_pre_1059 : Cond.methodLink "java/lang/String" 1059 yk_pre ∈ gtb := gat (i := 336) rfl rfl
set_option maxRecDepth 100000 in
theorem wl_ix2_633 : Cond.methodLink "java/lang/String" 633 yk_ix2 ∈ gtb := gat (i := 681) rfl rfl
set_option maxRecDepth 100000 in
theorem wl_len_505 : Cond.methodLink "java/lang/String" 505 yk_len ∈ gtb := gat (i := 685) rfl rfl
set_option maxRecDepth 100000 in
theorem wl_lix_637 : Cond.methodLink "java/lang/String" 637 yk_lix ∈ gtb := gat (i := 686) rfl rfl
set_option maxRecDepth 100000 in
theorem wl_can_88 : Cond.methodLink "java/lang/StringLatin1" 88 yk_can ∈ gtb := gat (i := 689) rfl rfl
set_option maxRecDepth 100000 in
theorem wl_lic_95 : Cond.methodLink "java/lang/StringLatin1" 95 yk_lic ∈ gtb := gat (i := 698) rfl rfl
set_option maxRecDepth 100000 in
theorem wl_len_31 : Cond.methodLink "SewnRoads$Tokens" 31 yk_len ∈ gtb := gat (i := 310) rfl rfl
set_option maxRecDepth 100000 in
theorem wl_chr_37 : Cond.methodLink "SewnRoads$Tokens" 37 yk_chr ∈ gtb := gat (i := 320) rfl rfl
set_option maxRecDepth 100000 in
theorem wl_ix1_80 : Cond.methodLink "SewnRoads$Tokens" 80 yk_ix1 ∈ gtb := gat (i := 677) rfl rfl
set_option maxRecDepth 100000 in
theorem wl_max : Cond.methodLink "java/lang/StringLatin1" 92 Lib.Math.max.name ∈ gtb := gat (i := 692) rfl rfl
set_option maxRecDepth 100000 in
theorem wl_min : Cond.methodLink "java/lang/StringLatin1" 38 Lib.Math.min.name ∈ gtb := gat (i := 695) rfl rfl
set_option maxRecDepth 100000 in
theorem wf_val : Cond.fieldLink "java/lang/String" 9 "java/lang/String" "value" "[B" ∈ gtb := gat (i := 1943) rfl rfl
set_option maxRecDepth 100000 in
theorem wf_cod : Cond.fieldLink "java/lang/String" 15 "java/lang/String" "coder" "B" ∈ gtb := gat (i := 1944) rfl rfl
set_option maxRecDepth 100000 in
theorem wf_cmp : Cond.fieldLink "java/lang/String" 38 "java/lang/String" "COMPACT_STRINGS" "Z" ∈ gtb := gat (i := 318) rfl rfl
set_option maxRecDepth 100000 in
theorem wf_sio : Cond.fieldLink "java/lang/String" 1053 "jdk/internal/util/Preconditions" "SIOOBE_FORMATTER" "Ljava/util/function/BiFunction;" ∈ gtb := gat (i := 334) rfl rfl
end
section
/-! ===== contracts of the JDK's string methods over the two literals ===== -/
def SGs (ad : Nat → Nat) (A : Nat → Prop) (U : State) (H : Heap) : Prop := vk_S 2 [128, 9] [by1, by2] (fun i => ad (100001 + 2 * i)) (fun i => ad (100002 + 2 * i)) A U H ∧ va_Z "java/lang/String" "COMPACT_STRINGS" "Z" (.int 1) A U H ∧ va_Zq "jdk/internal/util/Preconditions" "SIOOBE_FORMATTER" "Ljava/util/function/BiFunction;" A U H
theorem SGs.go {ad : Nat → Nat} {A B : Nat → Prop} {s U : State} {H0 H : Heap} (h : SGs ad A s H0) (hvm : s.vm.Alike U.vm) (hq : ∀ a : Nat, a < H0.size → ¬ A a → H[a]? = H0[a]?) (hAB : ∀ q, B q → A q) : SGs ad B U H :=
  ⟨((vk_S.moved hvm h.1).kept hq).narrow hAB, ((va_Z.moved hvm h.2.1).kept hq).narrow hAB, ((va_Zq.moved hvm h.2.2).kept hq).narrow hAB⟩
def p_rk (d : Nat) : Room := { frames := d, cells := 0, slots := 0, locals := 64 * d }
def MetK (l : Launch) (y : MethodName) (bytes : ByteArray) (mL : Nat) (ret : Option FieldType) (d : Nat) (as : List Value) (ad : Nat → Nat) (Qc : (Nat → Prop) → Array Value → State → Outcome → State → Prop) : Prop :=
  ∀ sz, Met l y (Cond.code y bytes mL ret :: gtb) (p_rk d) (va_Pc as (fun U => U.heap.size = sz ∧ SGs ad (fun q => sz ≤ q) U U.heap)) (Qc (fun q => sz ≤ q)) 0 0 (fun q => sz ≤ q)
def QKi (v : Int32) (A : Nat → Prop) : Array Value → State → Outcome → State → Prop := va_Qi (S := Unit) (fun x _ => x = v) (fun _ _ => True) A
def QKv (A : Nat → Prop) : Array Value → State → Outcome → State → Prop := va_Qv (S := Unit) (fun _ => True) (fun _ _ => True) A
theorem k_of {l : Launch} {y : MethodName} {bytes : ByteArray} {mL : Nat} {ret : Option FieldType} {d : Nat} {as : List Value} {ad : Nat → Nat} {Qc : (Nat → Prop) → Array Value → State → Outcome → State → Prop} (hpn : plainName y.cls = true) (hlen : (lg_sl as).length ≤ mL)
    (body : ∀ (p : Program) (e : Env) (s : State) (m : MethodId) (args : Array Value) (below : List Frame) (meth : Method) (c : Code) (ls : Array Slot), p.tables.exec = Jvm.exec → c.code = bytes → meth.sig.returnType = ret → (∀ w ∈ gtb, w.before args s = true) → s.vm.findClass y.cls = some m.cls → meth.locks = false → c.maxLocals = mL → SGs ad (fun q => s.heap.size ≤ q) s s.heap → lv_has ls mL (lv_args 0 as) →
      W p l e (p_rk d) s m args below meth c s.heap [] 0 0 (MQ below (Qc (fun q => s.heap.size ≤ q)) args s 0 0 (fun q => s.heap.size ≤ q)) (F0 m 0 ls [])) : MetK l y bytes mL ret d as ad Qc := by
  intro sz
  refine Met.ofW (cc := bytes) (maxL := mL) (ret := ret) hpn rfl ?_
  intro p e s m args below meth c s₁ B hml hv
  obtain ⟨rfl, hsz, hG⟩ := hv
  subst hsz
  have hts := atoms_spec (ws := Cond.code y bytes mL ret :: gtb) B.pre
  rw [lg_entry_eq]
  exact body p e s m _ below meth c _ B.exec B.bytes B.returns (fun w hw => hts w (List.mem_cons_of_mem _ hw)) (findClass_of_methodNamed B.named) B.notSynchronized hml hG (lv_entry as hlen)
theorem k_blind {ad : Nat → Nat} {as : List Value} {sz : Nat} {A : Nat → Prop} : FrameBlind (va_Pc as (fun U => U.heap.size = sz ∧ SGs ad A U U.heap)) := by
  intro a U g mk q
  obtain ⟨q0, q1, qG⟩ := q
  exact ⟨q0, q1, qG.go (U := U.calling g mk a) (Vm.Alike.refl U.vm) (fun _ _ _ => rfl) (fun _ h => h)⟩
section KC
variable {p : Program} {l : Launch} {e : Env} {R : Room} {s : State} {m : MethodId} {args : Array Value} {below : List Frame} {meth : Method} {c : Code} {H : Heap} {locs : List Loc} {cells slots : Nat} {Q : State → Prop} {cc : ByteArray} {pc : Nat} {ls : Array Slot} {rest : List Value}
variable {A : Nat → Prop} {ad : Nat → Nat} {own : String} {idx : Nat} {y : MethodName} {bytes : ByteArray} {mL d n : Nat} {ret : Option FieldType} {as : List Value} {v : Int32} {q : Nat}
theorem k_pre (hG : SGs ad A s s.heap) (hS : va_S A s.heap H locs) (hAq : ∀ q, s.heap.size ≤ q → A q) : PreS s H (va_Pc as (fun U => U.heap.size = H.size ∧ SGs ad (fun q => H.size ≤ q) U U.heap)) as :=
  ⟨k_blind, fun U hU hW => ⟨rfl, by rw [hU], by rw [hU]; exact hG.go hW.alike hS.2.1 (fun q hq => hAq q (Nat.le_trans hS.1 hq))⟩⟩
/-- what a caller of such a method has -/
def KF (p : Program) (m : MethodId) (c : Code) (cc : ByteArray) (ls : Array Slot) (s : State) (args : Array Value) (own : String) (A : Nat → Prop) (ad : Nat → Nat) (H : Heap) (locs : List Loc) (R : Room) (cells slots d : Nat) : Prop :=
  CallFix p m c cc ls.size s args gtb own ∧ SGs ad A s s.heap ∧ va_S A s.heap H locs ∧ (∀ q, s.heap.size ≤ q → A q) ∧ (d + 1 ≤ R.frames ∧ 64 * (d + 1) ≤ R.locals) ∧ cells ≤ R.cells ∧ slots ≤ R.slots
theorem k_callS (F : KF p m c cc ls s args own A ad H locs R cells slots d) (hM : MetK l y bytes mL (ret) d as ad (QKi v)) (w1 : Cond.code y bytes mL ret ∈ gtb) (w2 : Cond.initialized y.cls ∈ gtb) (w3 : Cond.static y ∈ gtb) (w4 : Cond.methodLink own idx y ∈ gtb)
    (hy : y.cls ≠ "java/lang/invoke/MethodHandle" ∧ y.cls ≠ "java/lang/invoke/VarHandle" ∧ (parseMethodDescriptor y.desc).map (fun d => d.parameters.length) = some as.length) (hmL : mL ≤ 40) (hw : (rest.map fun v => v.category).sum ≤ 8) (hd : decode cc pc = .ok (.invokestatic idx, 3))
    (kk : ∀ (H1 : Heap) (locs1 : List Loc), (∀ q : Nat, q < H.size → H1[q]? = H[q]?) → va_S A s.heap H1 locs1 → W p l e R s m args below meth c H1 locs1 cells slots Q (F0 m (pc + 3) ls (.int v :: rest))) : W p l e R s m args below meth c H locs cells slots Q (F0 m pc ls (as.reverse ++ rest)) := by
  obtain ⟨⟨hx, hb, hml, hown, hts⟩, hG, hS, hAq, hR, hc, hs⟩ := F
  have hgood : GoodIn gtb (Cond.code y bytes mL ret :: gtb) := by
    intro w hw
    rcases List.mem_cons.mp hw with rfl | hw
    · exact gtb_good _ w1
    · exact gtb_good _ hw
  have hroom : (p_rk d).frames + 1 ≤ R.frames ∧ 8 + (mL + 11) + (p_rk d).locals ≤ R.locals := by
    show d + 1 ≤ R.frames ∧ 8 + (mL + 11) + 64 * d ≤ R.locals
    omega
  have hrun := va_runS (l := l) (e := e) (below := below) (meth := meth) (locs := locs) (cells := cells) (slots := slots) (g := F0 m pc ls (as.reverse ++ rest)) ⟨hx, hb, hml, hown, hts⟩ (hM H.size) ⟨callB_of as.length hts hgood rfl rfl rfl (hts _ w2) (hts _ w4) hy hroom, hts _ w3⟩ (k_pre hG hS hAq) rfl rfl rfl rfl (lv_room hw) hd ⟨by omega, by omega⟩
  refine va_calli (S := Unit) hrun hS (fun q h1 h2 => absurd h2 (by omega)) (fun q h => hAq q (Nat.le_trans hS.1 h)) (fun r u t H1 locs1 ht hvm hp hB hz hk1 hS1 => ?_)
  subst hp
  exact kk H1 locs1 (fun q hq => hk1 q hq (by omega)) hS1
theorem k_callSv (F : KF p m c cc ls s args own A ad H locs R cells slots d) (hM : MetK l y bytes mL (ret) d as ad QKv) (w1 : Cond.code y bytes mL ret ∈ gtb) (w2 : Cond.initialized y.cls ∈ gtb) (w3 : Cond.static y ∈ gtb) (w4 : Cond.methodLink own idx y ∈ gtb)
    (hy : y.cls ≠ "java/lang/invoke/MethodHandle" ∧ y.cls ≠ "java/lang/invoke/VarHandle" ∧ (parseMethodDescriptor y.desc).map (fun d => d.parameters.length) = some as.length) (hmL : mL ≤ 40) (hw : (rest.map fun v => v.category).sum ≤ 8) (hd : decode cc pc = .ok (.invokestatic idx, 3))
    (kk : ∀ (H1 : Heap) (locs1 : List Loc), (∀ q : Nat, q < H.size → H1[q]? = H[q]?) → va_S A s.heap H1 locs1 → W p l e R s m args below meth c H1 locs1 cells slots Q (F0 m (pc + 3) ls rest)) : W p l e R s m args below meth c H locs cells slots Q (F0 m pc ls (as.reverse ++ rest)) := by
  obtain ⟨⟨hx, hb, hml, hown, hts⟩, hG, hS, hAq, hR, hc, hs⟩ := F
  have hgood : GoodIn gtb (Cond.code y bytes mL ret :: gtb) := by
    intro w hw
    rcases List.mem_cons.mp hw with rfl | hw
    · exact gtb_good _ w1
    · exact gtb_good _ hw
  have hroom : (p_rk d).frames + 1 ≤ R.frames ∧ 8 + (mL + 11) + (p_rk d).locals ≤ R.locals := by
    show d + 1 ≤ R.frames ∧ 8 + (mL + 11) + 64 * d ≤ R.locals
    omega
  have hrun := va_runS (l := l) (e := e) (below := below) (meth := meth) (locs := locs) (cells := cells) (slots := slots) (g := F0 m pc ls (as.reverse ++ rest)) ⟨hx, hb, hml, hown, hts⟩ (hM H.size) ⟨callB_of as.length hts hgood rfl rfl rfl (hts _ w2) (hts _ w4) hy hroom, hts _ w3⟩ (k_pre hG hS hAq) rfl rfl rfl rfl (lv_room hw) hd ⟨by omega, by omega⟩
  refine va_callv (S := Unit) hrun hS (fun q h1 h2 => absurd h2 (by omega)) (fun q h => hAq q (Nat.le_trans hS.1 h)) (fun u t H1 locs1 ht hvm hp hB hz hk1 hS1 => ?_)
  exact kk H1 locs1 (fun q hq => hk1 q hq (by omega)) hS1
theorem k_callV {i : Nat} (hi : i < 2) (F : KF p m c cc ls s args own A ad H locs R cells slots d) (hM : MetK l y bytes mL (ret) d (.ref (ad (100001 + 2 * i)) :: as) ad (QKi v)) (w1 : Cond.code y bytes mL ret ∈ gtb) (w2 : Cond.initialized y.cls ∈ gtb) (w3 : Cond.instanceMethod y ∈ gtb) (w3' : Cond.selects "java/lang/String" y y ∈ gtb) (w4 : Cond.methodLink own idx y ∈ gtb)
    (hy : y.cls ≠ "java/lang/invoke/MethodHandle" ∧ y.cls ≠ "java/lang/invoke/VarHandle" ∧ (parseMethodDescriptor y.desc).map (fun d => d.parameters.length) = some as.length) (hmL : mL ≤ 40) (hw : (rest.map fun v => v.category).sum ≤ 8) (hd : decode cc pc = .ok (.invokevirtual idx, 3))
    (kk : ∀ (H1 : Heap) (locs1 : List Loc), (∀ q : Nat, q < H.size → H1[q]? = H[q]?) → va_S A s.heap H1 locs1 → W p l e R s m args below meth c H1 locs1 cells slots Q (F0 m (pc + 3) ls (.int v :: rest))) : W p l e R s m args below meth c H locs cells slots Q (F0 m pc ls (as.reverse ++ .ref (ad (100001 + 2 * i)) :: rest)) := by
  obtain ⟨⟨hx, hb, hml, hown, hts⟩, hG, hS, hAq, hR, hc, hs⟩ := F
  have hgood : GoodIn gtb (Cond.code y bytes mL ret :: gtb) := by
    intro w hw
    rcases List.mem_cons.mp hw with rfl | hw
    · exact gtb_good _ w1
    · exact gtb_good _ hw
  have hroom : (p_rk d).frames + 1 ≤ R.frames ∧ 8 + (mL + 11) + (p_rk d).locals ≤ R.locals := by
    show d + 1 ≤ R.frames ∧ 8 + (mL + 11) + 64 * d ≤ R.locals
    omega
  have hp := k_pre (as := .ref (ad (100001 + 2 * i)) :: as) hG hS hAq
  have hrun := va_runV (l := l) (e := e) (below := below) (meth := meth) (locs := locs) (cells := cells) (slots := slots) (C := "java/lang/String") (b := ad (100001 + 2 * i)) (g := F0 m pc ls (as.reverse ++ .ref (ad (100001 + 2 * i)) :: rest)) ⟨hx, hb, hml, hown, hts⟩ (hM H.size) ⟨callB_of as.length hts hgood rfl rfl rfl (hts _ w2) (hts _ w4) hy hroom, hts _ w3, hts _ w3'⟩ ⟨hp.1, vk_recv (adK := fun i => ad (100001 + 2 * i)) (i := i) hG.1 hi hS, hp.2⟩ rfl rfl rfl rfl (lv_room hw) hd ⟨by omega, by omega⟩
  refine va_calli (S := Unit) hrun hS (fun q h1 h2 => absurd h2 (by omega)) (fun q h => hAq q (Nat.le_trans hS.1 h)) (fun r u t H1 locs1 ht hvm hp hB hz hk1 hS1 => ?_)
  subst hp
  exact kk H1 locs1 (fun q hq => hk1 q hq (by omega)) hS1
end KC
/-- canEncode -/
def kcn (c : Int32) : Int32 := if c < 0 then 0 else if 255 < c then 0 else 1
theorem c_can (l : Launch) (ad : Nat → Nat) (x : Int32) : MetK l yk_can bk_can 1 (some .boolean) 0 [.int x] ad (QKi (kcn x)) := by
  refine k_of (by decide) (Nat.le_of_ble_eq_true rfl) ?_
  intro p e s m args below meth c ls hx hb hr hts hown hlocks hml hG hl
  have hl : lv_has ls 1 [(0, .int x)] := hl
  have hS : va_S (fun q => s.heap.size ≤ q) s.heap s.heap [] := va_S.rf
  have he : ∀ v : Int32, narrow .boolean (.int v) = .int v → v = kcn x → W p l e (p_rk 0) s m args below meth c s.heap [] 0 0 (MQ below (QKi (kcn x) (fun q => s.heap.size ≤ q)) args s 0 0 (fun q => s.heap.size ≤ q)) (F0 m 16 ls [.int v]) := fun v hn hv => W.zret (ty := .boolean) hx hb hr hn (fun t ht hW => ⟨⟨v, (), rfl, hv, trivial⟩, hS.F ht⟩) hS.2.2 dk_can_16
  refine lv_iload_n hx hb dk_can_0 rfl (lv_at hl 0 rfl) (lv_if_lt (tgt := 15) hx hb dk_can_1 rfl (fun h1 => ?_) (fun h1 => ?_))
  · exact lv_iconst hx hb dk_can_15 rfl (he 0 rfl (by unfold kcn; rw [if_pos h1]))
  · refine lv_iload_n hx hb dk_can_4 rfl (lv_at hl 0 rfl) (lv_sipush (v := 255) hx hb dk_can_5 rfl (lv_icmp_gt (tgt := 15) hx hb dk_can_8 rfl (fun h2 => ?_) (fun h2 => ?_)))
    · exact lv_iconst hx hb dk_can_15 rfl (he 0 rfl (by unfold kcn; rw [if_neg h1, if_pos h2]))
    · exact lv_iconst hx hb dk_can_11 rfl (lv_goto (tgt := 16) hx hb dk_can_12 rfl (he 1 rfl (by unfold kcn; rw [if_neg h1, if_neg h2])))
def kixF (b : Int32) : List Int32 → Nat → Int32
  | [], _ => -1
  | x :: l, k => if x = b then nI k else kixF b l (k + 1)
theorem c_lic (l : Launch) (ad : Nat → Nat) (x : Int32) : MetK l yk_lic bk_lic 6 (some .int) 0 [.ref (ad 100004), .int x, .int 0, .int 9] ad (QKi (kixF x.toInt8.toInt32 by2 0)) := by
  refine k_of (by decide) (Nat.le_of_ble_eq_true rfl) ?_
  intro p e s m args below meth c ls hx hb hr hts hown hlocks hml hG hl
  have hl : lv_has ls 6 [(0, .ref (ad 100004)), (1, .int x), (2, .int 0), (3, .int 9)] := hl
  have hS : va_S (fun q => s.heap.size ≤ q) s.heap s.heap [] := va_S.rf
  have hT := (hG.1.1 1 (by decide)).2.2.2
  have he : ∀ (pc : Nat) (ls : Array Slot) (v : Int32), decode bk_lic pc = .ok (.ireturn, 1) → v = kixF x.toInt8.toInt32 by2 0 → W p l e (p_rk 0) s m args below meth c s.heap [] 0 0 (MQ below (QKi (kixF x.toInt8.toInt32 by2 0) (fun q => s.heap.size ≤ q)) args s 0 0 (fun q => s.heap.size ≤ q)) (F0 m pc ls [.int v]) := fun pc ls v hd hv => W.iret hx hb hr (fun t ht hW => ⟨⟨v, (), rfl, hv, trivial⟩, hS.F ht⟩) hS.2.2 hd
  have hlp : ∀ (r : List Int32) (k : Nat) (ls : Array Slot), k + r.length = 9 → by2.drop k = r → kixF x.toInt8.toInt32 r k = kixF x.toInt8.toInt32 by2 0 → lv_has ls 6 [(0, .ref (ad 100004)), (3, .int 9), (4, .int x.toInt8.toInt32), (5, .int (nI k))] → W p l e (p_rk 0) s m args below meth c s.heap [] 0 0 (MQ below (QKi (kixF x.toInt8.toInt32 by2 0) (fun q => s.heap.size ≤ q)) args s 0 0 (fun q => s.heap.size ≤ q)) (F0 m 7 ls []) := by
    intro r
    induction r with
    | nil =>
      intro k ls hk hd hv hl
      have hk9 : k = 9 := by simpa using hk
      subst hk9
      refine lv_iload hx hb dk_lic_7 (lv_at hl 3 rfl) (lv_iload_n hx hb dk_lic_9 rfl (lv_at hl 1 rfl) (lv_icmp_ge (tgt := 31) hx hb dk_lic_10 rfl (fun _ => ?_) (fun h => absurd (by decide) h)))
      exact lv_iconst hx hb dk_lic_31 rfl (he 32 ls (-1) dk_lic_32 hv)
    | cons b r ih =>
      intro k ls hk hd hv hl
      have hk9 : k < 9 := by simp only [List.length_cons] at hk; omega
      have hge : ¬ (9 : Int32) ≤ nI k := nI_ge (a := k) (b := 9) (by omega) (by omega)
      have hb2 : by2.getD k 0 = b := by
        have h9 : by2[k]? = some b := by
          have := congrArg (fun z : List Int32 => z[0]?) hd
          simpa [List.getElem?_drop] using this
        rw [List.getD_eq_getElem?_getD, h9]; rfl
      have hdr : by2.drop (k + 1) = r := by
        have := congrArg List.tail hd
        simpa using this
      have hin : vp_in (nI k) 9 := vp_in_nI hk9 (by omega)
      refine lv_iload hx hb dk_lic_7 (lv_at hl 3 rfl) (lv_iload_n hx hb dk_lic_9 rfl (lv_at hl 1 rfl) (lv_icmp_ge (tgt := 31) hx hb dk_lic_10 rfl (fun h => absurd h hge) (fun _ => ?_)))
      refine lv_aload_n hx hb dk_lic_13 rfl (lv_at hl 0 rfl) (lv_iload hx hb dk_lic_14 (lv_at hl 3 rfl) (va_tb (v := .int b) hx hb hT hS hin (by show Value.int (by2.getD (nI k).toNatClampNeg 0) = _; rw [nI_clamp (by omega), hb2]) dk_lic_16 (lv_iload hx hb dk_lic_17 (lv_at hl 2 rfl) (lv_icmp_ne (tgt := 25) hx hb dk_lic_19 rfl (fun h => ?_) (fun h => ?_)))))
      · refine lv_iinc (k := 3) (v := nI (k + 1)) hx hb dk_lic_25 hl rfl (nI_1 k) (by decide) rfl (fun ls' hl' => ?_)
        refine lv_goto (tgt := 7) hx hb dk_lic_28 rfl (ih (k + 1) ls' (by simp only [List.length_cons] at hk; omega) hdr ?_ (lv_sub hl' [1, 2, 3, 0] rfl))
        rw [← hv]
        show _ = (if b = x.toInt8.toInt32 then nI k else _)
        rw [if_neg h]
      · refine lv_iload hx hb dk_lic_22 (lv_at hl 3 rfl) (he 24 ls _ dk_lic_24 ?_)
        rw [← hv]
        show _ = (if b = x.toInt8.toInt32 then nI k else _)
        rw [if_pos h]
  refine lv_iload_n hx hb dk_lic_0 rfl (lv_at hl 1 rfl) (lv_i2b hx hb dk_lic_1 rfl (lv_istore hx hb dk_lic_2 hl (by decide) rfl (fun ls1 h1 => ?_)))
  refine lv_iload_n hx hb dk_lic_4 rfl (lv_at h1 3 rfl) (lv_istore hx hb dk_lic_5 h1 (by decide) rfl (fun ls2 h2 => ?_))
  exact hlp by2 0 ls2 rfl rfl rfl (lv_sub h2 [2, 5, 1, 0] rfl)
theorem c_cod (l : Launch) (ad : Nat → Nat) {i : Nat} (hi : i < 2) : MetK l yk_cod bk_cod 1 (some .byte) 0 [.ref (ad (100001 + 2 * i))] ad (QKi 0) := by
  refine k_of (by decide) (Nat.le_of_ble_eq_true rfl) ?_
  intro p e s m args below meth c ls hx hb hr hts hown hlocks hml hG hl
  have hl : lv_has ls 1 [(0, .ref (ad (100001 + 2 * i)))] := hl
  have hS : va_S (fun q => s.heap.size ≤ q) s.heap s.heap [] := va_S.rf
  refine va_gets hx hb hG.2.1 hS hown (hts _ wf_cmp) (fun _ h => h) dk_cod_0 (lv_if_eq (tgt := 13) hx hb dk_cod_3 rfl (fun h => absurd h (by decide)) (fun _ => ?_))
  refine lv_aload_n hx hb dk_cod_6 rfl (lv_at hl 0 rfl) (vk_getf hx hb (hG.1.1 i hi).2.1 hS hown (hts _ wf_cod) (fun _ h => h) dk_cod_7 (lv_goto (tgt := 14) hx hb dk_cod_10 rfl ?_))
  exact W.zret (ty := .byte) hx hb hr rfl (fun t ht hW => ⟨⟨0, (), rfl, rfl, trivial⟩, hS.F ht⟩) hS.2.2 dk_cod_14
theorem c_lat (l : Launch) (ad : Nat → Nat) {i : Nat} (hi : i < 2) : MetK l yk_lat bk_lat 1 (some .boolean) 0 [.ref (ad (100001 + 2 * i))] ad (QKi 1) := by
  refine k_of (by decide) (Nat.le_of_ble_eq_true rfl) ?_
  intro p e s m args below meth c ls hx hb hr hts hown hlocks hml hG hl
  have hl : lv_has ls 1 [(0, .ref (ad (100001 + 2 * i)))] := hl
  have hS : va_S (fun q => s.heap.size ≤ q) s.heap s.heap [] := va_S.rf
  refine va_gets hx hb hG.2.1 hS hown (hts _ wf_cmp) (fun _ h => h) dk_lat_0 (lv_if_eq (tgt := 17) hx hb dk_lat_3 rfl (fun h => absurd h (by decide)) (fun _ => ?_))
  refine lv_aload_n hx hb dk_lat_6 rfl (lv_at hl 0 rfl) (vk_getf hx hb (hG.1.1 i hi).2.1 hS hown (hts _ wf_cod) (fun _ h => h) dk_lat_7 (lv_if_ne (tgt := 17) hx hb dk_lat_10 rfl (fun h => absurd rfl h) (fun _ => ?_)))
  refine lv_iconst hx hb dk_lat_13 rfl (lv_goto (tgt := 18) hx hb dk_lat_14 rfl ?_)
  exact W.zret (ty := .boolean) hx hb hr rfl (fun t ht hW => ⟨⟨1, (), rfl, rfl, trivial⟩, hS.F ht⟩) hS.2.2 dk_lat_18
theorem c_len (l : Launch) (ad : Nat → Nat) {i : Nat} (hi : i < 2) : MetK l yk_len bk_len 1 (some .int) 1 [.ref (ad (100001 + 2 * i))] ad (QKi (Int32.ofNat ([128, 9].getD i 0))) := by
  refine k_of (by decide) (Nat.le_of_ble_eq_true rfl) ?_
  intro p e s m args below meth c ls hx hb hr hts hown hlocks hml hG hl
  have hl : lv_has ls 1 [(0, .ref (ad (100001 + 2 * i)))] := hl
  have hS : va_S (fun q => s.heap.size ≤ q) s.heap s.heap [] := va_S.rf
  refine lv_aload_n hx hb dk_len_0 rfl (lv_at hl 0 rfl) (vk_getf hx hb (hG.1.1 i hi).2.2.1 hS hown (hts _ wf_val) (fun _ h => h) dk_len_1 (va_tlen hx hb (hG.1.1 i hi).2.2.2 hS rfl dk_len_4 ?_))
  refine lv_aload_n hx hb dk_len_5 rfl (lv_at hl 0 rfl) ?_
  refine k_callV (as := []) hi ⟨⟨hx, hb, hml.trans hl.1.symm, hown, hts⟩, hG, hS, (fun q h => h), ⟨Nat.le_refl _, Nat.le_refl _⟩, Nat.le_refl _, Nat.le_refl _⟩ (c_cod l ad hi) wk_cod_c wk_iS wk_cod_i wk_cod_v wl_cod_335 ⟨by decide, by decide, rfl⟩ (by decide) (Nat.le_of_ble_eq_true rfl) dk_len_6 (fun H1 locs1 hq hS1 => ?_)
  refine lv_ishr hx hb dk_len_9 ?_
  have e9 : Int32.ofNat ([128, 9].getD i 0) >>> ((0 : Int32) &&& 31) = Int32.ofNat ([128, 9].getD i 0) := by
    match i, hi with
    | 0, _ => decide
    | 1, _ => decide
  rw [e9]
  exact W.iret hx hb hr (fun t ht hW => ⟨⟨_, (), rfl, rfl, trivial⟩, hS1.F ht⟩) hS1.2.2 dk_len_10
/-- indexOf of a literal's bytes -/
def kix (x : Int32) : Int32 := if kcn x = 0 then -1 else kixF x.toInt8.toInt32 by2 0
theorem c_lix (l : Launch) (ad : Nat → Nat) (x : Int32) : MetK l yk_lix bk_lix 4 (some .int) 1 [.ref (ad 100004), .int x, .int 0, .int 9] ad (QKi (kix x)) := by
  refine k_of (by decide) (Nat.le_of_ble_eq_true rfl) ?_
  intro p e s m args below meth c ls hx hb hr hts hown hlocks hml hG hl
  have hl : lv_has ls 4 [(0, .ref (ad 100004)), (1, .int x), (2, .int 0), (3, .int 9)] := hl
  have hS : va_S (fun q => s.heap.size ≤ q) s.heap s.heap [] := va_S.rf
  refine lv_iload_n hx hb dk_lix_0 rfl (lv_at hl 1 rfl) ?_
  refine k_callS (as := [.int x]) ⟨⟨hx, hb, hml.trans hl.1.symm, hown, hts⟩, hG, hS, (fun q h => h), ⟨Nat.le_refl _, Nat.le_refl _⟩, Nat.le_refl _, Nat.le_refl _⟩ (c_can l ad x) wk_can_c wk_iL wk_can_s wl_can_88 ⟨by decide, by decide, rfl⟩ (by decide) (Nat.le_of_ble_eq_true rfl) dk_lix_1 (fun H1 locs1 hq hS1 => ?_)
  refine lv_if_ne (tgt := 9) hx hb dk_lix_4 rfl (fun h1 => ?_) (fun h1 => ?_)
  · refine lv_iload_n hx hb dk_lix_9 rfl (lv_at hl 2 rfl) (lv_iconst (v := 0) hx hb dk_lix_10 rfl ?_)
    refine va_mmax hx hb (hml.trans hl.1.symm) hown (hts _ wl_max) (hts _ w_mxs) (hts _ w_mai) (hts _ w_mxc) (by decide) (by decide) (Nat.le_refl _) (Nat.le_refl _) dk_lix_11 ?_
    refine lv_istore_n hx hb dk_lix_14 rfl hl (by decide) rfl (fun ls1 hl1 => ?_)
    refine lv_iload_n hx hb dk_lix_15 rfl (lv_at hl1 3 rfl) (lv_aload_n hx hb dk_lix_16 rfl (lv_at hl1 1 rfl) (va_tlen (v := 9) hx hb (hG.1.1 1 (by decide)).2.2.2 hS1 rfl dk_lix_17 ?_))
    refine va_mmin hx hb (hml.trans hl1.1.symm) hown (hts _ wl_min) (hts _ w_mis) (hts _ w_mai) (hts _ w_mic) (by decide) (by decide) (Nat.le_refl _) (Nat.le_refl _) dk_lix_18 ?_
    refine lv_istore_n hx hb dk_lix_21 rfl hl1 (by decide) rfl (fun ls2 hl2 => ?_)
    refine lv_iload_n hx hb dk_lix_22 rfl (lv_at hl2 1 rfl) (lv_iload_n hx hb dk_lix_23 rfl (lv_at hl2 0 rfl) (lv_icmp_lt (tgt := 29) hx hb dk_lix_24 rfl (fun _ => ?_) (fun h => absurd (by decide) h)))
    refine lv_aload_n hx hb dk_lix_29 rfl (lv_at hl2 2 rfl) (lv_iload_n hx hb dk_lix_30 rfl (lv_at hl2 3 rfl) (lv_iload_n hx hb dk_lix_31 rfl (lv_at hl2 1 rfl) (lv_iload_n hx hb dk_lix_32 rfl (lv_at hl2 0 rfl) ?_)))
    refine k_callS (as := [.ref (ad 100004), .int x, .int 0, .int 9]) ⟨⟨hx, hb, hml.trans hl2.1.symm, hown, hts⟩, hG, hS1, (fun q h => h), ⟨Nat.le_refl _, Nat.le_refl _⟩, Nat.le_refl _, Nat.le_refl _⟩ (c_lic l ad x) wk_lic_c wk_iL wk_lic_s wl_lic_95 ⟨by decide, by decide, rfl⟩ (by decide) (Nat.le_of_ble_eq_true rfl) dk_lix_33 (fun H2 locs2 hq2 hS2 => ?_)
    exact W.iret hx hb hr (fun t ht hW => ⟨⟨_, (), rfl, by unfold kix; rw [if_neg h1], trivial⟩, hS2.F ht⟩) hS2.2.2 dk_lix_36
  · refine lv_iconst (v := -1) hx hb dk_lix_7 rfl ?_
    exact W.iret hx hb hr (fun t ht hW => ⟨⟨_, (), rfl, by unfold kix; rw [if_pos h1], trivial⟩, hS1.F ht⟩) hS1.2.2 dk_lix_8
theorem c_ix2 (l : Launch) (ad : Nat → Nat) (x : Int32) : MetK l yk_ix2 bk_ix2 3 (some .int) 2 [.ref (ad 100003), .int x, .int 0] ad (QKi (kix x)) := by
  refine k_of (by decide) (Nat.le_of_ble_eq_true rfl) ?_
  intro p e s m args below meth c ls hx hb hr hts hown hlocks hml hG hl
  have hl : lv_has ls 3 [(0, .ref (ad 100003)), (1, .int x), (2, .int 0)] := hl
  have hS : va_S (fun q => s.heap.size ≤ q) s.heap s.heap [] := va_S.rf
  have F : ∀ (H : Heap) (locs : List Loc) (d : Nat), d ≤ 1 → va_S (fun q => s.heap.size ≤ q) s.heap H locs → KF p m c bk_ix2 ls s args "java/lang/String" (fun q => s.heap.size ≤ q) ad H locs (p_rk 2) 0 0 d := fun H locs d h1 h => ⟨⟨hx, hb, hml.trans hl.1.symm, hown, hts⟩, hG, h, (fun q h => h), ⟨by show d + 1 ≤ 2; omega, by show 64 * (d + 1) ≤ 64 * 2; omega⟩, Nat.le_refl _, Nat.le_refl _⟩
  refine lv_aload_n hx hb dk_ix2_0 rfl (lv_at hl 0 rfl) ?_
  refine k_callV (as := []) (i := 1) (by decide) (F _ _ 0 (by decide) hS) (c_lat l ad (i := 1) (by decide)) wk_lat_c wk_iS wk_lat_i wk_lat_v wl_lat_492 ⟨by decide, by decide, rfl⟩ (by decide) (Nat.le_of_ble_eq_true rfl) dk_ix2_1 (fun H1 locs1 hq hS1 => ?_)
  refine lv_if_eq (tgt := 23) hx hb dk_ix2_4 rfl (fun h => absurd h (by decide)) (fun _ => ?_)
  refine lv_aload_n hx hb dk_ix2_7 rfl (lv_at hl 0 rfl) (vk_getf (v := .ref (ad 100004)) hx hb (hG.1.1 1 (by decide)).2.2.1 hS1 hown (hts _ wf_val) (fun _ h => h) dk_ix2_8 ?_)
  refine lv_iload_n hx hb dk_ix2_11 rfl (lv_at hl 1 rfl) (lv_iload_n hx hb dk_ix2_12 rfl (lv_at hl 2 rfl) (lv_aload_n hx hb dk_ix2_13 rfl (lv_at hl 0 rfl) ?_))
  refine k_callV (as := []) (i := 1) (by decide) (F _ _ 1 (by decide) hS1) (c_len l ad (i := 1) (by decide)) wk_len_c wk_iS wk_len_i wk_len_v wl_len_505 ⟨by decide, by decide, rfl⟩ (by decide) (Nat.le_of_ble_eq_true rfl) dk_ix2_14 (fun H2 locs2 hq2 hS2 => ?_)
  refine k_callS (as := [.ref (ad 100004), .int x, .int 0, .int 9]) (F _ _ 1 (by decide) hS2) (c_lix l ad x) wk_lix_c wk_iL wk_lix_s wl_lix_637 ⟨by decide, by decide, rfl⟩ (by decide) (Nat.le_of_ble_eq_true rfl) dk_ix2_17 (fun H3 locs3 hq3 hS3 => ?_)
  refine lv_goto (tgt := 36) hx hb dk_ix2_20 rfl ?_
  exact W.iret hx hb hr (fun t ht hW => ⟨⟨_, (), rfl, rfl, trivial⟩, hS3.F ht⟩) hS3.2.2 dk_ix2_36
theorem c_ix1 (l : Launch) (ad : Nat → Nat) (x : Int32) : MetK l yk_ix1 bk_ix1 2 (some .int) 3 [.ref (ad 100003), .int x] ad (QKi (kix x)) := by
  refine k_of (by decide) (Nat.le_of_ble_eq_true rfl) ?_
  intro p e s m args below meth c ls hx hb hr hts hown hlocks hml hG hl
  have hl : lv_has ls 2 [(0, .ref (ad 100003)), (1, .int x)] := hl
  have hS : va_S (fun q => s.heap.size ≤ q) s.heap s.heap [] := va_S.rf
  refine lv_aload_n hx hb dk_ix1_0 rfl (lv_at hl 0 rfl) (lv_iload_n hx hb dk_ix1_1 rfl (lv_at hl 1 rfl) (lv_iconst (v := 0) hx hb dk_ix1_2 rfl ?_))
  refine k_callV (as := [.int x, .int 0]) (i := 1) (by decide) ⟨⟨hx, hb, hml.trans hl.1.symm, hown, hts⟩, hG, hS, (fun q h => h), ⟨Nat.le_refl _, Nat.le_refl _⟩, Nat.le_refl _, Nat.le_refl _⟩ (c_ix2 l ad x) wk_ix2_c wk_iS wk_ix2_i wk_ix2_v wl_ix2_633 ⟨by decide, by decide, rfl⟩ (by decide) (Nat.le_of_ble_eq_true rfl) dk_ix1_3 (fun H1 locs1 hq hS1 => ?_)
  exact W.iret hx hb hr (fun t ht hW => ⟨⟨_, (), rfl, rfl, trivial⟩, hS1.F ht⟩) hS1.2.2 dk_ix1_6
theorem c_pre (l : Launch) (ad : Nat → Nat) {x n : Int32} {v : Value} (hv : v.category = 1) (h0 : ¬ x < 0) (h1 : x < n) : MetK l yk_pre bk_pre 3 (some .int) 0 [.int x, .int n, v] ad (QKi x) := by
  refine k_of (by decide) (by simp [lg_sl, hv]; exact (by decide : (1 : Nat) + 1 + 1 ≤ 3)) ?_
  intro p e s m args below meth c ls hx hb hr hts hown hlocks hml hG hl
  have hl : lv_has ls 3 [(0, .int x), (1, .int n), (2, v)] := hl
  have hS : va_S (fun q => s.heap.size ≤ q) s.heap s.heap [] := va_S.rf
  refine lv_iload_n hx hb dk_pre_0 rfl (lv_at hl 0 rfl) (lv_if_lt (tgt := 9) hx hb dk_pre_1 rfl (fun h => absurd h h0) (fun _ => ?_))
  refine lv_iload_n hx hb dk_pre_4 rfl (lv_at hl 0 rfl) (lv_iload_n hx hb dk_pre_5 rfl (lv_at hl 1 rfl) (lv_icmp_lt (tgt := 16) hx hb dk_pre_6 rfl (fun _ => ?_) (fun h => absurd h1 h)))
  refine lv_iload_n hx hb dk_pre_16 rfl (lv_at hl 0 rfl) ?_
  exact W.iret hx hb hr (fun t ht hW => ⟨⟨_, (), rfl, rfl, trivial⟩, hS.F ht⟩) hS.2.2 dk_pre_17
theorem c_chk (l : Launch) (ad : Nat → Nat) {x n : Int32} (h0 : ¬ x < 0) (h1 : x < n) : MetK l yk_chk bk_chk 2 none 1 [.int x, .int n] ad QKv := by
  refine k_of (by decide) (Nat.le_of_ble_eq_true rfl) ?_
  intro p e s m args below meth c ls hx hb hr hts hown hlocks hml hG hl
  have hl : lv_has ls 2 [(0, .int x), (1, .int n)] := hl
  have hS : va_S (fun q => s.heap.size ≤ q) s.heap s.heap [] := va_S.rf
  refine lv_iload_n hx hb dk_chk_0 rfl (lv_at hl 0 rfl) (lv_iload_n hx hb dk_chk_1 rfl (lv_at hl 1 rfl) ?_)
  have go : ∀ v : Value, v.category = 1 → W p l e (p_rk 1) s m args below meth c s.heap [] 0 0 (MQ below (QKv (fun q => s.heap.size ≤ q)) args s 0 0 (fun q => s.heap.size ≤ q)) (F0 m 5 ls [v, .int n, .int x]) := by
    intro v hv
    refine k_callS (as := [.int x, .int n, v]) (rest := []) ⟨⟨hx, hb, hml.trans hl.1.symm, hown, hts⟩, hG, hS, (fun q h => h), ⟨Nat.le_refl _, Nat.le_refl _⟩, Nat.le_refl _, Nat.le_refl _⟩ (c_pre l ad hv h0 h1) wk_pre_c wk_iP wk_pre_s wl_pre_1059 ⟨by decide, by decide, rfl⟩ (by decide) (Nat.le_of_ble_eq_true rfl) dk_chk_5 (fun H1 locs1 hq hS1 => ?_)
    refine lv_pop hx hb dk_chk_8 rfl ?_
    exact W.vret hx hb hr (fun t ht hW => ⟨⟨(), rfl, trivial, trivial⟩, hS1.F ht⟩) hS1.2.2 dk_chk_9
  rcases hG.2.2 with hz | ⟨t, hz⟩
  · exact va_gets hx hb hz hS hown (hts _ wf_sio) (fun _ h => h) dk_chk_2 (go .null rfl)
  · exact va_gets hx hb hz hS hown (hts _ wf_sio) (fun _ h => h) dk_chk_2 (go (.ref t) rfl)
/-- a char of the first literal -/
def kch (k : Nat) : Int32 := ((by1.getD k 0 &&& 255).toUInt32 % 65536).toInt32
theorem kch_nar : ∀ k, k < 128 → narrow .char (.int (kch k)) = .int (kch k) := by
  have h : ∀ k, k < 128 → ((kch k).toUInt32 % 65536).toInt32 = kch k := by decide +kernel
  intro k hk
  show Value.int (((kch k).toUInt32 % 65536).toInt32) = _
  rw [h k hk]
theorem c_cha (l : Launch) (ad : Nat → Nat) {k : Nat} (hk : k < 128) : MetK l yk_cha bk_cha 2 (some .char) 2 [.ref (ad 100002), .int (nI k)] ad (QKi (kch k)) := by
  refine k_of (by decide) (Nat.le_of_ble_eq_true rfl) ?_
  intro p e s m args below meth c ls hx hb hr hts hown hlocks hml hG hl
  have hl : lv_has ls 2 [(0, .ref (ad 100002)), (1, .int (nI k))] := hl
  have hS : va_S (fun q => s.heap.size ≤ q) s.heap s.heap [] := va_S.rf
  have hT := (hG.1.1 0 (by decide)).2.2.2
  refine lv_iload_n hx hb dk_cha_0 rfl (lv_at hl 1 rfl) (lv_aload_n hx hb dk_cha_1 rfl (lv_at hl 0 rfl) (va_tlen (v := 128) hx hb hT hS rfl dk_cha_2 ?_))
  refine k_callSv (as := [.int (nI k), .int 128]) (rest := []) ⟨⟨hx, hb, hml.trans hl.1.symm, hown, hts⟩, hG, hS, (fun q h => h), ⟨Nat.le_refl _, Nat.le_refl _⟩, Nat.le_refl _, Nat.le_refl _⟩ (c_chk l ad (nI_pos (by omega)) (nI_lt (a := k) (b := 128) hk (by omega))) wk_chk_c wk_iS wk_chk_s wl_chk_9 ⟨by decide, by decide, rfl⟩ (by decide) (Nat.le_of_ble_eq_true rfl) dk_cha_3 (fun H1 locs1 hq hS1 => ?_)
  refine lv_aload_n hx hb dk_cha_6 rfl (lv_at hl 0 rfl) (lv_iload_n hx hb dk_cha_7 rfl (lv_at hl 1 rfl) (va_tb (v := .int (by1.getD k 0)) hx hb hT hS1 (show vp_in (nI k) 128 from vp_in_nI hk (by omega)) (by show Value.int (by1.getD (nI k).toNatClampNeg 0) = _; rw [nI_clamp (by omega)]) dk_cha_8 ?_))
  refine lv_sipush (v := 255) hx hb dk_cha_9 rfl (lv_iand hx hb dk_cha_12 (lv_i2c (v := kch k) hx hb dk_cha_13 rfl ?_))
  exact W.zret (ty := .char) hx hb hr (kch_nar k hk) (fun t ht hW => ⟨⟨_, (), rfl, rfl, trivial⟩, hS1.F ht⟩) hS1.2.2 dk_cha_14
theorem c_chr (l : Launch) (ad : Nat → Nat) {k : Nat} (hk : k < 128) : MetK l yk_chr bk_chr 2 (some .char) 3 [.ref (ad 100001), .int (nI k)] ad (QKi (kch k)) := by
  refine k_of (by decide) (Nat.le_of_ble_eq_true rfl) ?_
  intro p e s m args below meth c ls hx hb hr hts hown hlocks hml hG hl
  have hl : lv_has ls 2 [(0, .ref (ad 100001)), (1, .int (nI k))] := hl
  have hS : va_S (fun q => s.heap.size ≤ q) s.heap s.heap [] := va_S.rf
  have F : ∀ (H : Heap) (locs : List Loc) (d : Nat), d ≤ 2 → va_S (fun q => s.heap.size ≤ q) s.heap H locs → KF p m c bk_chr ls s args "java/lang/String" (fun q => s.heap.size ≤ q) ad H locs (p_rk 3) 0 0 d := fun H locs d h1 h => ⟨⟨hx, hb, hml.trans hl.1.symm, hown, hts⟩, hG, h, (fun q h => h), ⟨by show d + 1 ≤ 3; omega, by show 64 * (d + 1) ≤ 64 * 3; omega⟩, Nat.le_refl _, Nat.le_refl _⟩
  refine lv_aload_n hx hb dk_chr_0 rfl (lv_at hl 0 rfl) ?_
  refine k_callV (as := []) (i := 0) (by decide) (F _ _ 0 (by decide) hS) (c_lat l ad (i := 0) (by decide)) wk_lat_c wk_iS wk_lat_i wk_lat_v wl_lat_492 ⟨by decide, by decide, rfl⟩ (by decide) (Nat.le_of_ble_eq_true rfl) dk_chr_1 (fun H1 locs1 hq hS1 => ?_)
  refine lv_if_eq (tgt := 16) hx hb dk_chr_4 rfl (fun h => absurd h (by decide)) (fun _ => ?_)
  refine lv_aload_n hx hb dk_chr_7 rfl (lv_at hl 0 rfl) (vk_getf (v := .ref (ad 100002)) hx hb (hG.1.1 0 (by decide)).2.2.1 hS1 hown (hts _ wf_val) (fun _ h => h) dk_chr_8 ?_)
  refine lv_iload_n hx hb dk_chr_11 rfl (lv_at hl 1 rfl) ?_
  refine k_callS (as := [.ref (ad 100002), .int (nI k)]) (rest := []) (F _ _ 2 (by decide) hS1) (c_cha l ad hk) wk_cha_c wk_iL wk_cha_s wl_cha_495 ⟨by decide, by decide, rfl⟩ (by decide) (Nat.le_of_ble_eq_true rfl) dk_chr_12 (fun H2 locs2 hq2 hS2 => ?_)
  exact W.zret (ty := .char) hx hb hr (kch_nar k hk) (fun t ht hW => ⟨⟨_, (), rfl, rfl, trivial⟩, hS2.F ht⟩) hS2.2.2 dk_chr_15
end
section
/-! ===== the pure machine: a static part PT (how many cells, how many slots, the cells' kinds, their references), a moving part IJ (ints, longs) ===== -/
abbrev PT : Type := Nat × Nat × (Nat → Nat × Nat) × (Nat → Nat → Nat)
abbrev IJ : Type := (Nat → Nat → Int32) × (Nat → Nat → Int64)
/-- an instruction, where the next one stands, two numbers, a constant, numbers -/
abbrev PE : Type := Instr × Nat × Nat × Nat × Int32 × List Nat
abbrev Rs : Type := Option Value × IJ
abbrev Ora : Type := PT → Nat → List Value → IJ → Option Rs
abbrev PX : Type := Option (Nat × (Nat → Int32))
abbrev un : Value := .retAddr 0
def p_kd (T : PT) (k : Nat) : Nat × Nat := if k < T.1 ∧ (T.2.2.1 k).2 < 100000 then T.2.2.1 k else (999, 0)
def p_wr (I : Nat → Nat → Int32) (k j : Nat) (x : Int32) : Nat → Nat → Int32 := fun a => if a = k then upd (I a) j x else I a
def p_wrJ (J : Nat → Nat → Int64) (k j : Nat) (x : Int64) : Nat → Nat → Int64 := fun a => if a = k then vp_updL (J a) j x else J a
def p_cp (I : Nat → Nat → Int32) (k0 k1 sp dp n : Nat) : Nat → Nat → Int32 := fun a => if a = k1 then va_cpy (I k0) (I k1) sp dp n else I a
/-- a choice that the tables decide (it unfolds first), and one that is looked at (it stays) -/
abbrev p_bif {α : Type} (b : Bool) (x y : α) : α := match b with
  | true => x
  | false => y
def p_i1 (b : Bool) : Bool := b
def p_i2 (b : Bool) : Bool := p_i1 b
def p_i3 (b : Bool) : Bool := p_i2 b
def p_chk {α : Type} (b : Bool) (x : Option α) : Option α := p_bif (p_i3 b) x none
theorem p_bif_dec {α : Type} {c : Prop} [Decidable c] {x y : α} : p_bif (decide c) x y = if c then x else y := by
  by_cases h : c
  · simp [p_bif, h]
  · simp [p_bif, h]
theorem p_chk_ite {α : Type} {b : Bool} {x : Option α} : p_chk b x = if b = true then x else none := by cases b <;> rfl
def p_in (i : Int32) (n : Nat) : Bool := Nat.blt i.toUInt32.toNat n
def p_nz (y : Int32) : Bool := !(Nat.beq y.toUInt32.toNat 0)
def p_01 (y : Int32) : Bool := Nat.blt y.toUInt32.toNat 2
/-- storing a value of one slot, of two -/
def p_clr (L : List Value) (i : Nat) : List Value := match i with
  | 0 => L
  | j + 1 => match L[j]? with
    | some v => if v.category = 2 then L.set j un else L
    | none => L
def p_st1 (L : List Value) (i : Nat) (v : Value) : List Value := (p_clr L i).set i v
def p_st2 (L : List Value) (i : Nat) (v : Value) : List Value := ((p_clr L i).set (i + 1) un).set i v
def p_msk (mk : List Bool) (L : List Value) : List Value := List.zipWith (fun b v => if b then v else un) mk L
def p_sw {α : Type} (k : Nat → α) (d : Nat) (x : Int32) : Nat → List Nat → α
  | _, [] => k d
  | n, t :: ts => if x = nI n then k t else p_sw k d x (n + 1) ts
def p_cv {α : Type} (o : Option Rs) (k : IJ → Option α) : Option α := match o with
  | some (none, ij) => k ij
  | _ => none
def p_ci {α : Type} (o : Option Rs) (k : Int32 → IJ → Option α) : Option α := match o with
  | some (some (.int v), ij) => k v ij
  | _ => none
def p_cl {α : Type} (o : Option Rs) (k : Int64 → IJ → Option α) : Option α := match o with
  | some (some (.long v), ij) => k v ij
  | _ => none
def p_out {α : Type} (k : List Value → IJ → Option α) (rk : Nat) (o : Option Rs) (rest : List Value) : Option α := match rk with
  | 0 => p_cv o (fun ij => k rest ij)
  | 1 => p_ci o (fun v ij => k (.int v :: rest) ij)
  | _ => p_cl o (fun v ij => k (.long v :: rest) ij)
def p_words (st : List Value) : Nat := (st.map fun v => v.category).sum
def p_b1 {α : Type} (st : List Value) (f : Int32 → Value) (k : List Value → Option α) : Option α := match st with
  | .int x :: r => k (f x :: r)
  | _ => none
def p_b2 {α : Type} (st : List Value) (f : Int32 → Int32 → Value) (k : List Value → Option α) : Option α := match st with
  | .int y :: .int x :: r => k (f x y :: r)
  | _ => none
def p_l1 {α : Type} (st : List Value) (f : Int64 → Value) (k : List Value → Option α) : Option α := match st with
  | .long x :: r => k (f x :: r)
  | _ => none
def p_l2 {α : Type} (st : List Value) (f : Int64 → Int64 → Value) (k : List Value → Option α) : Option α := match st with
  | .long y :: .long x :: r => k (f x y :: r)
  | _ => none
def p_ldi {α : Type} (L : List Value) (i : Nat) (st : List Value) (k : List Value → Option α) : Option α := match L[i]? with
  | some (.int x) => k (.int x :: st)
  | _ => none
def p_ldl {α : Type} (L : List Value) (i : Nat) (st : List Value) (k : List Value → Option α) : Option α := match L[i]? with
  | some (.long x) => k (.long x :: st)
  | _ => none
def p_lda {α : Type} (L : List Value) (i : Nat) (st : List Value) (k : List Value → Option α) : Option α := match L[i]? with
  | some (.ref x) => k (.ref x :: st)
  | _ => none
def p_sti {α : Type} (L : List Value) (i : Nat) (st : List Value) (k : List Value → List Value → Option α) : Option α := match st with
  | .int x :: r => p_bif (decide (i < L.length)) (k (p_st1 L i (.int x)) r) none
  | _ => none
def p_sta {α : Type} (L : List Value) (i : Nat) (st : List Value) (k : List Value → List Value → Option α) : Option α := match st with
  | .ref x :: r => p_bif (decide (i < L.length)) (k (p_st1 L i (.ref x)) r) none
  | _ => none
def p_stl {α : Type} (L : List Value) (i : Nat) (st : List Value) (k : List Value → List Value → Option α) : Option α := match st with
  | .long x :: r => p_bif (decide (i + 1 < L.length)) (k (p_st2 L i (.long x)) r) none
  | _ => none
def p_inc {α : Type} (L : List Value) (i : Nat) (v : Int32) (k : List Value → Option α) : Option α := match L[i]? with
  | some (.int x) => k (p_st1 L i (.int (x + v)))
  | _ => none
def p_br1 {α : Type} (cd : ClassFile.Cond) (x : Int32) (kt kf : Option α) : Option α := match cd with
  | .eq => if x = 0 then kt else kf
  | .ne => if x = 0 then kf else kt
  | .lt => if x < 0 then kt else kf
  | .ge => if 0 ≤ x then kt else kf
  | .gt => if 0 < x then kt else kf
  | .le => if x ≤ 0 then kt else kf
def p_br2 {α : Type} (cd : ClassFile.Cond) (x y : Int32) (kt kf : Option α) : Option α := match cd with
  | .eq => if x = y then kt else kf
  | .ne => if x = y then kf else kt
  | .lt => if x < y then kt else kf
  | .ge => if y ≤ x then kt else kf
  | .gt => if y < x then kt else kf
  | .le => if x ≤ y then kt else kf
def p_if1 {α : Type} (cd : ClassFile.Cond) (st : List Value) (kt kf : List Value → Option α) : Option α := match st with
  | .int x :: r => p_br1 cd x (kt r) (kf r)
  | _ => none
def p_if2 {α : Type} (cd : ClassFile.Cond) (st : List Value) (kt kf : List Value → Option α) : Option α := match st with
  | .int y :: .int x :: r => p_br2 cd x y (kt r) (kf r)
  | _ => none
def p_ald {α : Type} (X : PX) (T : PT) (ij : IJ) (st : List Value) (k : List Value → Option α) : Option α := match st with
  | .int i :: .ref q :: r =>
    p_bif (decide (q = 100000)) ((match X with
      | some X => p_chk (p_in i X.1) (k (.int (X.2 i.toNatClampNeg) :: r))
      | none => none)) (p_bif (decide ((p_kd T q).1 = 100)) ((p_chk (p_in i (p_kd T q).2) (k (.int (ij.1 q i.toNatClampNeg) :: r)))) none)
  | _ => none
def p_bld {α : Type} (T : PT) (ij : IJ) (st : List Value) (k : List Value → Option α) : Option α := match st with
  | .int i :: .ref q :: r => p_bif (decide ((p_kd T q).1 = 101 ∨ (p_kd T q).1 = 102)) ((p_chk (p_in i (p_kd T q).2) (k (.int (ij.1 q i.toNatClampNeg) :: r)))) none
  | _ => none
def p_lld {α : Type} (T : PT) (ij : IJ) (st : List Value) (k : List Value → Option α) : Option α := match st with
  | .int i :: .ref q :: r => p_bif (decide ((p_kd T q).1 = 103)) ((p_chk (p_in i (p_kd T q).2) (k (.long (ij.2 q i.toNatClampNeg) :: r)))) none
  | _ => none
def p_rf {α : Type} (t : Nat) (k : Nat → Option α) : Option α := match t with
  | 0 => none
  | t + 1 => k t
def p_qld {α : Type} (T : PT) (st : List Value) (k : List Value → Option α) : Option α := match st with
  | .int i :: .ref q :: r => p_bif (decide ((p_kd T q).1 = 104)) (p_chk (p_in i (p_kd T q).2) (p_rf (T.2.2.2 q i.toNatClampNeg) (fun t => k (.ref t :: r)))) none
  | _ => none
def p_ast {α : Type} (T : PT) (ij : IJ) (st : List Value) (k : List Value → IJ → Option α) : Option α := match st with
  | .int x :: .int i :: .ref q :: r => p_bif (decide ((p_kd T q).1 = 100)) ((p_chk (p_in i (p_kd T q).2) (k r (p_wr ij.1 q i.toNatClampNeg x, ij.2)))) none
  | _ => none
def p_bst {α : Type} (T : PT) (ij : IJ) (st : List Value) (k : List Value → IJ → Option α) : Option α := match st with
  | .int x :: .int i :: .ref q :: r =>
    p_bif (decide ((p_kd T q).1 = 101)) ((p_chk (p_in i (p_kd T q).2) (k r (p_wr ij.1 q i.toNatClampNeg (vp_nar .byte x), ij.2)))) (p_bif (decide ((p_kd T q).1 = 102)) ((p_chk (p_in i (p_kd T q).2) (k r (p_wr ij.1 q i.toNatClampNeg (vp_nar .boolean x), ij.2)))) none)
  | _ => none
def p_lst {α : Type} (T : PT) (ij : IJ) (st : List Value) (k : List Value → IJ → Option α) : Option α := match st with
  | .long x :: .int i :: .ref q :: r => p_bif (decide ((p_kd T q).1 = 103)) ((p_chk (p_in i (p_kd T q).2) (k r (ij.1, p_wrJ ij.2 q i.toNatClampNeg x)))) none
  | _ => none
def p_len {α : Type} (X : PX) (T : PT) (st : List Value) (k : List Value → Option α) : Option α := match st with
  | .ref q :: r =>
    p_bif (decide (q = 100000)) ((match X with
      | some X => k (.int (Int32.ofNat X.1) :: r)
      | none => none)) (p_bif (decide (100 ≤ (p_kd T q).1 ∧ (p_kd T q).1 ≤ 103)) (k (.int (Int32.ofNat (p_kd T q).2) :: r)) none)
  | _ => none
def p_get {α : Type} (T : PT) (ij : IJ) (a b : Nat) (st : List Value) (k : List Value → Option α) : Option α := match st with
  | .ref q :: r => p_bif (decide ((p_kd T q).1 = a)) ((p_bif (decide (b < (p_kd T q).2)) ((p_bif (decide (p_fk a b = 2)) ((match T.2.2.2 q b with
      | 0 => none
      | t + 1 => k (.ref t :: r))) (k (.int (ij.1 q b) :: r)))) none)) none
  | _ => none
def p_put {α : Type} (T : PT) (ij : IJ) (a b : Nat) (st : List Value) (k : List Value → IJ → Option α) : Option α := match st with
  | .int x :: .ref q :: r => p_bif (decide ((p_kd T q).1 = a)) ((p_bif (decide (b < (p_kd T q).2)) ((match p_fk a b with
      | 0 => k r (p_wr ij.1 q b x, ij.2)
      | 1 => p_chk (p_01 x) (k r (p_wr ij.1 q b x, ij.2))
      | _ => none)) none)) none
  | _ => none
def p_acp {α : Type} (T : PT) (ij : IJ) (st : List Value) (k : List Value → IJ → Option α) : Option α := match st with
  | .int n :: .int dp :: .ref q1 :: .int sp :: .ref q0 :: r =>
    p_bif (decide ((p_kd T q0).1 = 100)) ((p_bif (decide ((p_kd T q1).1 = 100)) ((p_bif (decide (0 ≤ sp ∧ 0 ≤ dp ∧ 0 ≤ n ∧ sp.toNatClampNeg + n.toNatClampNeg ≤ (p_kd T q0).2 ∧ dp.toNatClampNeg + n.toNatClampNeg ≤ (p_kd T q1).2 ∧ p_words r ≤ 8
     )) (k r (p_cp ij.1 q0 q1 sp.toNatClampNeg dp.toNatClampNeg n.toNatClampNeg, ij.2)) none)) none)) none
  | _ => none
def p_call {α : Type} (O : Ora) (T : PT) (ij : IJ) (a b rk : Nat) (st : List Value) (k : List Value → IJ → Option α) : Option α :=
  p_bif (decide (b ≤ st.length)) ((p_bif (decide (p_words (st.drop b) ≤ 8)) (p_out k rk (O T a (st.take b).reverse ij) (st.drop b)) none)) none
def p_inv {α : Type} (O : Ora) (T : PT) (ij : IJ) (a b : Nat) (ts : List Nat) (st : List Value) (k : List Value → IJ → Option α) : Option α := match ts with
  | [rk] => p_call O T ij a b rk st k
  | [_, 1] => p_bif (decide (p_words st ≤ 8)) (p_b2 st (fun x y => .int (if x < y then y else x)) (fun st => k st ij)) none
  | [_, 2] => p_bif (decide (p_words st ≤ 8)) (p_b2 st (fun x y => .int (if y < x then y else x)) (fun st => k st ij)) none
  | [_, 3] => p_acp T ij st k
  | _ => none
/-- the JDK's methods on the two literals: length of the first, a char of it, where a char stands in the second -/
def p_str {α : Type} (w : Nat) (st : List Value) (k : List Value → Option α) : Option α := match w with
  | 1 => (match st with
    | .ref q :: r => p_bif (decide (q = 100001 ∧ p_words r ≤ 8)) (k (.int 128 :: r)) none
    | _ => none)
  | 2 => (match st with
    | .int i :: .ref q :: r => p_bif (decide (q = 100001 ∧ p_words r ≤ 8)) (p_chk (p_in i 128) (k (.int (kch i.toNatClampNeg) :: r))) none
    | _ => none)
  | _ => (match st with
    | .int x :: .ref q :: r => p_bif (decide (q = 100003 ∧ p_words r ≤ 8)) (k (.int (kix x) :: r)) none
    | _ => none)
/-- a call of an object's method: its class is cn -/
def p_inw {α : Type} (O : Ora) (T : PT) (ij : IJ) (a b : Nat) (ts : List Nat) (st : List Value) (k : List Value → IJ → Option α) : Option α := match ts with
  | [rk, cn] => (match (st.take b).reverse with
    | .ref q :: _ => p_bif (decide ((p_kd T q).1 = cn)) (p_call O T ij a b rk st k) none
    | _ => none)
  | [_, _, w] => p_str w st (fun st => k st ij)
  | _ => none
/-- one step of the pure machine, in a static world; k goes on, rt ends -/
def stpS {α : Type} (O : Ora) (X : PX) (nL : Nat) (T : PT) (e : PE) (L st : List Value) (ij : IJ) (k : Nat → List Value → List Value → IJ → Option α) (rt : Option Value → IJ → Option α) : Option α := match e.1 with
  | .iconst _ => k e.2.1 L (.int e.2.2.2.2.1 :: st) ij
  | .bipush _ => k e.2.1 L (.int e.2.2.2.2.1 :: st) ij
  | .sipush _ => k e.2.1 L (.int e.2.2.2.2.1 :: st) ij
  | .ldc _ => (match e.2.2.2.2.2 with
    | [] => k e.2.1 L (.int e.2.2.2.2.1 :: st) ij
    | q :: _ => k e.2.1 L (.ref q :: st) ij)
  | .ldc_w _ => k e.2.1 L (.int e.2.2.2.2.1 :: st) ij
  | .lconst _ => k e.2.1 L (.long (Int64.ofNat e.2.2.1) :: st) ij
  | .ldc2_w _ => k e.2.1 L (.long (Int64.ofNat e.2.2.1) :: st) ij
  | .iload i => p_ldi L i st (fun st => k e.2.1 L st ij)
  | .iload_n i => p_ldi L i st (fun st => k e.2.1 L st ij)
  | .lload i => p_ldl L i st (fun st => k e.2.1 L st ij)
  | .lload_n i => p_ldl L i st (fun st => k e.2.1 L st ij)
  | .aload i => p_lda L i st (fun st => k e.2.1 L st ij)
  | .aload_n i => p_lda L i st (fun st => k e.2.1 L st ij)
  | .istore i => p_sti L i st (fun L st => k e.2.1 L st ij)
  | .istore_n i => p_sti L i st (fun L st => k e.2.1 L st ij)
  | .lstore i => p_stl L i st (fun L st => k e.2.1 L st ij)
  | .lstore_n i => p_stl L i st (fun L st => k e.2.1 L st ij)
  | .astore i => p_sta L i st (fun L st => k e.2.1 L st ij)
  | .astore_n i => p_sta L i st (fun L st => k e.2.1 L st ij)
  | .iinc i _ => p_inc L i e.2.2.2.2.1 (fun L => k e.2.1 L st ij)
  | .iadd => p_b2 st (fun x y => .int (x + y)) (fun st => k e.2.1 L st ij)
  | .isub => p_b2 st (fun x y => .int (x - y)) (fun st => k e.2.1 L st ij)
  | .imul => p_b2 st (fun x y => .int (x * y)) (fun st => k e.2.1 L st ij)
  | .iand => p_b2 st (fun x y => .int (x &&& y)) (fun st => k e.2.1 L st ij)
  | .ior => p_b2 st (fun x y => .int (x ||| y)) (fun st => k e.2.1 L st ij)
  | .ixor => p_b2 st (fun x y => .int (x ^^^ y)) (fun st => k e.2.1 L st ij)
  | .ishl => p_b2 st (fun x y => .int (x <<< (y &&& 31))) (fun st => k e.2.1 L st ij)
  | .ishr => p_b2 st (fun x y => .int (x >>> (y &&& 31))) (fun st => k e.2.1 L st ij)
  | .iushr => p_b2 st (fun x y => .int (x.toUInt32 >>> (y.toUInt32 &&& Int32.toUInt32 31)).toInt32) (fun st => k e.2.1 L st ij)
  | .idiv => (match st with
    | .int y :: .int x :: r => p_chk (p_nz y) (k e.2.1 L (.int (x / y) :: r) ij)
    | _ => none)
  | .irem => (match st with
    | .int y :: .int x :: r => p_chk (p_nz y) (k e.2.1 L (.int (x - x / y * y) :: r) ij)
    | _ => none)
  | .ineg => p_b1 st (fun x => .int (-x)) (fun st => k e.2.1 L st ij)
  | .i2l => p_b1 st (fun x => .long x.toInt64) (fun st => k e.2.1 L st ij)
  | .i2b => p_b1 st (fun x => .int x.toInt8.toInt32) (fun st => k e.2.1 L st ij)
  | .i2c => p_b1 st (fun x => .int (x.toUInt32 % 65536).toInt32) (fun st => k e.2.1 L st ij)
  | .l2i => p_l1 st (fun x => .int x.toInt32) (fun st => k e.2.1 L st ij)
  | .ladd => p_l2 st (fun x y => .long (x + y)) (fun st => k e.2.1 L st ij)
  | .lsub => p_l2 st (fun x y => .long (x - y)) (fun st => k e.2.1 L st ij)
  | .lmul => p_l2 st (fun x y => .long (x * y)) (fun st => k e.2.1 L st ij)
  | .lcmp => p_l2 st (fun x y => .int (lg_cmp x y)) (fun st => k e.2.1 L st ij)
  | .dup => (match st with
    | v :: r => p_bif (decide (v.category = 1)) (k e.2.1 L (v :: v :: r) ij) none
    | _ => none)
  | .dup2 => (match st with
    | v :: w :: r => p_bif (decide (v.category = 1)) (p_bif (decide (w.category = 1)) (k e.2.1 L (v :: w :: v :: w :: r) ij) none) none
    | _ => none)
  | .pop => (match st with
    | v :: r => p_bif (decide (v.category = 1)) (k e.2.1 L r ij) none
    | _ => none)
  | .ifCond cd _ => p_if1 cd st (fun st => k e.2.2.1 L st ij) (fun st => k e.2.1 L st ij)
  | .if_icmp cd _ => p_if2 cd st (fun st => k e.2.2.1 L st ij) (fun st => k e.2.1 L st ij)
  | .goto _ => k e.2.2.1 L st ij
  | .tableswitch _ _ _ _ => (match st with
    | .int x :: r => p_sw (fun t => k t L r ij) e.2.2.1 x e.2.2.2.1 e.2.2.2.2.2
    | _ => none)
  | .iaload => p_ald X T ij st (fun st => k e.2.1 L st ij)
  | .baload => p_bld T ij st (fun st => k e.2.1 L st ij)
  | .laload => p_lld T ij st (fun st => k e.2.1 L st ij)
  | .aaload => p_qld T st (fun st => k e.2.1 L st ij)
  | .iastore => p_ast T ij st (fun st ij => k e.2.1 L st ij)
  | .bastore => p_bst T ij st (fun st ij => k e.2.1 L st ij)
  | .lastore => p_lst T ij st (fun st ij => k e.2.1 L st ij)
  | .arraylength => p_len X T st (fun st => k e.2.1 L st ij)
  | .getfield _ => p_get T ij e.2.2.1 e.2.2.2.1 st (fun st => k e.2.1 L st ij)
  | .putfield _ => p_put T ij e.2.2.1 e.2.2.2.1 st (fun st ij => k e.2.1 L st ij)
  | .invokevirtual _ => p_bif (decide (L.length = nL)) (p_inw O T ij e.2.2.1 e.2.2.2.1 e.2.2.2.2.2 st (fun st ij => k e.2.1 L st ij)) none
  | .invokestatic _ => p_bif (decide (L.length = nL)) (p_inv O T ij e.2.2.1 e.2.2.2.1 e.2.2.2.2.2 st (fun st ij => k e.2.1 L st ij)) none
  | .ireturn => (match st with
    | [.int v] => rt (some (.int v)) ij
    | _ => none)
  | .lreturn => (match st with
    | [.long v] => rt (some (.long v)) ij
    | _ => none)
  | .return_ => (match st with
    | [] => rt none ij
    | _ => none)
  | _ => none
/-- from a place to the next cuts: K goes on there -/
def blkS {α : Type} (O : Ora) (X : PX) (nL : Nat) (T : PT) (C : Nat → Option PE) (cuts : Nat → Option (List Bool)) (K : Nat → List Value → List Value → IJ → Option α) (rt : Option Value → IJ → Option α) (n : Nat) : Nat → List Value → List Value → IJ → Option α :=
  Nat.rec (fun _ _ _ _ => none) (fun _ ih pc L st ij => match C pc with
    | none => none
    | some e => stpS O X nL T e L st ij (fun pc L st ij => match cuts pc with
      | some km => p_bif (decide (km.length = L.length)) (K pc (p_msk km L) st ij) none
      | none => ih pc L st ij) rt) n
/-- n cuts at most -/
def runS {α : Type} (O : Ora) (X : PX) (nL : Nat) (T : PT) (C : Nat → Option PE) (cuts : Nat → Option (List Bool)) (rt : Option Value → IJ → Option α) (f n : Nat) : Nat → List Value → List Value → IJ → Option α :=
  Nat.rec (fun _ _ _ _ => none) (fun _ ih => blkS O X nL T C cuts ih rt f) n
end
section
/-! ===== the pure machine stands for the machine: words ===== -/
def sv (ad : Nat → Nat) : Value → Value
  | .ref k => .ref (ad k)
  | v => v
theorem sv_cat (ad : Nat → Nat) (v : Value) : (sv ad v).category = v.category := by cases v <;> rfl
theorem sv_words (ad : Nat → Nat) (st : List Value) : ((st.map (sv ad)).map fun v => v.category).sum = p_words st := by
  unfold p_words
  rw [List.map_map]
  congr 1
  exact List.map_congr_left (fun v _ => sv_cat ad v)
def pl_has (ad : Nat → Nat) (ls : Array Slot) (L : List Value) : Prop := ls.size = L.length ∧ lv_wf ls ∧ ∀ (i : Nat) (v : Value), L[i]? = some v → (∀ n, v ≠ .retAddr n) → ls[i]? = some (.val (sv ad v))
def pl_one (ad : Nat → Nat) (i : Nat) : Option Value → Option (Nat × Value)
  | some (.retAddr _) => none
  | some v => some (i, sv ad v)
  | none => none
def pl_lv (ad : Nat → Nat) (L : List Value) : List (Nat × Value) := (List.range L.length).filterMap (fun i => pl_one ad i L[i]?)
theorem pl_one_some {ad : Nat → Nat} {i : Nat} {v : Value} (h : ∀ n, v ≠ .retAddr n) : pl_one ad i (some v) = some (i, sv ad v) := by
  cases v with
  | retAddr n => exact absurd rfl (h n)
  | _ => rfl
theorem pl_one_of {ad : Nat → Nat} {i : Nat} {o : Option Value} {q : Nat × Value} (h : pl_one ad i o = some q) : ∃ v, o = some v ∧ (∀ n, v ≠ .retAddr n) ∧ q = (i, sv ad v) := by
  cases o with
  | none => cases h
  | some v =>
    cases v with
    | retAddr n => cases h
    | _ => cases h; exact ⟨_, rfl, (fun n h => by cases h), rfl⟩
theorem pl_to {ad : Nat → Nat} {ls : Array Slot} {L : List Value} (h : pl_has ad ls L) : lv_has ls L.length (pl_lv ad L) := by
  refine ⟨h.1, h.2.1, fun q hq => ?_⟩
  obtain ⟨i, -, hi⟩ := List.mem_filterMap.mp hq
  obtain ⟨v, h1, h2, rfl⟩ := pl_one_of hi
  exact h.2.2 i v h1 h2
theorem pl_in {ad : Nat → Nat} {L : List Value} {i : Nat} {v : Value} (h : L[i]? = some v) (hv : ∀ n, v ≠ .retAddr n) : (i, sv ad v) ∈ pl_lv ad L := by
  have hi : i < L.length := (List.getElem?_eq_some_iff.mp h).1
  exact List.mem_filterMap.mpr ⟨i, List.mem_range.mpr hi, by rw [h]; exact pl_one_some hv⟩
theorem clr_len (L : List Value) (i : Nat) : (p_clr L i).length = L.length := by
  unfold p_clr
  split
  · rfl
  · split
    · split
      · simp
      · rfl
    · rfl
theorem clr_get {L : List Value} {i j : Nat} {w : Value} (h : (p_clr L i)[j]? = some w) (hw : ∀ n, w ≠ .retAddr n) : L[j]? = some w ∧ ¬ (j + 1 = i ∧ w.category = 2) := by
  unfold p_clr at h
  split at h
  · exact ⟨h, fun q => by omega⟩
  · rename_i j'
    split at h
    · rename_i v hv
      split at h
      · rename_i hc
        by_cases e : j' = j
        · subst e
          rw [List.getElem?_set_self (List.getElem?_eq_some_iff.mp hv).1] at h
          cases h
          exact absurd rfl (hw 0)
        · rw [List.getElem?_set_ne e] at h
          exact ⟨h, fun q => by omega⟩
      · rename_i hc
        refine ⟨h, fun q => ?_⟩
        have : j' = j := by omega
        subst this
        rw [hv] at h
        cases h
        exact hc q.2
    · rename_i hn
      refine ⟨h, fun q => ?_⟩
      have : j' = j := by omega
      subst this
      rw [hn] at h
      cases h
theorem pl_of1 {ad : Nat → Nat} {ls : Array Slot} {L : List Value} {i : Nat} {v : Value} (hi : i < L.length) (h : lv_has ls L.length ((i, sv ad v) :: (pl_lv ad L).filter (fun q => !(q.1 == i) && !(q.1 + 1 == i && q.2.category == 2)))) : pl_has ad ls (p_st1 L i v) := by
  refine ⟨by rw [h.1]; unfold p_st1; rw [List.length_set, clr_len], h.2.1, fun j w hj hw => ?_⟩
  unfold p_st1 at hj
  by_cases e : i = j
  · subst e
    rw [List.getElem?_set_self (by rw [clr_len]; exact hi)] at hj
    cases hj
    exact h.2.2 _ List.mem_cons_self
  · rw [List.getElem?_set_ne e] at hj
    obtain ⟨h1, h2⟩ := clr_get hj hw
    refine h.2.2 (j, sv ad w) (List.mem_cons_of_mem _ (List.mem_filter.mpr ⟨pl_in h1 hw, ?_⟩))
    simp only [Bool.and_eq_true, Bool.not_eq_true', beq_eq_false_iff_ne, ne_eq, Bool.and_eq_false_iff]
    refine ⟨fun q => e q.symm, ?_⟩
    by_cases q : j + 1 = i
    · right
      intro hc
      rw [sv_cat] at hc
      exact h2 ⟨q, hc⟩
    · left
      exact q
theorem pl_of2 {ad : Nat → Nat} {ls : Array Slot} {L : List Value} {i : Nat} {v : Value} (hi : i + 1 < L.length) (h : lv_has ls L.length ((i, sv ad v) :: (pl_lv ad L).filter (fun q => !(q.1 == i) && (!(q.1 == i + 1) && !(q.1 + 1 == i && q.2.category == 2))))) : pl_has ad ls (p_st2 L i v) := by
  refine ⟨by rw [h.1]; unfold p_st2; rw [List.length_set, List.length_set, clr_len], h.2.1, fun j w hj hw => ?_⟩
  unfold p_st2 at hj
  by_cases e : i = j
  · subst e
    rw [List.getElem?_set_self (by rw [List.length_set, clr_len]; omega)] at hj
    cases hj
    exact h.2.2 _ List.mem_cons_self
  · rw [List.getElem?_set_ne e] at hj
    by_cases e2 : i + 1 = j
    · subst e2
      rw [List.getElem?_set_self (by rw [clr_len]; exact hi)] at hj
      cases hj
      exact absurd rfl (hw 0)
    · rw [List.getElem?_set_ne e2] at hj
      obtain ⟨h1, h2⟩ := clr_get hj hw
      refine h.2.2 (j, sv ad w) (List.mem_cons_of_mem _ (List.mem_filter.mpr ⟨pl_in h1 hw, ?_⟩))
      simp only [Bool.and_eq_true, Bool.not_eq_true', beq_eq_false_iff_ne, ne_eq, Bool.and_eq_false_iff]
      refine ⟨fun q => e q.symm, fun q => e2 q.symm, ?_⟩
      by_cases q : j + 1 = i
      · right
        intro hc
        rw [sv_cat] at hc
        exact h2 ⟨q, hc⟩
      · left
        exact q
theorem pl_msk {ad : Nat → Nat} {ls : Array Slot} {L : List Value} {km : List Bool} (hk : km.length = L.length) (h : pl_has ad ls L) : pl_has ad ls (p_msk km L) := by
  refine ⟨by rw [h.1]; simp [p_msk, hk], h.2.1, fun j w hj hw => ?_⟩
  unfold p_msk at hj
  rw [List.getElem?_zipWith] at hj
  split at hj
  · rename_i b v hb hv
    cases hj
    cases b with
    | true => exact h.2.2 j v hv hw
    | false => exact absurd rfl (hw 0)
  · cases hj
/-! ===== goals: the machine at a pure state ===== -/
def GW (Wf : Heap → List Loc → Nat → Nat → JFrame → Prop) (m : MethodId) (okp : PT → IJ → (Nat → Nat) → Heap → List Loc → Nat → Nat → Prop) (pc : Nat) (L st : List Value) (T : PT) (ij : IJ) : Prop :=
  ∀ (ad : Nat → Nat) (H : Heap) (locs : List Loc) (cells slots : Nat) (ls : Array Slot), okp T ij ad H locs cells slots → pl_has ad ls L → Wf H locs cells slots (F0 m pc ls (st.map (sv ad)))
section PS
variable {Wf : Heap → List Loc → Nat → Nat → JFrame → Prop} {m : MethodId} {okp : PT → IJ → (Nat → Nat) → Heap → List Loc → Nat → Nat → Prop} {pc nx : Nat} {L st : List Value} {T : PT} {ij : IJ} {α : Type} {r : α}
theorem g_push {v : Value} (hv : ∀ ad, sv ad v = v) (hrow : ∀ H locs cells slots ls rest, Wf H locs cells slots (F0 m nx ls (v :: rest)) → Wf H locs cells slots (F0 m pc ls rest)) (hk : GW Wf m okp nx L (v :: st) T ij) : GW Wf m okp pc L st T ij := by
  intro ad H locs cells slots ls ho hl
  have h1 := hk ad H locs cells slots ls ho hl
  rw [List.map_cons, hv] at h1
  exact hrow _ _ _ _ _ _ h1
theorem g_b1 {f : Int32 → Value} {k : List Value → Option α} (hf : ∀ ad x, sv ad (f x) = f x) (hrow : ∀ H locs cells slots ls x rest, Wf H locs cells slots (F0 m nx ls (f x :: rest)) → Wf H locs cells slots (F0 m pc ls (.int x :: rest)))
    (h : p_b1 st f k = some r) (hk : ∀ st', k st' = some r → GW Wf m okp nx L st' T ij) : GW Wf m okp pc L st T ij := by
  unfold p_b1 at h
  split at h
  · intro ad H locs cells slots ls ho hl
    have h1 := hk _ h ad H locs cells slots ls ho hl
    rw [List.map_cons, hf] at h1
    exact hrow _ _ _ _ _ _ _ h1
  · cases h
theorem g_b2 {f : Int32 → Int32 → Value} {k : List Value → Option α} (hf : ∀ ad x y, sv ad (f x y) = f x y) (hrow : ∀ H locs cells slots ls x y rest, Wf H locs cells slots (F0 m nx ls (f x y :: rest)) → Wf H locs cells slots (F0 m pc ls (.int y :: .int x :: rest)))
    (h : p_b2 st f k = some r) (hk : ∀ st', k st' = some r → GW Wf m okp nx L st' T ij) : GW Wf m okp pc L st T ij := by
  unfold p_b2 at h
  split at h
  · intro ad H locs cells slots ls ho hl
    have h1 := hk _ h ad H locs cells slots ls ho hl
    rw [List.map_cons, hf] at h1
    exact hrow _ _ _ _ _ _ _ _ h1
  · cases h
theorem g_l1 {f : Int64 → Value} {k : List Value → Option α} (hf : ∀ ad x, sv ad (f x) = f x) (hrow : ∀ H locs cells slots ls x rest, Wf H locs cells slots (F0 m nx ls (f x :: rest)) → Wf H locs cells slots (F0 m pc ls (.long x :: rest)))
    (h : p_l1 st f k = some r) (hk : ∀ st', k st' = some r → GW Wf m okp nx L st' T ij) : GW Wf m okp pc L st T ij := by
  unfold p_l1 at h
  split at h
  · intro ad H locs cells slots ls ho hl
    have h1 := hk _ h ad H locs cells slots ls ho hl
    rw [List.map_cons, hf] at h1
    exact hrow _ _ _ _ _ _ _ h1
  · cases h
theorem g_l2 {f : Int64 → Int64 → Value} {k : List Value → Option α} (hf : ∀ ad x y, sv ad (f x y) = f x y) (hrow : ∀ H locs cells slots ls x y rest, Wf H locs cells slots (F0 m nx ls (f x y :: rest)) → Wf H locs cells slots (F0 m pc ls (.long y :: .long x :: rest)))
    (h : p_l2 st f k = some r) (hk : ∀ st', k st' = some r → GW Wf m okp nx L st' T ij) : GW Wf m okp pc L st T ij := by
  unfold p_l2 at h
  split at h
  · intro ad H locs cells slots ls ho hl
    have h1 := hk _ h ad H locs cells slots ls ho hl
    rw [List.map_cons, hf] at h1
    exact hrow _ _ _ _ _ _ _ _ h1
  · cases h
theorem g_ldi {i : Nat} {k : List Value → Option α} (hrow : ∀ H locs cells slots (ls : Array Slot) x rest, ls[i]? = some (.val (.int x)) → Wf H locs cells slots (F0 m nx ls (.int x :: rest)) → Wf H locs cells slots (F0 m pc ls rest))
    (h : p_ldi L i st k = some r) (hk : ∀ st', k st' = some r → GW Wf m okp nx L st' T ij) : GW Wf m okp pc L st T ij := by
  unfold p_ldi at h
  split at h
  · rename_i x hx
    intro ad H locs cells slots ls ho hl
    exact hrow _ _ _ _ _ x _ (hl.2.2 i _ hx (fun n q => by cases q)) (hk _ h ad H locs cells slots ls ho hl)
  · cases h
theorem g_ldl {i : Nat} {k : List Value → Option α} (hrow : ∀ H locs cells slots (ls : Array Slot) x rest, ls[i]? = some (.val (.long x)) → Wf H locs cells slots (F0 m nx ls (.long x :: rest)) → Wf H locs cells slots (F0 m pc ls rest))
    (h : p_ldl L i st k = some r) (hk : ∀ st', k st' = some r → GW Wf m okp nx L st' T ij) : GW Wf m okp pc L st T ij := by
  unfold p_ldl at h
  split at h
  · rename_i x hx
    intro ad H locs cells slots ls ho hl
    exact hrow _ _ _ _ _ x _ (hl.2.2 i _ hx (fun n q => by cases q)) (hk _ h ad H locs cells slots ls ho hl)
  · cases h
theorem g_lda {i : Nat} {k : List Value → Option α} (hrow : ∀ H locs cells slots (ls : Array Slot) x rest, ls[i]? = some (.val (.ref x)) → Wf H locs cells slots (F0 m nx ls (.ref x :: rest)) → Wf H locs cells slots (F0 m pc ls rest))
    (h : p_lda L i st k = some r) (hk : ∀ st', k st' = some r → GW Wf m okp nx L st' T ij) : GW Wf m okp pc L st T ij := by
  unfold p_lda at h
  split at h
  · rename_i x hx
    intro ad H locs cells slots ls ho hl
    exact hrow _ _ _ _ _ (ad x) _ (hl.2.2 i _ hx (fun n q => by cases q)) (hk _ h ad H locs cells slots ls ho hl)
  · cases h
theorem g_sti {i : Nat} {k : List Value → List Value → Option α} (hrow : ∀ H locs cells slots (ls : Array Slot) (nL : Nat) (lv : List (Nat × Value)) x rest, lv_has ls nL lv → i < nL → (∀ ls' : Array Slot, lv_has ls' nL ((i, Value.int x) :: lv.filter (fun q => !(q.1 == i) && !(q.1 + 1 == i && q.2.category == 2))) → Wf H locs cells slots (F0 m nx ls' rest)) → Wf H locs cells slots (F0 m pc ls (.int x :: rest)))
    (h : p_sti L i st k = some r) (hk : ∀ L' st', k L' st' = some r → GW Wf m okp nx L' st' T ij) : GW Wf m okp pc L st T ij := by
  unfold p_sti at h
  simp only [p_bif_dec] at h
  split at h
  · split at h
    · rename_i x r' hi
      intro ad H locs cells slots ls ho hl
      exact hrow _ _ _ _ _ _ _ x _ (pl_to hl) hi (fun ls' hl' => hk _ _ h ad H locs cells slots ls' ho (pl_of1 (ad := ad) (v := .int x) hi hl'))
    · cases h
  · cases h
theorem g_sta {i : Nat} {k : List Value → List Value → Option α} (hrow : ∀ H locs cells slots (ls : Array Slot) (nL : Nat) (lv : List (Nat × Value)) x rest, lv_has ls nL lv → i < nL → (∀ ls' : Array Slot, lv_has ls' nL ((i, Value.ref x) :: lv.filter (fun q => !(q.1 == i) && !(q.1 + 1 == i && q.2.category == 2))) → Wf H locs cells slots (F0 m nx ls' rest)) → Wf H locs cells slots (F0 m pc ls (.ref x :: rest)))
    (h : p_sta L i st k = some r) (hk : ∀ L' st', k L' st' = some r → GW Wf m okp nx L' st' T ij) : GW Wf m okp pc L st T ij := by
  unfold p_sta at h
  simp only [p_bif_dec] at h
  split at h
  · split at h
    · rename_i x r' hi
      intro ad H locs cells slots ls ho hl
      exact hrow _ _ _ _ _ _ _ (ad x) _ (pl_to hl) hi (fun ls' hl' => hk _ _ h ad H locs cells slots ls' ho (pl_of1 (ad := ad) (v := .ref x) hi hl'))
    · cases h
  · cases h
theorem g_stl {i : Nat} {k : List Value → List Value → Option α} (hrow : ∀ H locs cells slots (ls : Array Slot) (nL : Nat) (lv : List (Nat × Value)) x rest, lv_has ls nL lv → i + 1 < nL → (∀ ls' : Array Slot, lv_has ls' nL ((i, Value.long x) :: lv.filter (fun q => !(q.1 == i) && (!(q.1 == i + 1) && !(q.1 + 1 == i && q.2.category == 2)))) → Wf H locs cells slots (F0 m nx ls' rest)) → Wf H locs cells slots (F0 m pc ls (.long x :: rest)))
    (h : p_stl L i st k = some r) (hk : ∀ L' st', k L' st' = some r → GW Wf m okp nx L' st' T ij) : GW Wf m okp pc L st T ij := by
  unfold p_stl at h
  simp only [p_bif_dec] at h
  split at h
  · split at h
    · rename_i x r' hi
      intro ad H locs cells slots ls ho hl
      exact hrow _ _ _ _ _ _ _ x _ (pl_to hl) hi (fun ls' hl' => hk _ _ h ad H locs cells slots ls' ho (pl_of2 (ad := ad) (v := .long x) hi hl'))
    · cases h
  · cases h
theorem g_inc {i : Nat} {v : Int32} {k : List Value → Option α} (hrow : ∀ H locs cells slots (ls : Array Slot) (nL kk : Nat) (lv : List (Nat × Value)) x rest, lv_has ls nL lv → i < nL → lv[kk]? = some (i, .int x) → (∀ ls' : Array Slot, lv_has ls' nL ((i, Value.int (x + v)) :: lv.filter (fun q => !(q.1 == i) && !(q.1 + 1 == i && q.2.category == 2))) → Wf H locs cells slots (F0 m nx ls' rest)) → Wf H locs cells slots (F0 m pc ls rest))
    (h : p_inc L i v k = some r) (hk : ∀ L', k L' = some r → GW Wf m okp nx L' st T ij) : GW Wf m okp pc L st T ij := by
  unfold p_inc at h
  split at h
  · rename_i x hx
    intro ad H locs cells slots ls ho hl
    have hi : i < L.length := (List.getElem?_eq_some_iff.mp hx).1
    obtain ⟨kk, hkk⟩ := List.getElem?_of_mem (pl_in (ad := ad) hx (fun n q => by cases q))
    exact hrow _ _ _ _ _ _ kk _ x _ (pl_to hl) hi hkk (fun ls' hl' => hk _ h ad H locs cells slots ls' ho (pl_of1 (ad := ad) (v := .int (x + v)) hi hl'))
  · cases h
end PS
end
section
/-! ===== the world of a pure state ===== -/
def p_rv (ad : Nat → Nat) (r : Nat) : Value := match r with
  | 0 => .null
  | r + 1 => .ref (ad r)
def p_ro (ad : Nat → Nat) (r : Nat) : Option Nat := match r with
  | 0 => none
  | r + 1 => some (ad r)
def p_fv (ad : Nat → Nat) (T : PT) (ij : IJ) (k ci j : Nat) : Value := if p_fk ci j = 2 then p_rv ad (T.2.2.2 k j) else .int (ij.1 k j)
def p_obj (ad : Nat → Nat) (T : PT) (ij : IJ) (k ci n : Nat) : List Value := (List.range n).map (p_fv ad T ij k ci)
def p_cell (aT : Nat → ClassId) (ad : Nat → Nat) (T : PT) (ij : IJ) (k : Nat) : va_E :=
  if (T.2.2.1 k).1 < 100 then .inr ((T.2.2.1 k).1, p_obj ad T ij k (T.2.2.1 k).1 (T.2.2.1 k).2)
  else if (T.2.2.1 k).1 = 103 then .inl (aT 103, (T.2.2.1 k).2, .inr (.inl (ij.2 k)))
  else if (T.2.2.1 k).1 = 104 then .inl (aT 104, (T.2.2.1 k).2, .inr (.inr (.inr (.inr (fun j => p_ro ad (T.2.2.2 k j))))))
  else .inl (aT (T.2.2.1 k).1, (T.2.2.1 k).2, .inl (ij.1 k))
def p_ws (aT : Nat → ClassId) (ad : Nat → Nat) (T : PT) (ij : IJ) : va_W := (List.range T.1).map (fun k => (ad k, p_cell aT ad T ij k))
def p_tys (aT : Nat → ClassId) : List (ClassId × FieldType) := [(aT 100, .int), (aT 101, .byte), (aT 102, .boolean), (aT 103, .long), (aT 104, .object "SewnRoads$State")]
theorem ws_get {aT : Nat → ClassId} {ad : Nat → Nat} {T : PT} {ij : IJ} {k : Nat} (h : k < T.1) : (p_ws aT ad T ij)[k]? = some (ad k, p_cell aT ad T ij k) := by
  unfold p_ws
  rw [List.getElem?_map, List.getElem?_range h]
  rfl
theorem ws_out {aT : Nat → ClassId} {ad : Nat → Nat} {T : PT} {ij : IJ} {k : Nat} (h : ¬ k < T.1) : (p_ws aT ad T ij)[k]? = none := by
  unfold p_ws
  rw [List.getElem?_map, List.getElem?_eq_none (by rw [List.length_range]; omega)]
  rfl
theorem kd_in {T : PT} {k n : Nat} (h : (p_kd T k).1 = n) (hn : n ≠ 999) : k < T.1 ∧ T.2.2.1 k = p_kd T k := by
  unfold p_kd at h ⊢
  by_cases hk : k < T.1 ∧ (T.2.2.1 k).2 < 100000
  · rw [if_pos hk] at h ⊢
    exact ⟨hk.1, rfl⟩
  · rw [if_neg hk] at h
    exact absurd h.symm hn
theorem kd_lt (T : PT) (k : Nat) : (p_kd T k).2 < 100000 := by
  unfold p_kd
  by_cases hk : k < T.1 ∧ (T.2.2.1 k).2 < 100000
  · rw [if_pos hk]; exact hk.2
  · rw [if_neg hk]; exact (by decide : 0 < 100000)
theorem ws_set {aT : Nat → ClassId} {ad : Nat → Nat} {T : PT} {ij ij' : IJ} {k : Nat} {E : va_E} (hk : k < T.1) (h1 : p_cell aT ad T ij' k = E) (h2 : ∀ j, j ≠ k → p_cell aT ad T ij' j = p_cell aT ad T ij j) : (p_ws aT ad T ij).set k (ad k, E) = p_ws aT ad T ij' := by
  apply List.ext_getElem?
  intro j
  by_cases hj : j < T.1
  · rw [ws_get hj]
    by_cases e : k = j
    · subst e
      rw [List.getElem?_set_self (by unfold p_ws; simpa using hk), h1]
    · rw [List.getElem?_set_ne e, ws_get hj, h2 j (fun q => e q.symm)]
  · rw [ws_out hj, List.getElem?_set_ne (by omega), ws_out hj]
theorem wr_ne {I : Nat → Nat → Int32} {k j : Nat} {x : Int32} {a : Nat} (h : a ≠ k) : p_wr I k j x a = I a := by unfold p_wr; rw [if_neg h]
theorem wr_eq {I : Nat → Nat → Int32} {k j : Nat} {x : Int32} : p_wr I k j x k = upd (I k) j x := by unfold p_wr; rw [if_pos rfl]
theorem wrJ_ne {I : Nat → Nat → Int64} {k j : Nat} {x : Int64} {a : Nat} (h : a ≠ k) : p_wrJ I k j x a = I a := by unfold p_wrJ; rw [if_neg h]
theorem wrJ_eq {I : Nat → Nat → Int64} {k j : Nat} {x : Int64} : p_wrJ I k j x k = vp_updL (I k) j x := by unfold p_wrJ; rw [if_pos rfl]
theorem cell_same {aT : Nat → ClassId} {ad : Nat → Nat} {T : PT} {ij ij' : IJ} {j : Nat} (h1 : ij'.1 j = ij.1 j) (h2 : ij'.2 j = ij.2 j) : p_cell aT ad T ij' j = p_cell aT ad T ij j := by
  unfold p_cell p_obj p_fv
  rw [h1, h2]
theorem small_toInt {i : Int32} (h : i.toUInt32.toNat < 2147483648) : i.toInt = (i.toUInt32.toNat : Int) := by
  show i.toBitVec.toInt = (i.toBitVec.toNat : Int)
  have h' : i.toBitVec.toNat < 2147483648 := h
  exact BitVec.toInt_eq_toNat_of_lt (by omega)
theorem in_lt {i : Int32} {n : Nat} (hn : n < 100000) (h : p_in i n = true) : vp_in i n := by
  unfold p_in at h
  rw [Nat.blt_eq] at h
  rw [vp_in_iff, small_toInt (by omega)]
  omega
theorem in_of {T : PT} {k : Nat} {i : Int32} (h : p_in i (p_kd T k).2 = true) : vp_in i (p_kd T k).2 := in_lt (kd_lt T k) h
theorem nz_ne {y : Int32} (h : p_nz y = true) : ¬ y = 0 := by
  intro e
  subst e
  revert h
  decide
theorem p01_or {x : Int32} (h : p_01 x = true) : x = 0 ∨ x = 1 := by
  unfold p_01 at h
  rw [Nat.blt_eq] at h
  have h2 := small_toInt (i := x) (by omega)
  have h3 : x.toUInt32.toNat = 0 ∨ x.toUInt32.toNat = 1 := by omega
  rcases h3 with h3 | h3
  · left
    apply Int32.toInt_inj.mp
    rw [h2, h3]
    rfl
  · right
    apply Int32.toInt_inj.mp
    rw [h2, h3]
    rfl
theorem p01_nar {x : Int32} (h : p_01 x = true) : vp_nar .boolean x = x := by
  rcases p01_or h with h | h <;> subst h <;> rfl
/-- all that holds at a pure state -/
def p_ok (D : va_G) (aT : Nat → ClassId) (A : Nat → Prop) (H0 : Heap) (ad0 : Nat → Nat) (N0 S0 : Nat) (T : PT) (ij : IJ) (ad : Nat → Nat) (H : Heap) (locs : List Loc) (cells slots : Nat) : Prop :=
  va_P D vwCl (p_ws aT ad T ij) H ∧ va_D A (p_ws aT ad T ij) ∧ (∀ k j, T.2.2.2 k j ≤ T.1) ∧ va_S A H0 H locs ∧ cells + N0 = T.1 ∧ slots + S0 = T.2.1 ∧ ∀ k, k < N0 ∨ 100000 ≤ k → ad k = ad0 k
section PW
variable {p : Program} {l : Launch} {e : Env} {R : Room} {s : State} {m : MethodId} {args : Array Value} {below : List Frame} {meth : Method} {c : Code} {Q : State → Prop} {cc : ByteArray} {own : String}
variable {D : va_G} {aT : Nat → ClassId} {A : Nat → Prop} {H0 : Heap} {ad0 : Nat → Nat} {N0 S0 : Nat} {pc : Nat} {L st : List Value} {T : PT} {ij : IJ} {α : Type} {r : α}
theorem g_ald {X : PX} {k : List Value → Option α} (hx : p.tables.exec = Jvm.exec) (hb : c.code = cc) (hK : va_K D vwCl (p_tys aT) s) (hX : ∀ X', X = some X' → va_X (ad0 100000) X'.1 X'.2 s H0 ∧ ad0 100000 < H0.size ∧ ¬ A (ad0 100000) ∧ X'.1 < 100000) (hd : decode cc pc = .ok (.iaload, 1))
    (h : p_ald X T ij st k = some r) (hk : ∀ st', k st' = some r → GW (fun H locs cells slots g => W p l e R s m args below meth c H locs cells slots Q g) m (p_ok D aT A H0 ad0 N0 S0) (pc + 1) L st' T ij) : GW (fun H locs cells slots g => W p l e R s m args below meth c H locs cells slots Q g) m (p_ok D aT A H0 ad0 N0 S0) pc L st T ij := by
  unfold p_ald at h
  simp only [p_bif_dec, p_chk_ite] at h
  split at h
  · rename_i i q r'
    split at h
    · rename_i hq
      split at h
      · rename_i X' hX'
        split at h
        · rename_i hin
          obtain ⟨x1, x2, x3, x4⟩ := hX _ rfl
          intro ad H locs cells slots ls ho hl
          have h1 := hk _ h ad H locs cells slots ls ho hl
          have he : ad q = ad0 100000 := by rw [hq]; exact ho.2.2.2.2.2.2 _ (Or.inr (Nat.le_refl _))
          show W p l e R s m args below meth c H locs cells slots Q (F0 m pc ls (.int i :: .ref (ad q) :: r'.map (sv ad)))
          rw [he]
          exact va_sld hx hb x1 x2 x3 ho.2.2.2.1 (in_lt x4 hin) hd h1
        · cases h
      · cases h
    · split at h
      · rename_i hq hkd
        split at h
        · rename_i hin
          intro ad H locs cells slots ls ho hl
          obtain ⟨k1, k2⟩ := kd_in hkd (by decide)
          have hc : (p_ws aT ad T ij)[q]? = some (ad q, .inl (aT 100, (p_kd T q).2, .inl (ij.1 q))) := by
            rw [ws_get k1]; unfold p_cell; rw [k2, hkd, if_neg (by decide), if_neg (by decide), if_neg (by decide)]
          exact va_iald hx hb hK ho.1 q 0 hc rfl (in_of hin) hd (hk _ h ad H locs cells slots ls ho hl)
        · cases h
      · cases h
  · cases h
theorem g_bld {k : List Value → Option α} (hx : p.tables.exec = Jvm.exec) (hb : c.code = cc) (hK : va_K D vwCl (p_tys aT) s) (hd : decode cc pc = .ok (.baload, 1))
    (h : p_bld T ij st k = some r) (hk : ∀ st', k st' = some r → GW (fun H locs cells slots g => W p l e R s m args below meth c H locs cells slots Q g) m (p_ok D aT A H0 ad0 N0 S0) (pc + 1) L st' T ij) : GW (fun H locs cells slots g => W p l e R s m args below meth c H locs cells slots Q g) m (p_ok D aT A H0 ad0 N0 S0) pc L st T ij := by
  unfold p_bld at h
  simp only [p_bif_dec, p_chk_ite] at h
  split at h
  · rename_i i q r'
    split at h
    · rename_i hkd
      split at h
      · rename_i hin
        intro ad H locs cells slots ls ho hl
        rcases hkd with hkd | hkd
        · obtain ⟨k1, k2⟩ := kd_in hkd (by decide)
          have hc : (p_ws aT ad T ij)[q]? = some (ad q, .inl (aT 101, (p_kd T q).2, .inl (ij.1 q))) := by
            rw [ws_get k1]; unfold p_cell; rw [k2, hkd, if_neg (by decide), if_neg (by decide), if_neg (by decide)]
          exact va_bald hx hb hK ho.1 q 1 hc rfl (in_of hin) hd (hk _ h ad H locs cells slots ls ho hl)
        · obtain ⟨k1, k2⟩ := kd_in hkd (by decide)
          have hc : (p_ws aT ad T ij)[q]? = some (ad q, .inl (aT 102, (p_kd T q).2, .inl (ij.1 q))) := by
            rw [ws_get k1]; unfold p_cell; rw [k2, hkd, if_neg (by decide), if_neg (by decide), if_neg (by decide)]
          exact va_zald hx hb hK ho.1 q 2 hc rfl (in_of hin) hd (hk _ h ad H locs cells slots ls ho hl)
      · cases h
    · cases h
  · cases h
theorem g_lld {k : List Value → Option α} (hx : p.tables.exec = Jvm.exec) (hb : c.code = cc) (hK : va_K D vwCl (p_tys aT) s) (hd : decode cc pc = .ok (.laload, 1))
    (h : p_lld T ij st k = some r) (hk : ∀ st', k st' = some r → GW (fun H locs cells slots g => W p l e R s m args below meth c H locs cells slots Q g) m (p_ok D aT A H0 ad0 N0 S0) (pc + 1) L st' T ij) : GW (fun H locs cells slots g => W p l e R s m args below meth c H locs cells slots Q g) m (p_ok D aT A H0 ad0 N0 S0) pc L st T ij := by
  unfold p_lld at h
  simp only [p_bif_dec, p_chk_ite] at h
  split at h
  · rename_i i q r'
    split at h
    · rename_i hkd
      split at h
      · rename_i hin
        intro ad H locs cells slots ls ho hl
        obtain ⟨k1, k2⟩ := kd_in hkd (by decide)
        have hc : (p_ws aT ad T ij)[q]? = some (ad q, .inl (aT 103, (p_kd T q).2, .inr (.inl (ij.2 q)))) := by
          rw [ws_get k1]; unfold p_cell; rw [k2, hkd, if_neg (by decide), if_pos rfl]
        exact va_lald hx hb hK ho.1 q 3 hc rfl (in_of hin) hd (hk _ h ad H locs cells slots ls ho hl)
      · cases h
    · cases h
  · cases h
theorem g_qld {k : List Value → Option α} (hx : p.tables.exec = Jvm.exec) (hb : c.code = cc) (hK : va_K D vwCl (p_tys aT) s) (hd : decode cc pc = .ok (.aaload, 1))
    (h : p_qld T st k = some r) (hk : ∀ st', k st' = some r → GW (fun H locs cells slots g => W p l e R s m args below meth c H locs cells slots Q g) m (p_ok D aT A H0 ad0 N0 S0) (pc + 1) L st' T ij) : GW (fun H locs cells slots g => W p l e R s m args below meth c H locs cells slots Q g) m (p_ok D aT A H0 ad0 N0 S0) pc L st T ij := by
  unfold p_qld p_rf at h
  simp only [p_bif_dec, p_chk_ite] at h
  split at h
  · rename_i i q r'
    split at h
    · rename_i hkd
      split at h
      · rename_i hin
        split at h
        · cases h
        · rename_i t ht
          intro ad H locs cells slots ls ho hl
          obtain ⟨k1, k2⟩ := kd_in hkd (by decide)
          have hc : (p_ws aT ad T ij)[q]? = some (ad q, .inl (aT 104, (p_kd T q).2, .inr (.inr (.inr (.inr (fun j => p_ro ad (T.2.2.2 q j))))))) := by
            rw [ws_get k1]; unfold p_cell; rw [k2, hkd, if_neg (by decide), if_neg (by decide), if_pos rfl]
          have h1 := hk _ h ad H locs cells slots ls ho hl
          refine va_aldq hx hb hK ho.1 q 4 hc rfl (in_of hin) hd ?_
          show W p l e R s m args below meth c H locs cells slots Q (F0 m (pc + 1) ls (va_rf (p_ro ad (T.2.2.2 q i.toNatClampNeg)) :: r'.map (sv ad)))
          rw [ht]
          exact h1
      · cases h
    · cases h
  · cases h
theorem g_ast {k : List Value → IJ → Option α} (hx : p.tables.exec = Jvm.exec) (hb : c.code = cc) (hK : va_K D vwCl (p_tys aT) s) (hd : decode cc pc = .ok (.iastore, 1))
    (h : p_ast T ij st k = some r) (hk : ∀ st' ij', k st' ij' = some r → GW (fun H locs cells slots g => W p l e R s m args below meth c H locs cells slots Q g) m (p_ok D aT A H0 ad0 N0 S0) (pc + 1) L st' T ij') : GW (fun H locs cells slots g => W p l e R s m args below meth c H locs cells slots Q g) m (p_ok D aT A H0 ad0 N0 S0) pc L st T ij := by
  unfold p_ast at h
  simp only [p_bif_dec, p_chk_ite] at h
  split at h
  · rename_i x i q r'
    split at h
    · rename_i hkd
      split at h
      · rename_i hin
        intro ad H locs cells slots ls ho hl
        obtain ⟨k1, k2⟩ := kd_in hkd (by decide)
        have hc : (p_ws aT ad T ij)[q]? = some (ad q, .inl (aT 100, (p_kd T q).2, .inl (ij.1 q))) := by
          rw [ws_get k1]; unfold p_cell; rw [k2, hkd, if_neg (by decide), if_neg (by decide), if_neg (by decide)]
        refine va_iast hx hb hK ho.1 ho.2.1 ho.2.2.2.1 q 0 hc rfl (in_of hin) hd (fun H1 locs1 hP hD hS => ?_)
        have he := ws_set (ij := ij) (aT := aT) (ad := ad) (ij' := (p_wr ij.1 q i.toNatClampNeg x, ij.2)) (E := .inl (aT 100, (p_kd T q).2, .inl (upd (ij.1 q) i.toNatClampNeg x))) k1 (by unfold p_cell; rw [k2, hkd, if_neg (by decide), if_neg (by decide), if_neg (by decide)]; simp only [wr_eq]) (fun j hj => cell_same (wr_ne hj) rfl)
        rw [he] at hP hD
        exact hk _ _ h ad H1 locs1 cells slots ls ⟨hP, hD, ho.2.2.1, hS, ho.2.2.2.2⟩ hl
      · cases h
    · cases h
  · cases h
theorem g_bst {k : List Value → IJ → Option α} (hx : p.tables.exec = Jvm.exec) (hb : c.code = cc) (hK : va_K D vwCl (p_tys aT) s) (hd : decode cc pc = .ok (.bastore, 1))
    (h : p_bst T ij st k = some r) (hk : ∀ st' ij', k st' ij' = some r → GW (fun H locs cells slots g => W p l e R s m args below meth c H locs cells slots Q g) m (p_ok D aT A H0 ad0 N0 S0) (pc + 1) L st' T ij') : GW (fun H locs cells slots g => W p l e R s m args below meth c H locs cells slots Q g) m (p_ok D aT A H0 ad0 N0 S0) pc L st T ij := by
  unfold p_bst at h
  simp only [p_bif_dec, p_chk_ite] at h
  split at h
  · rename_i x i q r'
    split at h
    · rename_i hkd
      split at h
      · rename_i hin
        intro ad H locs cells slots ls ho hl
        obtain ⟨k1, k2⟩ := kd_in hkd (by decide)
        have hc : (p_ws aT ad T ij)[q]? = some (ad q, .inl (aT 101, (p_kd T q).2, .inl (ij.1 q))) := by
          rw [ws_get k1]; unfold p_cell; rw [k2, hkd, if_neg (by decide), if_neg (by decide), if_neg (by decide)]
        refine va_bast hx hb hK ho.1 ho.2.1 ho.2.2.2.1 q 1 hc rfl (in_of hin) hd (fun H1 locs1 hP hD hS => ?_)
        have he := ws_set (ij := ij) (aT := aT) (ad := ad) (ij' := (p_wr ij.1 q i.toNatClampNeg (vp_nar .byte x), ij.2)) (E := .inl (aT 101, (p_kd T q).2, .inl (upd (ij.1 q) i.toNatClampNeg (vp_nar .byte x)))) k1 (by unfold p_cell; rw [k2, hkd, if_neg (by decide), if_neg (by decide), if_neg (by decide)]; simp only [wr_eq]) (fun j hj => cell_same (wr_ne hj) rfl)
        rw [he] at hP hD
        exact hk _ _ h ad H1 locs1 cells slots ls ⟨hP, hD, ho.2.2.1, hS, ho.2.2.2.2⟩ hl
      · cases h
    · split at h
      · rename_i hn hkd
        split at h
        · rename_i hin
          intro ad H locs cells slots ls ho hl
          obtain ⟨k1, k2⟩ := kd_in hkd (by decide)
          have hc : (p_ws aT ad T ij)[q]? = some (ad q, .inl (aT 102, (p_kd T q).2, .inl (ij.1 q))) := by
            rw [ws_get k1]; unfold p_cell; rw [k2, hkd, if_neg (by decide), if_neg (by decide), if_neg (by decide)]
          refine va_zast hx hb hK ho.1 ho.2.1 ho.2.2.2.1 q 2 hc rfl (in_of hin) hd (fun H1 locs1 hP hD hS => ?_)
          have he := ws_set (ij := ij) (aT := aT) (ad := ad) (ij' := (p_wr ij.1 q i.toNatClampNeg (vp_nar .boolean x), ij.2)) (E := .inl (aT 102, (p_kd T q).2, .inl (upd (ij.1 q) i.toNatClampNeg (vp_nar .boolean x)))) k1 (by unfold p_cell; rw [k2, hkd, if_neg (by decide), if_neg (by decide), if_neg (by decide)]; simp only [wr_eq]) (fun j hj => cell_same (wr_ne hj) rfl)
          rw [he] at hP hD
          exact hk _ _ h ad H1 locs1 cells slots ls ⟨hP, hD, ho.2.2.1, hS, ho.2.2.2.2⟩ hl
        · cases h
      · cases h
  · cases h
theorem g_lst {k : List Value → IJ → Option α} (hx : p.tables.exec = Jvm.exec) (hb : c.code = cc) (hK : va_K D vwCl (p_tys aT) s) (hd : decode cc pc = .ok (.lastore, 1))
    (h : p_lst T ij st k = some r) (hk : ∀ st' ij', k st' ij' = some r → GW (fun H locs cells slots g => W p l e R s m args below meth c H locs cells slots Q g) m (p_ok D aT A H0 ad0 N0 S0) (pc + 1) L st' T ij') : GW (fun H locs cells slots g => W p l e R s m args below meth c H locs cells slots Q g) m (p_ok D aT A H0 ad0 N0 S0) pc L st T ij := by
  unfold p_lst at h
  simp only [p_bif_dec, p_chk_ite] at h
  split at h
  · rename_i x i q r'
    split at h
    · rename_i hkd
      split at h
      · rename_i hin
        intro ad H locs cells slots ls ho hl
        obtain ⟨k1, k2⟩ := kd_in hkd (by decide)
        have hc : (p_ws aT ad T ij)[q]? = some (ad q, .inl (aT 103, (p_kd T q).2, .inr (.inl (ij.2 q)))) := by
          rw [ws_get k1]; unfold p_cell; rw [k2, hkd, if_neg (by decide), if_pos rfl]
        refine va_last hx hb hK ho.1 ho.2.1 ho.2.2.2.1 q 3 hc rfl (in_of hin) hd (fun H1 locs1 hP hD hS => ?_)
        have he := ws_set (ij := ij) (aT := aT) (ad := ad) (ij' := (ij.1, p_wrJ ij.2 q i.toNatClampNeg x)) (E := .inl (aT 103, (p_kd T q).2, .inr (.inl (vp_updL (ij.2 q) i.toNatClampNeg x)))) k1 (by unfold p_cell; rw [k2, hkd, if_neg (by decide), if_pos rfl]; simp only [wrJ_eq]) (fun j hj => cell_same rfl (wrJ_ne hj))
        rw [he] at hP hD
        exact hk _ _ h ad H1 locs1 cells slots ls ⟨hP, hD, ho.2.2.1, hS, ho.2.2.2.2⟩ hl
      · cases h
    · cases h
  · cases h
theorem g_len {X : PX} {k : List Value → Option α} (hx : p.tables.exec = Jvm.exec) (hb : c.code = cc) (hK : va_K D vwCl (p_tys aT) s) (hX : ∀ X', X = some X' → va_X (ad0 100000) X'.1 X'.2 s H0 ∧ ad0 100000 < H0.size ∧ ¬ A (ad0 100000) ∧ X'.1 < 100000) (hd : decode cc pc = .ok (.arraylength, 1))
    (h : p_len X T st k = some r) (hk : ∀ st', k st' = some r → GW (fun H locs cells slots g => W p l e R s m args below meth c H locs cells slots Q g) m (p_ok D aT A H0 ad0 N0 S0) (pc + 1) L st' T ij) : GW (fun H locs cells slots g => W p l e R s m args below meth c H locs cells slots Q g) m (p_ok D aT A H0 ad0 N0 S0) pc L st T ij := by
  unfold p_len at h
  simp only [p_bif_dec, p_chk_ite] at h
  split at h
  · rename_i q r'
    split at h
    · rename_i hq
      split at h
      · rename_i X' hX'
        obtain ⟨x1, x2, x3, x4⟩ := hX _ rfl
        intro ad H locs cells slots ls ho hl
        have h1 := hk _ h ad H locs cells slots ls ho hl
        have he : ad q = ad0 100000 := by rw [hq]; exact ho.2.2.2.2.2.2 _ (Or.inr (Nat.le_refl _))
        show W p l e R s m args below meth c H locs cells slots Q (F0 m pc ls (.ref (ad q) :: r'.map (sv ad)))
        rw [he]
        exact va_slen hx hb x1 x2 x3 ho.2.2.2.1 hd h1
      · cases h
    · split at h
      · rename_i hq hkd
        intro ad H locs cells slots ls ho hl
        have h1 := hk _ h ad H locs cells slots ls ho hl
        obtain ⟨k1, k2⟩ := kd_in (T := T) (k := q) rfl (by omega)
        have hj : (p_kd T q).1 = 100 ∨ (p_kd T q).1 = 101 ∨ (p_kd T q).1 = 102 ∨ (p_kd T q).1 = 103 := by omega
        rcases hj with hj | hj | hj | hj
        · have hc : (p_ws aT ad T ij)[q]? = some (ad q, .inl (aT 100, (p_kd T q).2, .inl (ij.1 q))) := by
            rw [ws_get k1]; unfold p_cell; rw [k2, hj, if_neg (by decide), if_neg (by decide), if_neg (by decide)]
          exact va_alen hx hb hK ho.1 q 0 hc rfl rfl hd h1
        · have hc : (p_ws aT ad T ij)[q]? = some (ad q, .inl (aT 101, (p_kd T q).2, .inl (ij.1 q))) := by
            rw [ws_get k1]; unfold p_cell; rw [k2, hj, if_neg (by decide), if_neg (by decide), if_neg (by decide)]
          exact va_alen hx hb hK ho.1 q 1 hc rfl rfl hd h1
        · have hc : (p_ws aT ad T ij)[q]? = some (ad q, .inl (aT 102, (p_kd T q).2, .inl (ij.1 q))) := by
            rw [ws_get k1]; unfold p_cell; rw [k2, hj, if_neg (by decide), if_neg (by decide), if_neg (by decide)]
          exact va_alen hx hb hK ho.1 q 2 hc rfl rfl hd h1
        · have hc : (p_ws aT ad T ij)[q]? = some (ad q, .inl (aT 103, (p_kd T q).2, .inr (.inl (ij.2 q)))) := by
            rw [ws_get k1]; unfold p_cell; rw [k2, hj, if_neg (by decide), if_pos rfl]
          exact va_alen hx hb hK ho.1 q 3 hc rfl rfl hd h1
      · cases h
  · cases h
end PW
end
section
/-! ===== fields, copies, calls ===== -/
theorem obj_get {ad : Nat → Nat} {T : PT} {ij : IJ} {k ci n b : Nat} (h : b < n) : (p_obj ad T ij k ci n)[b]? = some (p_fv ad T ij k ci b) := by
  unfold p_obj
  rw [List.getElem?_map, List.getElem?_range h]
  rfl
theorem obj_set {ad : Nat → Nat} {T : PT} {ij : IJ} {k ci n b : Nat} {x : Int32} (h : b < n) (hf : p_fk ci b ≠ 2) : p_obj ad T (p_wr ij.1 k b x, ij.2) k ci n = (p_obj ad T ij k ci n).set b (.int x) := by
  apply List.ext_getElem?
  intro j
  by_cases hj : j < n
  · rw [obj_get hj]
    by_cases e : b = j
    · subst e
      rw [List.getElem?_set_self (by unfold p_obj; simpa using h)]
      unfold p_fv
      rw [if_neg hf]
      simp only [wr_eq, upd, if_true]
    · rw [List.getElem?_set_ne e, obj_get hj]
      unfold p_fv
      simp only [wr_eq]
      have e2 : ¬ j = b := fun q => e q.symm
      simp only [upd, if_neg e2]
  · rw [List.getElem?_eq_none (by unfold p_obj; simp; omega), List.getElem?_eq_none (by unfold p_obj; simp; omega)]
section PF
variable {p : Program} {l : Launch} {e : Env} {R : Room} {s : State} {m : MethodId} {args : Array Value} {below : List Frame} {meth : Method} {c : Code} {Q : State → Prop} {cc : ByteArray} {own : String}
variable {D : va_G} {aT : Nat → ClassId} {A : Nat → Prop} {H0 : Heap} {ad0 : Nat → Nat} {N0 S0 : Nat} {pc : Nat} {L st : List Value} {T : PT} {ij : IJ} {α : Type} {r : α}
theorem g_get {k : List Value → Option α} {a b idx : Nat} (hx : p.tables.exec = Jvm.exec) (hb : c.code = cc) (hown : s.vm.findClass own = some m.cls) (hts : ∀ w ∈ gtb, w.before args s = true) (hK : va_K D vwCl (p_tys aT) s) (hN : ∀ w ∈ nws, va_Nw w s) (ha : a < 13) (hbN : b < (cT a).2.2)
    (hlk : Cond.fieldLink own idx ((cT a).2.1 b).1 ((cT a).2.1 b).2.1 ((cT a).2.1 b).2.2.1 ∈ gtb ∨ ∃ host, Cond.fieldLinkNest own idx ((cT a).2.1 b).1 ((cT a).2.1 b).2.1 ((cT a).2.1 b).2.2.1 host ∈ nws) (hd : decode cc pc = .ok (.getfield idx, 3))
    (h : p_get T ij a b st k = some r) (hk : ∀ st', k st' = some r → GW (fun H locs cells slots g => W p l e R s m args below meth c H locs cells slots Q g) m (p_ok D aT A H0 ad0 N0 S0) (pc + 3) L st' T ij) : GW (fun H locs cells slots g => W p l e R s m args below meth c H locs cells slots Q g) m (p_ok D aT A H0 ad0 N0 S0) pc L st T ij := by
  unfold p_get at h
  simp only [p_bif_dec, p_chk_ite] at h
  split at h
  · rename_i q r'
    split at h
    · rename_i hkd
      split at h
      · rename_i hbn
        intro ad H locs cells slots ls ho hl
        obtain ⟨k1, k2⟩ := kd_in hkd (by omega)
        obtain ⟨ty0, f1, f2, f3, f4, f5, f6⟩ := cf_all a ha
        have hc : (p_ws aT ad T ij)[q]? = some (ad q, .inr (a, p_obj ad T ij q a (p_kd T q).2)) := by
          rw [ws_get k1]; unfold p_cell; rw [k2, hkd, if_pos (by omega)]
        have hgo : ∀ v, p_fv ad T ij q a b = v → W p l e R s m args below meth c H locs cells slots Q (F0 m (pc + 3) ls (v :: r'.map (sv ad))) → W p l e R s m args below meth c H locs cells slots Q (F0 m pc ls (.ref (ad q) :: r'.map (sv ad))) := by
          intro v hv hw
          subst hv
          rcases hlk with hlk | ⟨host, hlk⟩
          · exact va_get hx hb hts f2 hown hK ho.1 q hc f1 b hbN (hts _ hlk) (fun _ h9 => h9) (obj_get hbn) hd hw
          · exact va_getN hx hb hts f2 hown hK ho.1 q hc f1 b hbN (va_Nw.use rfl (hN _ hlk)) (fun _ h9 => h9) (obj_get hbn) hd hw
        split at h
        · rename_i hfk
          split at h
          · cases h
          · rename_i t ht
            have h1 := hk _ h ad H locs cells slots ls ho hl
            exact hgo (.ref (ad t)) (by unfold p_fv; rw [if_pos hfk, ht]; rfl) h1
        · rename_i hfk
          have h1 := hk _ h ad H locs cells slots ls ho hl
          exact hgo (.int (ij.1 q b)) (by unfold p_fv; rw [if_neg hfk]) h1
      · cases h
    · cases h
  · cases h
theorem nar_b {x : Int32} (h : vp_nar .boolean x = x) : narrow .boolean (.int x) = .int x := by
  unfold vp_nar at h
  simp only [narrow] at h ⊢
  rw [h]
theorem fit_b {x : Int32} (h : vp_nar .boolean x = x) : fits .boolean (.int x) = true := by
  have h1 := nar_b h
  obtain ⟨j, hj, he⟩ := pk_andE x (m := 1) 1 rfl
  simp only [narrow] at h1
  have h2 : x &&& 1 = x := by first | exact Value.int.inj h1 | simpa using h1
  rw [he] at h2
  have hj2 : j = 0 ∨ j = 1 := by omega
  rcases hj2 with rfl | rfl
  · rw [← h2]; rfl
  · rw [← h2]; rfl
theorem g_put {k : List Value → IJ → Option α} {a b idx : Nat} (hx : p.tables.exec = Jvm.exec) (hb : c.code = cc) (hown : s.vm.findClass own = some m.cls) (hts : ∀ w ∈ gtb, w.before args s = true) (hK : va_K D vwCl (p_tys aT) s) (ha : a < 13) (hbN : b < (cT a).2.2)
    (hlk : Cond.fieldLink own idx ((cT a).2.1 b).1 ((cT a).2.1 b).2.1 ((cT a).2.1 b).2.2.1 ∈ gtb) (hd : decode cc pc = .ok (.putfield idx, 3))
    (h : p_put T ij a b st k = some r) (hk : ∀ st' ij', k st' ij' = some r → GW (fun H locs cells slots g => W p l e R s m args below meth c H locs cells slots Q g) m (p_ok D aT A H0 ad0 N0 S0) (pc + 3) L st' T ij') : GW (fun H locs cells slots g => W p l e R s m args below meth c H locs cells slots Q g) m (p_ok D aT A H0 ad0 N0 S0) pc L st T ij := by
  unfold p_put at h
  simp only [p_bif_dec, p_chk_ite] at h
  split at h
  · rename_i x q r'
    split at h
    · rename_i hkd
      split at h
      · rename_i hbn
        obtain ⟨k1, k2⟩ := kd_in hkd (by omega)
        obtain ⟨ty0, f1, f2, f3, f4, f5, f6⟩ := cf_all a ha
        have hgo : p_fk a b ≠ 2 → ((cT a).2.1 b).2.2.2 = false → narrow (ty0 b) (.int x) = .int x → fits (ty0 b) (.int x) = true → k r' (p_wr ij.1 q b x, ij.2) = some r → GW (fun H locs cells slots g => W p l e R s m args below meth c H locs cells slots Q g) m (p_ok D aT A H0 ad0 N0 S0) pc L (.int x :: .ref q :: r') T ij := by
          intro hf hfin hn hfit h
          intro ad H locs cells slots ls ho hl
          have hc : (p_ws aT ad T ij)[q]? = some (ad q, .inr (a, p_obj ad T ij q a (p_kd T q).2)) := by
            rw [ws_get k1]; unfold p_cell; rw [k2, hkd, if_pos (by omega)]
          refine va_put (v := .int x) hx hb hts f2 ty0 f3 f4 hown hK ho.1 ho.2.1 ho.2.2.2.1 q hc f1 b hbN (hts _ hlk) (fun _ h9 => h9) hfin (f3 b hbN) hn hfit (by unfold p_obj; simpa using hbn) hd (fun H1 locs1 hP hD hS => ?_)
          have he := ws_set (ij := ij) (aT := aT) (ad := ad) (ij' := (p_wr ij.1 q b x, ij.2)) (E := .inr (a, (p_obj ad T ij q a (p_kd T q).2).set b (.int x))) k1 (by unfold p_cell; rw [k2, hkd, if_pos (by omega), obj_set hbn hf]) (fun j hj => cell_same (wr_ne hj) rfl)
          rw [he] at hP hD
          exact hk _ _ h ad H1 locs1 cells slots ls ⟨hP, hD, ho.2.2.1, hS, ho.2.2.2.2⟩ hl
        split at h
        · rename_i hfk
          exact hgo (by rw [hfk]; decide) (f5 b hbN hfk).2 (by rw [(f5 b hbN hfk).1]; exact vp_nar_int x) (by rw [(f5 b hbN hfk).1]; rfl) h
        · rename_i hfk
          split at h
          · rename_i hn
            have hn := p01_nar hn
            exact hgo (by rw [hfk]; decide) (f6 b hbN hfk).2 (by rw [(f6 b hbN hfk).1]; exact nar_b hn) (by rw [(f6 b hbN hfk).1]; exact fit_b hn) h
          · cases h
        · cases h
      · cases h
    · cases h
  · cases h
theorem g_acp {k : List Value → IJ → Option α} {idx : Nat} (hx : p.tables.exec = Jvm.exec) (hb : c.code = cc) (hml : c.maxLocals = L.length) (hown : s.vm.findClass own = some m.cls) (hts : ∀ w ∈ gtb, w.before args s = true) (hK : va_K D vwCl (p_tys aT) s)
    (hlk : Cond.methodLink own idx arraycopyName ∈ gtb ∧ Cond.native arraycopyName ∈ gtb ∧ Cond.static arraycopyName ∈ gtb ∧ Cond.initialized "java/lang/System" ∈ gtb) (hR : 1 ≤ R.frames ∧ 64 ≤ R.locals) (hd : decode cc pc = .ok (.invokestatic idx, 3))
    (h : p_acp T ij st k = some r) (hk : ∀ st' ij', k st' ij' = some r → GW (fun H locs cells slots g => W p l e R s m args below meth c H locs cells slots Q g) m (p_ok D aT A H0 ad0 N0 S0) (pc + 3) L st' T ij') : GW (fun H locs cells slots g => W p l e R s m args below meth c H locs cells slots Q g) m (p_ok D aT A H0 ad0 N0 S0) pc L st T ij := by
  unfold p_acp at h
  simp only [p_bif_dec, p_chk_ite] at h
  split at h
  · rename_i n dp q1 sp q0 r'
    split at h
    · rename_i hk0
      split at h
      · rename_i hk1
        split at h
        · rename_i hcd
          obtain ⟨c1, c2, c3, c4, c5, c6⟩ := hcd
          obtain ⟨a1, a2⟩ := kd_in hk0 (by decide)
          obtain ⟨b1, b2⟩ := kd_in hk1 (by decide)
          intro ad H locs cells slots ls ho hl
          have hc0 : (p_ws aT ad T ij)[q0]? = some (ad q0, .inl (aT 100, (p_kd T q0).2, .inl (ij.1 q0))) := by
            rw [ws_get a1]; unfold p_cell; rw [a2, hk0, if_neg (by decide), if_neg (by decide), if_neg (by decide)]
          have hc1 : (p_ws aT ad T ij)[q1]? = some (ad q1, .inl (aT 100, (p_kd T q1).2, .inl (ij.1 q1))) := by
            rw [ws_get b1]; unfold p_cell; rw [b2, hk1, if_neg (by decide), if_neg (by decide), if_neg (by decide)]
          refine va_copyi hx hb (by rw [hml, hl.1]) hown (hts _ hlk.1) (hts _ hlk.2.1) (hts _ hlk.2.2.1) (hts _ hlk.2.2.2) hK ho.1 ho.2.1 ho.2.2.2.1 q0 q1 0 0 hc0 hc1 rfl rfl rfl (Int32.not_lt.mpr c1) (Int32.not_lt.mpr c2) (Int32.not_lt.mpr c3) c4 c5 (fun _ _ => rfl) hR.1 ?_ hd (fun H1 locs1 hP hD hS => ?_)
          · have hw := sv_words ad r'
            have hn : nativeFrameWords "java/lang/System" "arraycopy" 5 + 11 ≤ 56 := by decide +kernel
            show ((r'.map (sv ad)).map fun v => v.category).sum + _ ≤ _
            omega
          · have he := ws_set (ij := ij) (aT := aT) (ad := ad) (ij' := (p_cp ij.1 q0 q1 sp.toNatClampNeg dp.toNatClampNeg n.toNatClampNeg, ij.2)) (E := .inl (aT 100, (p_kd T q1).2, .inl (va_cpy (ij.1 q0) (ij.1 q1) sp.toNatClampNeg dp.toNatClampNeg n.toNatClampNeg))) b1 (by unfold p_cell; rw [b2, hk1, if_neg (by decide), if_neg (by decide), if_neg (by decide)]; simp only [p_cp, if_true]) (fun j hj => cell_same (by simp only [p_cp, if_neg hj]) rfl)
            rw [he] at hP hD
            exact hk _ _ h ad H1 locs1 cells slots ls ⟨hP, hD, ho.2.2.1, hS, ho.2.2.2.2⟩ hl
        · cases h
      · cases h
    · cases h
  · cases h
end PF
end
section
/-! ===== the literals, carried along ===== -/
def SG (ad : Nat → Nat) (A : Nat → Prop) (U : State) (H : Heap) : Prop := SGs ad A U H ∧ vk_R "SewnRoads$Tokens" 29 tx1 (ad 100001) U ∧ vk_R "SewnRoads$Tokens" 78 tx2 (ad 100003) U
theorem SGs.ad {ad ad' : Nat → Nat} {A : Nat → Prop} {U : State} {H : Heap} (h : SGs ad A U H) (had : ∀ k, 100000 ≤ k → ad' k = ad k) : SGs ad' A U H := by
  have e1 : (fun i => ad' (100001 + 2 * i)) = (fun i => ad (100001 + 2 * i)) := funext (fun i => had _ (by omega))
  have e2 : (fun i => ad' (100002 + 2 * i)) = (fun i => ad (100002 + 2 * i)) := funext (fun i => had _ (by omega))
  unfold SGs at h ⊢
  rw [e1, e2]
  exact h
theorem SG.go {ad ad' : Nat → Nat} {A B : Nat → Prop} {s U : State} {H0 H : Heap} (h : SG ad A s H0) (hW : s.WarmedH U.vm) (hq : ∀ a : Nat, a < H0.size → ¬ A a → H[a]? = H0[a]?) (hAB : ∀ q, B q → A q) (had : ∀ k, 100000 ≤ k → ad' k = ad k) : SG ad' B U H := by
  refine ⟨(h.1.go hW.alike hq hAB).ad had, ?_, ?_⟩
  · rw [had _ (by decide)]; exact h.2.1.warm hW
  · rw [had _ (by decide)]; exact h.2.2.warm hW
theorem SG.same {ad : Nat → Nat} {A : Nat → Prop} {u U : State} {H : Heap} (hv : U.vm = u.vm) (h : SG ad A u H) : SG ad A U H :=
  ⟨h.1.go (by rw [hv]; exact Vm.Alike.refl u.vm) (fun _ _ _ => rfl) (fun _ h => h), h.2.1.same hv, h.2.2.same hv⟩
/-! ===== calls of methods that have a contract ===== -/
def p_wd (D : va_G) (aT : Nat → ClassId) (ad : Nat → Nat) (T : PT) (ij : IJ) (U : State) : Prop := va_P D vwCl (p_ws aT ad T ij) U.heap ∧ va_K D vwCl (p_tys aT) U ∧ va_D (fun _ => True) (p_ws aT ad T ij) ∧ (∀ k j, T.2.2.2 k j ≤ T.1) ∧ (∀ w ∈ nws, va_Nw w U) ∧ SG ad (va_A (p_ws aT ad T ij) U.heap.size) U U.heap
def p_B (D : va_G) (aT : Nat → ClassId) (ad : Nat → Nat) (T : PT) (A1 : Nat → Prop) (ij : IJ) (_ : Unit) (t : State) : Prop := va_P D vwCl (p_ws aT ad T ij) t.heap ∧ va_D A1 (p_ws aT ad T ij)
def p_Q (D : va_G) (aT : Nat → ClassId) (ad : Nat → Nat) (T : PT) (A1 : Nat → Prop) (r : Rs) : Array Value → State → Outcome → State → Prop := match r.1 with
  | none => va_Qv (fun _ => True) (p_B D aT ad T A1 r.2) A1
  | some (.int v) => va_Qi (fun x _ => x = v) (p_B D aT ad T A1 r.2) A1
  | some (.long v) => va_Ql (fun x _ => x = v) (p_B D aT ad T A1 r.2) A1
  | _ => fun _ _ _ _ => False
def p_rm (d : Nat) : Room := { frames := d + 4, cells := 0, slots := 0, locals := 64 * (d + 4) }
/-- the contract of method y at height d: in the world of T, ij, with these arguments it returns r -/
def MetC (l : Launch) (d y : Nat) (T : PT) (as : List Value) (ij : IJ) (r : Rs) : Prop := ∀ (D : va_G) (aT : Nat → ClassId) (ad : Nat → Nat) (sz : Nat),
  Met l (mN y) (Cond.code (mN y) (mB y) (mL y) (mR y) :: gtb) (p_rm d) (va_Pc (as.map (sv ad)) (fun U => U.heap.size = sz ∧ p_wd D aT ad T ij U)) (p_Q D aT ad T (va_A (p_ws aT ad T ij) sz) r) 0 0 (va_A (p_ws aT ad T ij) sz)
theorem gtb_cons {y : Nat} (h : mF y) : GoodIn gtb (Cond.code (mN y) (mB y) (mL y) (mR y) :: gtb) := by
  intro w hw
  rcases List.mem_cons.mp hw with rfl | hw
  · exact gtb_good _ h.1
  · exact gtb_good _ hw
set_option maxRecDepth 100000 in
theorem rm_ar {d q a b : Nat} (hR : d + 5 ≤ a ∧ 64 * (d + 5) ≤ b) (hq : q ≤ 40) : d + 4 + 1 ≤ a ∧ 8 + (q + 11) + 64 * (d + 4) ≤ b := by
  obtain ⟨h1, h2⟩ := hR
  exact ⟨by omega, by omega⟩
section PC
variable {p : Program} {l : Launch} {e : Env} {R : Room} {s : State} {m : MethodId} {args : Array Value} {below : List Frame} {meth : Method} {c : Code} {Q : State → Prop} {cc : ByteArray} {own : String}
variable {D : va_G} {aT : Nat → ClassId} {A : Nat → Prop} {H0 : Heap} {ad0 : Nat → Nat} {N0 S0 : Nat} {pc : Nat} {L st : List Value} {T : PT} {ij : IJ} {α : Type} {r : α} {d : Nat}
theorem blind_wd {av : List Value} {sz : Nat} : FrameBlind (va_Pc av (fun U => U.heap.size = sz ∧ p_wd D aT ad0 T ij U)) := by
  intro a U g mk q
  obtain ⟨q0, q1, qP, qK, qD, qT, qN, qG⟩ := q
  exact ⟨q0, q1, qP, va_K.moved (u := U) (U := U.calling g mk a) (Vm.Alike.refl U.vm) qK, qD, qT, nws_same (u := U) (U := U.calling g mk a) rfl qN, SG.same (u := U) (U := U.calling g mk a) rfl qG⟩
theorem in_A {ad : Nat → Nat} {H : Heap} {locs : List Loc} (hAq : ∀ q, H0.size ≤ q → A q) (hD : va_D A (p_ws aT ad T ij)) (hS : va_S A H0 H locs) : ∀ q, va_A (p_ws aT ad T ij) H.size q → A q := by
  intro q hq
  rcases hq with ⟨k, E, hk⟩ | hq
  · exact hD.2 k _ hk
  · exact hAq q (Nat.le_trans hS.1 hq)
theorem g_out {k : List Value → IJ → Option α} {rk : Nat} {o : Option Rs} {rest : List Value} (hAq : ∀ q, H0.size ≤ q → A q)
    (hrun : ∀ r0, o = some r0 → ∀ ad H locs cells slots ls, p_ok D aT A H0 ad0 N0 S0 T ij ad H locs cells slots → pl_has ad ls L → ∃ a9 : Array Value, va_Run p l e R s m args below meth c H locs cells slots 0 0 (F0 m pc ls (st.map (sv ad))) (rest.map (sv ad)) (p_Q D aT ad T (va_A (p_ws aT ad T ij) H.size) r0 a9) (va_A (p_ws aT ad T ij) H.size))
    (h : p_out k rk o rest = some r) (hk : ∀ st' ij', k st' ij' = some r → GW (fun H locs cells slots g => W p l e R s m args below meth c H locs cells slots Q g) m (p_ok D aT A H0 ad0 N0 S0) (pc + 3) L st' T ij') : GW (fun H locs cells slots g => W p l e R s m args below meth c H locs cells slots Q g) m (p_ok D aT A H0 ad0 N0 S0) pc L st T ij := by
  unfold p_out at h
  split at h
  · unfold p_cv at h
    split at h
    · rename_i ij'
      intro ad H locs cells slots ls ho hl
      obtain ⟨a9, hr⟩ := hrun _ rfl ad H locs cells slots ls ho hl
      have hr' : va_Run p l e R s m args below meth c H locs cells slots 0 0 (F0 m pc ls (st.map (sv ad))) (rest.map (sv ad)) (va_Qv (fun _ => True) (p_B D aT ad T (va_A (p_ws aT ad T ij) H.size) ij') (va_A (p_ws aT ad T ij) H.size) a9) (va_A (p_ws aT ad T ij) H.size) := hr
      have hin := in_A hAq ho.2.1 ho.2.2.2.1
      refine va_callv hr' ho.2.2.2.1 (fun q _ h => hin q h) hin (fun u t H1 locs1 ht hvm hp hB hz hk1 hS => ?_)
      obtain ⟨hP, hD⟩ := hB
      rw [ht] at hP
      exact hk _ _ h ad H1 locs1 cells slots ls ⟨hP, hD.weaken (fun _ q _ hq => hin q.1 hq), ho.2.2.1, hS, ho.2.2.2.2⟩ hl
    · cases h
  · unfold p_ci at h
    split at h
    · rename_i v ij'
      intro ad H locs cells slots ls ho hl
      obtain ⟨a9, hr⟩ := hrun _ rfl ad H locs cells slots ls ho hl
      have hr' : va_Run p l e R s m args below meth c H locs cells slots 0 0 (F0 m pc ls (st.map (sv ad))) (rest.map (sv ad)) (va_Qi (fun x _ => x = v) (p_B D aT ad T (va_A (p_ws aT ad T ij) H.size) ij') (va_A (p_ws aT ad T ij) H.size) a9) (va_A (p_ws aT ad T ij) H.size) := hr
      have hin := in_A hAq ho.2.1 ho.2.2.2.1
      refine va_calli hr' ho.2.2.2.1 (fun q _ h => hin q h) hin (fun x u t H1 locs1 ht hvm hp hB hz hk1 hS => ?_)
      obtain ⟨hP, hD⟩ := hB
      rw [ht] at hP
      subst hp
      exact hk _ _ h ad H1 locs1 cells slots ls ⟨hP, hD.weaken (fun _ q _ hq => hin q.1 hq), ho.2.2.1, hS, ho.2.2.2.2⟩ hl
    · cases h
  · unfold p_cl at h
    split at h
    · rename_i v ij'
      intro ad H locs cells slots ls ho hl
      obtain ⟨a9, hr⟩ := hrun _ rfl ad H locs cells slots ls ho hl
      have hr' : va_Run p l e R s m args below meth c H locs cells slots 0 0 (F0 m pc ls (st.map (sv ad))) (rest.map (sv ad)) (va_Ql (fun x _ => x = v) (p_B D aT ad T (va_A (p_ws aT ad T ij) H.size) ij') (va_A (p_ws aT ad T ij) H.size) a9) (va_A (p_ws aT ad T ij) H.size) := hr
      have hin := in_A hAq ho.2.1 ho.2.2.2.1
      refine va_calll hr' ho.2.2.2.1 (fun q _ h => hin q h) hin (fun x u t H1 locs1 ht hvm hp hB hz hk1 hS => ?_)
      obtain ⟨hP, hD⟩ := hB
      rw [ht] at hP
      subst hp
      exact hk _ _ h ad H1 locs1 cells slots ls ⟨hP, hD.weaken (fun _ q _ hq => hin q.1 hq), ho.2.2.1, hS, ho.2.2.2.2⟩ hl
    · cases h
theorem st_split {ad : Nat → Nat} {b : Nat} : st.map (sv ad) = ((st.take b).reverse.map (sv ad)).reverse ++ (st.drop b).map (sv ad) := by
  rw [← List.map_reverse, List.reverse_reverse, ← List.map_append, List.take_append_drop]
theorem mc_room {y : Nat} (h : mF y) (hR : d + 5 ≤ R.frames ∧ 64 * (d + 5) ≤ R.locals) : (p_rm d).frames + 1 ≤ R.frames ∧ 8 + (mL y + 11) + (p_rm d).locals ≤ R.locals := by
  exact rm_ar hR h.2.2.2.1
theorem g_callS {O : Ora} {k : List Value → IJ → Option α} {y b rk idx : Nat} (hx : p.tables.exec = Jvm.exec) (hb : c.code = cc) (hml : c.maxLocals = L.length) (hown : s.vm.findClass own = some m.cls) (hts : ∀ w ∈ gtb, w.before args s = true) (hK : va_K D vwCl (p_tys aT) s) (hN : ∀ w ∈ nws, va_Nw w s) (hG : SG ad0 A s H0) (hAq : ∀ q, H0.size ≤ q → A q)
    (hR : d + 5 ≤ R.frames ∧ 64 * (d + 5) ≤ R.locals) (hRc : T.1 ≤ N0 + R.cells ∧ T.2.1 ≤ S0 + R.slots) (hO : ∀ r0, O T y (st.take b).reverse ij = some r0 → MetC l d y T (st.take b).reverse ij r0)
    (hF : mF y) (hkd : mK y = 0) (hn : mP y b) (hlk : Cond.methodLink own idx (mN y) ∈ gtb ∨ ∃ host, Cond.methodLinkNest own idx (mN y) host ∈ nws) (hd : decode cc pc = .ok (.invokestatic idx, 3))
    (h : p_call O T ij y b rk st k = some r) (hk : ∀ st' ij', k st' ij' = some r → GW (fun H locs cells slots g => W p l e R s m args below meth c H locs cells slots Q g) m (p_ok D aT A H0 ad0 N0 S0) (pc + 3) L st' T ij') : GW (fun H locs cells slots g => W p l e R s m args below meth c H locs cells slots Q g) m (p_ok D aT A H0 ad0 N0 S0) pc L st T ij := by
  unfold p_call at h
  simp only [p_bif_dec] at h
  split at h
  · rename_i hbl
    split at h
    · rename_i hwd
      refine g_out hAq (fun r0 hr0 ad H locs cells slots ls ho hl => ?_) h hk
      have hM := hO r0 hr0 D aT ad H.size
      have hp : PreS s H (va_Pc ((st.take b).reverse.map (sv ad)) (fun U => U.heap.size = H.size ∧ p_wd D aT ad T ij U)) ((st.take b).reverse.map (sv ad)) :=
        ⟨blind_wd, fun U hU hW => ⟨rfl, by rw [hU], by rw [hU]; exact ho.1, va_K.moved hW.alike hK, ho.2.1.weaken (fun _ _ _ _ => trivial), ho.2.2.1, nws_warm hW hN, by rw [hU]; exact hG.go hW ho.2.2.2.1.2.1 (in_A hAq ho.2.1 ho.2.2.2.1) (fun k hk => ho.2.2.2.2.2.2 k (Or.inr hk))⟩⟩
      have hlen : ((st.take b).reverse.map (sv ad)).length = b := by simp; omega
      have hw8 : 2 * (F0 m pc ls (st.map (sv ad))).monitorRoom + (((st.drop b).map (sv ad)).map fun v => v.category).sum ≤ 8 := lv_room (by rw [sv_words]; exact hwd)
      have hf : cells + 0 ≤ R.cells ∧ slots + 0 ≤ R.slots := by
        have h5 := ho.2.2.2.2.1
        have h6 := ho.2.2.2.2.2.1
        omega
      rcases hlk with hlk | ⟨host, hlk⟩
      · exact ⟨_, va_runS ⟨hx, hb, hml, hown, hts⟩ hM ⟨callB_of b hts (gtb_cons hF) rfl rfl rfl (hts _ hF.2.1) (hts _ hlk) ⟨hF.2.2.1.1, hF.2.2.1.2, hn⟩ (mc_room hF hR), hts _ (hF.2.2.2.2.2.1 hkd)⟩ hp rfl hlen hl.1 st_split hw8 hd hf⟩
      · exact ⟨_, va_runSN ⟨hx, hb, hml, hown, hts⟩ hM ⟨va_cnB b hts (gtb_cons hF) rfl rfl rfl (hN _ hlk) (hts _ hF.2.1) ⟨hF.2.2.1.1, hF.2.2.1.2, hn⟩ (mc_room hF hR), hts _ (hF.2.2.2.2.2.1 hkd), trivial⟩ hp rfl hlen hl.1 st_split hw8 hd hf⟩
    · cases h
  · cases h
theorem g_callV {O : Ora} {k : List Value → IJ → Option α} {y b rk idx cn : Nat} (hx : p.tables.exec = Jvm.exec) (hb : c.code = cc) (hml : c.maxLocals = L.length) (hown : s.vm.findClass own = some m.cls) (hts : ∀ w ∈ gtb, w.before args s = true) (hK : va_K D vwCl (p_tys aT) s) (hN : ∀ w ∈ nws, va_Nw w s) (hG : SG ad0 A s H0) (hAq : ∀ q, H0.size ≤ q → A q)
    (hR : d + 5 ≤ R.frames ∧ 64 * (d + 5) ≤ R.locals) (hRc : T.1 ≤ N0 + R.cells ∧ T.2.1 ≤ S0 + R.slots) (hO : ∀ r0, O T y (st.take b).reverse ij = some r0 → MetC l d y T (st.take b).reverse ij r0)
    (hF : mF y) (hkd : mK y = cn + 1) (hb1 : 1 ≤ b) (hn : mP y (b - 1)) (hlk : Cond.methodLink own idx (mN y) ∈ gtb) (hd : decode cc pc = .ok (.invokevirtual idx, 3))
    (h : p_inw O T ij y b [rk, cn] st k = some r) (hk : ∀ st' ij', k st' ij' = some r → GW (fun H locs cells slots g => W p l e R s m args below meth c H locs cells slots Q g) m (p_ok D aT A H0 ad0 N0 S0) (pc + 3) L st' T ij') : GW (fun H locs cells slots g => W p l e R s m args below meth c H locs cells slots Q g) m (p_ok D aT A H0 ad0 N0 S0) pc L st T ij := by
  unfold p_inw at h
  dsimp only at h
  simp only [p_bif_dec] at h
  split at h
  · rename_i q as' has
    split at h
    · rename_i hq
      unfold p_call at h
      simp only [p_bif_dec] at h
      split at h
      · rename_i hbl
        split at h
        · rename_i hwd
          refine g_out hAq (fun r0 hr0 ad H locs cells slots ls ho hl => ?_) h hk
          have hM := hO r0 hr0 D aT ad H.size
          rw [has] at hM
          obtain ⟨k1, k2⟩ := kd_in hq (by have := (hF.2.2.2.2.2.2 cn hkd).2.2; omega)
          obtain ⟨ty0, f1, -⟩ := cf_all cn (hF.2.2.2.2.2.2 cn hkd).2.2
          have hc : (p_ws aT ad T ij)[q]? = some (ad q, .inr (cn, p_obj ad T ij q cn (p_kd T q).2)) := by
            rw [ws_get k1]; unfold p_cell; rw [k2, hq, if_pos (by have := (hF.2.2.2.2.2.2 cn hkd).2.2; omega)]
          have hp : PreV s H (cT cn).1 (ad q) (va_Pc ((Value.ref q :: as').map (sv ad)) (fun U => U.heap.size = H.size ∧ p_wd D aT ad T ij U)) (as'.map (sv ad)) :=
            ⟨blind_wd, va_recv hK ho.1 f1 hc, fun U hU hW => ⟨rfl, by rw [hU], by rw [hU]; exact ho.1, va_K.moved hW.alike hK, ho.2.1.weaken (fun _ _ _ _ => trivial), ho.2.2.1, nws_warm hW hN, by rw [hU]; exact hG.go hW ho.2.2.2.1.2.1 (in_A hAq ho.2.1 ho.2.2.2.1) (fun k hk => ho.2.2.2.2.2.2 k (Or.inr hk))⟩⟩
          have hlen : (as'.map (sv ad)).length = b - 1 := by
            have h9 : (st.take b).reverse.length = b := by simp; omega
            rw [has] at h9
            simp only [List.length_cons] at h9
            simp; omega
          have hw8 : 2 * (F0 m pc ls (st.map (sv ad))).monitorRoom + (((st.drop b).map (sv ad)).map fun v => v.category).sum ≤ 8 := lv_room (by rw [sv_words]; exact hwd)
          have hstk : st.map (sv ad) = (as'.map (sv ad)).reverse ++ .ref (ad q) :: (st.drop b).map (sv ad) := by
            rw [st_split (b := b), has]
            simp [sv]
          have hf : cells + 0 ≤ R.cells ∧ slots + 0 ≤ R.slots := by
            have h5 := ho.2.2.2.2.1
            have h6 := ho.2.2.2.2.2.1
            omega
          exact ⟨_, va_runV ⟨hx, hb, hml, hown, hts⟩ hM ⟨callB_of (b - 1) hts (gtb_cons hF) rfl rfl rfl (hts _ hF.2.1) (hts _ hlk) ⟨hF.2.2.1.1, hF.2.2.1.2, hn⟩ (mc_room hF hR), hts _ (hF.2.2.2.2.2.2 cn hkd).1, hts _ (hF.2.2.2.2.2.2 cn hkd).2.1⟩ hp rfl hlen hl.1 hstk hw8 hd hf⟩
        · cases h
      · cases h
    · cases h
  · cases h
/-- a string method's call keeps the world -/
theorem g_keep {ad : Nat → Nat} {H H1 : Heap} {locs locs1 : List Loc} {cells slots : Nat} (ho : p_ok D aT A H0 ad0 N0 S0 T ij ad H locs cells slots) (hq : ∀ q : Nat, q < H.size → H1[q]? = H[q]?) (hS : va_S A H0 H1 locs1) : p_ok D aT A H0 ad0 N0 S0 T ij ad H1 locs1 cells slots := by
  refine ⟨ho.1.kept (fun k q hk => ?_), ho.2.1, ho.2.2.1, hS, ho.2.2.2.2⟩
  by_cases hl : q.1 < H.size
  · exact hq _ hl
  · exfalso
    have := (ho.1 k q hk).lt
    omega
theorem g_str {k : List Value → Option α} {w idx : Nat} (hx : p.tables.exec = Jvm.exec) (hb : c.code = cc) (hml : c.maxLocals = L.length) (hown : s.vm.findClass "SewnRoads$Tokens" = some m.cls) (hts : ∀ w ∈ gtb, w.before args s = true) (hG : SG ad0 A s H0) (hH0 : H0 = s.heap) (hAq : ∀ q, H0.size ≤ q → A q)
    (hR : d + 5 ≤ R.frames ∧ 64 * (d + 5) ≤ R.locals) (hRc : T.1 ≤ N0 + R.cells ∧ T.2.1 ≤ S0 + R.slots) (hw : (w = 1 ∧ idx = 31) ∨ (w = 2 ∧ idx = 37) ∨ (w = 3 ∧ idx = 80)) (hd : decode cc pc = .ok (.invokevirtual idx, 3))
    (h : p_str w st k = some r) (hk : ∀ st', k st' = some r → GW (fun H locs cells slots g => W p l e R s m args below meth c H locs cells slots Q g) m (p_ok D aT A H0 ad0 N0 S0) (pc + 3) L st' T ij) : GW (fun H locs cells slots g => W p l e R s m args below meth c H locs cells slots Q g) m (p_ok D aT A H0 ad0 N0 S0) pc L st T ij := by
  subst hH0
  have F : ∀ (ad : Nat → Nat) (H : Heap) (locs : List Loc) (cells slots : Nat) (ls : Array Slot) (dd : Nat), dd ≤ 4 → p_ok D aT A s.heap ad0 N0 S0 T ij ad H locs cells slots → pl_has ad ls L → KF p m c cc ls s args "SewnRoads$Tokens" A ad H locs R cells slots dd := by
    intro ad H locs cells slots ls dd hdd ho hl
    have h5 := ho.2.2.2.2.1
    have h6 := ho.2.2.2.2.2.1
    exact ⟨⟨hx, hb, by rw [hml, hl.1], hown, hts⟩, hG.1.ad (fun k hk => ho.2.2.2.2.2.2 k (Or.inr hk)), ho.2.2.2.1, hAq, ⟨by omega, by omega⟩, by omega, by omega⟩
  rcases hw with ⟨rfl, rfl⟩ | ⟨rfl, rfl⟩ | ⟨rfl, rfl⟩
  · unfold p_str at h
    simp only [p_bif_dec] at h
    split at h
    · rename_i q r'
      split at h
      · rename_i hc
        obtain ⟨rfl, hwd⟩ := hc
        intro ad H locs cells slots ls ho hl
        refine k_callV (as := []) (i := 0) (v := 128) (by decide) (F ad H locs cells slots ls 1 (by omega) ho hl) (c_len l ad (i := 0) (by decide)) wk_len_c wk_iS wk_len_i wk_len_v wl_len_31 ⟨by decide, by decide, rfl⟩ (by decide) (by rw [sv_words]; exact hwd) hd (fun H1 locs1 hq hS => ?_)
        exact hk _ h ad H1 locs1 cells slots ls (g_keep ho hq hS) hl
      · cases h
    · cases h
  · unfold p_str at h
    simp only [p_bif_dec, p_chk_ite] at h
    split at h
    · rename_i i q r'
      split at h
      · rename_i hc
        obtain ⟨rfl, hwd⟩ := hc
        split at h
        · rename_i hin
          have hin := in_lt (by decide) hin
          obtain ⟨j, hj, rfl⟩ : ∃ j, j < 128 ∧ i = nI j := vp_in_of hin (by decide)
          rw [nI_clamp (by omega)] at h
          intro ad H locs cells slots ls ho hl
          refine k_callV (as := [.int (nI j)]) (i := 0) (v := kch j) (by decide) (F ad H locs cells slots ls 3 (by omega) ho hl) (c_chr l ad hj) wk_chr_c wk_iS wk_chr_i wk_chr_v wl_chr_37 ⟨by decide, by decide, rfl⟩ (by decide) (by rw [sv_words]; exact hwd) hd (fun H1 locs1 hq hS => ?_)
          exact hk _ h ad H1 locs1 cells slots ls (g_keep ho hq hS) hl
        · cases h
      · cases h
    · cases h
  · unfold p_str at h
    simp only [p_bif_dec] at h
    split at h
    · rename_i x q r'
      split at h
      · rename_i hc
        obtain ⟨rfl, hwd⟩ := hc
        intro ad H locs cells slots ls ho hl
        refine k_callV (as := [.int x]) (i := 1) (v := kix x) (by decide) (F ad H locs cells slots ls 3 (by omega) ho hl) (c_ix1 l ad x) wk_ix1_c wk_iS wk_ix1_i wk_ix1_v wl_ix1_80 ⟨by decide, by decide, rfl⟩ (by decide) (by rw [sv_words]; exact hwd) hd (fun H1 locs1 hq hS => ?_)
        exact hk _ h ad H1 locs1 cells slots ls (g_keep ho hq hS) hl
      · cases h
    · cases h
end PC
end
section
/-! ===== a step of the pure machine is a step of the machine ===== -/
def ck1 (o pc : Nat) (E : PE) : Bool := match E.1 with
  | .iconst n => decide (E.2.1 = pc + 1) && decide (Int32.ofInt n = E.2.2.2.2.1)
  | .bipush n => decide (E.2.1 = pc + 2) && decide ((Int8.ofInt n).toInt32 = E.2.2.2.2.1)
  | .sipush n => decide (E.2.1 = pc + 3) && decide ((Int16.ofInt n).toInt32 = E.2.2.2.2.1)
  | .ldc idx => decide (E.2.1 = pc + 2) && (match E.2.2.2.2.2 with
    | [] => (cIk o).any (fun q => decide (q.1 = idx ∧ q.2.1 = E.2.2.2.2.1))
    | [q] => decide (o = 10 ∧ (idx = 29 ∧ q = 100001 ∨ idx = 78 ∧ q = 100003))
    | _ => false)
  | .ldc_w idx => decide (E.2.1 = pc + 3) && (cIk o).any (fun q => decide (q.1 = idx ∧ q.2.1 = E.2.2.2.2.1))
  | .lconst n => decide (E.2.1 = pc + 1) && decide (E.2.2.1 = n.val)
  | .ldc2_w idx => decide (E.2.1 = pc + 3) && (cJk o).any (fun q => decide (q.1 = idx ∧ q.2.1 = E.2.2.1))
  | .iload _ => decide (E.2.1 = pc + 2)
  | .lload _ => decide (E.2.1 = pc + 2)
  | .aload _ => decide (E.2.1 = pc + 2)
  | .istore _ => decide (E.2.1 = pc + 2)
  | .lstore _ => decide (E.2.1 = pc + 2)
  | .astore _ => decide (E.2.1 = pc + 2)
  | .iinc _ n => decide (E.2.1 = pc + 3) && decide (Int32.ofInt n = E.2.2.2.2.1)
  | .ifCond _ off => decide (E.2.1 = pc + 3) && decide ((pc : Int) + off = (E.2.2.1 : Int))
  | .if_icmp _ off => decide (E.2.1 = pc + 3) && decide ((pc : Int) + off = (E.2.2.1 : Int))
  | .goto off => decide (E.2.1 = pc + 3) && decide ((pc : Int) + off = (E.2.2.1 : Int))
  | .tableswitch dflt lo hi offs => decide ((pc : Int) + dflt = (E.2.2.1 : Int)) && (decide (lo = (E.2.2.2.1 : Int)) && (decide (hi + 1 = (E.2.2.2.1 : Int) + E.2.2.2.2.2.length) && (decide (offs.toList = E.2.2.2.2.2.map (fun (t : Nat) => (t : Int) - (pc : Int))) && decide (E.2.2.2.1 + E.2.2.2.2.2.length < 100000))))
  | .getfield idx => decide (E.2.1 = pc + 3) && ((flk o).any (fun q => decide (q.1 = idx ∧ q.2.1 = E.2.2.1 ∧ q.2.2.1 = E.2.2.2.1)) || (fnk o).any (fun q => decide (q.1 = idx ∧ q.2.1 = E.2.2.1 ∧ q.2.2.1 = E.2.2.2.1)))
  | .putfield idx => decide (E.2.1 = pc + 3) && (flk o).any (fun q => decide (q.1 = idx ∧ q.2.1 = E.2.2.1 ∧ q.2.2.1 = E.2.2.2.1))
  | .invokevirtual idx => decide (E.2.1 = pc + 3) && (match E.2.2.2.2.2 with
    | [_, cn] => decide (mK E.2.2.1 = cn + 1) && (decide (1 ≤ E.2.2.2.1) && (mlk o).any (fun q => decide (q.1 = idx ∧ q.2.1 = E.2.2.1 ∧ q.2.2.1 = E.2.2.2.1 - 1)))
    | [_, _, w] => decide (o = 10 ∧ (w = 1 ∧ idx = 31 ∨ w = 2 ∧ idx = 37 ∨ w = 3 ∧ idx = 80))
    | _ => false)
  | .invokestatic idx => decide (E.2.1 = pc + 3) && (match E.2.2.2.2.2 with
    | [_] => decide (mK E.2.2.1 = 0) && ((mlk o).any (fun q => decide (q.1 = idx ∧ q.2.1 = E.2.2.1 ∧ q.2.2.1 = E.2.2.2.1)) || (mnk o).any (fun q => decide (q.1 = idx ∧ q.2.1 = E.2.2.1 ∧ q.2.2.1 = E.2.2.2.1)))
    | [_, k] => (spk o).any (fun q => decide (q.1 = idx ∧ q.2.1 = k))
    | _ => false)
  | _ => decide (E.2.1 = pc + 1)
def ckI (o : Nat) (cc : ByteArray) (pc : Nat) (E : PE) : Bool := decide (decode cc pc = .ok (E.1, E.2.1 - pc)) && ck1 o pc E
def retI : Option Value → Instr
  | none => .return_
  | some (.long _) => .lreturn
  | _ => .ireturn
theorem any_q {β : Type} {l : List β} {P : β → Prop} {f : β → Bool} (h : l.any f = true) (hf : ∀ q ∈ l, f q = true → P q) : ∃ q ∈ l, P q := by
  obtain ⟨q, h1, h2⟩ := List.any_eq_true.mp h
  exact ⟨q, h1, hf q h1 h2⟩
theorem p_sw_of {α : Type} {k : Nat → Option α} {dd : Nat} {x : Int32} {r : α} : ∀ (ts : List Nat) (n : Nat), p_sw k dd x n ts = some r → (∃ i t, ts[i]? = some t ∧ x = nI (n + i) ∧ k t = some r) ∨ ((∀ i, i < ts.length → x ≠ nI (n + i)) ∧ k dd = some r)
  | [], n, h => Or.inr ⟨fun i hi => absurd hi (Nat.not_lt_zero _), h⟩
  | t :: ts, n, h => by
    unfold p_sw at h
    split at h
    · rename_i hx
      exact Or.inl ⟨0, t, rfl, hx, h⟩
    · rename_i hx
      rcases p_sw_of ts (n + 1) h with ⟨i, t', h1, h2, h3⟩ | ⟨h1, h2⟩
      · exact Or.inl ⟨i + 1, t', h1, by rw [h2]; congr 1; omega, h3⟩
      · refine Or.inr ⟨fun i hi => ?_, h2⟩
        cases i with
        | zero => exact hx
        | succ i =>
          have h5 := h1 i (by simp only [List.length_cons] at hi; omega)
          intro h6
          exact h5 (by rw [h6]; congr 1; omega)
section PMain
variable {p : Program} {l : Launch} {e : Env} {R : Room} {s : State} {m : MethodId} {args : Array Value} {below : List Frame} {meth : Method} {c : Code} {Q : State → Prop} {cc : ByteArray} {o : Nat}
variable {D : va_G} {aT : Nat → ClassId} {A : Nat → Prop} {H0 : Heap} {ad0 : Nat → Nat} {N0 S0 : Nat} {pc : Nat} {L st : List Value} {T : PT} {ij : IJ} {α : Type} {r : α} {d nL : Nat}
/-- at an end -/
def RWr (Wf : Heap → List Loc → Nat → Nat → JFrame → Prop) (m : MethodId) (cc : ByteArray) (okp : PT → IJ → (Nat → Nat) → Heap → List Loc → Nat → Nat → Prop) (T : PT) (v : Option Value) (ij : IJ) : Prop :=
  ∀ (pc : Nat), decode cc pc = .ok (retI v, 1) → ∀ ad H locs cells slots (ls : Array Slot), okp T ij ad H locs cells slots → Wf H locs cells slots (F0 m pc ls v.toList)
theorem sw_sound {X : Int32} {rest : List Value} {dflt lo hi : Int} {offs : Array Int} {len : Nat} {a b : Nat} {ts : List Nat} {k : Nat → Option α} (hx : p.tables.exec = Jvm.exec) (hb : c.code = cc) (hdg : decode cc pc = .ok (.tableswitch dflt lo hi offs, len))
    (h1 : (pc : Int) + dflt = (a : Int)) (h2 : lo = (b : Int)) (h3 : hi + 1 = (b : Int) + ts.length) (h4 : offs.toList = ts.map (fun (t : Nat) => (t : Int) - (pc : Int))) (h5 : b + ts.length < 100000)
    (h : p_sw k a X b ts = some r) (hk : ∀ t, k t = some r → GW (fun H locs cells slots g => W p l e R s m args below meth c H locs cells slots Q g) m (p_ok D aT A H0 ad0 N0 S0) t L rest T ij) : GW (fun H locs cells slots g => W p l e R s m args below meth c H locs cells slots Q g) m (p_ok D aT A H0 ad0 N0 S0) pc L (.int X :: rest) T ij := by
  intro ad H locs cells slots ls ho hl
  rcases p_sw_of ts b h with ⟨i, t, e1, e2, e3⟩ | ⟨e1, e2⟩
  · have hi2 : i < ts.length := (List.getElem?_eq_some_iff.mp e1).1
    have hX : X.toInt = (b + i : Nat) := by rw [e2, nI_toInt (by omega)]
    refine lv_tableIn (off := (t : Int) - pc) (tgt := t) hx hb hdg (by omega) (by omega) ?_ (by omega) (hk t e3 ad H locs cells slots ls ho hl)
    have e4 : (X.toInt - lo).toNat = i := by omega
    rw [e4, ← Array.getElem?_toList, h4, List.getElem?_map, e1]
    rfl
  · refine lv_tableOut (tgt := a) hx hb hdg ?_ h1 (hk a e2 ad H locs cells slots ls ho hl)
    by_cases q1 : X.toInt < lo
    · exact Or.inl q1
    · right
      refine Int.not_le.mp (fun q2 => ?_)
      refine e1 (X.toInt - lo).toNat (by omega) ?_
      apply Int32.toInt_inj.mp
      rw [nI_toInt (by omega)]
      omega
theorem g_if1 {cd : ClassFile.Cond} {off : Int} {tgt : Nat} {kt kf : List Value → Option α} (hx : p.tables.exec = Jvm.exec) (hb : c.code = cc) (hd : decode cc pc = .ok (.ifCond cd off, 3)) (ht : (pc : Int) + off = (tgt : Int))
    (h : p_if1 cd st kt kf = some r) (hkt : ∀ st', kt st' = some r → GW (fun H locs cells slots g => W p l e R s m args below meth c H locs cells slots Q g) m (p_ok D aT A H0 ad0 N0 S0) tgt L st' T ij) (hkf : ∀ st', kf st' = some r → GW (fun H locs cells slots g => W p l e R s m args below meth c H locs cells slots Q g) m (p_ok D aT A H0 ad0 N0 S0) (pc + 3) L st' T ij) : GW (fun H locs cells slots g => W p l e R s m args below meth c H locs cells slots Q g) m (p_ok D aT A H0 ad0 N0 S0) pc L st T ij := by
  unfold p_if1 at h
  split at h
  · rename_i x rest
    intro ad H locs cells slots ls ho hl
    have h1 := fun hh => hkt rest hh ad H locs cells slots ls ho hl
    have h2 := fun hh => hkf rest hh ad H locs cells slots ls ho hl
    cases cd with
    | eq =>
      unfold p_br1 at h
      dsimp only at h
      exact lv_if_eq hx hb hd ht (fun q => h1 (by rw [if_pos q] at h; exact h)) (fun q => h2 (by rw [if_neg q] at h; exact h))
    | ne =>
      unfold p_br1 at h
      dsimp only at h
      exact lv_if_ne hx hb hd ht (fun q => h1 (by rw [if_neg q] at h; exact h)) (fun q => h2 (by rw [if_pos q] at h; exact h))
    | lt =>
      unfold p_br1 at h
      dsimp only at h
      exact lv_if_lt hx hb hd ht (fun q => h1 (by rw [if_pos q] at h; exact h)) (fun q => h2 (by rw [if_neg q] at h; exact h))
    | ge =>
      unfold p_br1 at h
      dsimp only at h
      exact lv_if_ge hx hb hd ht (fun q => h1 (by rw [if_pos q] at h; exact h)) (fun q => h2 (by rw [if_neg q] at h; exact h))
    | gt =>
      unfold p_br1 at h
      dsimp only at h
      exact lv_if_gt hx hb hd ht (fun q => h1 (by rw [if_pos q] at h; exact h)) (fun q => h2 (by rw [if_neg q] at h; exact h))
    | le =>
      unfold p_br1 at h
      dsimp only at h
      exact lv_if_le hx hb hd ht (fun q => h1 (by rw [if_pos q] at h; exact h)) (fun q => h2 (by rw [if_neg q] at h; exact h))
  · cases h
theorem g_if2 {cd : ClassFile.Cond} {off : Int} {tgt : Nat} {kt kf : List Value → Option α} (hx : p.tables.exec = Jvm.exec) (hb : c.code = cc) (hd : decode cc pc = .ok (.if_icmp cd off, 3)) (ht : (pc : Int) + off = (tgt : Int))
    (h : p_if2 cd st kt kf = some r) (hkt : ∀ st', kt st' = some r → GW (fun H locs cells slots g => W p l e R s m args below meth c H locs cells slots Q g) m (p_ok D aT A H0 ad0 N0 S0) tgt L st' T ij) (hkf : ∀ st', kf st' = some r → GW (fun H locs cells slots g => W p l e R s m args below meth c H locs cells slots Q g) m (p_ok D aT A H0 ad0 N0 S0) (pc + 3) L st' T ij) : GW (fun H locs cells slots g => W p l e R s m args below meth c H locs cells slots Q g) m (p_ok D aT A H0 ad0 N0 S0) pc L st T ij := by
  unfold p_if2 at h
  split at h
  · rename_i y x rest
    intro ad H locs cells slots ls ho hl
    have h1 := fun hh => hkt rest hh ad H locs cells slots ls ho hl
    have h2 := fun hh => hkf rest hh ad H locs cells slots ls ho hl
    cases cd with
    | eq =>
      unfold p_br2 at h
      dsimp only at h
      exact lv_icmp_eq hx hb hd ht (fun q => h1 (by rw [if_pos q] at h; exact h)) (fun q => h2 (by rw [if_neg q] at h; exact h))
    | ne =>
      unfold p_br2 at h
      dsimp only at h
      exact lv_icmp_ne hx hb hd ht (fun q => h1 (by rw [if_neg q] at h; exact h)) (fun q => h2 (by rw [if_pos q] at h; exact h))
    | lt =>
      unfold p_br2 at h
      dsimp only at h
      exact lv_icmp_lt hx hb hd ht (fun q => h1 (by rw [if_pos q] at h; exact h)) (fun q => h2 (by rw [if_neg q] at h; exact h))
    | ge =>
      unfold p_br2 at h
      dsimp only at h
      exact lv_icmp_ge hx hb hd ht (fun q => h1 (by rw [if_pos q] at h; exact h)) (fun q => h2 (by rw [if_neg q] at h; exact h))
    | gt =>
      unfold p_br2 at h
      dsimp only at h
      exact lv_icmp_gt hx hb hd ht (fun q => h1 (by rw [if_pos q] at h; exact h)) (fun q => h2 (by rw [if_neg q] at h; exact h))
    | le =>
      unfold p_br2 at h
      dsimp only at h
      exact lv_icmp_le hx hb hd ht (fun q => h1 (by rw [if_pos q] at h; exact h)) (fun q => h2 (by rw [if_neg q] at h; exact h))
  · cases h
theorem ckd {nx a b : Nat} {v : Int32} {ts : List Nat} {ins : Instr} (h : ckI o cc pc (ins, nx, a, b, v, ts) = true) : decode cc pc = .ok (ins, nx - pc) ∧ ck1 o pc (ins, nx, a, b, v, ts) = true := by
  unfold ckI at h
  rw [Bool.and_eq_true] at h
  exact ⟨of_decide_eq_true h.1, h.2⟩
theorem dec_n {nx k : Nat} {ins : Instr} (h : decode cc pc = .ok (ins, nx - pc)) (hn : nx = pc + k) : decode cc pc = .ok (ins, k) := by
  rw [hn, Nat.add_sub_cancel_left] at h
  exact h
set_option maxHeartbeats 4000000 in
theorem stpS_sound {O : Ora} {X : PX} {E : PE} {k : Nat → List Value → List Value → IJ → Option α} {rt : Option Value → IJ → Option α} (hx : p.tables.exec = Jvm.exec) (hb : c.code = cc) (hml : c.maxLocals = nL) (hown : s.vm.findClass (oN o) = some m.cls) (hts : ∀ w ∈ gtb, w.before args s = true) (hK : va_K D vwCl (p_tys aT) s) (hN : ∀ w ∈ nws, va_Nw w s) (hG : SG ad0 A s H0) (hH0 : H0 = s.heap)
    (hX : ∀ X', X = some X' → va_X (ad0 100000) X'.1 X'.2 s H0 ∧ ad0 100000 < H0.size ∧ ¬ A (ad0 100000) ∧ X'.1 < 100000) (hAq : ∀ q, H0.size ≤ q → A q) (hR : d + 5 ≤ R.frames ∧ 64 * (d + 5) ≤ R.locals) (hRc : T.1 ≤ N0 + R.cells ∧ T.2.1 ≤ S0 + R.slots) (hO : ∀ y as ij r0, O T y as ij = some r0 → MetC l d y T as ij r0)
    (hck : ckI o cc pc E = true) (h : stpS O X nL T E L st ij k rt = some r) (hk : ∀ pc' L' st' ij', k pc' L' st' ij' = some r → GW (fun H locs cells slots g => W p l e R s m args below meth c H locs cells slots Q g) m (p_ok D aT A H0 ad0 N0 S0) pc' L' st' T ij')
    (hrt : ∀ v ij', rt v ij' = some r → RWr (fun H locs cells slots g => W p l e R s m args below meth c H locs cells slots Q g) m cc (p_ok D aT A H0 ad0 N0 S0) T v ij') : GW (fun H locs cells slots g => W p l e R s m args below meth c H locs cells slots Q g) m (p_ok D aT A H0 ad0 N0 S0) pc L st T ij := by
  obtain ⟨ins, nx, a, b, v, ts⟩ := E
  obtain ⟨hd, hc⟩ := ckd hck
  cases ins with
  | iconst n =>
    have hc' := (Bool.and_eq_true _ _).mp hc
    have hn : nx = pc + 1 := of_decide_eq_true hc'.1
    have hv := of_decide_eq_true hc'.2
    subst hn
    have hd := dec_n hd rfl
    simp only [stpS, p_bif_dec, p_chk_ite] at h
    exact g_push (fun _ => rfl) (fun H locs cells slots ls rest hw => lv_iconst hx hb hd hv hw) (hk _ _ _ _ h)
  | bipush n =>
    have hc' := (Bool.and_eq_true _ _).mp hc
    have hn : nx = pc + 2 := of_decide_eq_true hc'.1
    have hv := of_decide_eq_true hc'.2
    subst hn
    have hd := dec_n hd rfl
    simp only [stpS, p_bif_dec, p_chk_ite] at h
    exact g_push (fun _ => rfl) (fun H locs cells slots ls rest hw => lv_bipush hx hb hd hv hw) (hk _ _ _ _ h)
  | sipush n =>
    have hc' := (Bool.and_eq_true _ _).mp hc
    have hn : nx = pc + 3 := of_decide_eq_true hc'.1
    have hv := of_decide_eq_true hc'.2
    subst hn
    have hd := dec_n hd rfl
    simp only [stpS, p_bif_dec, p_chk_ite] at h
    exact g_push (fun _ => rfl) (fun H locs cells slots ls rest hw => lv_sipush hx hb hd hv hw) (hk _ _ _ _ h)
  | ldc idx =>
    have hc' := (Bool.and_eq_true _ _).mp hc
    have hn : nx = pc + 2 := of_decide_eq_true hc'.1
    subst hn
    have hd := dec_n hd rfl
    have hc2 := hc'.2
    simp only [stpS] at h
    dsimp only at hc2
    split at hc2
    · obtain ⟨q, hq, hv⟩ := List.any_eq_true.mp hc2
      obtain ⟨e1, e2⟩ := of_decide_eq_true hv
      have hw9 := cI_all o q hq
      rw [e1, e2] at hw9
      exact g_push (fun _ => rfl) (fun H locs cells slots ls rest hw => lv_ldc hx hb hown (hts _ hw9) hd hw) (hk _ _ _ _ h)
    · rename_i q
      obtain ⟨ho, hv⟩ := of_decide_eq_true hc2
      subst ho
      intro ad H locs cells slots ls ho hl
      have h1 := hk _ _ _ _ h ad H locs cells slots ls ho hl
      rcases hv with ⟨rfl, rfl⟩ | ⟨rfl, rfl⟩
      · have e9 : ad 100001 = ad0 100001 := ho.2.2.2.2.2.2 _ (Or.inr (by decide))
        have h2 : W p l e R s m args below meth c H locs cells slots Q (F0 m (pc + 2) ls (.ref (ad 100001) :: st.map (sv ad))) := h1
        rw [e9] at h2
        exact va_ldcS hx hb hown hG.2.1 hd h2
      · have e9 : ad 100003 = ad0 100003 := ho.2.2.2.2.2.2 _ (Or.inr (by decide))
        have h2 : W p l e R s m args below meth c H locs cells slots Q (F0 m (pc + 2) ls (.ref (ad 100003) :: st.map (sv ad))) := h1
        rw [e9] at h2
        exact va_ldcS hx hb hown hG.2.2 hd h2
    · cases hc2
  | ldc_w idx =>
    have hc' := (Bool.and_eq_true _ _).mp hc
    have hn : nx = pc + 3 := of_decide_eq_true hc'.1
    obtain ⟨q, hq, hv⟩ := List.any_eq_true.mp hc'.2
    obtain ⟨e1, e2⟩ := of_decide_eq_true hv
    subst hn
    have hd := dec_n hd rfl
    simp only [stpS, p_bif_dec, p_chk_ite] at h
    have hw9 := cI_all o q hq
    rw [e1, e2] at hw9
    exact g_push (fun _ => rfl) (fun H locs cells slots ls rest hw => lv_ldcw hx hb hown (hts _ hw9) hd hw) (hk _ _ _ _ h)
  | ldc2_w idx =>
    have hc' := (Bool.and_eq_true _ _).mp hc
    have hn : nx = pc + 3 := of_decide_eq_true hc'.1
    obtain ⟨q, hq, hv⟩ := List.any_eq_true.mp hc'.2
    obtain ⟨e1, e2⟩ := of_decide_eq_true hv
    subst hn
    have hd := dec_n hd rfl
    simp only [stpS, p_bif_dec, p_chk_ite] at h
    have hw9 := cJ_all o q hq
    rw [e1, e2] at hw9
    exact g_push (fun _ => rfl) (fun H locs cells slots ls rest hw => lv_ldc2 hx hb hown (hts _ hw9) hd hw) (hk _ _ _ _ h)
  | lconst n =>
    have hc' := (Bool.and_eq_true _ _).mp hc
    have hn : nx = pc + 1 := of_decide_eq_true hc'.1
    have hv := of_decide_eq_true hc'.2
    subst hn
    have hd := dec_n hd rfl
    simp only [stpS, p_bif_dec, p_chk_ite] at h
    exact g_push (v := .long (Int64.ofNat a)) (fun _ => rfl) (fun H locs cells slots ls rest hw => lv_lconst hx hb hd (by have hv : a = n.val := hv; rw [hv]) hw) (hk _ _ _ _ h)
  | iload i =>
    have hn : nx = pc + 2 := of_decide_eq_true hc
    subst hn
    have hd := dec_n hd rfl
    simp only [stpS, p_bif_dec, p_chk_ite] at h
    exact g_ldi (fun H locs cells slots ls x rest hl hw => lv_iload hx hb hd hl hw) h (fun st' hh => hk _ _ _ _ hh)
  | iload_n i =>
    have hn : nx = pc + 1 := of_decide_eq_true hc
    subst hn
    have hd := dec_n hd rfl
    simp only [stpS, p_bif_dec, p_chk_ite] at h
    exact g_ldi (fun H locs cells slots ls x rest hl hw => lv_iload_n hx hb hd rfl hl hw) h (fun st' hh => hk _ _ _ _ hh)
  | lload i =>
    have hn : nx = pc + 2 := of_decide_eq_true hc
    subst hn
    have hd := dec_n hd rfl
    simp only [stpS, p_bif_dec, p_chk_ite] at h
    exact g_ldl (fun H locs cells slots ls x rest hl hw => lv_lload hx hb hd hl hw) h (fun st' hh => hk _ _ _ _ hh)
  | lload_n i =>
    have hn : nx = pc + 1 := of_decide_eq_true hc
    subst hn
    have hd := dec_n hd rfl
    simp only [stpS, p_bif_dec, p_chk_ite] at h
    exact g_ldl (fun H locs cells slots ls x rest hl hw => lv_lload_n hx hb hd rfl hl hw) h (fun st' hh => hk _ _ _ _ hh)
  | aload i =>
    have hn : nx = pc + 2 := of_decide_eq_true hc
    subst hn
    have hd := dec_n hd rfl
    simp only [stpS, p_bif_dec, p_chk_ite] at h
    exact g_lda (fun H locs cells slots ls x rest hl hw => lv_aload hx hb hd hl hw) h (fun st' hh => hk _ _ _ _ hh)
  | aload_n i =>
    have hn : nx = pc + 1 := of_decide_eq_true hc
    subst hn
    have hd := dec_n hd rfl
    simp only [stpS, p_bif_dec, p_chk_ite] at h
    exact g_lda (fun H locs cells slots ls x rest hl hw => lv_aload_n hx hb hd rfl hl hw) h (fun st' hh => hk _ _ _ _ hh)
  | istore i =>
    have hn : nx = pc + 2 := of_decide_eq_true hc
    subst hn
    have hd := dec_n hd rfl
    simp only [stpS, p_bif_dec, p_chk_ite] at h
    exact g_sti (fun H locs cells slots ls nL lv x rest hl hi hw => lv_istore hx hb hd hl hi rfl hw) h (fun L' st' hh => hk _ _ _ _ hh)
  | istore_n i =>
    have hn : nx = pc + 1 := of_decide_eq_true hc
    subst hn
    have hd := dec_n hd rfl
    simp only [stpS, p_bif_dec, p_chk_ite] at h
    exact g_sti (fun H locs cells slots ls nL lv x rest hl hi hw => lv_istore_n hx hb hd rfl hl hi rfl hw) h (fun L' st' hh => hk _ _ _ _ hh)
  | lstore i =>
    have hn : nx = pc + 2 := of_decide_eq_true hc
    subst hn
    have hd := dec_n hd rfl
    simp only [stpS, p_bif_dec, p_chk_ite] at h
    exact g_stl (fun H locs cells slots ls nL lv x rest hl hi hw => lv_lstore hx hb hd hl hi rfl hw) h (fun L' st' hh => hk _ _ _ _ hh)
  | lstore_n i =>
    have hn : nx = pc + 1 := of_decide_eq_true hc
    subst hn
    have hd := dec_n hd rfl
    simp only [stpS, p_bif_dec, p_chk_ite] at h
    exact g_stl (fun H locs cells slots ls nL lv x rest hl hi hw => lv_lstore_n hx hb hd rfl hl hi rfl hw) h (fun L' st' hh => hk _ _ _ _ hh)
  | astore i =>
    have hn : nx = pc + 2 := of_decide_eq_true hc
    subst hn
    have hd := dec_n hd rfl
    simp only [stpS, p_bif_dec, p_chk_ite] at h
    exact g_sta (fun H locs cells slots ls nL lv x rest hl hi hw => lv_astore hx hb hd hl hi rfl hw) h (fun L' st' hh => hk _ _ _ _ hh)
  | astore_n i =>
    have hn : nx = pc + 1 := of_decide_eq_true hc
    subst hn
    have hd := dec_n hd rfl
    simp only [stpS, p_bif_dec, p_chk_ite] at h
    exact g_sta (fun H locs cells slots ls nL lv x rest hl hi hw => lv_astore_n hx hb hd rfl hl hi rfl hw) h (fun L' st' hh => hk _ _ _ _ hh)
  | iinc i n =>
    have hc' := (Bool.and_eq_true _ _).mp hc
    have hn : nx = pc + 3 := of_decide_eq_true hc'.1
    have hv := of_decide_eq_true hc'.2
    subst hn
    have hd := dec_n hd rfl
    simp only [stpS, p_bif_dec, p_chk_ite] at h
    exact g_inc (fun H locs cells slots ls nL kk lv x rest hl hi hkk hw => lv_iinc hx hb hd hl hkk (by rw [hv]) hi rfl hw) h (fun L' hh => hk _ _ _ _ hh)
  | iadd =>
    have hn : nx = pc + 1 := of_decide_eq_true hc
    subst hn
    have hd := dec_n hd rfl
    simp only [stpS, p_bif_dec, p_chk_ite] at h
    exact g_b2 (fun _ _ _ => rfl) (fun H locs cells slots ls x y rest hw => lv_iadd hx hb hd hw) h (fun st' hh => hk _ _ _ _ hh)
  | isub =>
    have hn : nx = pc + 1 := of_decide_eq_true hc
    subst hn
    have hd := dec_n hd rfl
    simp only [stpS, p_bif_dec, p_chk_ite] at h
    exact g_b2 (fun _ _ _ => rfl) (fun H locs cells slots ls x y rest hw => lv_isub hx hb hd hw) h (fun st' hh => hk _ _ _ _ hh)
  | imul =>
    have hn : nx = pc + 1 := of_decide_eq_true hc
    subst hn
    have hd := dec_n hd rfl
    simp only [stpS, p_bif_dec, p_chk_ite] at h
    exact g_b2 (fun _ _ _ => rfl) (fun H locs cells slots ls x y rest hw => lv_imul hx hb hd hw) h (fun st' hh => hk _ _ _ _ hh)
  | iand =>
    have hn : nx = pc + 1 := of_decide_eq_true hc
    subst hn
    have hd := dec_n hd rfl
    simp only [stpS, p_bif_dec, p_chk_ite] at h
    exact g_b2 (fun _ _ _ => rfl) (fun H locs cells slots ls x y rest hw => lv_iand hx hb hd hw) h (fun st' hh => hk _ _ _ _ hh)
  | ior =>
    have hn : nx = pc + 1 := of_decide_eq_true hc
    subst hn
    have hd := dec_n hd rfl
    simp only [stpS, p_bif_dec, p_chk_ite] at h
    exact g_b2 (fun _ _ _ => rfl) (fun H locs cells slots ls x y rest hw => lv_ior hx hb hd hw) h (fun st' hh => hk _ _ _ _ hh)
  | ixor =>
    have hn : nx = pc + 1 := of_decide_eq_true hc
    subst hn
    have hd := dec_n hd rfl
    simp only [stpS, p_bif_dec, p_chk_ite] at h
    exact g_b2 (fun _ _ _ => rfl) (fun H locs cells slots ls x y rest hw => lv_ixor hx hb hd hw) h (fun st' hh => hk _ _ _ _ hh)
  | ishl =>
    have hn : nx = pc + 1 := of_decide_eq_true hc
    subst hn
    have hd := dec_n hd rfl
    simp only [stpS, p_bif_dec, p_chk_ite] at h
    exact g_b2 (fun _ _ _ => rfl) (fun H locs cells slots ls x y rest hw => lv_ishl hx hb hd hw) h (fun st' hh => hk _ _ _ _ hh)
  | ishr =>
    have hn : nx = pc + 1 := of_decide_eq_true hc
    subst hn
    have hd := dec_n hd rfl
    simp only [stpS, p_bif_dec, p_chk_ite] at h
    exact g_b2 (fun _ _ _ => rfl) (fun H locs cells slots ls x y rest hw => lv_ishr hx hb hd hw) h (fun st' hh => hk _ _ _ _ hh)
  | iushr =>
    have hn : nx = pc + 1 := of_decide_eq_true hc
    subst hn
    have hd := dec_n hd rfl
    simp only [stpS, p_bif_dec, p_chk_ite] at h
    exact g_b2 (fun _ _ _ => rfl) (fun H locs cells slots ls x y rest hw => lv_iushr hx hb hd rfl hw) h (fun st' hh => hk _ _ _ _ hh)
  | ineg =>
    have hn : nx = pc + 1 := of_decide_eq_true hc
    subst hn
    have hd := dec_n hd rfl
    simp only [stpS, p_bif_dec, p_chk_ite] at h
    exact g_b1 (fun _ _ => rfl) (fun H locs cells slots ls x rest hw => lv_ineg hx hb hd hw) h (fun st' hh => hk _ _ _ _ hh)
  | i2l =>
    have hn : nx = pc + 1 := of_decide_eq_true hc
    subst hn
    have hd := dec_n hd rfl
    simp only [stpS, p_bif_dec, p_chk_ite] at h
    exact g_b1 (fun _ _ => rfl) (fun H locs cells slots ls x rest hw => lv_i2l hx hb hd rfl hw) h (fun st' hh => hk _ _ _ _ hh)
  | i2b =>
    have hn : nx = pc + 1 := of_decide_eq_true hc
    subst hn
    have hd := dec_n hd rfl
    simp only [stpS, p_bif_dec, p_chk_ite] at h
    exact g_b1 (fun _ _ => rfl) (fun H locs cells slots ls x rest hw => lv_i2b hx hb hd rfl hw) h (fun st' hh => hk _ _ _ _ hh)
  | i2c =>
    have hn : nx = pc + 1 := of_decide_eq_true hc
    subst hn
    have hd := dec_n hd rfl
    simp only [stpS, p_bif_dec, p_chk_ite] at h
    exact g_b1 (fun _ _ => rfl) (fun H locs cells slots ls x rest hw => lv_i2c hx hb hd rfl hw) h (fun st' hh => hk _ _ _ _ hh)
  | l2i =>
    have hn : nx = pc + 1 := of_decide_eq_true hc
    subst hn
    have hd := dec_n hd rfl
    simp only [stpS, p_bif_dec, p_chk_ite] at h
    exact g_l1 (fun _ _ => rfl) (fun H locs cells slots ls x rest hw => lv_l2i hx hb hd rfl hw) h (fun st' hh => hk _ _ _ _ hh)
  | ladd =>
    have hn : nx = pc + 1 := of_decide_eq_true hc
    subst hn
    have hd := dec_n hd rfl
    simp only [stpS, p_bif_dec, p_chk_ite] at h
    exact g_l2 (fun _ _ _ => rfl) (fun H locs cells slots ls x y rest hw => lv_ladd hx hb hd hw) h (fun st' hh => hk _ _ _ _ hh)
  | lsub =>
    have hn : nx = pc + 1 := of_decide_eq_true hc
    subst hn
    have hd := dec_n hd rfl
    simp only [stpS, p_bif_dec, p_chk_ite] at h
    exact g_l2 (fun _ _ _ => rfl) (fun H locs cells slots ls x y rest hw => lv_lsub hx hb hd hw) h (fun st' hh => hk _ _ _ _ hh)
  | lmul =>
    have hn : nx = pc + 1 := of_decide_eq_true hc
    subst hn
    have hd := dec_n hd rfl
    simp only [stpS, p_bif_dec, p_chk_ite] at h
    exact g_l2 (fun _ _ _ => rfl) (fun H locs cells slots ls x y rest hw => lv_lmul hx hb hd hw) h (fun st' hh => hk _ _ _ _ hh)
  | lcmp =>
    have hn : nx = pc + 1 := of_decide_eq_true hc
    subst hn
    have hd := dec_n hd rfl
    simp only [stpS, p_bif_dec, p_chk_ite] at h
    exact g_l2 (fun _ _ _ => rfl) (fun H locs cells slots ls x y rest hw => W.lcmp hx hb hd hw) h (fun st' hh => hk _ _ _ _ hh)
  | idiv =>
    have hn : nx = pc + 1 := of_decide_eq_true hc
    subst hn
    have hd := dec_n hd rfl
    simp only [stpS, p_bif_dec, p_chk_ite] at h
    split at h
    · split at h
      · rename_i hne
        intro ad H locs cells slots ls ho hl
        exact lv_idiv hx hb hd (nz_ne hne) (hk _ _ _ _ h ad H locs cells slots ls ho hl)
      · cases h
    · cases h
  | irem =>
    have hn : nx = pc + 1 := of_decide_eq_true hc
    subst hn
    have hd := dec_n hd rfl
    simp only [stpS, p_bif_dec, p_chk_ite] at h
    split at h
    · split at h
      · rename_i hne
        intro ad H locs cells slots ls ho hl
        exact lv_irem hx hb hd (nz_ne hne) (hk _ _ _ _ h ad H locs cells slots ls ho hl)
      · cases h
    · cases h
  | dup =>
    have hn : nx = pc + 1 := of_decide_eq_true hc
    subst hn
    have hd := dec_n hd rfl
    simp only [stpS, p_bif_dec, p_chk_ite] at h
    split at h
    · split at h
      · rename_i w r9 hcat
        intro ad H locs cells slots ls ho hl
        exact lv_dup hx hb hd (by rw [sv_cat]; exact hcat) (hk _ _ _ _ h ad H locs cells slots ls ho hl)
      · cases h
    · cases h
  | pop =>
    have hn : nx = pc + 1 := of_decide_eq_true hc
    subst hn
    have hd := dec_n hd rfl
    simp only [stpS, p_bif_dec, p_chk_ite] at h
    split at h
    · split at h
      · rename_i w r9 hcat
        intro ad H locs cells slots ls ho hl
        exact lv_pop hx hb hd (by rw [sv_cat]; exact hcat) (hk _ _ _ _ h ad H locs cells slots ls ho hl)
      · cases h
    · cases h
  | dup2 =>
    have hn : nx = pc + 1 := of_decide_eq_true hc
    subst hn
    have hd := dec_n hd rfl
    simp only [stpS, p_bif_dec, p_chk_ite] at h
    split at h
    · split at h
      · split at h
        · rename_i w w2 r9 hcat hcat2
          intro ad H locs cells slots ls ho hl
          exact lv_dup2_11 hx hb hd (by rw [sv_cat]; exact hcat) (by rw [sv_cat]; exact hcat2) (hk _ _ _ _ h ad H locs cells slots ls ho hl)
        · cases h
      · cases h
    · cases h
  | ifCond cd off =>
    have hc' := (Bool.and_eq_true _ _).mp hc
    have hn : nx = pc + 3 := of_decide_eq_true hc'.1
    have hv := of_decide_eq_true hc'.2
    subst hn
    have hd := dec_n hd rfl
    simp only [stpS, p_bif_dec, p_chk_ite] at h
    exact g_if1 hx hb hd hv h (fun st' hh => hk _ _ _ _ hh) (fun st' hh => hk _ _ _ _ hh)
  | if_icmp cd off =>
    have hc' := (Bool.and_eq_true _ _).mp hc
    have hn : nx = pc + 3 := of_decide_eq_true hc'.1
    have hv := of_decide_eq_true hc'.2
    subst hn
    have hd := dec_n hd rfl
    simp only [stpS, p_bif_dec, p_chk_ite] at h
    exact g_if2 hx hb hd hv h (fun st' hh => hk _ _ _ _ hh) (fun st' hh => hk _ _ _ _ hh)
  | goto off =>
    have hc' := (Bool.and_eq_true _ _).mp hc
    have hn : nx = pc + 3 := of_decide_eq_true hc'.1
    have hv := of_decide_eq_true hc'.2
    subst hn
    have hd := dec_n hd rfl
    simp only [stpS, p_bif_dec, p_chk_ite] at h
    intro ad H locs cells slots ls ho hl
    exact lv_goto hx hb hd hv (hk _ _ _ _ h ad H locs cells slots ls ho hl)
  | tableswitch dflt lo hi offs =>
    simp only [ck1, Bool.and_eq_true, decide_eq_true_eq] at hc
    obtain ⟨c1, c2, c3, c4, c5⟩ := hc
    simp only [stpS, p_bif_dec, p_chk_ite] at h
    split at h
    · exact sw_sound hx hb hd c1 c2 c3 c4 c5 h (fun t hh => hk _ _ _ _ hh)
    · cases h
  | iaload =>
    have hn : nx = pc + 1 := of_decide_eq_true hc
    subst hn
    have hd := dec_n hd rfl
    simp only [stpS, p_bif_dec, p_chk_ite] at h
    exact g_ald hx hb hK hX hd h (fun st' hh => hk _ _ _ _ hh)
  | baload =>
    have hn : nx = pc + 1 := of_decide_eq_true hc
    subst hn
    have hd := dec_n hd rfl
    simp only [stpS, p_bif_dec, p_chk_ite] at h
    exact g_bld hx hb hK hd h (fun st' hh => hk _ _ _ _ hh)
  | laload =>
    have hn : nx = pc + 1 := of_decide_eq_true hc
    subst hn
    have hd := dec_n hd rfl
    simp only [stpS, p_bif_dec, p_chk_ite] at h
    exact g_lld hx hb hK hd h (fun st' hh => hk _ _ _ _ hh)
  | aaload =>
    have hn : nx = pc + 1 := of_decide_eq_true hc
    subst hn
    have hd := dec_n hd rfl
    simp only [stpS, p_bif_dec, p_chk_ite] at h
    exact g_qld hx hb hK hd h (fun st' hh => hk _ _ _ _ hh)
  | iastore =>
    have hn : nx = pc + 1 := of_decide_eq_true hc
    subst hn
    have hd := dec_n hd rfl
    simp only [stpS, p_bif_dec, p_chk_ite] at h
    exact g_ast hx hb hK hd h (fun st' ij' hh => hk _ _ _ _ hh)
  | bastore =>
    have hn : nx = pc + 1 := of_decide_eq_true hc
    subst hn
    have hd := dec_n hd rfl
    simp only [stpS, p_bif_dec, p_chk_ite] at h
    exact g_bst hx hb hK hd h (fun st' ij' hh => hk _ _ _ _ hh)
  | lastore =>
    have hn : nx = pc + 1 := of_decide_eq_true hc
    subst hn
    have hd := dec_n hd rfl
    simp only [stpS, p_bif_dec, p_chk_ite] at h
    exact g_lst hx hb hK hd h (fun st' ij' hh => hk _ _ _ _ hh)
  | arraylength =>
    have hn : nx = pc + 1 := of_decide_eq_true hc
    subst hn
    have hd := dec_n hd rfl
    simp only [stpS, p_bif_dec, p_chk_ite] at h
    exact g_len hx hb hK hX hd h (fun st' hh => hk _ _ _ _ hh)
  | getfield idx =>
    have hc' := (Bool.and_eq_true _ _).mp hc
    have hn : nx = pc + 3 := of_decide_eq_true hc'.1
    subst hn
    have hd := dec_n hd rfl
    simp only [stpS, p_bif_dec, p_chk_ite] at h
    rcases (Bool.or_eq_true _ _).mp hc'.2 with hq | hq
    · obtain ⟨q, hq, hv⟩ := List.any_eq_true.mp hq
      obtain ⟨e1, e2, e3⟩ := of_decide_eq_true hv
      obtain ⟨⟨f1, f2⟩, f3⟩ := fl_all o q hq
      rw [e2] at f1 f2
      rw [e3] at f2
      rw [e1, e2, e3] at f3
      exact g_get hx hb hown hts hK hN f1 f2 (Or.inl f3) hd h (fun st' hh => hk _ _ _ _ hh)
    · obtain ⟨q, hq, hv⟩ := List.any_eq_true.mp hq
      obtain ⟨e1, e2, e3⟩ := of_decide_eq_true hv
      obtain ⟨⟨f1, f2⟩, f3⟩ := fn_all o q hq
      rw [e2] at f1 f2
      rw [e3] at f2
      rw [e1, e2, e3] at f3
      exact g_get hx hb hown hts hK hN f1 f2 (Or.inr ⟨_, f3⟩) hd h (fun st' hh => hk _ _ _ _ hh)
  | putfield idx =>
    have hc' := (Bool.and_eq_true _ _).mp hc
    have hn : nx = pc + 3 := of_decide_eq_true hc'.1
    subst hn
    have hd := dec_n hd rfl
    simp only [stpS, p_bif_dec, p_chk_ite] at h
    obtain ⟨q, hq, hv⟩ := List.any_eq_true.mp hc'.2
    obtain ⟨e1, e2, e3⟩ := of_decide_eq_true hv
    obtain ⟨⟨f1, f2⟩, f3⟩ := fl_all o q hq
    rw [e2] at f1 f2
    rw [e3] at f2
    rw [e1, e2, e3] at f3
    exact g_put hx hb hown hts hK f1 f2 f3 hd h (fun st' ij' hh => hk _ _ _ _ hh)
  | invokevirtual idx =>
    have hc' := (Bool.and_eq_true _ _).mp hc
    have hn : nx = pc + 3 := of_decide_eq_true hc'.1
    subst hn
    have hd := dec_n hd rfl
    have hc2 := hc'.2
    simp only [stpS, p_bif_dec, p_chk_ite] at h
    split at h
    · rename_i hLn
      dsimp only at hc2
      split at hc2
      · rename_i rk cn
        obtain ⟨g1, g2⟩ := (Bool.and_eq_true _ _).mp hc2
        obtain ⟨g2, g3⟩ := (Bool.and_eq_true _ _).mp g2
        obtain ⟨q, hq, hv⟩ := List.any_eq_true.mp g3
        obtain ⟨e1, e2, e3⟩ := of_decide_eq_true hv
        obtain ⟨f1, f2, f3⟩ := ml_all o q hq
        rw [e2] at f1 f2
        rw [e3] at f1
        rw [e1, e2] at f3
        exact g_callV hx hb (hml.trans hLn.symm) hown hts hK hN hG hAq hR hRc (fun r0 hr0 => hO _ _ _ _ hr0) f2 (of_decide_eq_true g1) (of_decide_eq_true g2) f1 f3 hd h (fun st' ij' hh => hk _ _ _ _ hh)
      · rename_i w1 w2 w
        obtain ⟨ho, hv⟩ := of_decide_eq_true hc2
        subst ho
        have h9 : p_str w st (fun st => k (pc + 3) L st ij) = some r := h
        exact g_str hx hb (hml.trans hLn.symm) hown hts hG hH0 hAq hR hRc hv hd h9 (fun st' hh => hk _ _ _ _ hh)
      · cases hc2
    · cases h
  | invokestatic idx =>
    have hc' := (Bool.and_eq_true _ _).mp hc
    have hn : nx = pc + 3 := of_decide_eq_true hc'.1
    subst hn
    have hd := dec_n hd rfl
    have hc2 := hc'.2
    simp only [stpS, p_bif_dec, p_chk_ite] at h
    split at h
    · rename_i hLn
      dsimp only at hc2
      split at hc2
      · rename_i rk
        obtain ⟨g1, g2⟩ := (Bool.and_eq_true _ _).mp hc2
        rcases (Bool.or_eq_true _ _).mp g2 with g3 | g3
        · obtain ⟨q, hq, hv⟩ := List.any_eq_true.mp g3
          obtain ⟨e1, e2, e3⟩ := of_decide_eq_true hv
          obtain ⟨f1, f2, f3⟩ := ml_all o q hq
          rw [e2] at f1 f2
          rw [e3] at f1
          rw [e1, e2] at f3
          exact g_callS hx hb (hml.trans hLn.symm) hown hts hK hN hG hAq hR hRc (fun r0 hr0 => hO _ _ _ _ hr0) f2 (of_decide_eq_true g1) f1 (Or.inl f3) hd h (fun st' ij' hh => hk _ _ _ _ hh)
        · obtain ⟨q, hq, hv⟩ := List.any_eq_true.mp g3
          obtain ⟨e1, e2, e3⟩ := of_decide_eq_true hv
          obtain ⟨f1, f2, f3⟩ := mn_all o q hq
          rw [e2] at f1 f2
          rw [e3] at f1
          rw [e1, e2] at f3
          exact g_callS hx hb (hml.trans hLn.symm) hown hts hK hN hG hAq hR hRc (fun r0 hr0 => hO _ _ _ _ hr0) f2 (of_decide_eq_true g1) f1 (Or.inr ⟨_, f3⟩) hd h (fun st' ij' hh => hk _ _ _ _ hh)
      · rename_i rk kd
        obtain ⟨q, hq, hv⟩ := List.any_eq_true.mp hc2
        obtain ⟨e1, e2⟩ := of_decide_eq_true hv
        have f3 := sp_all o q hq
        rw [e1, e2] at f3
        unfold p_inv at h
        simp only [p_bif_dec] at h
        split at h
        · rename_i heq
          cases heq
        · rename_i heq
          cases heq
          split at h
          · rename_i hw8
            unfold p_b2 at h
            split at h
            · intro ad H locs cells slots ls ho hl
              have hw := sv_words ad
              refine va_mmax hx hb (by rw [hml, ← hLn, hl.1]) hown (hts _ f3) (hts _ w_mxs) (hts _ w_mai) (hts _ w_mxc) (by omega) ?_ (by have h5 := ho.2.2.2.2.1; omega) (by have h6 := ho.2.2.2.2.2.1; omega) hd (hk _ _ _ _ h ad H locs cells slots ls ho hl)
              rename_i r9
              have hw9 := hw r9
              have hw7 : p_words r9 ≤ 8 := by
                unfold p_words at hw8 ⊢
                rw [List.map_cons, List.map_cons, List.sum_cons, List.sum_cons] at hw8
                omega
              omega
            · cases h
          · cases h
        · rename_i heq
          cases heq
          split at h
          · rename_i hw8
            unfold p_b2 at h
            split at h
            · intro ad H locs cells slots ls ho hl
              have hw := sv_words ad
              refine va_mmin hx hb (by rw [hml, ← hLn, hl.1]) hown (hts _ f3) (hts _ w_mis) (hts _ w_mai) (hts _ w_mic) (by omega) ?_ (by have h5 := ho.2.2.2.2.1; omega) (by have h6 := ho.2.2.2.2.2.1; omega) hd (hk _ _ _ _ h ad H locs cells slots ls ho hl)
              rename_i r9
              have hw9 := hw r9
              have hw7 : p_words r9 ≤ 8 := by
                unfold p_words at hw8 ⊢
                rw [List.map_cons, List.map_cons, List.sum_cons, List.sum_cons] at hw8
                omega
              omega
            · cases h
          · cases h
        · rename_i heq
          cases heq
          exact g_acp hx hb (hml.trans hLn.symm) hown hts hK ⟨f3, w_acn, w_acs, w_aci⟩ (by omega) hd h (fun st' ij' hh => hk _ _ _ _ hh)
        · cases h
      · cases hc2
    · cases h
  | ireturn =>
    have hn : nx = pc + 1 := of_decide_eq_true hc
    subst hn
    have hd := dec_n hd rfl
    simp only [stpS, p_bif_dec, p_chk_ite] at h
    split at h
    · intro ad H locs cells slots ls ho hl
      exact hrt _ _ h pc hd ad H locs cells slots ls ho
    · cases h
  | lreturn =>
    have hn : nx = pc + 1 := of_decide_eq_true hc
    subst hn
    have hd := dec_n hd rfl
    simp only [stpS, p_bif_dec, p_chk_ite] at h
    split at h
    · intro ad H locs cells slots ls ho hl
      exact hrt _ _ h pc hd ad H locs cells slots ls ho
    · cases h
  | return_ =>
    have hn : nx = pc + 1 := of_decide_eq_true hc
    subst hn
    have hd := dec_n hd rfl
    simp only [stpS, p_bif_dec, p_chk_ite] at h
    split at h
    · intro ad H locs cells slots ls ho hl
      exact hrt _ _ h pc hd ad H locs cells slots ls ho
    · cases h
  | _ =>
    have h' : (none : Option α) = some r := h
    cases h'
end PMain
end
section
/-! ===== runs of the pure machine are runs of the machine; a method's contract ===== -/
def rtV (v : Option Value) (ij : IJ) : Option Rs := match v with
  | none => some (none, ij)
  | _ => none
def rtI (v : Option Value) (ij : IJ) : Option Rs := match v with
  | some (.int x) => some (some (.int x), ij)
  | _ => none
def rtJ (v : Option Value) (ij : IJ) : Option Rs := match v with
  | some (.long x) => some (some (.long x), ij)
  | _ => none
def rtZ (v : Option Value) (ij : IJ) : Option Rs := match v with
  | some (.int x) => p_chk (p_01 x) (some (some (.int x), ij))
  | _ => none
def p_rt (ret : Option FieldType) : Option Value → IJ → Option Rs := match ret with
  | none => rtV
  | some .int => rtI
  | some .long => rtJ
  | some .boolean => rtZ
  | _ => fun _ _ => none
def p_slots : List Value → List Value
  | [] => []
  | v :: vs => if v.category = 2 then v :: un :: p_slots vs else v :: p_slots vs
def p_init (n : Nat) (as : List Value) : List Value := p_slots as ++ List.replicate (n - (p_slots as).length) un
theorem slots_sl (ad : Nat → Nat) : ∀ as : List Value, (lg_sl (as.map (sv ad))).length = (p_slots as).length
  | [] => rfl
  | v :: vs => by
    have h := slots_sl ad vs
    unfold lg_sl at h ⊢
    simp only [List.map_cons, List.flatMap_cons, List.length_append, p_slots, sv_cat]
    by_cases hc : v.category = 2
    · rw [if_pos hc, if_pos hc, h]; simp only [List.length_cons, List.length_nil]; omega
    · rw [if_neg hc, if_neg hc, h]; simp only [List.length_cons, List.length_nil]; omega
theorem slots_at (ad : Nat → Nat) : ∀ (as : List Value) (i k : Nat) (v : Value), (p_slots as)[i]? = some v → (∀ n, v ≠ .retAddr n) → (k + i, sv ad v) ∈ lv_args k (as.map (sv ad))
  | [], i, k, v, h, hv => by simp [p_slots] at h
  | w :: vs, i, k, v, h, hv => by
    unfold p_slots at h
    unfold lv_args
    simp only [List.map_cons, sv_cat]
    by_cases hc : w.category = 2
    · rw [if_pos hc] at h
      match i, h with
      | 0, h => cases h; exact List.mem_cons_self
      | 1, h => cases h; exact absurd rfl (hv 0)
      | i + 2, h =>
        have h2 := slots_at ad vs i (k + 2) v h hv
        refine List.mem_cons_of_mem _ ?_
        rw [hc]
        have e : k + 2 + i = k + (i + 2) := by omega
        rw [e] at h2
        exact h2
    · rw [if_neg hc] at h
      match i, h with
      | 0, h => cases h; exact List.mem_cons_self
      | i + 1, h =>
        have h2 := slots_at ad vs i (k + 1) v h hv
        refine List.mem_cons_of_mem _ ?_
        have hc1 : w.category = 1 := by rcases lv_cat w with q | q <;> omega
        rw [hc1]
        have e : k + 1 + i = k + (i + 1) := by omega
        rw [e] at h2
        exact h2
theorem init_has {ad : Nat → Nat} {n : Nat} {as : List Value} (h : (p_slots as).length ≤ n) : pl_has ad ((lg_sl (as.map (sv ad)) ++ List.replicate (n - (lg_sl (as.map (sv ad))).length) Slot.unset).toArray) (p_init n as) := by
  have h0 := lv_entry (as.map (sv ad)) (n := n) (by rw [slots_sl]; exact h)
  refine ⟨by rw [h0.1]; unfold p_init; simp; omega, h0.2.1, fun i v hi hv => ?_⟩
  unfold p_init at hi
  by_cases hlt : i < (p_slots as).length
  · rw [List.getElem?_append_left hlt] at hi
    have h1 := slots_at ad as i 0 v hi hv
    rw [Nat.zero_add] at h1
    exact h0.2.2 _ h1
  · rw [List.getElem?_append_right (by omega)] at hi
    have h2 := List.mem_of_getElem? hi
    rw [List.mem_replicate] at h2
    exact absurd h2.2 (hv 0)
section PR
variable {p : Program} {l : Launch} {e : Env} {R : Room} {s : State} {m : MethodId} {args : Array Value} {below : List Frame} {meth : Method} {c : Code} {Q : State → Prop} {cc : ByteArray} {o : Nat}
variable {D : va_G} {aT : Nat → ClassId} {A : Nat → Prop} {H0 : Heap} {ad0 : Nat → Nat} {N0 S0 : Nat} {T : PT} {α : Type} {r : α} {d nL : Nat}
theorem blk_sound {O : Ora} {X : PX} {C : Nat → Option PE} {cuts : Nat → Option (List Bool)} {K : Nat → List Value → List Value → IJ → Option α} {rt : Option Value → IJ → Option α} (hx : p.tables.exec = Jvm.exec) (hb : c.code = cc) (hml : c.maxLocals = nL) (hown : s.vm.findClass (oN o) = some m.cls) (hts : ∀ w ∈ gtb, w.before args s = true) (hK : va_K D vwCl (p_tys aT) s) (hN : ∀ w ∈ nws, va_Nw w s) (hG : SG ad0 A s H0) (hH0 : H0 = s.heap)
    (hX : ∀ X', X = some X' → va_X (ad0 100000) X'.1 X'.2 s H0 ∧ ad0 100000 < H0.size ∧ ¬ A (ad0 100000) ∧ X'.1 < 100000) (hAq : ∀ q, H0.size ≤ q → A q) (hR : d + 5 ≤ R.frames ∧ 64 * (d + 5) ≤ R.locals) (hRc : T.1 ≤ N0 + R.cells ∧ T.2.1 ≤ S0 + R.slots) (hO : ∀ y as ij r0, O T y as ij = some r0 → MetC l d y T as ij r0)
    (hC : ∀ pc E, C pc = some E → ckI o cc pc E = true)
    (hK1 : ∀ pc' L' st' ij', K pc' L' st' ij' = some r → GW (fun H locs cells slots g => W p l e R s m args below meth c H locs cells slots Q g) m (p_ok D aT A H0 ad0 N0 S0) pc' L' st' T ij')
    (hrt : ∀ v ij', rt v ij' = some r → RWr (fun H locs cells slots g => W p l e R s m args below meth c H locs cells slots Q g) m cc (p_ok D aT A H0 ad0 N0 S0) T v ij') :
    ∀ (f pc : Nat) (L st : List Value) (ij : IJ), blkS O X nL T C cuts K rt f pc L st ij = some r → GW (fun H locs cells slots g => W p l e R s m args below meth c H locs cells slots Q g) m (p_ok D aT A H0 ad0 N0 S0) pc L st T ij := by
  intro f
  induction f with
  | zero =>
    intro pc L st ij h
    have h' : (none : Option α) = some r := h
    cases h'
  | succ f ih =>
    intro pc L st ij h
    have h' : (match C pc with
      | none => none
      | some E => stpS O X nL T E L st ij (fun pc L st ij => match cuts pc with
        | some km => p_bif (decide (km.length = L.length)) (K pc (p_msk km L) st ij) none
        | none => blkS O X nL T C cuts K rt f pc L st ij) rt) = some r := h
    cases hE : C pc with
    | none => rw [hE] at h'; cases h'
    | some E =>
      rw [hE] at h'
      refine stpS_sound hx hb hml hown hts hK hN hG hH0 hX hAq hR hRc hO (hC pc E hE) h' (fun pc' L' st' ij' hk => ?_) hrt
      split at hk
      · rw [p_bif_dec] at hk
        split at hk
        · rename_i km _ hkm
          intro ad H locs cells slots ls ho hl
          exact hK1 _ _ _ _ hk ad H locs cells slots ls ho (pl_msk hkm hl)
        · cases hk
      · exact ih _ _ _ _ hk
theorem run_sound {O : Ora} {X : PX} {C : Nat → Option PE} {cuts : Nat → Option (List Bool)} {rt : Option Value → IJ → Option α} {f : Nat} (hx : p.tables.exec = Jvm.exec) (hb : c.code = cc) (hml : c.maxLocals = nL) (hown : s.vm.findClass (oN o) = some m.cls) (hts : ∀ w ∈ gtb, w.before args s = true) (hK : va_K D vwCl (p_tys aT) s) (hN : ∀ w ∈ nws, va_Nw w s) (hG : SG ad0 A s H0) (hH0 : H0 = s.heap)
    (hX : ∀ X', X = some X' → va_X (ad0 100000) X'.1 X'.2 s H0 ∧ ad0 100000 < H0.size ∧ ¬ A (ad0 100000) ∧ X'.1 < 100000) (hAq : ∀ q, H0.size ≤ q → A q) (hR : d + 5 ≤ R.frames ∧ 64 * (d + 5) ≤ R.locals) (hRc : T.1 ≤ N0 + R.cells ∧ T.2.1 ≤ S0 + R.slots) (hO : ∀ y as ij r0, O T y as ij = some r0 → MetC l d y T as ij r0)
    (hC : ∀ pc E, C pc = some E → ckI o cc pc E = true)
    (hrt : ∀ v ij', rt v ij' = some r → RWr (fun H locs cells slots g => W p l e R s m args below meth c H locs cells slots Q g) m cc (p_ok D aT A H0 ad0 N0 S0) T v ij') :
    ∀ (n pc : Nat) (L st : List Value) (ij : IJ), runS O X nL T C cuts rt f n pc L st ij = some r → GW (fun H locs cells slots g => W p l e R s m args below meth c H locs cells slots Q g) m (p_ok D aT A H0 ad0 N0 S0) pc L st T ij := by
  intro n
  induction n with
  | zero =>
    intro pc L st ij h
    have h' : (none : Option α) = some r := h
    cases h'
  | succ n ih =>
    intro pc L st ij h
    exact blk_sound (K := runS O X nL T C cuts rt f n) hx hb hml hown hts hK hN hG hH0 hX hAq hR hRc hO hC (fun _ _ _ _ hk => ih _ _ _ _ hk) hrt f pc L st ij h
end PR
/-- a method's contract out of a run of the pure machine -/
theorem met_of {l : Launch} {d y o : Nat} {T : PT} {O : Ora} {C : Nat → Option PE} {cuts : Nat → Option (List Bool)} {f n : Nat} {as : List Value} {ij : IJ} {r : Rs} (hF : mF y) (ho : (mN y).cls = oN o) (hC : ∀ pc E, C pc = some E → ckI o (mB y) pc E = true) (hrk : mR y = none ∨ mR y = some .int ∨ mR y = some .long ∨ mR y = some .boolean)
    (hO : ∀ y as ij r0, O T y as ij = some r0 → MetC l d y T as ij r0) (hlen : (p_slots as).length ≤ mL y) (h : runS O none (mL y) T C cuts (p_rt (mR y)) f n 0 (p_init (mL y) as) [] ij = some r) : MetC l (d + 1) y T as ij r := by
  intro D aT ad sz
  refine Met.ofW (cc := mB y) (maxL := mL y) (ret := mR y) hF.2.2.2.2.1 rfl ?_
  intro p e s m args below meth c s₁ B hml hv
  obtain ⟨rfl, hsz, hP, hK, hD0, hT, hN, hG⟩ := hv
  have hx := B.exec
  have hb := B.bytes
  have hr := B.returns
  have hts := atoms_spec (ws := Cond.code (mN y) (mB y) (mL y) (mR y) :: gtb) B.pre
  have hown : s.vm.findClass (oN o) = some m.cls := by rw [← ho]; exact findClass_of_methodNamed B.named
  have hlocks := B.notSynchronized
  subst hsz
  have hD : va_D (va_A (p_ws aT ad T ij) s.heap.size) (p_ws aT ad T ij) := hD0.self (sz := s.heap.size)
  rw [lg_entry_eq]
  refine run_sound (A := va_A (p_ws aT ad T ij) s.heap.size) (H0 := s.heap) (ad0 := ad) (N0 := T.1) (S0 := T.2.1) (D := D) (aT := aT) (d := d) hx hb hml hown (fun w hw => hts w (List.mem_cons_of_mem _ hw)) hK hN hG rfl (fun X' hX' => by cases hX') (fun q hq => Or.inr hq) ⟨Nat.le_refl _, Nat.le_refl _⟩ ⟨Nat.le_add_right _ _, Nat.le_add_right _ _⟩ hO hC ?_ n 0 _ [] ij h ad s.heap [] 0 0 _ ⟨hP, hD, hT, va_S.rf, Nat.zero_add _, Nat.zero_add _, fun _ _ => rfl⟩ (init_has hlen)
  intro v ij' hv pc hdec ad' H' locs' cells' slots' ls' hok
  have c0 : cells' = 0 := by have := hok.2.2.2.2.1; omega
  have s0 : slots' = 0 := by have := hok.2.2.2.2.2.1; omega
  subst c0; subst s0
  have hS := hok.2.2.2.1
  have hpost : ∀ t : State, t.heap = H' → p_B D aT ad T (va_A (p_ws aT ad T ij) s.heap.size) ij' () t := by
    intro t ht
    have e1 : p_ws aT ad' T ij' = p_ws aT ad T ij' := by
      have h2 := hok.2.2.2.2.2.2
      unfold p_ws
      apply List.map_congr_left
      intro k hk
      have hk2 : k < T.1 := List.mem_range.mp hk
      rw [h2 k (Or.inl hk2)]
      have h3 : ∀ k j, p_ro ad' (T.2.2.2 k j) = p_ro ad (T.2.2.2 k j) := by
        intro k j
        have h4 := hT k j
        unfold p_ro
        split
        · rfl
        · rename_i r9 hr9
          rw [h2 r9 (Or.inl (by omega))]
      have h5 : ∀ k j, p_rv ad' (T.2.2.2 k j) = p_rv ad (T.2.2.2 k j) := by
        intro k j
        have h4 := hT k j
        unfold p_rv
        split
        · rfl
        · rename_i r9 hr9
          rw [h2 r9 (Or.inl (by omega))]
      unfold p_cell p_obj p_fv
      simp only [h3, h5]
    unfold p_B
    rw [← e1, ht]
    exact ⟨hok.1, hok.2.1⟩
  rcases hrk with hrk | hrk | hrk | hrk
  · rw [hrk] at hv
    have hv' : rtV v ij' = some r := hv
    unfold rtV at hv'
    split at hv'
    · cases hv'
      exact W.vret hx hb (hr.trans hrk) (fun t ht hW => ⟨⟨(), rfl, trivial, hpost t ht⟩, hS.F ht⟩) hS.2.2 hdec
    · cases hv'
  · rw [hrk] at hv
    have hv' : rtI v ij' = some r := hv
    unfold rtI at hv'
    split at hv'
    · rename_i x
      cases hv'
      exact W.iret (v := x) hx hb (hr.trans hrk) (fun t ht hW => ⟨⟨x, (), rfl, rfl, hpost t ht⟩, hS.F ht⟩) hS.2.2 hdec
    · cases hv'
  · rw [hrk] at hv
    have hv' : rtJ v ij' = some r := hv
    unfold rtJ at hv'
    split at hv'
    · rename_i x
      cases hv'
      exact W.lret (v := x) hx hb (hr.trans hrk) (fun t ht hW => ⟨⟨x, (), rfl, rfl, hpost t ht⟩, hS.F ht⟩) hS.2.2 hdec
    · cases hv'
  · rw [hrk] at hv
    have hv' : rtZ v ij' = some r := hv
    unfold rtZ at hv'
    split at hv'
    · rename_i x
      rw [p_chk_ite] at hv'
      split at hv'
      · rename_i hn
        have hn := p01_nar hn
        cases hv'
        exact W.zret (v := x) (ty := .boolean) hx hb (hr.trans hrk) (nar_b hn) (fun t ht hW => ⟨⟨x, (), rfl, rfl, hpost t ht⟩, hS.F ht⟩) hS.2.2 hdec
      · cases hv'
    · cases hv'
def ckT (o : Nat) (cc : ByteArray) (C : Nat → Option PE) (pc : Nat) : Bool := match C pc with
  | some E => ckI o cc pc E
  | none => true
theorem ck_tab {o : Nat} {cc : ByteArray} {C : Nat → Option PE} {n : Nat} (h : (List.range n).all (ckT o cc C) = true) (hn : ∀ pc, ¬ pc < n → C pc = none) : ∀ pc E, C pc = some E → ckI o cc pc E = true := by
  intro pc E hE
  by_cases hp : pc < n
  · have h1 := List.all_eq_true.mp h pc (List.mem_range.mpr hp)
    unfold ckT at h1
    rw [hE] at h1
    exact h1
  · rw [hn pc hp] at hE
    cases hE
end
section
/-- the cells behind both constructors: kinds and lengths, references (one more than the cell's number; 0: none) -/
def t_sh (k : Nat) : Nat × Nat := (if k < 121 then (if k < 60 then (if k < 30 then (if k < 15 then (if k < 7 then (if k < 3 then (if k < 1 then (11, 13) else (if k < 2 then (9, 2) else (101, 2000))) else (if k < 5 then (if k < 4 then (4, 11) else (3, 18)) else (100, 10))) else (if k < 11 then (100, 10) else (if k < 13 then (100, 4) else (if k < 14 then (100, 4) else (0, 4))))) else (if k < 22 then (if k < 18 then (if k < 16 then (100, 408) else (if k < 17 then (100, 32) else (100, 4))) else (if k < 20 then (if k < 19 then (10, 5) else (100, 401)) else (if k < 21 then (100, 401) else (103, 401)))) else (if k < 26 then (if k < 24 then (if k < 23 then (103, 23) else (103, 14)) else (if k < 25 then (100, 14) else (3, 18))) else (100, 10)))) else (if k < 45 then (if k < 37 then (if k < 33 then (if k < 31 then (100, 10) else (if k < 32 then (100, 10) else (100, 4))) else (if k < 35 then (100, 4) else (if k < 36 then (0, 4) else (100, 408)))) else (if k < 41 then (if k < 39 then (if k < 38 then (100, 32) else (100, 4)) else (if k < 40 then (8, 4) else (100, 10))) else (if k < 43 then (if k < 42 then (100, 20) else (8, 4)) else (if k < 44 then (100, 10) else (100, 20))))) else (if k < 52 then (if k < 48 then (if k < 46 then (2, 3) else (if k < 47 then (104, 40) else (8, 4))) else (if k < 50 then (if k < 49 then (100, 10) else (100, 20)) else (if k < 51 then (8, 4) else (100, 10)))) else (if k < 56 then (if k < 54 then (if k < 53 then (100, 20) else (8, 4)) else (if k < 55 then (100, 10) else (100, 20))) else (if k < 58 then (if k < 57 then (8, 4) else (100, 10)) else (if k < 59 then (100, 20) else (8, 4))))))) else (if k < 90 then (if k < 75 then (if k < 67 then (if k < 63 then (if k < 61 then (100, 10) else (if k < 62 then (100, 20) else (8, 4))) else (if k < 65 then (if k < 64 then (100, 10) else (100, 20)) else (if k < 66 then (8, 4) else (100, 10)))) else (if k < 71 then (if k < 69 then (if k < 68 then (100, 20) else (8, 4)) else (if k < 70 then (100, 10) else (100, 20))) else (if k < 73 then (if k < 72 then (8, 4) else (100, 10)) else (if k < 74 then (100, 20) else (8, 4))))) else (if k < 82 then (if k < 78 then (if k < 76 then (100, 10) else (if k < 77 then (100, 20) else (8, 4))) else (if k < 80 then (if k < 79 then (100, 10) else (100, 20)) else (if k < 81 then (8, 4) else (100, 10)))) else (if k < 86 then (if k < 84 then (if k < 83 then (100, 20) else (8, 4)) else (if k < 85 then (100, 10) else (100, 20))) else (if k < 88 then (if k < 87 then (8, 4) else (100, 10)) else (if k < 89 then (100, 20) else (8, 4)))))) else (if k < 105 then (if k < 97 then (if k < 93 then (if k < 91 then (100, 10) else (if k < 92 then (100, 20) else (8, 4))) else (if k < 95 then (if k < 94 then (100, 10) else (100, 20)) else (if k < 96 then (8, 4) else (100, 10)))) else (if k < 101 then (if k < 99 then (if k < 98 then (100, 20) else (8, 4)) else (if k < 100 then (100, 10) else (100, 20))) else (if k < 103 then (if k < 102 then (8, 4) else (100, 10)) else (if k < 104 then (100, 20) else (8, 4))))) else (if k < 113 then (if k < 109 then (if k < 107 then (if k < 106 then (100, 10) else (100, 20)) else (if k < 108 then (8, 4) else (100, 10))) else (if k < 111 then (if k < 110 then (100, 20) else (8, 4)) else (if k < 112 then (100, 10) else (100, 20)))) else (if k < 117 then (if k < 115 then (if k < 114 then (8, 4) else (100, 10)) else (if k < 116 then (100, 20) else (8, 4))) else (if k < 119 then (if k < 118 then (100, 10) else (100, 20)) else (if k < 120 then (8, 4) else (100, 10)))))))) else (if k < 182 then (if k < 151 then (if k < 136 then (if k < 128 then (if k < 124 then (if k < 122 then (100, 20) else (if k < 123 then (8, 4) else (100, 10))) else (if k < 126 then (if k < 125 then (100, 20) else (8, 4)) else (if k < 127 then (100, 10) else (100, 20)))) else (if k < 132 then (if k < 130 then (if k < 129 then (8, 4) else (100, 10)) else (if k < 131 then (100, 20) else (8, 4))) else (if k < 134 then (if k < 133 then (100, 10) else (100, 20)) else (if k < 135 then (8, 4) else (100, 10))))) else (if k < 143 then (if k < 139 then (if k < 137 then (100, 20) else (if k < 138 then (8, 4) else (100, 10))) else (if k < 141 then (if k < 140 then (100, 20) else (8, 4)) else (if k < 142 then (100, 10) else (100, 20)))) else (if k < 147 then (if k < 145 then (if k < 144 then (8, 4) else (100, 10)) else (if k < 146 then (100, 20) else (8, 4))) else (if k < 149 then (if k < 148 then (100, 10) else (100, 20)) else (if k < 150 then (8, 4) else (100, 10)))))) else (if k < 166 then (if k < 158 then (if k < 154 then (if k < 152 then (100, 20) else (if k < 153 then (8, 4) else (100, 10))) else (if k < 156 then (if k < 155 then (100, 20) else (8, 4)) else (if k < 157 then (100, 10) else (100, 20)))) else (if k < 162 then (if k < 160 then (if k < 159 then (8, 4) else (100, 10)) else (if k < 161 then (100, 20) else (8, 4))) else (if k < 164 then (if k < 163 then (100, 10) else (100, 20)) else (if k < 165 then (8, 4) else (100, 10))))) else (if k < 174 then (if k < 170 then (if k < 168 then (if k < 167 then (100, 20) else (104, 3)) else (if k < 169 then (102, 3) else (5, 3))) else (if k < 172 then (if k < 171 then (100, 9) else (100, 1024)) else (if k < 173 then (1, 2) else (100, 7)))) else (if k < 178 then (if k < 176 then (if k < 175 then (7, 6) else (100, 10)) else (100, 10)) else (if k < 180 then (if k < 179 then (6, 7) else (100, 20)) else (100, 20)))))) else (if k < 212 then (if k < 197 then (if k < 189 then (if k < 185 then (if k < 183 then (100, 490) else (if k < 184 then (8, 4) else (100, 10))) else (if k < 187 then (if k < 186 then (100, 20) else (8, 4)) else (if k < 188 then (100, 10) else (100, 20)))) else (if k < 193 then (if k < 191 then (if k < 190 then (8, 4) else (100, 10)) else (if k < 192 then (100, 20) else (12, 72))) else (if k < 195 then (101, 2000) else (100, 403)))) else (if k < 204 then (if k < 200 then (if k < 198 then (100, 403) else (if k < 199 then (103, 403) else (103, 23))) else (if k < 202 then (if k < 201 then (103, 14) else (100, 14)) else (100, 2))) else (if k < 208 then (100, 20) else (if k < 210 then (100, 2) else (if k < 211 then (100, 2) else (100, 8)))))) else (if k < 227 then (if k < 219 then (if k < 215 then (if k < 213 then (100, 8) else (if k < 214 then (100, 8) else (100, 2))) else (if k < 217 then (100, 2) else (100, 8))) else (if k < 223 then (if k < 221 then (if k < 220 then (102, 260) else (100, 260)) else (100, 260)) else (if k < 225 then (if k < 224 then (100, 260) else (100, 840)) else (if k < 226 then (100, 840) else (100, 64))))) else (if k < 235 then (if k < 231 then (if k < 229 then (if k < 228 then (100, 9) else (100, 400)) else (100, 32)) else (if k < 233 then (if k < 232 then (100, 7) else (100, 10)) else (100, 10))) else (if k < 239 then (if k < 237 then (if k < 236 then (100, 1280) else (100, 10)) else (100, 20)) else (if k < 241 then (if k < 240 then (100, 20) else (100, 10)) else (if k < 242 then (102, 3) else (100, 96)))))))))
def t_rf (k j : Nat) : Nat := (if k < 121 then (if k < 60 then (if k < 30 then (if k < 15 then (if k < 7 then (if k < 3 then (if k < 1 then (if j < 6 then (if j < 3 then (if j < 1 then 2 else (if j < 2 then 4 else 26)) else (if j < 4 then 40 else (if j < 5 then 43 else 46))) else (if j < 9 then (if j < 7 then 168 else (if j < 8 then 169 else 170)) else (if j < 11 then (if j < 10 then 173 else 175) else (if j < 12 then 179 else 0)))) else (if k < 2 then (if j < 1 then 3 else 0) else 0)) else (if k < 5 then (if k < 4 then (if j < 5 then (if j < 2 then (if j < 1 then 5 else 0) else (if j < 3 then 19 else (if j < 4 then 24 else 25))) else 0) else (if j < 9 then (if j < 4 then 0 else (if j < 6 then 0 else (if j < 7 then 0 else (if j < 8 then 0 else 6)))) else (if j < 13 then (if j < 11 then (if j < 10 then 7 else 8) else (if j < 12 then 9 else 10)) else (if j < 15 then (if j < 14 then 11 else 12) else (if j < 16 then 13 else (if j < 17 then 14 else 15)))))) else 0)) else (if k < 11 then 0 else (if k < 13 then 0 else (if k < 14 then 0 else (if j < 2 then (if j < 1 then 16 else 17) else (if j < 3 then 18 else 0)))))) else (if k < 22 then (if k < 18 then 0 else (if k < 20 then (if k < 19 then (if j < 2 then (if j < 1 then 20 else 21) else (if j < 3 then 22 else (if j < 4 then 23 else 0))) else 0) else 0)) else (if k < 26 then (if k < 24 then 0 else (if k < 25 then 0 else (if j < 9 then (if j < 4 then 0 else (if j < 6 then 0 else (if j < 7 then 0 else (if j < 8 then 0 else 27)))) else (if j < 13 then (if j < 11 then (if j < 10 then 28 else 29) else (if j < 12 then 30 else 31)) else (if j < 15 then (if j < 14 then 32 else 33) else (if j < 16 then 34 else (if j < 17 then 35 else 36))))))) else 0))) else (if k < 45 then (if k < 37 then (if k < 33 then 0 else (if k < 35 then 0 else (if k < 36 then (if j < 2 then (if j < 1 then 37 else 38) else (if j < 3 then 39 else 0)) else 0))) else (if k < 41 then (if k < 39 then 0 else (if k < 40 then (if j < 2 then 0 else (if j < 3 then 41 else 42)) else 0)) else (if k < 43 then (if k < 42 then 0 else (if j < 2 then 0 else (if j < 3 then 44 else 45))) else 0))) else (if k < 52 then (if k < 48 then (if k < 46 then (if j < 1 then 47 else 0) else (if k < 47 then (if j < 20 then (if j < 10 then (if j < 5 then (if j < 2 then (if j < 1 then 48 else 51) else (if j < 3 then 54 else (if j < 4 then 57 else 60))) else (if j < 7 then (if j < 6 then 63 else 66) else (if j < 8 then 69 else (if j < 9 then 72 else 75)))) else (if j < 15 then (if j < 12 then (if j < 11 then 78 else 81) else (if j < 13 then 84 else (if j < 14 then 87 else 90))) else (if j < 17 then (if j < 16 then 93 else 96) else (if j < 18 then 99 else (if j < 19 then 102 else 105))))) else (if j < 30 then (if j < 25 then (if j < 22 then (if j < 21 then 108 else 111) else (if j < 23 then 114 else (if j < 24 then 117 else 120))) else (if j < 27 then (if j < 26 then 123 else 126) else (if j < 28 then 129 else (if j < 29 then 132 else 135)))) else (if j < 35 then (if j < 32 then (if j < 31 then 138 else 141) else (if j < 33 then 144 else (if j < 34 then 147 else 150))) else (if j < 37 then (if j < 36 then 153 else 156) else (if j < 38 then 159 else (if j < 39 then 162 else 165)))))) else (if j < 2 then 0 else (if j < 3 then 49 else 50)))) else (if k < 50 then 0 else (if k < 51 then (if j < 2 then 0 else (if j < 3 then 52 else 53)) else 0))) else (if k < 56 then (if k < 54 then (if k < 53 then 0 else (if j < 2 then 0 else (if j < 3 then 55 else 56))) else 0) else (if k < 58 then (if k < 57 then (if j < 2 then 0 else (if j < 3 then 58 else 59)) else 0) else (if k < 59 then 0 else (if j < 2 then 0 else (if j < 3 then 61 else 62)))))))) else (if k < 90 then (if k < 75 then (if k < 67 then (if k < 63 then (if k < 61 then 0 else (if k < 62 then 0 else (if j < 2 then 0 else (if j < 3 then 64 else 65)))) else (if k < 65 then 0 else (if k < 66 then (if j < 2 then 0 else (if j < 3 then 67 else 68)) else 0))) else (if k < 71 then (if k < 69 then (if k < 68 then 0 else (if j < 2 then 0 else (if j < 3 then 70 else 71))) else 0) else (if k < 73 then (if k < 72 then (if j < 2 then 0 else (if j < 3 then 73 else 74)) else 0) else (if k < 74 then 0 else (if j < 2 then 0 else (if j < 3 then 76 else 77)))))) else (if k < 82 then (if k < 78 then (if k < 76 then 0 else (if k < 77 then 0 else (if j < 2 then 0 else (if j < 3 then 79 else 80)))) else (if k < 80 then 0 else (if k < 81 then (if j < 2 then 0 else (if j < 3 then 82 else 83)) else 0))) else (if k < 86 then (if k < 84 then (if k < 83 then 0 else (if j < 2 then 0 else (if j < 3 then 85 else 86))) else 0) else (if k < 88 then (if k < 87 then (if j < 2 then 0 else (if j < 3 then 88 else 89)) else 0) else (if k < 89 then 0 else (if j < 2 then 0 else (if j < 3 then 91 else 92))))))) else (if k < 105 then (if k < 97 then (if k < 93 then (if k < 91 then 0 else (if k < 92 then 0 else (if j < 2 then 0 else (if j < 3 then 94 else 95)))) else (if k < 95 then 0 else (if k < 96 then (if j < 2 then 0 else (if j < 3 then 97 else 98)) else 0))) else (if k < 101 then (if k < 99 then (if k < 98 then 0 else (if j < 2 then 0 else (if j < 3 then 100 else 101))) else 0) else (if k < 103 then (if k < 102 then (if j < 2 then 0 else (if j < 3 then 103 else 104)) else 0) else (if k < 104 then 0 else (if j < 2 then 0 else (if j < 3 then 106 else 107)))))) else (if k < 113 then (if k < 109 then (if k < 107 then 0 else (if k < 108 then (if j < 2 then 0 else (if j < 3 then 109 else 110)) else 0)) else (if k < 111 then (if k < 110 then 0 else (if j < 2 then 0 else (if j < 3 then 112 else 113))) else 0)) else (if k < 117 then (if k < 115 then (if k < 114 then (if j < 2 then 0 else (if j < 3 then 115 else 116)) else 0) else (if k < 116 then 0 else (if j < 2 then 0 else (if j < 3 then 118 else 119)))) else (if k < 119 then 0 else (if k < 120 then (if j < 2 then 0 else (if j < 3 then 121 else 122)) else 0))))))) else (if k < 182 then (if k < 151 then (if k < 136 then (if k < 128 then (if k < 124 then (if k < 122 then 0 else (if k < 123 then (if j < 2 then 0 else (if j < 3 then 124 else 125)) else 0)) else (if k < 126 then (if k < 125 then 0 else (if j < 2 then 0 else (if j < 3 then 127 else 128))) else 0)) else (if k < 132 then (if k < 130 then (if k < 129 then (if j < 2 then 0 else (if j < 3 then 130 else 131)) else 0) else (if k < 131 then 0 else (if j < 2 then 0 else (if j < 3 then 133 else 134)))) else (if k < 134 then 0 else (if k < 135 then (if j < 2 then 0 else (if j < 3 then 136 else 137)) else 0)))) else (if k < 143 then (if k < 139 then (if k < 137 then 0 else (if k < 138 then (if j < 2 then 0 else (if j < 3 then 139 else 140)) else 0)) else (if k < 141 then (if k < 140 then 0 else (if j < 2 then 0 else (if j < 3 then 142 else 143))) else 0)) else (if k < 147 then (if k < 145 then (if k < 144 then (if j < 2 then 0 else (if j < 3 then 145 else 146)) else 0) else (if k < 146 then 0 else (if j < 2 then 0 else (if j < 3 then 148 else 149)))) else (if k < 149 then 0 else (if k < 150 then (if j < 2 then 0 else (if j < 3 then 151 else 152)) else 0))))) else (if k < 166 then (if k < 158 then (if k < 154 then (if k < 152 then 0 else (if k < 153 then (if j < 2 then 0 else (if j < 3 then 154 else 155)) else 0)) else (if k < 156 then (if k < 155 then 0 else (if j < 2 then 0 else (if j < 3 then 157 else 158))) else 0)) else (if k < 162 then (if k < 160 then (if k < 159 then (if j < 2 then 0 else (if j < 3 then 160 else 161)) else 0) else (if k < 161 then 0 else (if j < 2 then 0 else (if j < 3 then 163 else 164)))) else (if k < 164 then 0 else (if k < 165 then (if j < 2 then 0 else (if j < 3 then 166 else 167)) else 0)))) else (if k < 174 then (if k < 170 then (if k < 168 then (if k < 167 then 0 else (if j < 1 then 184 else (if j < 2 then 187 else 190))) else (if k < 169 then 0 else (if j < 1 then 26 else (if j < 2 then 171 else 172)))) else (if k < 172 then 0 else (if k < 173 then (if j < 1 then 26 else 174) else 0))) else (if k < 178 then (if k < 176 then (if k < 175 then (if j < 3 then (if j < 1 then 26 else (if j < 2 then 170 else 173)) else (if j < 4 then 176 else (if j < 5 then 177 else 178))) else 0) else 0) else (if k < 180 then (if k < 179 then (if j < 3 then (if j < 1 then 26 else (if j < 2 then 173 else 180)) else (if j < 5 then (if j < 4 then 181 else 182) else (if j < 6 then 183 else 0))) else 0) else 0))))) else (if k < 212 then (if k < 197 then (if k < 189 then (if k < 185 then (if k < 183 then 0 else (if k < 184 then (if j < 2 then 0 else (if j < 3 then 185 else 186)) else 0)) else (if k < 187 then (if k < 186 then 0 else (if j < 2 then 0 else (if j < 3 then 188 else 189))) else 0)) else (if k < 193 then (if k < 191 then (if k < 190 then (if j < 2 then 0 else (if j < 3 then 191 else 192)) else 0) else (if k < 192 then 0 else (if j < 36 then (if j < 18 then (if j < 9 then (if j < 4 then (if j < 2 then (if j < 1 then 0 else 194) else (if j < 3 then 0 else 195)) else (if j < 6 then (if j < 5 then 0 else 196) else (if j < 7 then 197 else (if j < 8 then 198 else 199)))) else (if j < 13 then (if j < 11 then (if j < 10 then 200 else 0) else 0) else 0)) else (if j < 27 then (if j < 22 then (if j < 20 then 0 else (if j < 21 then 0 else 201)) else (if j < 24 then (if j < 23 then 202 else 203) else (if j < 25 then 204 else (if j < 26 then 205 else 206)))) else (if j < 31 then (if j < 29 then (if j < 28 then 207 else 208) else (if j < 30 then 209 else 210)) else (if j < 33 then (if j < 32 then 211 else 212) else (if j < 34 then 213 else (if j < 35 then 214 else 215)))))) else (if j < 54 then (if j < 45 then (if j < 40 then (if j < 38 then (if j < 37 then 216 else 217) else (if j < 39 then 218 else 219)) else (if j < 42 then (if j < 41 then 0 else 220) else (if j < 43 then 221 else (if j < 44 then 222 else 223)))) else (if j < 49 then (if j < 47 then (if j < 46 then 224 else 0) else (if j < 48 then 225 else 226)) else (if j < 51 then (if j < 50 then 227 else 0) else (if j < 52 then 228 else (if j < 53 then 229 else 0))))) else (if j < 63 then (if j < 58 then (if j < 56 then (if j < 55 then 230 else 231) else 0) else (if j < 60 then (if j < 59 then 232 else 233) else (if j < 61 then 234 else (if j < 62 then 235 else 0)))) else (if j < 67 then (if j < 65 then (if j < 64 then 236 else 237) else (if j < 66 then 0 else 238)) else (if j < 69 then (if j < 68 then 239 else 240) else (if j < 70 then 241 else (if j < 71 then 242 else 243))))))))) else 0)) else 0) else 0)))
def T0 : PT := (243, 18462, t_sh, t_rf)
end
section
/-! ===== what constructors name ===== -/
def nw_t : List (List (Nat × Nat × Nat)) := [[], [], [(9, 8, 451)], [(39, 0, 166)], [(9, 3, 160), (22, 10, 303)], [], [], [], [], [], [], [(7, 9, 138), (16, 4, 154), (23, 3, 416), (30, 8, 418), (40, 2, 445), (55, 5, 465), (64, 1, 483), (71, 7, 499), (80, 6, 526)], [], [(7, 11, 130), (10, 12, 1304)], [], []]
def an_t : List (List (Nat × Nat × Nat)) := [[], [], [(9, 8, 451)], [], [], [], [], [], [], [], [], [(30, 8, 418)], [], [], [], []]
def ob_t : List (List (Nat × Nat × Nat)) := [[(3, 0, 171)], [(3, 0, 488)], [(3, 0, 450)], [(3, 0, 165)], [(3, 0, 159)], [(3, 0, 470)], [(3, 0, 531)], [(3, 0, 504)], [(3, 0, 423)], [(3, 0, 143)], [(3, 0, 308)], [(1, 0, 135)], [(7, 0, 1309)], [], [], []]
def ik_t : List (List (Nat × Nat × Nat × Nat × Nat)) := [[], [], [], [(41, 0, 0, 0, 168)], [(11, 27, 0, 3, 162), (24, 104, 0, 10, 305)], [], [], [], [], [], [], [(25, 27, 0, 3, 417), (42, 23, 0, 2, 447), (57, 53, 1, 5, 467), (66, 10, 1, 1, 485), (73, 73, 3, 7, 501), (82, 63, 2, 6, 528)], [], [(9, 119, 0, 11, 132), (12, 166, 0, 12, 1306)], [], []]
def iN_t : List (List (Nat × Nat × Nat × Nat × Nat)) := [[], [], [(24, 89, 0, 8, 453)], [], [], [], [], [], [], [], [], [(9, 100, 0, 9, 140), (18, 34, 0, 4, 156), (32, 89, 0, 8, 420)], [], [], [], []]
def nwk (o : Nat) : List (Nat × Nat × Nat) := nw_t.getD o []
def ank (o : Nat) : List (Nat × Nat × Nat) := an_t.getD o []
def obk (o : Nat) : List (Nat × Nat × Nat) := ob_t.getD o []
def ikk (o : Nat) : List (Nat × Nat × Nat × Nat × Nat) := ik_t.getD o []
def iNk (o : Nat) : List (Nat × Nat × Nat × Nat × Nat) := iN_t.getD o []
def iF (y : Nat) : Prop := Cond.code (mN y) (mB y) (mL y) none ∈ gtb ∧ Cond.initialized (mN y).cls ∈ gtb ∧ Cond.instanceMethod (mN y) ∈ gtb ∧ (mN y).name = "<init>" ∧ ((mN y).cls ≠ "java/lang/invoke/MethodHandle" ∧ (mN y).cls ≠ "java/lang/invoke/VarHandle") ∧ mL y ≤ 40 ∧ plainName (mN y).cls = true ∧ mR y = none
def ini : List (Nat × Nat × Nat × Nat) := [(0, 170, 112, 169), (10, 487, 121, 486), (23, 449, 119, 448), (27, 164, 111, 163), (34, 158, 110, 157), (53, 469, 120, 468), (63, 530, 123, 529), (73, 503, 122, 502), (89, 422, 118, 421), (100, 142, 109, 141), (104, 307, 113, 306), (119, 134, 108, 133), (166, 1308, 126, 1307)]
set_option maxRecDepth 100000 in
theorem ini_a : ini.map (fun q => lw_tbl[q.2.1]?) = ini.map (fun q => some (Cond.code (mN q.1) (mB q.1) (mL q.1) none)) := rfl
set_option maxRecDepth 100000 in
theorem ini_b : ini.map (fun q => lw_tbl[q.2.2.1]?) = ini.map (fun q => some (Cond.initialized (mN q.1).cls)) := rfl
set_option maxRecDepth 100000 in
theorem ini_c : ini.map (fun q => lw_tbl[q.2.2.2]?) = ini.map (fun q => some (Cond.instanceMethod (mN q.1))) := rfl
set_option maxRecDepth 100000 in
theorem ini_d : ∀ q ∈ ini, (mN q.1).name = "<init>" ∧ ((mN q.1).cls ≠ "java/lang/invoke/MethodHandle" ∧ (mN q.1).cls ≠ "java/lang/invoke/VarHandle") ∧ mL q.1 ≤ 40 ∧ plainName (mN q.1).cls = true ∧ mR q.1 = none := by decide +kernel
theorem iF_all : ∀ q ∈ ini, iF q.1 := by
  intro q h
  obtain ⟨h1, h2, h3, h4, h5⟩ := ini_d q h
  exact ⟨gats ini_a (fun _ => rfl) q h, gats ini_b (fun _ => rfl) q h, gats ini_c (fun _ => rfl) q h, h1, h2, h3, h4, h5⟩
theorem iF_at {y i : Nat} (h : (ini[i]?).map (fun q => q.1) = some y) : iF y := by
  cases hz : ini[i]? with
  | none => rw [hz] at h; cases h
  | some z =>
    rw [hz] at h
    have h4 : z.1 = y := Option.some.inj h
    rw [← h4]
    exact iF_all z (List.mem_of_getElem? hz)
set_option maxRecDepth 100000 in
theorem nw_0 : (nwk 0).map (fun q => lw_tbl[q.2.2]?) = (nwk 0).map (fun q => some (Cond.classLink (oN 0) q.1 (cT q.2.1).1)) := rfl
set_option maxRecDepth 100000 in
theorem an_0 : (ank 0).map (fun q => lw_tbl[q.2.2]?) = (ank 0).map (fun q => some (Cond.classLink (oN 0) q.1 (cT q.2.1).1)) := rfl
set_option maxRecDepth 100000 in
theorem ob_0 : (obk 0).map (fun q => lw_tbl[q.2.2]?) = (obk 0).map (fun q => some (Cond.methodLink (oN 0) q.1 objectInit)) := rfl
set_option maxRecDepth 100000 in
theorem nwb_0 : ∀ q ∈ nwk 0, q.2.1 < 13 := by decide +kernel
set_option maxRecDepth 100000 in
theorem anb_0 : ∀ q ∈ ank 0, q.2.1 = 8 := by decide +kernel
set_option maxRecDepth 100000 in
theorem ik_0 : (ikk 0).map (fun q => lw_tbl[q.2.2.2.2]?) = (ikk 0).map (fun q => some (mW 0 q.1 q.2.1)) := rfl
set_option maxRecDepth 100000 in
theorem ikc_0 : (ikk 0).map (fun q => (ini[q.2.2.2.1]?).map (fun z => z.1)) = (ikk 0).map (fun q => some q.2.1) := rfl
set_option maxRecDepth 100000 in
theorem ikb_0 : ∀ q ∈ ikk 0, (parseMethodDescriptor (mN q.2.1).desc).map (fun d => d.parameters.length) = some q.2.2.1 := by decide +kernel
set_option maxRecDepth 100000 in
theorem iN_0 : (iNk 0).map (fun q => lw_tbl[q.2.2.2.2]?) = (iNk 0).map (fun q => some (mV 0 q.1 q.2.1)) := rfl
set_option maxRecDepth 100000 in
theorem iNc_0 : (iNk 0).map (fun q => (ini[q.2.2.2.1]?).map (fun z => z.1)) = (iNk 0).map (fun q => some q.2.1) := rfl
set_option maxRecDepth 100000 in
theorem iNb_0 : ∀ q ∈ iNk 0, (parseMethodDescriptor (mN q.2.1).desc).map (fun d => d.parameters.length) = some q.2.2.1 := by decide +kernel
set_option maxRecDepth 100000 in
theorem nw_1 : (nwk 1).map (fun q => lw_tbl[q.2.2]?) = (nwk 1).map (fun q => some (Cond.classLink (oN 1) q.1 (cT q.2.1).1)) := rfl
set_option maxRecDepth 100000 in
theorem an_1 : (ank 1).map (fun q => lw_tbl[q.2.2]?) = (ank 1).map (fun q => some (Cond.classLink (oN 1) q.1 (cT q.2.1).1)) := rfl
set_option maxRecDepth 100000 in
theorem ob_1 : (obk 1).map (fun q => lw_tbl[q.2.2]?) = (obk 1).map (fun q => some (Cond.methodLink (oN 1) q.1 objectInit)) := rfl
set_option maxRecDepth 100000 in
theorem nwb_1 : ∀ q ∈ nwk 1, q.2.1 < 13 := by decide +kernel
set_option maxRecDepth 100000 in
theorem anb_1 : ∀ q ∈ ank 1, q.2.1 = 8 := by decide +kernel
set_option maxRecDepth 100000 in
theorem ik_1 : (ikk 1).map (fun q => lw_tbl[q.2.2.2.2]?) = (ikk 1).map (fun q => some (mW 1 q.1 q.2.1)) := rfl
set_option maxRecDepth 100000 in
theorem ikc_1 : (ikk 1).map (fun q => (ini[q.2.2.2.1]?).map (fun z => z.1)) = (ikk 1).map (fun q => some q.2.1) := rfl
set_option maxRecDepth 100000 in
theorem ikb_1 : ∀ q ∈ ikk 1, (parseMethodDescriptor (mN q.2.1).desc).map (fun d => d.parameters.length) = some q.2.2.1 := by decide +kernel
set_option maxRecDepth 100000 in
theorem iN_1 : (iNk 1).map (fun q => lw_tbl[q.2.2.2.2]?) = (iNk 1).map (fun q => some (mV 1 q.1 q.2.1)) := rfl
set_option maxRecDepth 100000 in
theorem iNc_1 : (iNk 1).map (fun q => (ini[q.2.2.2.1]?).map (fun z => z.1)) = (iNk 1).map (fun q => some q.2.1) := rfl
set_option maxRecDepth 100000 in
theorem iNb_1 : ∀ q ∈ iNk 1, (parseMethodDescriptor (mN q.2.1).desc).map (fun d => d.parameters.length) = some q.2.2.1 := by decide +kernel
set_option maxRecDepth 100000 in
theorem nw_2 : (nwk 2).map (fun q => lw_tbl[q.2.2]?) = (nwk 2).map (fun q => some (Cond.classLink (oN 2) q.1 (cT q.2.1).1)) := rfl
set_option maxRecDepth 100000 in
theorem an_2 : (ank 2).map (fun q => lw_tbl[q.2.2]?) = (ank 2).map (fun q => some (Cond.classLink (oN 2) q.1 (cT q.2.1).1)) := rfl
set_option maxRecDepth 100000 in
theorem ob_2 : (obk 2).map (fun q => lw_tbl[q.2.2]?) = (obk 2).map (fun q => some (Cond.methodLink (oN 2) q.1 objectInit)) := rfl
set_option maxRecDepth 100000 in
theorem nwb_2 : ∀ q ∈ nwk 2, q.2.1 < 13 := by decide +kernel
set_option maxRecDepth 100000 in
theorem anb_2 : ∀ q ∈ ank 2, q.2.1 = 8 := by decide +kernel
set_option maxRecDepth 100000 in
theorem ik_2 : (ikk 2).map (fun q => lw_tbl[q.2.2.2.2]?) = (ikk 2).map (fun q => some (mW 2 q.1 q.2.1)) := rfl
set_option maxRecDepth 100000 in
theorem ikc_2 : (ikk 2).map (fun q => (ini[q.2.2.2.1]?).map (fun z => z.1)) = (ikk 2).map (fun q => some q.2.1) := rfl
set_option maxRecDepth 100000 in
theorem ikb_2 : ∀ q ∈ ikk 2, (parseMethodDescriptor (mN q.2.1).desc).map (fun d => d.parameters.length) = some q.2.2.1 := by decide +kernel
set_option maxRecDepth 100000 in
theorem iN_2 : (iNk 2).map (fun q => lw_tbl[q.2.2.2.2]?) = (iNk 2).map (fun q => some (mV 2 q.1 q.2.1)) := rfl
set_option maxRecDepth 100000 in
theorem iNc_2 : (iNk 2).map (fun q => (ini[q.2.2.2.1]?).map (fun z => z.1)) = (iNk 2).map (fun q => some q.2.1) := rfl
set_option maxRecDepth 100000 in
theorem iNb_2 : ∀ q ∈ iNk 2, (parseMethodDescriptor (mN q.2.1).desc).map (fun d => d.parameters.length) = some q.2.2.1 := by decide +kernel
set_option maxRecDepth 100000 in
theorem nw_3 : (nwk 3).map (fun q => lw_tbl[q.2.2]?) = (nwk 3).map (fun q => some (Cond.classLink (oN 3) q.1 (cT q.2.1).1)) := rfl
set_option maxRecDepth 100000 in
theorem an_3 : (ank 3).map (fun q => lw_tbl[q.2.2]?) = (ank 3).map (fun q => some (Cond.classLink (oN 3) q.1 (cT q.2.1).1)) := rfl
set_option maxRecDepth 100000 in
theorem ob_3 : (obk 3).map (fun q => lw_tbl[q.2.2]?) = (obk 3).map (fun q => some (Cond.methodLink (oN 3) q.1 objectInit)) := rfl
set_option maxRecDepth 100000 in
theorem nwb_3 : ∀ q ∈ nwk 3, q.2.1 < 13 := by decide +kernel
set_option maxRecDepth 100000 in
theorem anb_3 : ∀ q ∈ ank 3, q.2.1 = 8 := by decide +kernel
set_option maxRecDepth 100000 in
theorem ik_3 : (ikk 3).map (fun q => lw_tbl[q.2.2.2.2]?) = (ikk 3).map (fun q => some (mW 3 q.1 q.2.1)) := rfl
set_option maxRecDepth 100000 in
theorem ikc_3 : (ikk 3).map (fun q => (ini[q.2.2.2.1]?).map (fun z => z.1)) = (ikk 3).map (fun q => some q.2.1) := rfl
set_option maxRecDepth 100000 in
theorem ikb_3 : ∀ q ∈ ikk 3, (parseMethodDescriptor (mN q.2.1).desc).map (fun d => d.parameters.length) = some q.2.2.1 := by decide +kernel
set_option maxRecDepth 100000 in
theorem iN_3 : (iNk 3).map (fun q => lw_tbl[q.2.2.2.2]?) = (iNk 3).map (fun q => some (mV 3 q.1 q.2.1)) := rfl
set_option maxRecDepth 100000 in
theorem iNc_3 : (iNk 3).map (fun q => (ini[q.2.2.2.1]?).map (fun z => z.1)) = (iNk 3).map (fun q => some q.2.1) := rfl
set_option maxRecDepth 100000 in
theorem iNb_3 : ∀ q ∈ iNk 3, (parseMethodDescriptor (mN q.2.1).desc).map (fun d => d.parameters.length) = some q.2.2.1 := by decide +kernel
set_option maxRecDepth 100000 in
theorem nw_4 : (nwk 4).map (fun q => lw_tbl[q.2.2]?) = (nwk 4).map (fun q => some (Cond.classLink (oN 4) q.1 (cT q.2.1).1)) := rfl
set_option maxRecDepth 100000 in
theorem an_4 : (ank 4).map (fun q => lw_tbl[q.2.2]?) = (ank 4).map (fun q => some (Cond.classLink (oN 4) q.1 (cT q.2.1).1)) := rfl
set_option maxRecDepth 100000 in
theorem ob_4 : (obk 4).map (fun q => lw_tbl[q.2.2]?) = (obk 4).map (fun q => some (Cond.methodLink (oN 4) q.1 objectInit)) := rfl
set_option maxRecDepth 100000 in
theorem nwb_4 : ∀ q ∈ nwk 4, q.2.1 < 13 := by decide +kernel
set_option maxRecDepth 100000 in
theorem anb_4 : ∀ q ∈ ank 4, q.2.1 = 8 := by decide +kernel
set_option maxRecDepth 100000 in
theorem ik_4 : (ikk 4).map (fun q => lw_tbl[q.2.2.2.2]?) = (ikk 4).map (fun q => some (mW 4 q.1 q.2.1)) := rfl
set_option maxRecDepth 100000 in
theorem ikc_4 : (ikk 4).map (fun q => (ini[q.2.2.2.1]?).map (fun z => z.1)) = (ikk 4).map (fun q => some q.2.1) := rfl
set_option maxRecDepth 100000 in
theorem ikb_4 : ∀ q ∈ ikk 4, (parseMethodDescriptor (mN q.2.1).desc).map (fun d => d.parameters.length) = some q.2.2.1 := by decide +kernel
set_option maxRecDepth 100000 in
theorem iN_4 : (iNk 4).map (fun q => lw_tbl[q.2.2.2.2]?) = (iNk 4).map (fun q => some (mV 4 q.1 q.2.1)) := rfl
set_option maxRecDepth 100000 in
theorem iNc_4 : (iNk 4).map (fun q => (ini[q.2.2.2.1]?).map (fun z => z.1)) = (iNk 4).map (fun q => some q.2.1) := rfl
set_option maxRecDepth 100000 in
theorem iNb_4 : ∀ q ∈ iNk 4, (parseMethodDescriptor (mN q.2.1).desc).map (fun d => d.parameters.length) = some q.2.2.1 := by decide +kernel
set_option maxRecDepth 100000 in
theorem nw_5 : (nwk 5).map (fun q => lw_tbl[q.2.2]?) = (nwk 5).map (fun q => some (Cond.classLink (oN 5) q.1 (cT q.2.1).1)) := rfl
set_option maxRecDepth 100000 in
theorem an_5 : (ank 5).map (fun q => lw_tbl[q.2.2]?) = (ank 5).map (fun q => some (Cond.classLink (oN 5) q.1 (cT q.2.1).1)) := rfl
set_option maxRecDepth 100000 in
theorem ob_5 : (obk 5).map (fun q => lw_tbl[q.2.2]?) = (obk 5).map (fun q => some (Cond.methodLink (oN 5) q.1 objectInit)) := rfl
set_option maxRecDepth 100000 in
theorem nwb_5 : ∀ q ∈ nwk 5, q.2.1 < 13 := by decide +kernel
set_option maxRecDepth 100000 in
theorem anb_5 : ∀ q ∈ ank 5, q.2.1 = 8 := by decide +kernel
set_option maxRecDepth 100000 in
theorem ik_5 : (ikk 5).map (fun q => lw_tbl[q.2.2.2.2]?) = (ikk 5).map (fun q => some (mW 5 q.1 q.2.1)) := rfl
set_option maxRecDepth 100000 in
theorem ikc_5 : (ikk 5).map (fun q => (ini[q.2.2.2.1]?).map (fun z => z.1)) = (ikk 5).map (fun q => some q.2.1) := rfl
set_option maxRecDepth 100000 in
theorem ikb_5 : ∀ q ∈ ikk 5, (parseMethodDescriptor (mN q.2.1).desc).map (fun d => d.parameters.length) = some q.2.2.1 := by decide +kernel
set_option maxRecDepth 100000 in
theorem iN_5 : (iNk 5).map (fun q => lw_tbl[q.2.2.2.2]?) = (iNk 5).map (fun q => some (mV 5 q.1 q.2.1)) := rfl
set_option maxRecDepth 100000 in
theorem iNc_5 : (iNk 5).map (fun q => (ini[q.2.2.2.1]?).map (fun z => z.1)) = (iNk 5).map (fun q => some q.2.1) := rfl
set_option maxRecDepth 100000 in
theorem iNb_5 : ∀ q ∈ iNk 5, (parseMethodDescriptor (mN q.2.1).desc).map (fun d => d.parameters.length) = some q.2.2.1 := by decide +kernel
set_option maxRecDepth 100000 in
theorem nw_6 : (nwk 6).map (fun q => lw_tbl[q.2.2]?) = (nwk 6).map (fun q => some (Cond.classLink (oN 6) q.1 (cT q.2.1).1)) := rfl
set_option maxRecDepth 100000 in
theorem an_6 : (ank 6).map (fun q => lw_tbl[q.2.2]?) = (ank 6).map (fun q => some (Cond.classLink (oN 6) q.1 (cT q.2.1).1)) := rfl
set_option maxRecDepth 100000 in
theorem ob_6 : (obk 6).map (fun q => lw_tbl[q.2.2]?) = (obk 6).map (fun q => some (Cond.methodLink (oN 6) q.1 objectInit)) := rfl
set_option maxRecDepth 100000 in
theorem nwb_6 : ∀ q ∈ nwk 6, q.2.1 < 13 := by decide +kernel
set_option maxRecDepth 100000 in
theorem anb_6 : ∀ q ∈ ank 6, q.2.1 = 8 := by decide +kernel
set_option maxRecDepth 100000 in
theorem ik_6 : (ikk 6).map (fun q => lw_tbl[q.2.2.2.2]?) = (ikk 6).map (fun q => some (mW 6 q.1 q.2.1)) := rfl
set_option maxRecDepth 100000 in
theorem ikc_6 : (ikk 6).map (fun q => (ini[q.2.2.2.1]?).map (fun z => z.1)) = (ikk 6).map (fun q => some q.2.1) := rfl
set_option maxRecDepth 100000 in
theorem ikb_6 : ∀ q ∈ ikk 6, (parseMethodDescriptor (mN q.2.1).desc).map (fun d => d.parameters.length) = some q.2.2.1 := by decide +kernel
set_option maxRecDepth 100000 in
theorem iN_6 : (iNk 6).map (fun q => lw_tbl[q.2.2.2.2]?) = (iNk 6).map (fun q => some (mV 6 q.1 q.2.1)) := rfl
set_option maxRecDepth 100000 in
theorem iNc_6 : (iNk 6).map (fun q => (ini[q.2.2.2.1]?).map (fun z => z.1)) = (iNk 6).map (fun q => some q.2.1) := rfl
set_option maxRecDepth 100000 in
theorem iNb_6 : ∀ q ∈ iNk 6, (parseMethodDescriptor (mN q.2.1).desc).map (fun d => d.parameters.length) = some q.2.2.1 := by decide +kernel
set_option maxRecDepth 100000 in
theorem nw_7 : (nwk 7).map (fun q => lw_tbl[q.2.2]?) = (nwk 7).map (fun q => some (Cond.classLink (oN 7) q.1 (cT q.2.1).1)) := rfl
set_option maxRecDepth 100000 in
theorem an_7 : (ank 7).map (fun q => lw_tbl[q.2.2]?) = (ank 7).map (fun q => some (Cond.classLink (oN 7) q.1 (cT q.2.1).1)) := rfl
set_option maxRecDepth 100000 in
theorem ob_7 : (obk 7).map (fun q => lw_tbl[q.2.2]?) = (obk 7).map (fun q => some (Cond.methodLink (oN 7) q.1 objectInit)) := rfl
set_option maxRecDepth 100000 in
theorem nwb_7 : ∀ q ∈ nwk 7, q.2.1 < 13 := by decide +kernel
set_option maxRecDepth 100000 in
theorem anb_7 : ∀ q ∈ ank 7, q.2.1 = 8 := by decide +kernel
set_option maxRecDepth 100000 in
theorem ik_7 : (ikk 7).map (fun q => lw_tbl[q.2.2.2.2]?) = (ikk 7).map (fun q => some (mW 7 q.1 q.2.1)) := rfl
set_option maxRecDepth 100000 in
theorem ikc_7 : (ikk 7).map (fun q => (ini[q.2.2.2.1]?).map (fun z => z.1)) = (ikk 7).map (fun q => some q.2.1) := rfl
set_option maxRecDepth 100000 in
theorem ikb_7 : ∀ q ∈ ikk 7, (parseMethodDescriptor (mN q.2.1).desc).map (fun d => d.parameters.length) = some q.2.2.1 := by decide +kernel
set_option maxRecDepth 100000 in
theorem iN_7 : (iNk 7).map (fun q => lw_tbl[q.2.2.2.2]?) = (iNk 7).map (fun q => some (mV 7 q.1 q.2.1)) := rfl
set_option maxRecDepth 100000 in
theorem iNc_7 : (iNk 7).map (fun q => (ini[q.2.2.2.1]?).map (fun z => z.1)) = (iNk 7).map (fun q => some q.2.1) := rfl
set_option maxRecDepth 100000 in
theorem iNb_7 : ∀ q ∈ iNk 7, (parseMethodDescriptor (mN q.2.1).desc).map (fun d => d.parameters.length) = some q.2.2.1 := by decide +kernel
set_option maxRecDepth 100000 in
theorem nw_8 : (nwk 8).map (fun q => lw_tbl[q.2.2]?) = (nwk 8).map (fun q => some (Cond.classLink (oN 8) q.1 (cT q.2.1).1)) := rfl
set_option maxRecDepth 100000 in
theorem an_8 : (ank 8).map (fun q => lw_tbl[q.2.2]?) = (ank 8).map (fun q => some (Cond.classLink (oN 8) q.1 (cT q.2.1).1)) := rfl
set_option maxRecDepth 100000 in
theorem ob_8 : (obk 8).map (fun q => lw_tbl[q.2.2]?) = (obk 8).map (fun q => some (Cond.methodLink (oN 8) q.1 objectInit)) := rfl
set_option maxRecDepth 100000 in
theorem nwb_8 : ∀ q ∈ nwk 8, q.2.1 < 13 := by decide +kernel
set_option maxRecDepth 100000 in
theorem anb_8 : ∀ q ∈ ank 8, q.2.1 = 8 := by decide +kernel
set_option maxRecDepth 100000 in
theorem ik_8 : (ikk 8).map (fun q => lw_tbl[q.2.2.2.2]?) = (ikk 8).map (fun q => some (mW 8 q.1 q.2.1)) := rfl
set_option maxRecDepth 100000 in
theorem ikc_8 : (ikk 8).map (fun q => (ini[q.2.2.2.1]?).map (fun z => z.1)) = (ikk 8).map (fun q => some q.2.1) := rfl
set_option maxRecDepth 100000 in
theorem ikb_8 : ∀ q ∈ ikk 8, (parseMethodDescriptor (mN q.2.1).desc).map (fun d => d.parameters.length) = some q.2.2.1 := by decide +kernel
set_option maxRecDepth 100000 in
theorem iN_8 : (iNk 8).map (fun q => lw_tbl[q.2.2.2.2]?) = (iNk 8).map (fun q => some (mV 8 q.1 q.2.1)) := rfl
set_option maxRecDepth 100000 in
theorem iNc_8 : (iNk 8).map (fun q => (ini[q.2.2.2.1]?).map (fun z => z.1)) = (iNk 8).map (fun q => some q.2.1) := rfl
set_option maxRecDepth 100000 in
theorem iNb_8 : ∀ q ∈ iNk 8, (parseMethodDescriptor (mN q.2.1).desc).map (fun d => d.parameters.length) = some q.2.2.1 := by decide +kernel
set_option maxRecDepth 100000 in
theorem nw_9 : (nwk 9).map (fun q => lw_tbl[q.2.2]?) = (nwk 9).map (fun q => some (Cond.classLink (oN 9) q.1 (cT q.2.1).1)) := rfl
set_option maxRecDepth 100000 in
theorem an_9 : (ank 9).map (fun q => lw_tbl[q.2.2]?) = (ank 9).map (fun q => some (Cond.classLink (oN 9) q.1 (cT q.2.1).1)) := rfl
set_option maxRecDepth 100000 in
theorem ob_9 : (obk 9).map (fun q => lw_tbl[q.2.2]?) = (obk 9).map (fun q => some (Cond.methodLink (oN 9) q.1 objectInit)) := rfl
set_option maxRecDepth 100000 in
theorem nwb_9 : ∀ q ∈ nwk 9, q.2.1 < 13 := by decide +kernel
set_option maxRecDepth 100000 in
theorem anb_9 : ∀ q ∈ ank 9, q.2.1 = 8 := by decide +kernel
set_option maxRecDepth 100000 in
theorem ik_9 : (ikk 9).map (fun q => lw_tbl[q.2.2.2.2]?) = (ikk 9).map (fun q => some (mW 9 q.1 q.2.1)) := rfl
set_option maxRecDepth 100000 in
theorem ikc_9 : (ikk 9).map (fun q => (ini[q.2.2.2.1]?).map (fun z => z.1)) = (ikk 9).map (fun q => some q.2.1) := rfl
set_option maxRecDepth 100000 in
theorem ikb_9 : ∀ q ∈ ikk 9, (parseMethodDescriptor (mN q.2.1).desc).map (fun d => d.parameters.length) = some q.2.2.1 := by decide +kernel
set_option maxRecDepth 100000 in
theorem iN_9 : (iNk 9).map (fun q => lw_tbl[q.2.2.2.2]?) = (iNk 9).map (fun q => some (mV 9 q.1 q.2.1)) := rfl
set_option maxRecDepth 100000 in
theorem iNc_9 : (iNk 9).map (fun q => (ini[q.2.2.2.1]?).map (fun z => z.1)) = (iNk 9).map (fun q => some q.2.1) := rfl
set_option maxRecDepth 100000 in
theorem iNb_9 : ∀ q ∈ iNk 9, (parseMethodDescriptor (mN q.2.1).desc).map (fun d => d.parameters.length) = some q.2.2.1 := by decide +kernel
set_option maxRecDepth 100000 in
theorem nw_10 : (nwk 10).map (fun q => lw_tbl[q.2.2]?) = (nwk 10).map (fun q => some (Cond.classLink (oN 10) q.1 (cT q.2.1).1)) := rfl
set_option maxRecDepth 100000 in
theorem an_10 : (ank 10).map (fun q => lw_tbl[q.2.2]?) = (ank 10).map (fun q => some (Cond.classLink (oN 10) q.1 (cT q.2.1).1)) := rfl
set_option maxRecDepth 100000 in
theorem ob_10 : (obk 10).map (fun q => lw_tbl[q.2.2]?) = (obk 10).map (fun q => some (Cond.methodLink (oN 10) q.1 objectInit)) := rfl
set_option maxRecDepth 100000 in
theorem nwb_10 : ∀ q ∈ nwk 10, q.2.1 < 13 := by decide +kernel
set_option maxRecDepth 100000 in
theorem anb_10 : ∀ q ∈ ank 10, q.2.1 = 8 := by decide +kernel
set_option maxRecDepth 100000 in
theorem ik_10 : (ikk 10).map (fun q => lw_tbl[q.2.2.2.2]?) = (ikk 10).map (fun q => some (mW 10 q.1 q.2.1)) := rfl
set_option maxRecDepth 100000 in
theorem ikc_10 : (ikk 10).map (fun q => (ini[q.2.2.2.1]?).map (fun z => z.1)) = (ikk 10).map (fun q => some q.2.1) := rfl
set_option maxRecDepth 100000 in
theorem ikb_10 : ∀ q ∈ ikk 10, (parseMethodDescriptor (mN q.2.1).desc).map (fun d => d.parameters.length) = some q.2.2.1 := by decide +kernel
set_option maxRecDepth 100000 in
theorem iN_10 : (iNk 10).map (fun q => lw_tbl[q.2.2.2.2]?) = (iNk 10).map (fun q => some (mV 10 q.1 q.2.1)) := rfl
set_option maxRecDepth 100000 in
theorem iNc_10 : (iNk 10).map (fun q => (ini[q.2.2.2.1]?).map (fun z => z.1)) = (iNk 10).map (fun q => some q.2.1) := rfl
set_option maxRecDepth 100000 in
theorem iNb_10 : ∀ q ∈ iNk 10, (parseMethodDescriptor (mN q.2.1).desc).map (fun d => d.parameters.length) = some q.2.2.1 := by decide +kernel
set_option maxRecDepth 100000 in
theorem nw_11 : (nwk 11).map (fun q => lw_tbl[q.2.2]?) = (nwk 11).map (fun q => some (Cond.classLink (oN 11) q.1 (cT q.2.1).1)) := rfl
set_option maxRecDepth 100000 in
theorem an_11 : (ank 11).map (fun q => lw_tbl[q.2.2]?) = (ank 11).map (fun q => some (Cond.classLink (oN 11) q.1 (cT q.2.1).1)) := rfl
set_option maxRecDepth 100000 in
theorem ob_11 : (obk 11).map (fun q => lw_tbl[q.2.2]?) = (obk 11).map (fun q => some (Cond.methodLink (oN 11) q.1 objectInit)) := rfl
set_option maxRecDepth 100000 in
theorem nwb_11 : ∀ q ∈ nwk 11, q.2.1 < 13 := by decide +kernel
set_option maxRecDepth 100000 in
theorem anb_11 : ∀ q ∈ ank 11, q.2.1 = 8 := by decide +kernel
set_option maxRecDepth 100000 in
theorem ik_11 : (ikk 11).map (fun q => lw_tbl[q.2.2.2.2]?) = (ikk 11).map (fun q => some (mW 11 q.1 q.2.1)) := rfl
set_option maxRecDepth 100000 in
theorem ikc_11 : (ikk 11).map (fun q => (ini[q.2.2.2.1]?).map (fun z => z.1)) = (ikk 11).map (fun q => some q.2.1) := rfl
set_option maxRecDepth 100000 in
theorem ikb_11 : ∀ q ∈ ikk 11, (parseMethodDescriptor (mN q.2.1).desc).map (fun d => d.parameters.length) = some q.2.2.1 := by decide +kernel
set_option maxRecDepth 100000 in
theorem iN_11 : (iNk 11).map (fun q => lw_tbl[q.2.2.2.2]?) = (iNk 11).map (fun q => some (mV 11 q.1 q.2.1)) := rfl
set_option maxRecDepth 100000 in
theorem iNc_11 : (iNk 11).map (fun q => (ini[q.2.2.2.1]?).map (fun z => z.1)) = (iNk 11).map (fun q => some q.2.1) := rfl
set_option maxRecDepth 100000 in
theorem iNb_11 : ∀ q ∈ iNk 11, (parseMethodDescriptor (mN q.2.1).desc).map (fun d => d.parameters.length) = some q.2.2.1 := by decide +kernel
set_option maxRecDepth 100000 in
theorem nw_12 : (nwk 12).map (fun q => lw_tbl[q.2.2]?) = (nwk 12).map (fun q => some (Cond.classLink (oN 12) q.1 (cT q.2.1).1)) := rfl
set_option maxRecDepth 100000 in
theorem an_12 : (ank 12).map (fun q => lw_tbl[q.2.2]?) = (ank 12).map (fun q => some (Cond.classLink (oN 12) q.1 (cT q.2.1).1)) := rfl
set_option maxRecDepth 100000 in
theorem ob_12 : (obk 12).map (fun q => lw_tbl[q.2.2]?) = (obk 12).map (fun q => some (Cond.methodLink (oN 12) q.1 objectInit)) := rfl
set_option maxRecDepth 100000 in
theorem nwb_12 : ∀ q ∈ nwk 12, q.2.1 < 13 := by decide +kernel
set_option maxRecDepth 100000 in
theorem anb_12 : ∀ q ∈ ank 12, q.2.1 = 8 := by decide +kernel
set_option maxRecDepth 100000 in
theorem ik_12 : (ikk 12).map (fun q => lw_tbl[q.2.2.2.2]?) = (ikk 12).map (fun q => some (mW 12 q.1 q.2.1)) := rfl
set_option maxRecDepth 100000 in
theorem ikc_12 : (ikk 12).map (fun q => (ini[q.2.2.2.1]?).map (fun z => z.1)) = (ikk 12).map (fun q => some q.2.1) := rfl
set_option maxRecDepth 100000 in
theorem ikb_12 : ∀ q ∈ ikk 12, (parseMethodDescriptor (mN q.2.1).desc).map (fun d => d.parameters.length) = some q.2.2.1 := by decide +kernel
set_option maxRecDepth 100000 in
theorem iN_12 : (iNk 12).map (fun q => lw_tbl[q.2.2.2.2]?) = (iNk 12).map (fun q => some (mV 12 q.1 q.2.1)) := rfl
set_option maxRecDepth 100000 in
theorem iNc_12 : (iNk 12).map (fun q => (ini[q.2.2.2.1]?).map (fun z => z.1)) = (iNk 12).map (fun q => some q.2.1) := rfl
set_option maxRecDepth 100000 in
theorem iNb_12 : ∀ q ∈ iNk 12, (parseMethodDescriptor (mN q.2.1).desc).map (fun d => d.parameters.length) = some q.2.2.1 := by decide +kernel
set_option maxRecDepth 100000 in
theorem nw_13 : (nwk 13).map (fun q => lw_tbl[q.2.2]?) = (nwk 13).map (fun q => some (Cond.classLink (oN 13) q.1 (cT q.2.1).1)) := rfl
set_option maxRecDepth 100000 in
theorem an_13 : (ank 13).map (fun q => lw_tbl[q.2.2]?) = (ank 13).map (fun q => some (Cond.classLink (oN 13) q.1 (cT q.2.1).1)) := rfl
set_option maxRecDepth 100000 in
theorem ob_13 : (obk 13).map (fun q => lw_tbl[q.2.2]?) = (obk 13).map (fun q => some (Cond.methodLink (oN 13) q.1 objectInit)) := rfl
set_option maxRecDepth 100000 in
theorem nwb_13 : ∀ q ∈ nwk 13, q.2.1 < 13 := by decide +kernel
set_option maxRecDepth 100000 in
theorem anb_13 : ∀ q ∈ ank 13, q.2.1 = 8 := by decide +kernel
set_option maxRecDepth 100000 in
theorem ik_13 : (ikk 13).map (fun q => lw_tbl[q.2.2.2.2]?) = (ikk 13).map (fun q => some (mW 13 q.1 q.2.1)) := rfl
set_option maxRecDepth 100000 in
theorem ikc_13 : (ikk 13).map (fun q => (ini[q.2.2.2.1]?).map (fun z => z.1)) = (ikk 13).map (fun q => some q.2.1) := rfl
set_option maxRecDepth 100000 in
theorem ikb_13 : ∀ q ∈ ikk 13, (parseMethodDescriptor (mN q.2.1).desc).map (fun d => d.parameters.length) = some q.2.2.1 := by decide +kernel
set_option maxRecDepth 100000 in
theorem iN_13 : (iNk 13).map (fun q => lw_tbl[q.2.2.2.2]?) = (iNk 13).map (fun q => some (mV 13 q.1 q.2.1)) := rfl
set_option maxRecDepth 100000 in
theorem iNc_13 : (iNk 13).map (fun q => (ini[q.2.2.2.1]?).map (fun z => z.1)) = (iNk 13).map (fun q => some q.2.1) := rfl
set_option maxRecDepth 100000 in
theorem iNb_13 : ∀ q ∈ iNk 13, (parseMethodDescriptor (mN q.2.1).desc).map (fun d => d.parameters.length) = some q.2.2.1 := by decide +kernel
set_option maxRecDepth 100000 in
theorem nw_14 : (nwk 14).map (fun q => lw_tbl[q.2.2]?) = (nwk 14).map (fun q => some (Cond.classLink (oN 14) q.1 (cT q.2.1).1)) := rfl
set_option maxRecDepth 100000 in
theorem an_14 : (ank 14).map (fun q => lw_tbl[q.2.2]?) = (ank 14).map (fun q => some (Cond.classLink (oN 14) q.1 (cT q.2.1).1)) := rfl
set_option maxRecDepth 100000 in
theorem ob_14 : (obk 14).map (fun q => lw_tbl[q.2.2]?) = (obk 14).map (fun q => some (Cond.methodLink (oN 14) q.1 objectInit)) := rfl
set_option maxRecDepth 100000 in
theorem nwb_14 : ∀ q ∈ nwk 14, q.2.1 < 13 := by decide +kernel
set_option maxRecDepth 100000 in
theorem anb_14 : ∀ q ∈ ank 14, q.2.1 = 8 := by decide +kernel
set_option maxRecDepth 100000 in
theorem ik_14 : (ikk 14).map (fun q => lw_tbl[q.2.2.2.2]?) = (ikk 14).map (fun q => some (mW 14 q.1 q.2.1)) := rfl
set_option maxRecDepth 100000 in
theorem ikc_14 : (ikk 14).map (fun q => (ini[q.2.2.2.1]?).map (fun z => z.1)) = (ikk 14).map (fun q => some q.2.1) := rfl
set_option maxRecDepth 100000 in
theorem ikb_14 : ∀ q ∈ ikk 14, (parseMethodDescriptor (mN q.2.1).desc).map (fun d => d.parameters.length) = some q.2.2.1 := by decide +kernel
set_option maxRecDepth 100000 in
theorem iN_14 : (iNk 14).map (fun q => lw_tbl[q.2.2.2.2]?) = (iNk 14).map (fun q => some (mV 14 q.1 q.2.1)) := rfl
set_option maxRecDepth 100000 in
theorem iNc_14 : (iNk 14).map (fun q => (ini[q.2.2.2.1]?).map (fun z => z.1)) = (iNk 14).map (fun q => some q.2.1) := rfl
set_option maxRecDepth 100000 in
theorem iNb_14 : ∀ q ∈ iNk 14, (parseMethodDescriptor (mN q.2.1).desc).map (fun d => d.parameters.length) = some q.2.2.1 := by decide +kernel
set_option maxRecDepth 100000 in
theorem nw_15 : (nwk 15).map (fun q => lw_tbl[q.2.2]?) = (nwk 15).map (fun q => some (Cond.classLink (oN 15) q.1 (cT q.2.1).1)) := rfl
set_option maxRecDepth 100000 in
theorem an_15 : (ank 15).map (fun q => lw_tbl[q.2.2]?) = (ank 15).map (fun q => some (Cond.classLink (oN 15) q.1 (cT q.2.1).1)) := rfl
set_option maxRecDepth 100000 in
theorem ob_15 : (obk 15).map (fun q => lw_tbl[q.2.2]?) = (obk 15).map (fun q => some (Cond.methodLink (oN 15) q.1 objectInit)) := rfl
set_option maxRecDepth 100000 in
theorem nwb_15 : ∀ q ∈ nwk 15, q.2.1 < 13 := by decide +kernel
set_option maxRecDepth 100000 in
theorem anb_15 : ∀ q ∈ ank 15, q.2.1 = 8 := by decide +kernel
set_option maxRecDepth 100000 in
theorem ik_15 : (ikk 15).map (fun q => lw_tbl[q.2.2.2.2]?) = (ikk 15).map (fun q => some (mW 15 q.1 q.2.1)) := rfl
set_option maxRecDepth 100000 in
theorem ikc_15 : (ikk 15).map (fun q => (ini[q.2.2.2.1]?).map (fun z => z.1)) = (ikk 15).map (fun q => some q.2.1) := rfl
set_option maxRecDepth 100000 in
theorem ikb_15 : ∀ q ∈ ikk 15, (parseMethodDescriptor (mN q.2.1).desc).map (fun d => d.parameters.length) = some q.2.2.1 := by decide +kernel
set_option maxRecDepth 100000 in
theorem iN_15 : (iNk 15).map (fun q => lw_tbl[q.2.2.2.2]?) = (iNk 15).map (fun q => some (mV 15 q.1 q.2.1)) := rfl
set_option maxRecDepth 100000 in
theorem iNc_15 : (iNk 15).map (fun q => (ini[q.2.2.2.1]?).map (fun z => z.1)) = (iNk 15).map (fun q => some q.2.1) := rfl
set_option maxRecDepth 100000 in
theorem iNb_15 : ∀ q ∈ iNk 15, (parseMethodDescriptor (mN q.2.1).desc).map (fun d => d.parameters.length) = some q.2.2.1 := by decide +kernel
theorem nw_all : ∀ o, ∀ q ∈ nwk o, q.2.1 < 13 ∧ Cond.classLink (oN o) q.1 (cT q.2.1).1 ∈ gtb := by
  intro o q h
  match o, h with
  | 0, h => exact ⟨nwb_0 q h, gats nw_0 (fun _ => rfl) q h⟩
  | 1, h => exact ⟨nwb_1 q h, gats nw_1 (fun _ => rfl) q h⟩
  | 2, h => exact ⟨nwb_2 q h, gats nw_2 (fun _ => rfl) q h⟩
  | 3, h => exact ⟨nwb_3 q h, gats nw_3 (fun _ => rfl) q h⟩
  | 4, h => exact ⟨nwb_4 q h, gats nw_4 (fun _ => rfl) q h⟩
  | 5, h => exact ⟨nwb_5 q h, gats nw_5 (fun _ => rfl) q h⟩
  | 6, h => exact ⟨nwb_6 q h, gats nw_6 (fun _ => rfl) q h⟩
  | 7, h => exact ⟨nwb_7 q h, gats nw_7 (fun _ => rfl) q h⟩
  | 8, h => exact ⟨nwb_8 q h, gats nw_8 (fun _ => rfl) q h⟩
  | 9, h => exact ⟨nwb_9 q h, gats nw_9 (fun _ => rfl) q h⟩
  | 10, h => exact ⟨nwb_10 q h, gats nw_10 (fun _ => rfl) q h⟩
  | 11, h => exact ⟨nwb_11 q h, gats nw_11 (fun _ => rfl) q h⟩
  | 12, h => exact ⟨nwb_12 q h, gats nw_12 (fun _ => rfl) q h⟩
  | 13, h => exact ⟨nwb_13 q h, gats nw_13 (fun _ => rfl) q h⟩
  | 14, h => exact ⟨nwb_14 q h, gats nw_14 (fun _ => rfl) q h⟩
  | 15, h => exact ⟨nwb_15 q h, gats nw_15 (fun _ => rfl) q h⟩
  | n + 16, h => exact absurd h (by simp [nwk, nw_t])
theorem an_all : ∀ o, ∀ q ∈ ank o, q.2.1 = 8 ∧ Cond.classLink (oN o) q.1 (cT q.2.1).1 ∈ gtb := by
  intro o q h
  match o, h with
  | 0, h => exact ⟨anb_0 q h, gats an_0 (fun _ => rfl) q h⟩
  | 1, h => exact ⟨anb_1 q h, gats an_1 (fun _ => rfl) q h⟩
  | 2, h => exact ⟨anb_2 q h, gats an_2 (fun _ => rfl) q h⟩
  | 3, h => exact ⟨anb_3 q h, gats an_3 (fun _ => rfl) q h⟩
  | 4, h => exact ⟨anb_4 q h, gats an_4 (fun _ => rfl) q h⟩
  | 5, h => exact ⟨anb_5 q h, gats an_5 (fun _ => rfl) q h⟩
  | 6, h => exact ⟨anb_6 q h, gats an_6 (fun _ => rfl) q h⟩
  | 7, h => exact ⟨anb_7 q h, gats an_7 (fun _ => rfl) q h⟩
  | 8, h => exact ⟨anb_8 q h, gats an_8 (fun _ => rfl) q h⟩
  | 9, h => exact ⟨anb_9 q h, gats an_9 (fun _ => rfl) q h⟩
  | 10, h => exact ⟨anb_10 q h, gats an_10 (fun _ => rfl) q h⟩
  | 11, h => exact ⟨anb_11 q h, gats an_11 (fun _ => rfl) q h⟩
  | 12, h => exact ⟨anb_12 q h, gats an_12 (fun _ => rfl) q h⟩
  | 13, h => exact ⟨anb_13 q h, gats an_13 (fun _ => rfl) q h⟩
  | 14, h => exact ⟨anb_14 q h, gats an_14 (fun _ => rfl) q h⟩
  | 15, h => exact ⟨anb_15 q h, gats an_15 (fun _ => rfl) q h⟩
  | n + 16, h => exact absurd h (by simp [ank, an_t])
theorem ob_all : ∀ o, ∀ q ∈ obk o, Cond.methodLink (oN o) q.1 objectInit ∈ gtb := by
  intro o q h
  match o, h with
  | 0, h => exact gats ob_0 (fun _ => rfl) q h
  | 1, h => exact gats ob_1 (fun _ => rfl) q h
  | 2, h => exact gats ob_2 (fun _ => rfl) q h
  | 3, h => exact gats ob_3 (fun _ => rfl) q h
  | 4, h => exact gats ob_4 (fun _ => rfl) q h
  | 5, h => exact gats ob_5 (fun _ => rfl) q h
  | 6, h => exact gats ob_6 (fun _ => rfl) q h
  | 7, h => exact gats ob_7 (fun _ => rfl) q h
  | 8, h => exact gats ob_8 (fun _ => rfl) q h
  | 9, h => exact gats ob_9 (fun _ => rfl) q h
  | 10, h => exact gats ob_10 (fun _ => rfl) q h
  | 11, h => exact gats ob_11 (fun _ => rfl) q h
  | 12, h => exact gats ob_12 (fun _ => rfl) q h
  | 13, h => exact gats ob_13 (fun _ => rfl) q h
  | 14, h => exact gats ob_14 (fun _ => rfl) q h
  | 15, h => exact gats ob_15 (fun _ => rfl) q h
  | n + 16, h => exact absurd h (by simp [obk, ob_t])
theorem ik_all : ∀ o, ∀ q ∈ ikk o, mP q.2.1 q.2.2.1 ∧ iF q.2.1 ∧ mW o q.1 q.2.1 ∈ gtb := by
  intro o q h
  match o, h with
  | 0, h => exact ⟨ikb_0 q h, iF_at (List.map_inj_left.mp ikc_0 q h), gats ik_0 (fun _ => rfl) q h⟩
  | 1, h => exact ⟨ikb_1 q h, iF_at (List.map_inj_left.mp ikc_1 q h), gats ik_1 (fun _ => rfl) q h⟩
  | 2, h => exact ⟨ikb_2 q h, iF_at (List.map_inj_left.mp ikc_2 q h), gats ik_2 (fun _ => rfl) q h⟩
  | 3, h => exact ⟨ikb_3 q h, iF_at (List.map_inj_left.mp ikc_3 q h), gats ik_3 (fun _ => rfl) q h⟩
  | 4, h => exact ⟨ikb_4 q h, iF_at (List.map_inj_left.mp ikc_4 q h), gats ik_4 (fun _ => rfl) q h⟩
  | 5, h => exact ⟨ikb_5 q h, iF_at (List.map_inj_left.mp ikc_5 q h), gats ik_5 (fun _ => rfl) q h⟩
  | 6, h => exact ⟨ikb_6 q h, iF_at (List.map_inj_left.mp ikc_6 q h), gats ik_6 (fun _ => rfl) q h⟩
  | 7, h => exact ⟨ikb_7 q h, iF_at (List.map_inj_left.mp ikc_7 q h), gats ik_7 (fun _ => rfl) q h⟩
  | 8, h => exact ⟨ikb_8 q h, iF_at (List.map_inj_left.mp ikc_8 q h), gats ik_8 (fun _ => rfl) q h⟩
  | 9, h => exact ⟨ikb_9 q h, iF_at (List.map_inj_left.mp ikc_9 q h), gats ik_9 (fun _ => rfl) q h⟩
  | 10, h => exact ⟨ikb_10 q h, iF_at (List.map_inj_left.mp ikc_10 q h), gats ik_10 (fun _ => rfl) q h⟩
  | 11, h => exact ⟨ikb_11 q h, iF_at (List.map_inj_left.mp ikc_11 q h), gats ik_11 (fun _ => rfl) q h⟩
  | 12, h => exact ⟨ikb_12 q h, iF_at (List.map_inj_left.mp ikc_12 q h), gats ik_12 (fun _ => rfl) q h⟩
  | 13, h => exact ⟨ikb_13 q h, iF_at (List.map_inj_left.mp ikc_13 q h), gats ik_13 (fun _ => rfl) q h⟩
  | 14, h => exact ⟨ikb_14 q h, iF_at (List.map_inj_left.mp ikc_14 q h), gats ik_14 (fun _ => rfl) q h⟩
  | 15, h => exact ⟨ikb_15 q h, iF_at (List.map_inj_left.mp ikc_15 q h), gats ik_15 (fun _ => rfl) q h⟩
  | n + 16, h => exact absurd h (by simp [ikk, ik_t])
theorem iN_all : ∀ o, ∀ q ∈ iNk o, mP q.2.1 q.2.2.1 ∧ iF q.2.1 ∧ mV o q.1 q.2.1 ∈ nws := by
  intro o q h
  match o, h with
  | 0, h => exact ⟨iNb_0 q h, iF_at (List.map_inj_left.mp iNc_0 q h), nats iN_0 (fun _ => rfl) q h⟩
  | 1, h => exact ⟨iNb_1 q h, iF_at (List.map_inj_left.mp iNc_1 q h), nats iN_1 (fun _ => rfl) q h⟩
  | 2, h => exact ⟨iNb_2 q h, iF_at (List.map_inj_left.mp iNc_2 q h), nats iN_2 (fun _ => rfl) q h⟩
  | 3, h => exact ⟨iNb_3 q h, iF_at (List.map_inj_left.mp iNc_3 q h), nats iN_3 (fun _ => rfl) q h⟩
  | 4, h => exact ⟨iNb_4 q h, iF_at (List.map_inj_left.mp iNc_4 q h), nats iN_4 (fun _ => rfl) q h⟩
  | 5, h => exact ⟨iNb_5 q h, iF_at (List.map_inj_left.mp iNc_5 q h), nats iN_5 (fun _ => rfl) q h⟩
  | 6, h => exact ⟨iNb_6 q h, iF_at (List.map_inj_left.mp iNc_6 q h), nats iN_6 (fun _ => rfl) q h⟩
  | 7, h => exact ⟨iNb_7 q h, iF_at (List.map_inj_left.mp iNc_7 q h), nats iN_7 (fun _ => rfl) q h⟩
  | 8, h => exact ⟨iNb_8 q h, iF_at (List.map_inj_left.mp iNc_8 q h), nats iN_8 (fun _ => rfl) q h⟩
  | 9, h => exact ⟨iNb_9 q h, iF_at (List.map_inj_left.mp iNc_9 q h), nats iN_9 (fun _ => rfl) q h⟩
  | 10, h => exact ⟨iNb_10 q h, iF_at (List.map_inj_left.mp iNc_10 q h), nats iN_10 (fun _ => rfl) q h⟩
  | 11, h => exact ⟨iNb_11 q h, iF_at (List.map_inj_left.mp iNc_11 q h), nats iN_11 (fun _ => rfl) q h⟩
  | 12, h => exact ⟨iNb_12 q h, iF_at (List.map_inj_left.mp iNc_12 q h), nats iN_12 (fun _ => rfl) q h⟩
  | 13, h => exact ⟨iNb_13 q h, iF_at (List.map_inj_left.mp iNc_13 q h), nats iN_13 (fun _ => rfl) q h⟩
  | 14, h => exact ⟨iNb_14 q h, iF_at (List.map_inj_left.mp iNc_14 q h), nats iN_14 (fun _ => rfl) q h⟩
  | 15, h => exact ⟨iNb_15 q h, iF_at (List.map_inj_left.mp iNc_15 q h), nats iN_15 (fun _ => rfl) q h⟩
  | n + 16, h => exact absurd h (by simp [iNk, iN_t])
set_option maxRecDepth 100000 in
theorem in_0 : Cond.instantiable (cT 0).1 (cT 0).2.2 ∈ gtb ∧ Cond.initialized (cT 0).1 ∈ gtb := ⟨gat (i := 167) rfl rfl, gat (i := 112) rfl rfl⟩
set_option maxRecDepth 100000 in
theorem in_1 : Cond.instantiable (cT 1).1 (cT 1).2.2 ∈ gtb ∧ Cond.initialized (cT 1).1 ∈ gtb := ⟨gat (i := 484) rfl rfl, gat (i := 121) rfl rfl⟩
set_option maxRecDepth 100000 in
theorem in_2 : Cond.instantiable (cT 2).1 (cT 2).2.2 ∈ gtb ∧ Cond.initialized (cT 2).1 ∈ gtb := ⟨gat (i := 446) rfl rfl, gat (i := 119) rfl rfl⟩
set_option maxRecDepth 100000 in
theorem in_3 : Cond.instantiable (cT 3).1 (cT 3).2.2 ∈ gtb ∧ Cond.initialized (cT 3).1 ∈ gtb := ⟨gat (i := 161) rfl rfl, gat (i := 111) rfl rfl⟩
set_option maxRecDepth 100000 in
theorem in_4 : Cond.instantiable (cT 4).1 (cT 4).2.2 ∈ gtb ∧ Cond.initialized (cT 4).1 ∈ gtb := ⟨gat (i := 155) rfl rfl, gat (i := 110) rfl rfl⟩
set_option maxRecDepth 100000 in
theorem in_5 : Cond.instantiable (cT 5).1 (cT 5).2.2 ∈ gtb ∧ Cond.initialized (cT 5).1 ∈ gtb := ⟨gat (i := 466) rfl rfl, gat (i := 120) rfl rfl⟩
set_option maxRecDepth 100000 in
theorem in_6 : Cond.instantiable (cT 6).1 (cT 6).2.2 ∈ gtb ∧ Cond.initialized (cT 6).1 ∈ gtb := ⟨gat (i := 527) rfl rfl, gat (i := 123) rfl rfl⟩
set_option maxRecDepth 100000 in
theorem in_7 : Cond.instantiable (cT 7).1 (cT 7).2.2 ∈ gtb ∧ Cond.initialized (cT 7).1 ∈ gtb := ⟨gat (i := 500) rfl rfl, gat (i := 122) rfl rfl⟩
set_option maxRecDepth 100000 in
theorem in_8 : Cond.instantiable (cT 8).1 (cT 8).2.2 ∈ gtb ∧ Cond.initialized (cT 8).1 ∈ gtb := ⟨gat (i := 419) rfl rfl, gat (i := 118) rfl rfl⟩
set_option maxRecDepth 100000 in
theorem in_9 : Cond.instantiable (cT 9).1 (cT 9).2.2 ∈ gtb ∧ Cond.initialized (cT 9).1 ∈ gtb := ⟨gat (i := 139) rfl rfl, gat (i := 109) rfl rfl⟩
set_option maxRecDepth 100000 in
theorem in_10 : Cond.instantiable (cT 10).1 (cT 10).2.2 ∈ gtb ∧ Cond.initialized (cT 10).1 ∈ gtb := ⟨gat (i := 304) rfl rfl, gat (i := 113) rfl rfl⟩
set_option maxRecDepth 100000 in
theorem in_11 : Cond.instantiable (cT 11).1 (cT 11).2.2 ∈ gtb ∧ Cond.initialized (cT 11).1 ∈ gtb := ⟨gat (i := 131) rfl rfl, gat (i := 108) rfl rfl⟩
set_option maxRecDepth 100000 in
theorem in_12 : Cond.instantiable (cT 12).1 (cT 12).2.2 ∈ gtb ∧ Cond.initialized (cT 12).1 ∈ gtb := ⟨gat (i := 1305) rfl rfl, gat (i := 126) rfl rfl⟩
theorem in_all : ∀ ci, ci < 13 → Cond.instantiable (cT ci).1 (cT ci).2.2 ∈ gtb ∧ Cond.initialized (cT ci).1 ∈ gtb := by
  intro ci h
  match ci, h with
  | 0, _ => exact in_0
  | 1, _ => exact in_1
  | 2, _ => exact in_2
  | 3, _ => exact in_3
  | 4, _ => exact in_4
  | 5, _ => exact in_5
  | 6, _ => exact in_6
  | 7, _ => exact in_7
  | 8, _ => exact in_8
  | 9, _ => exact in_9
  | 10, _ => exact in_10
  | 11, _ => exact in_11
  | 12, _ => exact in_12
  | n + 13, h => exact absurd h (by omega)
set_option maxRecDepth 100000 in
theorem w_obi : Cond.instanceMethod objectInit ∈ gtb := gat (i := 136) rfl rfl
set_option maxRecDepth 100000 in
theorem w_obc : Cond.code objectInit ⟨#[0xb1]⟩ 1 none ∈ gtb := gat (i := 137) rfl rfl
set_option maxRecDepth 100000 in
theorem w_aint : Cond.arrayClass .int ∈ gtb := gat (i := 197) rfl rfl
set_option maxRecDepth 100000 in
theorem w_abyte : Cond.arrayClass .byte ∈ gtb := gat (i := 153) rfl rfl
set_option maxRecDepth 100000 in
theorem w_aboolean : Cond.arrayClass .boolean ∈ gtb := gat (i := 482) rfl rfl
set_option maxRecDepth 100000 in
theorem w_along : Cond.arrayClass .long ∈ gtb := gat (i := 379) rfl rfl
end
