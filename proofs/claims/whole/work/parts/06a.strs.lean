/-! ===== the two literals, and what the JDK's methods answer on them ===== -/
def tx1 : String := "town seam woman cart costs wears puckers toll thread frost seed if then else length sewn week frosty carted which load new ways "
def tx2 : String := ";=+-*/<()"
def by1 : List Int32 := [116, 111, 119, 110, 32, 115, 101, 97, 109, 32, 119, 111, 109, 97, 110, 32, 99, 97, 114, 116, 32, 99, 111, 115, 116, 115, 32, 119, 101, 97, 114, 115, 32, 112, 117, 99, 107, 101, 114, 115, 32, 116, 111, 108, 108, 32, 116, 104, 114, 101, 97, 100, 32, 102, 114, 111, 115, 116, 32, 115, 101, 101, 100, 32, 105, 102, 32, 116, 104, 101, 110, 32, 101, 108, 115, 101, 32, 108, 101, 110, 103, 116, 104, 32, 115, 101, 119, 110, 32, 119, 101, 101, 107, 32, 102, 114, 111, 115, 116, 121, 32, 99, 97, 114, 116, 101, 100, 32, 119, 104, 105, 99, 104, 32, 108, 111, 97, 100, 32, 110, 101, 119, 32, 119, 97, 121, 115, 32]
def by2 : List Int32 := [59, 61, 43, 45, 42, 47, 60, 40, 41]
abbrev yk_len : MethodName := ⟨"java/lang/String", "length", "()I"⟩
abbrev bk_len : ByteArray := prog_18_method_54_code
theorem dk_len_0 : decode bk_len 0 = .ok (.aload_n 0, 1) := by decide +kernel
theorem dk_len_1 : decode bk_len 1 = .ok (.getfield 9, 3) := by decide +kernel
theorem dk_len_4 : decode bk_len 4 = .ok (.arraylength, 1) := by decide +kernel
theorem dk_len_5 : decode bk_len 5 = .ok (.aload_n 0, 1) := by decide +kernel
theorem dk_len_6 : decode bk_len 6 = .ok (.invokevirtual 335, 3) := by decide +kernel
theorem dk_len_9 : decode bk_len 9 = .ok (.ishr, 1) := by decide +kernel
theorem dk_len_10 : decode bk_len 10 = .ok (.ireturn, 1) := by decide +kernel
abbrev yk_chr : MethodName := ⟨"java/lang/String", "charAt", "(I)C"⟩
abbrev bk_chr : ByteArray := prog_18_method_56_code
theorem dk_chr_0 : decode bk_chr 0 = .ok (.aload_n 0, 1) := by decide +kernel
theorem dk_chr_1 : decode bk_chr 1 = .ok (.invokevirtual 492, 3) := by decide +kernel
theorem dk_chr_4 : decode bk_chr 4 = .ok (.ifCond .eq 12, 3) := by decide +kernel
theorem dk_chr_7 : decode bk_chr 7 = .ok (.aload_n 0, 1) := by decide +kernel
theorem dk_chr_8 : decode bk_chr 8 = .ok (.getfield 9, 3) := by decide +kernel
theorem dk_chr_11 : decode bk_chr 11 = .ok (.iload_n 1, 1) := by decide +kernel
theorem dk_chr_12 : decode bk_chr 12 = .ok (.invokestatic 495, 3) := by decide +kernel
theorem dk_chr_15 : decode bk_chr 15 = .ok (.ireturn, 1) := by decide +kernel
theorem dk_chr_16 : decode bk_chr 16 = .ok (.aload_n 0, 1) := by decide +kernel
theorem dk_chr_17 : decode bk_chr 17 = .ok (.getfield 9, 3) := by decide +kernel
theorem dk_chr_20 : decode bk_chr 20 = .ok (.iload_n 1, 1) := by decide +kernel
theorem dk_chr_21 : decode bk_chr 21 = .ok (.invokestatic 498, 3) := by decide +kernel
theorem dk_chr_24 : decode bk_chr 24 = .ok (.ireturn, 1) := by decide +kernel
abbrev yk_ix1 : MethodName := ⟨"java/lang/String", "indexOf", "(I)I"⟩
abbrev bk_ix1 : ByteArray := prog_18_method_79_code
theorem dk_ix1_0 : decode bk_ix1 0 = .ok (.aload_n 0, 1) := by decide +kernel
theorem dk_ix1_1 : decode bk_ix1 1 = .ok (.iload_n 1, 1) := by decide +kernel
theorem dk_ix1_2 : decode bk_ix1 2 = .ok (.iconst 0, 1) := by decide +kernel
theorem dk_ix1_3 : decode bk_ix1 3 = .ok (.invokevirtual 633, 3) := by decide +kernel
theorem dk_ix1_6 : decode bk_ix1 6 = .ok (.ireturn, 1) := by decide +kernel
abbrev yk_ix2 : MethodName := ⟨"java/lang/String", "indexOf", "(II)I"⟩
abbrev bk_ix2 : ByteArray := prog_18_method_80_code
theorem dk_ix2_0 : decode bk_ix2 0 = .ok (.aload_n 0, 1) := by decide +kernel
theorem dk_ix2_1 : decode bk_ix2 1 = .ok (.invokevirtual 492, 3) := by decide +kernel
theorem dk_ix2_4 : decode bk_ix2 4 = .ok (.ifCond .eq 19, 3) := by decide +kernel
theorem dk_ix2_7 : decode bk_ix2 7 = .ok (.aload_n 0, 1) := by decide +kernel
theorem dk_ix2_8 : decode bk_ix2 8 = .ok (.getfield 9, 3) := by decide +kernel
theorem dk_ix2_11 : decode bk_ix2 11 = .ok (.iload_n 1, 1) := by decide +kernel
theorem dk_ix2_12 : decode bk_ix2 12 = .ok (.iload_n 2, 1) := by decide +kernel
theorem dk_ix2_13 : decode bk_ix2 13 = .ok (.aload_n 0, 1) := by decide +kernel
theorem dk_ix2_14 : decode bk_ix2 14 = .ok (.invokevirtual 505, 3) := by decide +kernel
theorem dk_ix2_17 : decode bk_ix2 17 = .ok (.invokestatic 637, 3) := by decide +kernel
theorem dk_ix2_20 : decode bk_ix2 20 = .ok (.goto 16, 3) := by decide +kernel
theorem dk_ix2_23 : decode bk_ix2 23 = .ok (.aload_n 0, 1) := by decide +kernel
theorem dk_ix2_24 : decode bk_ix2 24 = .ok (.getfield 9, 3) := by decide +kernel
theorem dk_ix2_27 : decode bk_ix2 27 = .ok (.iload_n 1, 1) := by decide +kernel
theorem dk_ix2_28 : decode bk_ix2 28 = .ok (.iload_n 2, 1) := by decide +kernel
theorem dk_ix2_29 : decode bk_ix2 29 = .ok (.aload_n 0, 1) := by decide +kernel
theorem dk_ix2_30 : decode bk_ix2 30 = .ok (.invokevirtual 505, 3) := by decide +kernel
theorem dk_ix2_33 : decode bk_ix2 33 = .ok (.invokestatic 640, 3) := by decide +kernel
theorem dk_ix2_36 : decode bk_ix2 36 = .ok (.ireturn, 1) := by decide +kernel
abbrev yk_cod : MethodName := ⟨"java/lang/String", "coder", "()B"⟩
abbrev bk_cod : ByteArray := prog_18_method_152_code
theorem dk_cod_0 : decode bk_cod 0 = .ok (.getstatic 38, 3) := by decide +kernel
theorem dk_cod_3 : decode bk_cod 3 = .ok (.ifCond .eq 10, 3) := by decide +kernel
theorem dk_cod_6 : decode bk_cod 6 = .ok (.aload_n 0, 1) := by decide +kernel
theorem dk_cod_7 : decode bk_cod 7 = .ok (.getfield 15, 3) := by decide +kernel
theorem dk_cod_10 : decode bk_cod 10 = .ok (.goto 4, 3) := by decide +kernel
theorem dk_cod_13 : decode bk_cod 13 = .ok (.iconst 1, 1) := by decide +kernel
theorem dk_cod_14 : decode bk_cod 14 = .ok (.ireturn, 1) := by decide +kernel
abbrev yk_lat : MethodName := ⟨"java/lang/String", "isLatin1", "()Z"⟩
abbrev bk_lat : ByteArray := prog_18_method_154_code
theorem dk_lat_0 : decode bk_lat 0 = .ok (.getstatic 38, 3) := by decide +kernel
theorem dk_lat_3 : decode bk_lat 3 = .ok (.ifCond .eq 14, 3) := by decide +kernel
theorem dk_lat_6 : decode bk_lat 6 = .ok (.aload_n 0, 1) := by decide +kernel
theorem dk_lat_7 : decode bk_lat 7 = .ok (.getfield 15, 3) := by decide +kernel
theorem dk_lat_10 : decode bk_lat 10 = .ok (.ifCond .ne 7, 3) := by decide +kernel
theorem dk_lat_13 : decode bk_lat 13 = .ok (.iconst 1, 1) := by decide +kernel
theorem dk_lat_14 : decode bk_lat 14 = .ok (.goto 4, 3) := by decide +kernel
theorem dk_lat_17 : decode bk_lat 17 = .ok (.iconst 0, 1) := by decide +kernel
theorem dk_lat_18 : decode bk_lat 18 = .ok (.ireturn, 1) := by decide +kernel
abbrev yk_chk : MethodName := ⟨"java/lang/String", "checkIndex", "(II)V"⟩
abbrev bk_chk : ByteArray := prog_18_method_155_code
theorem dk_chk_0 : decode bk_chk 0 = .ok (.iload_n 0, 1) := by decide +kernel
theorem dk_chk_1 : decode bk_chk 1 = .ok (.iload_n 1, 1) := by decide +kernel
theorem dk_chk_2 : decode bk_chk 2 = .ok (.getstatic 1053, 3) := by decide +kernel
theorem dk_chk_5 : decode bk_chk 5 = .ok (.invokestatic 1059, 3) := by decide +kernel
theorem dk_chk_8 : decode bk_chk 8 = .ok (.pop, 1) := by decide +kernel
theorem dk_chk_9 : decode bk_chk 9 = .ok (.return_, 1) := by decide +kernel
abbrev yk_cha : MethodName := ⟨"java/lang/StringLatin1", "charAt", "([BI)C"⟩
abbrev bk_cha : ByteArray := prog_19_method_2_code
theorem dk_cha_0 : decode bk_cha 0 = .ok (.iload_n 1, 1) := by decide +kernel
theorem dk_cha_1 : decode bk_cha 1 = .ok (.aload_n 0, 1) := by decide +kernel
theorem dk_cha_2 : decode bk_cha 2 = .ok (.arraylength, 1) := by decide +kernel
theorem dk_cha_3 : decode bk_cha 3 = .ok (.invokestatic 9, 3) := by decide +kernel
theorem dk_cha_6 : decode bk_cha 6 = .ok (.aload_n 0, 1) := by decide +kernel
theorem dk_cha_7 : decode bk_cha 7 = .ok (.iload_n 1, 1) := by decide +kernel
theorem dk_cha_8 : decode bk_cha 8 = .ok (.baload, 1) := by decide +kernel
theorem dk_cha_9 : decode bk_cha 9 = .ok (.sipush 255, 3) := by decide +kernel
theorem dk_cha_12 : decode bk_cha 12 = .ok (.iand, 1) := by decide +kernel
theorem dk_cha_13 : decode bk_cha 13 = .ok (.i2c, 1) := by decide +kernel
theorem dk_cha_14 : decode bk_cha 14 = .ok (.ireturn, 1) := by decide +kernel
abbrev yk_can : MethodName := ⟨"java/lang/StringLatin1", "canEncode", "(I)Z"⟩
abbrev bk_can : ByteArray := prog_19_method_4_code
theorem dk_can_0 : decode bk_can 0 = .ok (.iload_n 0, 1) := by decide +kernel
theorem dk_can_1 : decode bk_can 1 = .ok (.ifCond .lt 14, 3) := by decide +kernel
theorem dk_can_4 : decode bk_can 4 = .ok (.iload_n 0, 1) := by decide +kernel
theorem dk_can_5 : decode bk_can 5 = .ok (.sipush 255, 3) := by decide +kernel
theorem dk_can_8 : decode bk_can 8 = .ok (.if_icmp .gt 7, 3) := by decide +kernel
theorem dk_can_11 : decode bk_can 11 = .ok (.iconst 1, 1) := by decide +kernel
theorem dk_can_12 : decode bk_can 12 = .ok (.goto 4, 3) := by decide +kernel
theorem dk_can_15 : decode bk_can 15 = .ok (.iconst 0, 1) := by decide +kernel
theorem dk_can_16 : decode bk_can 16 = .ok (.ireturn, 1) := by decide +kernel
abbrev yk_lix : MethodName := ⟨"java/lang/StringLatin1", "indexOf", "([BIII)I"⟩
abbrev bk_lix : ByteArray := prog_19_method_22_code
theorem dk_lix_0 : decode bk_lix 0 = .ok (.iload_n 1, 1) := by decide +kernel
theorem dk_lix_1 : decode bk_lix 1 = .ok (.invokestatic 88, 3) := by decide +kernel
theorem dk_lix_4 : decode bk_lix 4 = .ok (.ifCond .ne 5, 3) := by decide +kernel
theorem dk_lix_7 : decode bk_lix 7 = .ok (.iconst (-1), 1) := by decide +kernel
theorem dk_lix_8 : decode bk_lix 8 = .ok (.ireturn, 1) := by decide +kernel
theorem dk_lix_9 : decode bk_lix 9 = .ok (.iload_n 2, 1) := by decide +kernel
theorem dk_lix_10 : decode bk_lix 10 = .ok (.iconst 0, 1) := by decide +kernel
theorem dk_lix_11 : decode bk_lix 11 = .ok (.invokestatic 92, 3) := by decide +kernel
theorem dk_lix_14 : decode bk_lix 14 = .ok (.istore_n 2, 1) := by decide +kernel
theorem dk_lix_15 : decode bk_lix 15 = .ok (.iload_n 3, 1) := by decide +kernel
theorem dk_lix_16 : decode bk_lix 16 = .ok (.aload_n 0, 1) := by decide +kernel
theorem dk_lix_17 : decode bk_lix 17 = .ok (.arraylength, 1) := by decide +kernel
theorem dk_lix_18 : decode bk_lix 18 = .ok (.invokestatic 38, 3) := by decide +kernel
theorem dk_lix_21 : decode bk_lix 21 = .ok (.istore_n 3, 1) := by decide +kernel
theorem dk_lix_22 : decode bk_lix 22 = .ok (.iload_n 2, 1) := by decide +kernel
theorem dk_lix_23 : decode bk_lix 23 = .ok (.iload_n 3, 1) := by decide +kernel
theorem dk_lix_24 : decode bk_lix 24 = .ok (.if_icmp .lt 5, 3) := by decide +kernel
theorem dk_lix_27 : decode bk_lix 27 = .ok (.iconst (-1), 1) := by decide +kernel
theorem dk_lix_28 : decode bk_lix 28 = .ok (.ireturn, 1) := by decide +kernel
theorem dk_lix_29 : decode bk_lix 29 = .ok (.aload_n 0, 1) := by decide +kernel
theorem dk_lix_30 : decode bk_lix 30 = .ok (.iload_n 1, 1) := by decide +kernel
theorem dk_lix_31 : decode bk_lix 31 = .ok (.iload_n 2, 1) := by decide +kernel
theorem dk_lix_32 : decode bk_lix 32 = .ok (.iload_n 3, 1) := by decide +kernel
theorem dk_lix_33 : decode bk_lix 33 = .ok (.invokestatic 95, 3) := by decide +kernel
theorem dk_lix_36 : decode bk_lix 36 = .ok (.ireturn, 1) := by decide +kernel
abbrev yk_lic : MethodName := ⟨"java/lang/StringLatin1", "indexOfChar", "([BIII)I"⟩
abbrev bk_lic : ByteArray := prog_19_method_23_code
theorem dk_lic_0 : decode bk_lic 0 = .ok (.iload_n 1, 1) := by decide +kernel
theorem dk_lic_1 : decode bk_lic 1 = .ok (.i2b, 1) := by decide +kernel
theorem dk_lic_2 : decode bk_lic 2 = .ok (.istore 4, 2) := by decide +kernel
theorem dk_lic_4 : decode bk_lic 4 = .ok (.iload_n 2, 1) := by decide +kernel
theorem dk_lic_5 : decode bk_lic 5 = .ok (.istore 5, 2) := by decide +kernel
theorem dk_lic_7 : decode bk_lic 7 = .ok (.iload 5, 2) := by decide +kernel
theorem dk_lic_9 : decode bk_lic 9 = .ok (.iload_n 3, 1) := by decide +kernel
theorem dk_lic_10 : decode bk_lic 10 = .ok (.if_icmp .ge 21, 3) := by decide +kernel
theorem dk_lic_13 : decode bk_lic 13 = .ok (.aload_n 0, 1) := by decide +kernel
theorem dk_lic_14 : decode bk_lic 14 = .ok (.iload 5, 2) := by decide +kernel
theorem dk_lic_16 : decode bk_lic 16 = .ok (.baload, 1) := by decide +kernel
theorem dk_lic_17 : decode bk_lic 17 = .ok (.iload 4, 2) := by decide +kernel
theorem dk_lic_19 : decode bk_lic 19 = .ok (.if_icmp .ne 6, 3) := by decide +kernel
theorem dk_lic_22 : decode bk_lic 22 = .ok (.iload 5, 2) := by decide +kernel
theorem dk_lic_24 : decode bk_lic 24 = .ok (.ireturn, 1) := by decide +kernel
theorem dk_lic_25 : decode bk_lic 25 = .ok (.iinc 5 1, 3) := by decide +kernel
theorem dk_lic_28 : decode bk_lic 28 = .ok (.goto (-21), 3) := by decide +kernel
theorem dk_lic_31 : decode bk_lic 31 = .ok (.iconst (-1), 1) := by decide +kernel
theorem dk_lic_32 : decode bk_lic 32 = .ok (.ireturn, 1) := by decide +kernel
abbrev yk_pre : MethodName := ⟨"jdk/internal/util/Preconditions", "checkIndex", "(IILjava/util/function/BiFunction;)I"⟩
abbrev bk_pre : ByteArray := prog_23_method_11_code
theorem dk_pre_0 : decode bk_pre 0 = .ok (.iload_n 0, 1) := by decide +kernel
theorem dk_pre_1 : decode bk_pre 1 = .ok (.ifCond .lt 8, 3) := by decide +kernel
theorem dk_pre_4 : decode bk_pre 4 = .ok (.iload_n 0, 1) := by decide +kernel
theorem dk_pre_5 : decode bk_pre 5 = .ok (.iload_n 1, 1) := by decide +kernel
theorem dk_pre_6 : decode bk_pre 6 = .ok (.if_icmp .lt 10, 3) := by decide +kernel
theorem dk_pre_16 : decode bk_pre 16 = .ok (.iload_n 0, 1) := by decide +kernel
theorem dk_pre_17 : decode bk_pre 17 = .ok (.ireturn, 1) := by decide +kernel
set_option maxRecDepth 100000 in
theorem wk_len_c : Cond.code yk_len bk_len 1 (some .int) ∈ gtb := gat (i := 313) rfl rfl
set_option maxRecDepth 100000 in
theorem wk_len_i : Cond.instanceMethod yk_len ∈ gtb := gat (i := 311) rfl rfl
set_option maxRecDepth 100000 in
theorem wk_len_v : Cond.selects "java/lang/String" yk_len yk_len ∈ gtb := gat (i := 312) rfl rfl
set_option maxRecDepth 100000 in
theorem wk_chr_c : Cond.code yk_chr bk_chr 2 (some .char) ∈ gtb := gat (i := 323) rfl rfl
set_option maxRecDepth 100000 in
theorem wk_chr_i : Cond.instanceMethod yk_chr ∈ gtb := gat (i := 321) rfl rfl
set_option maxRecDepth 100000 in
theorem wk_chr_v : Cond.selects "java/lang/String" yk_chr yk_chr ∈ gtb := gat (i := 322) rfl rfl
set_option maxRecDepth 100000 in
theorem wk_ix1_c : Cond.code yk_ix1 bk_ix1 2 (some .int) ∈ gtb := gat (i := 680) rfl rfl
set_option maxRecDepth 100000 in
theorem wk_ix1_i : Cond.instanceMethod yk_ix1 ∈ gtb := gat (i := 678) rfl rfl
set_option maxRecDepth 100000 in
theorem wk_ix1_v : Cond.selects "java/lang/String" yk_ix1 yk_ix1 ∈ gtb := gat (i := 679) rfl rfl
set_option maxRecDepth 100000 in
theorem wk_ix2_c : Cond.code yk_ix2 bk_ix2 3 (some .int) ∈ gtb := gat (i := 684) rfl rfl
set_option maxRecDepth 100000 in
theorem wk_ix2_i : Cond.instanceMethod yk_ix2 ∈ gtb := gat (i := 682) rfl rfl
set_option maxRecDepth 100000 in
theorem wk_ix2_v : Cond.selects "java/lang/String" yk_ix2 yk_ix2 ∈ gtb := gat (i := 683) rfl rfl
set_option maxRecDepth 100000 in
theorem wk_cod_c : Cond.code yk_cod bk_cod 1 (some .byte) ∈ gtb := gat (i := 317) rfl rfl
set_option maxRecDepth 100000 in
theorem wk_cod_i : Cond.instanceMethod yk_cod ∈ gtb := gat (i := 315) rfl rfl
set_option maxRecDepth 100000 in
theorem wk_cod_v : Cond.selects "java/lang/String" yk_cod yk_cod ∈ gtb := gat (i := 316) rfl rfl
set_option maxRecDepth 100000 in
theorem wk_lat_c : Cond.code yk_lat bk_lat 1 (some .boolean) ∈ gtb := gat (i := 327) rfl rfl
set_option maxRecDepth 100000 in
theorem wk_lat_i : Cond.instanceMethod yk_lat ∈ gtb := gat (i := 325) rfl rfl
set_option maxRecDepth 100000 in
theorem wk_lat_v : Cond.selects "java/lang/String" yk_lat yk_lat ∈ gtb := gat (i := 326) rfl rfl
set_option maxRecDepth 100000 in
theorem wk_chk_c : Cond.code yk_chk bk_chk 2 none ∈ gtb := gat (i := 333) rfl rfl
set_option maxRecDepth 100000 in
theorem wk_chk_s : Cond.static yk_chk ∈ gtb := gat (i := 332) rfl rfl
set_option maxRecDepth 100000 in
theorem wk_cha_c : Cond.code yk_cha bk_cha 2 (some .char) ∈ gtb := gat (i := 330) rfl rfl
set_option maxRecDepth 100000 in
theorem wk_cha_s : Cond.static yk_cha ∈ gtb := gat (i := 329) rfl rfl
set_option maxRecDepth 100000 in
theorem wk_can_c : Cond.code yk_can bk_can 1 (some .boolean) ∈ gtb := gat (i := 691) rfl rfl
set_option maxRecDepth 100000 in
theorem wk_can_s : Cond.static yk_can ∈ gtb := gat (i := 690) rfl rfl
set_option maxRecDepth 100000 in
theorem wk_lix_c : Cond.code yk_lix bk_lix 4 (some .int) ∈ gtb := gat (i := 688) rfl rfl
set_option maxRecDepth 100000 in
theorem wk_lix_s : Cond.static yk_lix ∈ gtb := gat (i := 687) rfl rfl
set_option maxRecDepth 100000 in
theorem wk_lic_c : Cond.code yk_lic bk_lic 6 (some .int) ∈ gtb := gat (i := 700) rfl rfl
set_option maxRecDepth 100000 in
theorem wk_lic_s : Cond.static yk_lic ∈ gtb := gat (i := 699) rfl rfl
set_option maxRecDepth 100000 in
theorem wk_pre_c : Cond.code yk_pre bk_pre 3 (some .int) ∈ gtb := gat (i := 338) rfl rfl
set_option maxRecDepth 100000 in
theorem wk_pre_s : Cond.static yk_pre ∈ gtb := gat (i := 337) rfl rfl
set_option maxRecDepth 100000 in
theorem wk_iS : Cond.initialized "java/lang/String" ∈ gtb := gat (i := 114) rfl rfl
set_option maxRecDepth 100000 in
theorem wk_iL : Cond.initialized "java/lang/StringLatin1" ∈ gtb := gat (i := 115) rfl rfl
set_option maxRecDepth 100000 in
theorem wk_iP : Cond.initialized "jdk/internal/util/Preconditions" ∈ gtb := gat (i := 116) rfl rfl
set_option maxRecDepth 100000 in
theorem wl_cod_335 : Cond.methodLink "java/lang/String" 335 yk_cod ∈ gtb := gat (i := 314) rfl rfl
set_option maxRecDepth 100000 in
theorem wl_lat_492 : Cond.methodLink "java/lang/String" 492 yk_lat ∈ gtb := gat (i := 324) rfl rfl
set_option maxRecDepth 100000 in
theorem wl_cha_495 : Cond.methodLink "java/lang/String" 495 yk_cha ∈ gtb := gat (i := 328) rfl rfl
set_option maxRecDepth 100000 in
theorem wl_chk_9 : Cond.methodLink "java/lang/StringLatin1" 9 yk_chk ∈ gtb := gat (i := 331) rfl rfl
set_option maxRecDepth 100000 in
theorem wl_pre_1059 : Cond.methodLink "java/lang/String" 1059 yk_pre ∈ gtb := gat (i := 336) rfl rfl
set_option maxRecDepth 100000 in
theorem wl_ix2_633 : Cond.methodLink "java/lang/String" 633 yk_ix2 ∈ gtb := gat (i := 681) rfl rfl
set_option maxRecDepth 100000 in
theorem wl_len_505 : Cond.methodLink "java/lang/String" 505 yk_len ∈ gtb := gat (i := 685) rfl rfl
set_option maxRecDepth 100000 in
theorem wl_lix_637 : Cond.methodLink "java/lang/String" 637 yk_lix ∈ gtb := gat (i := 686) rfl rfl
set_option maxRecDepth 100000 in
theorem wl_can_88 : Cond.methodLink "java/lang/StringLatin1" 88 yk_can ∈ gtb := gat (i := 689) rfl rfl
set_option maxRecDepth 100000 in
theorem wl_lic_95 : Cond.methodLink "java/lang/StringLatin1" 95 yk_lic ∈ gtb := gat (i := 698) rfl rfl
set_option maxRecDepth 100000 in
theorem wl_len_31 : Cond.methodLink "SewnRoads$Tokens" 31 yk_len ∈ gtb := gat (i := 310) rfl rfl
set_option maxRecDepth 100000 in
theorem wl_chr_37 : Cond.methodLink "SewnRoads$Tokens" 37 yk_chr ∈ gtb := gat (i := 320) rfl rfl
set_option maxRecDepth 100000 in
theorem wl_ix1_80 : Cond.methodLink "SewnRoads$Tokens" 80 yk_ix1 ∈ gtb := gat (i := 677) rfl rfl
set_option maxRecDepth 100000 in
theorem wl_max : Cond.methodLink "java/lang/StringLatin1" 92 Lib.Math.max.name ∈ gtb := gat (i := 692) rfl rfl
set_option maxRecDepth 100000 in
theorem wl_min : Cond.methodLink "java/lang/StringLatin1" 38 Lib.Math.min.name ∈ gtb := gat (i := 695) rfl rfl
set_option maxRecDepth 100000 in
theorem wf_val : Cond.fieldLink "java/lang/String" 9 "java/lang/String" "value" "[B" ∈ gtb := gat (i := 1943) rfl rfl
set_option maxRecDepth 100000 in
theorem wf_cod : Cond.fieldLink "java/lang/String" 15 "java/lang/String" "coder" "B" ∈ gtb := gat (i := 1944) rfl rfl
set_option maxRecDepth 100000 in
theorem wf_cmp : Cond.fieldLink "java/lang/String" 38 "java/lang/String" "COMPACT_STRINGS" "Z" ∈ gtb := gat (i := 318) rfl rfl
set_option maxRecDepth 100000 in
theorem wf_sio : Cond.fieldLink "java/lang/String" 1053 "jdk/internal/util/Preconditions" "SIOOBE_FORMATTER" "Ljava/util/function/BiFunction;" ∈ gtb := gat (i := 334) rfl rfl
