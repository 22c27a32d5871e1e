def C_X8_begin (pc : Nat) : Option PE := if pc < 65 then (if pc < 33 then (if pc < 17 then (if pc < 6 then (if pc < 2 then (if pc < 1 then (if pc = 0 then some ((.aload_n 0), 1, 0, 0, 0, []) else none) else (if pc = 1 then some ((.iconst 0), 2, 0, 0, 0, []) else none)) else (if pc < 5 then (if pc = 2 then some ((.putfield 18), 5, 8, 0, 0, []) else none) else (if pc = 5 then some ((.aload_n 0), 6, 0, 0, 0, []) else none))) else (if pc < 10 then (if pc < 7 then (if pc = 6 then some ((.aload_n 1), 7, 0, 0, 0, []) else none) else (if pc = 7 then some ((.getfield 22), 10, 3, 5, 0, []) else none)) else (if pc < 13 then (if pc = 10 then some ((.putfield 27), 13, 8, 1, 0, []) else none) else (if pc < 14 then (if pc = 13 then some ((.aload_n 1), 14, 0, 0, 0, []) else none) else (if pc = 14 then some ((.getfield 28), 17, 3, 12, 0, []) else none))))) else (if pc < 23 then (if pc < 19 then (if pc < 18 then (if pc = 17 then some ((.iconst 0), 18, 0, 0, 0, []) else none) else (if pc = 18 then some ((.aload_n 0), 19, 0, 0, 0, []) else none)) else (if pc < 22 then (if pc = 19 then some ((.getfield 9), 22, 8, 2, 0, []) else none) else (if pc = 22 then some ((.iconst 0), 23, 0, 0, 0, []) else none))) else (if pc < 28 then (if pc < 25 then (if pc = 23 then some ((.bipush 10), 25, 0, 0, 10, []) else none) else (if pc = 25 then some ((.invokestatic 29), 28, 9000, 0, 0, [0, 3]) else none)) else (if pc < 29 then (if pc = 28 then some ((.aload_n 0), 29, 0, 0, 0, []) else none) else (if pc < 32 then (if pc = 29 then some ((.getfield 15), 32, 8, 3, 0, []) else none) else (if pc = 32 then some ((.iconst 0), 33, 0, 0, 0, []) else none)))))) else (if pc < 48 then (if pc < 39 then (if pc < 37 then (if pc < 36 then (if pc = 33 then some ((.invokestatic 35), 36, 300, 2, 0, [0]) else none) else (if pc = 36 then some ((.iconst 0), 37, 0, 0, 0, []) else none)) else (if pc < 38 then (if pc = 37 then some ((.istore_n 2), 38, 0, 0, 0, []) else none) else (if pc = 38 then some ((.iload_n 2), 39, 0, 0, 0, []) else none))) else (if pc < 43 then (if pc < 40 then (if pc = 39 then some ((.aload_n 1), 40, 0, 0, 0, []) else none) else (if pc = 40 then some ((.getfield 41), 43, 3, 3, 0, []) else none)) else (if pc < 46 then (if pc = 43 then some ((.if_icmp .ge 21), 46, 64, 0, 0, []) else none) else (if pc < 47 then (if pc = 46 then some ((.aload_n 0), 47, 0, 0, 0, []) else none) else (if pc = 47 then some ((.iload_n 2), 48, 0, 0, 0, []) else none))))) else (if pc < 54 then (if pc < 50 then (if pc < 49 then (if pc = 48 then some ((.iconst 0), 49, 0, 0, 0, []) else none) else (if pc = 49 then some ((.aload_n 1), 50, 0, 0, 0, []) else none)) else (if pc < 53 then (if pc = 50 then some ((.getfield 43), 53, 3, 14, 0, []) else none) else (if pc = 53 then some ((.iload_n 2), 54, 0, 0, 0, []) else none))) else (if pc < 58 then (if pc < 55 then (if pc = 54 then some (.iaload, 55, 0, 0, 0, []) else none) else (if pc = 55 then some ((.invokevirtual 46), 58, 93, 4, 0, [0, 8]) else none)) else (if pc < 61 then (if pc = 58 then some ((.iinc 2 1), 61, 0, 0, 1, []) else none) else (if pc < 64 then (if pc = 61 then some ((.goto (-23)), 64, 38, 0, 0, []) else none) else (if pc = 64 then some (.return_, 65, 0, 0, 0, []) else none))))))) else none
set_option maxRecDepth 100000 in
theorem ck_X8_begin : ∀ pc E, C_X8_begin pc = some E → ckI 8 (mB 90) pc E = true := ck_tab (n := 65) (by decide +kernel) (fun pc h => by unfold C_X8_begin; rw [if_neg h])
def k_X8_begin (pc : Nat) : Option (List Bool) := if pc = 38 then some [true, true, true] else none
abbrev f_X8_begin : Nat := 21
set_option maxRecDepth 100000 in
set_option maxHeartbeats 4000000 in
theorem s_X8_begin_0 {α : Type} (O : Ora) (I : Nat → Nat → Int32) (J : Nat → Nat → Int64) (K : Nat → List Value → List Value → IJ → Option α) (rt : Option Value → IJ → Option α) :
  blkS O none 3 T0 C_X8_begin k_X8_begin K rt f_X8_begin 0 [.ref 39, .ref 25, un] [] (I, J) = p_cv (O T0 300 [.ref 41, .int 0] ((p_cp (p_wr (p_wr I 39 0 0) 39 1 (I 25 5)) 30 40 0 0 10), J)) (fun z1 => K 38 [.ref 39, .ref 25, .int 0] [] z1) := rfl
set_option maxRecDepth 100000 in
set_option maxHeartbeats 4000000 in
theorem s_X8_begin_38 {α : Type} (O : Ora) (I : Nat → Nat → Int32) (J : Nat → Nat → Int64) (K : Nat → List Value → List Value → IJ → Option α) (rt : Option Value → IJ → Option α) (x2 : Int32) :
  blkS O none 3 T0 C_X8_begin k_X8_begin K rt f_X8_begin 38 [.ref 39, .ref 25, .int x2] [] (I, J) = if (I 25 3) ≤ x2 then (rt none (I, J)) else (p_chk (p_in x2 4) (p_cv (O T0 93 [.ref 39, .int x2, .int 0, .int (I 32 x2.toNatClampNeg)] (I, J)) (fun z1 => K 38 [.ref 39, .ref 25, .int (x2 + 1)] [] z1))) := rfl
def C_X8_copyFrom (pc : Nat) : Option PE := if pc < 47 then (if pc < 22 then (if pc < 10 then (if pc < 5 then (if pc < 1 then (if pc = 0 then some ((.aload_n 0), 1, 0, 0, 0, []) else none) else (if pc < 2 then (if pc = 1 then some ((.aload_n 1), 2, 0, 0, 0, []) else none) else (if pc = 2 then some ((.getfield 18), 5, 8, 0, 0, []) else none))) else (if pc < 8 then (if pc = 5 then some ((.putfield 18), 8, 8, 0, 0, []) else none) else (if pc < 9 then (if pc = 8 then some ((.aload_n 0), 9, 0, 0, 0, []) else none) else (if pc = 9 then some ((.aload_n 1), 10, 0, 0, 0, []) else none)))) else (if pc < 17 then (if pc < 13 then (if pc = 10 then some ((.getfield 27), 13, 8, 1, 0, []) else none) else (if pc < 16 then (if pc = 13 then some ((.putfield 27), 16, 8, 1, 0, []) else none) else (if pc = 16 then some ((.aload_n 1), 17, 0, 0, 0, []) else none))) else (if pc < 20 then (if pc = 17 then some ((.getfield 9), 20, 8, 2, 0, []) else none) else (if pc < 21 then (if pc = 20 then some ((.iconst 0), 21, 0, 0, 0, []) else none) else (if pc = 21 then some ((.aload_n 0), 22, 0, 0, 0, []) else none))))) else (if pc < 35 then (if pc < 28 then (if pc < 25 then (if pc = 22 then some ((.getfield 9), 25, 8, 2, 0, []) else none) else (if pc < 26 then (if pc = 25 then some ((.iconst 0), 26, 0, 0, 0, []) else none) else (if pc = 26 then some ((.bipush 10), 28, 0, 0, 10, []) else none))) else (if pc < 31 then (if pc = 28 then some ((.invokestatic 29), 31, 9000, 0, 0, [0, 3]) else none) else (if pc < 32 then (if pc = 31 then some ((.aload_n 1), 32, 0, 0, 0, []) else none) else (if pc = 32 then some ((.getfield 15), 35, 8, 3, 0, []) else none)))) else (if pc < 40 then (if pc < 36 then (if pc = 35 then some ((.iconst 0), 36, 0, 0, 0, []) else none) else (if pc < 37 then (if pc = 36 then some ((.aload_n 0), 37, 0, 0, 0, []) else none) else (if pc = 37 then some ((.getfield 15), 40, 8, 3, 0, []) else none))) else (if pc < 43 then (if pc < 41 then (if pc = 40 then some ((.iconst 0), 41, 0, 0, 0, []) else none) else (if pc = 41 then some ((.bipush 20), 43, 0, 0, 20, []) else none)) else (if pc < 46 then (if pc = 43 then some ((.invokestatic 29), 46, 9000, 0, 0, [0, 3]) else none) else (if pc = 46 then some (.return_, 47, 0, 0, 0, []) else none)))))) else none
set_option maxRecDepth 100000 in
theorem ck_X8_copyFrom : ∀ pc E, C_X8_copyFrom pc = some E → ckI 8 (mB 91) pc E = true := ck_tab (n := 47) (by decide +kernel) (fun pc h => by unfold C_X8_copyFrom; rw [if_neg h])
def k_X8_copyFrom (pc : Nat) : Option (List Bool) := none
abbrev f_X8_copyFrom : Nat := 25
set_option maxRecDepth 100000 in
set_option maxHeartbeats 4000000 in
theorem s_X8_copyFrom_42_39_0 {α : Type} (O : Ora) (I : Nat → Nat → Int32) (J : Nat → Nat → Int64) (K : Nat → List Value → List Value → IJ → Option α) (rt : Option Value → IJ → Option α) :
  blkS O none 2 T0 C_X8_copyFrom k_X8_copyFrom K rt f_X8_copyFrom 0 [.ref 42, .ref 39] [] (I, J) = rt none ((p_cp (p_cp (p_wr (p_wr I 42 0 (I 39 0)) 42 1 (I 39 1)) 40 43 0 0 10) 41 44 0 0 20), J) := rfl
set_option maxRecDepth 100000 in
set_option maxHeartbeats 4000000 in
theorem s_X8_copyFrom_183_39_0 {α : Type} (O : Ora) (I : Nat → Nat → Int32) (J : Nat → Nat → Int64) (K : Nat → List Value → List Value → IJ → Option α) (rt : Option Value → IJ → Option α) :
  blkS O none 2 T0 C_X8_copyFrom k_X8_copyFrom K rt f_X8_copyFrom 0 [.ref 183, .ref 39] [] (I, J) = rt none ((p_cp (p_cp (p_wr (p_wr I 183 0 (I 39 0)) 183 1 (I 39 1)) 40 184 0 0 10) 41 185 0 0 20), J) := rfl
set_option maxRecDepth 100000 in
set_option maxHeartbeats 4000000 in
theorem s_X8_copyFrom_186_39_0 {α : Type} (O : Ora) (I : Nat → Nat → Int32) (J : Nat → Nat → Int64) (K : Nat → List Value → List Value → IJ → Option α) (rt : Option Value → IJ → Option α) :
  blkS O none 2 T0 C_X8_copyFrom k_X8_copyFrom K rt f_X8_copyFrom 0 [.ref 186, .ref 39] [] (I, J) = rt none ((p_cp (p_cp (p_wr (p_wr I 186 0 (I 39 0)) 186 1 (I 39 1)) 40 187 0 0 10) 41 188 0 0 20), J) := rfl
set_option maxRecDepth 100000 in
set_option maxHeartbeats 4000000 in
theorem s_X8_copyFrom_189_39_0 {α : Type} (O : Ora) (I : Nat → Nat → Int32) (J : Nat → Nat → Int64) (K : Nat → List Value → List Value → IJ → Option α) (rt : Option Value → IJ → Option α) :
  blkS O none 2 T0 C_X8_copyFrom k_X8_copyFrom K rt f_X8_copyFrom 0 [.ref 189, .ref 39] [] (I, J) = rt none ((p_cp (p_cp (p_wr (p_wr I 189 0 (I 39 0)) 189 1 (I 39 1)) 40 190 0 0 10) 41 191 0 0 20), J) := rfl
set_option maxRecDepth 100000 in
set_option maxHeartbeats 4000000 in
theorem s_X8_copyFrom_47_39_0 {α : Type} (O : Ora) (I : Nat → Nat → Int32) (J : Nat → Nat → Int64) (K : Nat → List Value → List Value → IJ → Option α) (rt : Option Value → IJ → Option α) :
  blkS O none 2 T0 C_X8_copyFrom k_X8_copyFrom K rt f_X8_copyFrom 0 [.ref 47, .ref 39] [] (I, J) = rt none ((p_cp (p_cp (p_wr (p_wr I 47 0 (I 39 0)) 47 1 (I 39 1)) 40 48 0 0 10) 41 49 0 0 20), J) := rfl
set_option maxRecDepth 100000 in
set_option maxHeartbeats 4000000 in
theorem s_X8_copyFrom_50_39_0 {α : Type} (O : Ora) (I : Nat → Nat → Int32) (J : Nat → Nat → Int64) (K : Nat → List Value → List Value → IJ → Option α) (rt : Option Value → IJ → Option α) :
  blkS O none 2 T0 C_X8_copyFrom k_X8_copyFrom K rt f_X8_copyFrom 0 [.ref 50, .ref 39] [] (I, J) = rt none ((p_cp (p_cp (p_wr (p_wr I 50 0 (I 39 0)) 50 1 (I 39 1)) 40 51 0 0 10) 41 52 0 0 20), J) := rfl
set_option maxRecDepth 100000 in
set_option maxHeartbeats 4000000 in
theorem s_X8_copyFrom_53_39_0 {α : Type} (O : Ora) (I : Nat → Nat → Int32) (J : Nat → Nat → Int64) (K : Nat → List Value → List Value → IJ → Option α) (rt : Option Value → IJ → Option α) :
  blkS O none 2 T0 C_X8_copyFrom k_X8_copyFrom K rt f_X8_copyFrom 0 [.ref 53, .ref 39] [] (I, J) = rt none ((p_cp (p_cp (p_wr (p_wr I 53 0 (I 39 0)) 53 1 (I 39 1)) 40 54 0 0 10) 41 55 0 0 20), J) := rfl
set_option maxRecDepth 100000 in
set_option maxHeartbeats 4000000 in
theorem s_X8_copyFrom_56_39_0 {α : Type} (O : Ora) (I : Nat → Nat → Int32) (J : Nat → Nat → Int64) (K : Nat → List Value → List Value → IJ → Option α) (rt : Option Value → IJ → Option α) :
  blkS O none 2 T0 C_X8_copyFrom k_X8_copyFrom K rt f_X8_copyFrom 0 [.ref 56, .ref 39] [] (I, J) = rt none ((p_cp (p_cp (p_wr (p_wr I 56 0 (I 39 0)) 56 1 (I 39 1)) 40 57 0 0 10) 41 58 0 0 20), J) := rfl
set_option maxRecDepth 100000 in
set_option maxHeartbeats 4000000 in
theorem s_X8_copyFrom_59_39_0 {α : Type} (O : Ora) (I : Nat → Nat → Int32) (J : Nat → Nat → Int64) (K : Nat → List Value → List Value → IJ → Option α) (rt : Option Value → IJ → Option α) :
  blkS O none 2 T0 C_X8_copyFrom k_X8_copyFrom K rt f_X8_copyFrom 0 [.ref 59, .ref 39] [] (I, J) = rt none ((p_cp (p_cp (p_wr (p_wr I 59 0 (I 39 0)) 59 1 (I 39 1)) 40 60 0 0 10) 41 61 0 0 20), J) := rfl
set_option maxRecDepth 100000 in
set_option maxHeartbeats 4000000 in
theorem s_X8_copyFrom_62_39_0 {α : Type} (O : Ora) (I : Nat → Nat → Int32) (J : Nat → Nat → Int64) (K : Nat → List Value → List Value → IJ → Option α) (rt : Option Value → IJ → Option α) :
  blkS O none 2 T0 C_X8_copyFrom k_X8_copyFrom K rt f_X8_copyFrom 0 [.ref 62, .ref 39] [] (I, J) = rt none ((p_cp (p_cp (p_wr (p_wr I 62 0 (I 39 0)) 62 1 (I 39 1)) 40 63 0 0 10) 41 64 0 0 20), J) := rfl
set_option maxRecDepth 100000 in
set_option maxHeartbeats 4000000 in
theorem s_X8_copyFrom_65_39_0 {α : Type} (O : Ora) (I : Nat → Nat → Int32) (J : Nat → Nat → Int64) (K : Nat → List Value → List Value → IJ → Option α) (rt : Option Value → IJ → Option α) :
  blkS O none 2 T0 C_X8_copyFrom k_X8_copyFrom K rt f_X8_copyFrom 0 [.ref 65, .ref 39] [] (I, J) = rt none ((p_cp (p_cp (p_wr (p_wr I 65 0 (I 39 0)) 65 1 (I 39 1)) 40 66 0 0 10) 41 67 0 0 20), J) := rfl
set_option maxRecDepth 100000 in
set_option maxHeartbeats 4000000 in
theorem s_X8_copyFrom_68_39_0 {α : Type} (O : Ora) (I : Nat → Nat → Int32) (J : Nat → Nat → Int64) (K : Nat → List Value → List Value → IJ → Option α) (rt : Option Value → IJ → Option α) :
  blkS O none 2 T0 C_X8_copyFrom k_X8_copyFrom K rt f_X8_copyFrom 0 [.ref 68, .ref 39] [] (I, J) = rt none ((p_cp (p_cp (p_wr (p_wr I 68 0 (I 39 0)) 68 1 (I 39 1)) 40 69 0 0 10) 41 70 0 0 20), J) := rfl
set_option maxRecDepth 100000 in
set_option maxHeartbeats 4000000 in
theorem s_X8_copyFrom_71_39_0 {α : Type} (O : Ora) (I : Nat → Nat → Int32) (J : Nat → Nat → Int64) (K : Nat → List Value → List Value → IJ → Option α) (rt : Option Value → IJ → Option α) :
  blkS O none 2 T0 C_X8_copyFrom k_X8_copyFrom K rt f_X8_copyFrom 0 [.ref 71, .ref 39] [] (I, J) = rt none ((p_cp (p_cp (p_wr (p_wr I 71 0 (I 39 0)) 71 1 (I 39 1)) 40 72 0 0 10) 41 73 0 0 20), J) := rfl
set_option maxRecDepth 100000 in
set_option maxHeartbeats 4000000 in
theorem s_X8_copyFrom_74_39_0 {α : Type} (O : Ora) (I : Nat → Nat → Int32) (J : Nat → Nat → Int64) (K : Nat → List Value → List Value → IJ → Option α) (rt : Option Value → IJ → Option α) :
  blkS O none 2 T0 C_X8_copyFrom k_X8_copyFrom K rt f_X8_copyFrom 0 [.ref 74, .ref 39] [] (I, J) = rt none ((p_cp (p_cp (p_wr (p_wr I 74 0 (I 39 0)) 74 1 (I 39 1)) 40 75 0 0 10) 41 76 0 0 20), J) := rfl
set_option maxRecDepth 100000 in
set_option maxHeartbeats 4000000 in
theorem s_X8_copyFrom_77_39_0 {α : Type} (O : Ora) (I : Nat → Nat → Int32) (J : Nat → Nat → Int64) (K : Nat → List Value → List Value → IJ → Option α) (rt : Option Value → IJ → Option α) :
  blkS O none 2 T0 C_X8_copyFrom k_X8_copyFrom K rt f_X8_copyFrom 0 [.ref 77, .ref 39] [] (I, J) = rt none ((p_cp (p_cp (p_wr (p_wr I 77 0 (I 39 0)) 77 1 (I 39 1)) 40 78 0 0 10) 41 79 0 0 20), J) := rfl
set_option maxRecDepth 100000 in
set_option maxHeartbeats 4000000 in
theorem s_X8_copyFrom_80_39_0 {α : Type} (O : Ora) (I : Nat → Nat → Int32) (J : Nat → Nat → Int64) (K : Nat → List Value → List Value → IJ → Option α) (rt : Option Value → IJ → Option α) :
  blkS O none 2 T0 C_X8_copyFrom k_X8_copyFrom K rt f_X8_copyFrom 0 [.ref 80, .ref 39] [] (I, J) = rt none ((p_cp (p_cp (p_wr (p_wr I 80 0 (I 39 0)) 80 1 (I 39 1)) 40 81 0 0 10) 41 82 0 0 20), J) := rfl
set_option maxRecDepth 100000 in
set_option maxHeartbeats 4000000 in
theorem s_X8_copyFrom_83_39_0 {α : Type} (O : Ora) (I : Nat → Nat → Int32) (J : Nat → Nat → Int64) (K : Nat → List Value → List Value → IJ → Option α) (rt : Option Value → IJ → Option α) :
  blkS O none 2 T0 C_X8_copyFrom k_X8_copyFrom K rt f_X8_copyFrom 0 [.ref 83, .ref 39] [] (I, J) = rt none ((p_cp (p_cp (p_wr (p_wr I 83 0 (I 39 0)) 83 1 (I 39 1)) 40 84 0 0 10) 41 85 0 0 20), J) := rfl
set_option maxRecDepth 100000 in
set_option maxHeartbeats 4000000 in
theorem s_X8_copyFrom_86_39_0 {α : Type} (O : Ora) (I : Nat → Nat → Int32) (J : Nat → Nat → Int64) (K : Nat → List Value → List Value → IJ → Option α) (rt : Option Value → IJ → Option α) :
  blkS O none 2 T0 C_X8_copyFrom k_X8_copyFrom K rt f_X8_copyFrom 0 [.ref 86, .ref 39] [] (I, J) = rt none ((p_cp (p_cp (p_wr (p_wr I 86 0 (I 39 0)) 86 1 (I 39 1)) 40 87 0 0 10) 41 88 0 0 20), J) := rfl
set_option maxRecDepth 100000 in
set_option maxHeartbeats 4000000 in
theorem s_X8_copyFrom_89_39_0 {α : Type} (O : Ora) (I : Nat → Nat → Int32) (J : Nat → Nat → Int64) (K : Nat → List Value → List Value → IJ → Option α) (rt : Option Value → IJ → Option α) :
  blkS O none 2 T0 C_X8_copyFrom k_X8_copyFrom K rt f_X8_copyFrom 0 [.ref 89, .ref 39] [] (I, J) = rt none ((p_cp (p_cp (p_wr (p_wr I 89 0 (I 39 0)) 89 1 (I 39 1)) 40 90 0 0 10) 41 91 0 0 20), J) := rfl
set_option maxRecDepth 100000 in
set_option maxHeartbeats 4000000 in
theorem s_X8_copyFrom_92_39_0 {α : Type} (O : Ora) (I : Nat → Nat → Int32) (J : Nat → Nat → Int64) (K : Nat → List Value → List Value → IJ → Option α) (rt : Option Value → IJ → Option α) :
  blkS O none 2 T0 C_X8_copyFrom k_X8_copyFrom K rt f_X8_copyFrom 0 [.ref 92, .ref 39] [] (I, J) = rt none ((p_cp (p_cp (p_wr (p_wr I 92 0 (I 39 0)) 92 1 (I 39 1)) 40 93 0 0 10) 41 94 0 0 20), J) := rfl
set_option maxRecDepth 100000 in
set_option maxHeartbeats 4000000 in
theorem s_X8_copyFrom_95_39_0 {α : Type} (O : Ora) (I : Nat → Nat → Int32) (J : Nat → Nat → Int64) (K : Nat → List Value → List Value → IJ → Option α) (rt : Option Value → IJ → Option α) :
  blkS O none 2 T0 C_X8_copyFrom k_X8_copyFrom K rt f_X8_copyFrom 0 [.ref 95, .ref 39] [] (I, J) = rt none ((p_cp (p_cp (p_wr (p_wr I 95 0 (I 39 0)) 95 1 (I 39 1)) 40 96 0 0 10) 41 97 0 0 20), J) := rfl
set_option maxRecDepth 100000 in
set_option maxHeartbeats 4000000 in
theorem s_X8_copyFrom_98_39_0 {α : Type} (O : Ora) (I : Nat → Nat → Int32) (J : Nat → Nat → Int64) (K : Nat → List Value → List Value → IJ → Option α) (rt : Option Value → IJ → Option α) :
  blkS O none 2 T0 C_X8_copyFrom k_X8_copyFrom K rt f_X8_copyFrom 0 [.ref 98, .ref 39] [] (I, J) = rt none ((p_cp (p_cp (p_wr (p_wr I 98 0 (I 39 0)) 98 1 (I 39 1)) 40 99 0 0 10) 41 100 0 0 20), J) := rfl
set_option maxRecDepth 100000 in
set_option maxHeartbeats 4000000 in
theorem s_X8_copyFrom_101_39_0 {α : Type} (O : Ora) (I : Nat → Nat → Int32) (J : Nat → Nat → Int64) (K : Nat → List Value → List Value → IJ → Option α) (rt : Option Value → IJ → Option α) :
  blkS O none 2 T0 C_X8_copyFrom k_X8_copyFrom K rt f_X8_copyFrom 0 [.ref 101, .ref 39] [] (I, J) = rt none ((p_cp (p_cp (p_wr (p_wr I 101 0 (I 39 0)) 101 1 (I 39 1)) 40 102 0 0 10) 41 103 0 0 20), J) := rfl
set_option maxRecDepth 100000 in
set_option maxHeartbeats 4000000 in
theorem s_X8_copyFrom_104_39_0 {α : Type} (O : Ora) (I : Nat → Nat → Int32) (J : Nat → Nat → Int64) (K : Nat → List Value → List Value → IJ → Option α) (rt : Option Value → IJ → Option α) :
  blkS O none 2 T0 C_X8_copyFrom k_X8_copyFrom K rt f_X8_copyFrom 0 [.ref 104, .ref 39] [] (I, J) = rt none ((p_cp (p_cp (p_wr (p_wr I 104 0 (I 39 0)) 104 1 (I 39 1)) 40 105 0 0 10) 41 106 0 0 20), J) := rfl
set_option maxRecDepth 100000 in
set_option maxHeartbeats 4000000 in
theorem s_X8_copyFrom_107_39_0 {α : Type} (O : Ora) (I : Nat → Nat → Int32) (J : Nat → Nat → Int64) (K : Nat → List Value → List Value → IJ → Option α) (rt : Option Value → IJ → Option α) :
  blkS O none 2 T0 C_X8_copyFrom k_X8_copyFrom K rt f_X8_copyFrom 0 [.ref 107, .ref 39] [] (I, J) = rt none ((p_cp (p_cp (p_wr (p_wr I 107 0 (I 39 0)) 107 1 (I 39 1)) 40 108 0 0 10) 41 109 0 0 20), J) := rfl
set_option maxRecDepth 100000 in
set_option maxHeartbeats 4000000 in
theorem s_X8_copyFrom_110_39_0 {α : Type} (O : Ora) (I : Nat → Nat → Int32) (J : Nat → Nat → Int64) (K : Nat → List Value → List Value → IJ → Option α) (rt : Option Value → IJ → Option α) :
  blkS O none 2 T0 C_X8_copyFrom k_X8_copyFrom K rt f_X8_copyFrom 0 [.ref 110, .ref 39] [] (I, J) = rt none ((p_cp (p_cp (p_wr (p_wr I 110 0 (I 39 0)) 110 1 (I 39 1)) 40 111 0 0 10) 41 112 0 0 20), J) := rfl
set_option maxRecDepth 100000 in
set_option maxHeartbeats 4000000 in
theorem s_X8_copyFrom_113_39_0 {α : Type} (O : Ora) (I : Nat → Nat → Int32) (J : Nat → Nat → Int64) (K : Nat → List Value → List Value → IJ → Option α) (rt : Option Value → IJ → Option α) :
  blkS O none 2 T0 C_X8_copyFrom k_X8_copyFrom K rt f_X8_copyFrom 0 [.ref 113, .ref 39] [] (I, J) = rt none ((p_cp (p_cp (p_wr (p_wr I 113 0 (I 39 0)) 113 1 (I 39 1)) 40 114 0 0 10) 41 115 0 0 20), J) := rfl
set_option maxRecDepth 100000 in
set_option maxHeartbeats 4000000 in
theorem s_X8_copyFrom_116_39_0 {α : Type} (O : Ora) (I : Nat → Nat → Int32) (J : Nat → Nat → Int64) (K : Nat → List Value → List Value → IJ → Option α) (rt : Option Value → IJ → Option α) :
  blkS O none 2 T0 C_X8_copyFrom k_X8_copyFrom K rt f_X8_copyFrom 0 [.ref 116, .ref 39] [] (I, J) = rt none ((p_cp (p_cp (p_wr (p_wr I 116 0 (I 39 0)) 116 1 (I 39 1)) 40 117 0 0 10) 41 118 0 0 20), J) := rfl
set_option maxRecDepth 100000 in
set_option maxHeartbeats 4000000 in
theorem s_X8_copyFrom_119_39_0 {α : Type} (O : Ora) (I : Nat → Nat → Int32) (J : Nat → Nat → Int64) (K : Nat → List Value → List Value → IJ → Option α) (rt : Option Value → IJ → Option α) :
  blkS O none 2 T0 C_X8_copyFrom k_X8_copyFrom K rt f_X8_copyFrom 0 [.ref 119, .ref 39] [] (I, J) = rt none ((p_cp (p_cp (p_wr (p_wr I 119 0 (I 39 0)) 119 1 (I 39 1)) 40 120 0 0 10) 41 121 0 0 20), J) := rfl
set_option maxRecDepth 100000 in
set_option maxHeartbeats 4000000 in
theorem s_X8_copyFrom_122_39_0 {α : Type} (O : Ora) (I : Nat → Nat → Int32) (J : Nat → Nat → Int64) (K : Nat → List Value → List Value → IJ → Option α) (rt : Option Value → IJ → Option α) :
  blkS O none 2 T0 C_X8_copyFrom k_X8_copyFrom K rt f_X8_copyFrom 0 [.ref 122, .ref 39] [] (I, J) = rt none ((p_cp (p_cp (p_wr (p_wr I 122 0 (I 39 0)) 122 1 (I 39 1)) 40 123 0 0 10) 41 124 0 0 20), J) := rfl
set_option maxRecDepth 100000 in
set_option maxHeartbeats 4000000 in
theorem s_X8_copyFrom_125_39_0 {α : Type} (O : Ora) (I : Nat → Nat → Int32) (J : Nat → Nat → Int64) (K : Nat → List Value → List Value → IJ → Option α) (rt : Option Value → IJ → Option α) :
  blkS O none 2 T0 C_X8_copyFrom k_X8_copyFrom K rt f_X8_copyFrom 0 [.ref 125, .ref 39] [] (I, J) = rt none ((p_cp (p_cp (p_wr (p_wr I 125 0 (I 39 0)) 125 1 (I 39 1)) 40 126 0 0 10) 41 127 0 0 20), J) := rfl
set_option maxRecDepth 100000 in
set_option maxHeartbeats 4000000 in
theorem s_X8_copyFrom_128_39_0 {α : Type} (O : Ora) (I : Nat → Nat → Int32) (J : Nat → Nat → Int64) (K : Nat → List Value → List Value → IJ → Option α) (rt : Option Value → IJ → Option α) :
  blkS O none 2 T0 C_X8_copyFrom k_X8_copyFrom K rt f_X8_copyFrom 0 [.ref 128, .ref 39] [] (I, J) = rt none ((p_cp (p_cp (p_wr (p_wr I 128 0 (I 39 0)) 128 1 (I 39 1)) 40 129 0 0 10) 41 130 0 0 20), J) := rfl
set_option maxRecDepth 100000 in
set_option maxHeartbeats 4000000 in
theorem s_X8_copyFrom_131_39_0 {α : Type} (O : Ora) (I : Nat → Nat → Int32) (J : Nat → Nat → Int64) (K : Nat → List Value → List Value → IJ → Option α) (rt : Option Value → IJ → Option α) :
  blkS O none 2 T0 C_X8_copyFrom k_X8_copyFrom K rt f_X8_copyFrom 0 [.ref 131, .ref 39] [] (I, J) = rt none ((p_cp (p_cp (p_wr (p_wr I 131 0 (I 39 0)) 131 1 (I 39 1)) 40 132 0 0 10) 41 133 0 0 20), J) := rfl
set_option maxRecDepth 100000 in
set_option maxHeartbeats 4000000 in
theorem s_X8_copyFrom_134_39_0 {α : Type} (O : Ora) (I : Nat → Nat → Int32) (J : Nat → Nat → Int64) (K : Nat → List Value → List Value → IJ → Option α) (rt : Option Value → IJ → Option α) :
  blkS O none 2 T0 C_X8_copyFrom k_X8_copyFrom K rt f_X8_copyFrom 0 [.ref 134, .ref 39] [] (I, J) = rt none ((p_cp (p_cp (p_wr (p_wr I 134 0 (I 39 0)) 134 1 (I 39 1)) 40 135 0 0 10) 41 136 0 0 20), J) := rfl
set_option maxRecDepth 100000 in
set_option maxHeartbeats 4000000 in
theorem s_X8_copyFrom_137_39_0 {α : Type} (O : Ora) (I : Nat → Nat → Int32) (J : Nat → Nat → Int64) (K : Nat → List Value → List Value → IJ → Option α) (rt : Option Value → IJ → Option α) :
  blkS O none 2 T0 C_X8_copyFrom k_X8_copyFrom K rt f_X8_copyFrom 0 [.ref 137, .ref 39] [] (I, J) = rt none ((p_cp (p_cp (p_wr (p_wr I 137 0 (I 39 0)) 137 1 (I 39 1)) 40 138 0 0 10) 41 139 0 0 20), J) := rfl
set_option maxRecDepth 100000 in
set_option maxHeartbeats 4000000 in
theorem s_X8_copyFrom_140_39_0 {α : Type} (O : Ora) (I : Nat → Nat → Int32) (J : Nat → Nat → Int64) (K : Nat → List Value → List Value → IJ → Option α) (rt : Option Value → IJ → Option α) :
  blkS O none 2 T0 C_X8_copyFrom k_X8_copyFrom K rt f_X8_copyFrom 0 [.ref 140, .ref 39] [] (I, J) = rt none ((p_cp (p_cp (p_wr (p_wr I 140 0 (I 39 0)) 140 1 (I 39 1)) 40 141 0 0 10) 41 142 0 0 20), J) := rfl
set_option maxRecDepth 100000 in
set_option maxHeartbeats 4000000 in
theorem s_X8_copyFrom_143_39_0 {α : Type} (O : Ora) (I : Nat → Nat → Int32) (J : Nat → Nat → Int64) (K : Nat → List Value → List Value → IJ → Option α) (rt : Option Value → IJ → Option α) :
  blkS O none 2 T0 C_X8_copyFrom k_X8_copyFrom K rt f_X8_copyFrom 0 [.ref 143, .ref 39] [] (I, J) = rt none ((p_cp (p_cp (p_wr (p_wr I 143 0 (I 39 0)) 143 1 (I 39 1)) 40 144 0 0 10) 41 145 0 0 20), J) := rfl
set_option maxRecDepth 100000 in
set_option maxHeartbeats 4000000 in
theorem s_X8_copyFrom_146_39_0 {α : Type} (O : Ora) (I : Nat → Nat → Int32) (J : Nat → Nat → Int64) (K : Nat → List Value → List Value → IJ → Option α) (rt : Option Value → IJ → Option α) :
  blkS O none 2 T0 C_X8_copyFrom k_X8_copyFrom K rt f_X8_copyFrom 0 [.ref 146, .ref 39] [] (I, J) = rt none ((p_cp (p_cp (p_wr (p_wr I 146 0 (I 39 0)) 146 1 (I 39 1)) 40 147 0 0 10) 41 148 0 0 20), J) := rfl
set_option maxRecDepth 100000 in
set_option maxHeartbeats 4000000 in
theorem s_X8_copyFrom_149_39_0 {α : Type} (O : Ora) (I : Nat → Nat → Int32) (J : Nat → Nat → Int64) (K : Nat → List Value → List Value → IJ → Option α) (rt : Option Value → IJ → Option α) :
  blkS O none 2 T0 C_X8_copyFrom k_X8_copyFrom K rt f_X8_copyFrom 0 [.ref 149, .ref 39] [] (I, J) = rt none ((p_cp (p_cp (p_wr (p_wr I 149 0 (I 39 0)) 149 1 (I 39 1)) 40 150 0 0 10) 41 151 0 0 20), J) := rfl
set_option maxRecDepth 100000 in
set_option maxHeartbeats 4000000 in
theorem s_X8_copyFrom_152_39_0 {α : Type} (O : Ora) (I : Nat → Nat → Int32) (J : Nat → Nat → Int64) (K : Nat → List Value → List Value → IJ → Option α) (rt : Option Value → IJ → Option α) :
  blkS O none 2 T0 C_X8_copyFrom k_X8_copyFrom K rt f_X8_copyFrom 0 [.ref 152, .ref 39] [] (I, J) = rt none ((p_cp (p_cp (p_wr (p_wr I 152 0 (I 39 0)) 152 1 (I 39 1)) 40 153 0 0 10) 41 154 0 0 20), J) := rfl
set_option maxRecDepth 100000 in
set_option maxHeartbeats 4000000 in
theorem s_X8_copyFrom_155_39_0 {α : Type} (O : Ora) (I : Nat → Nat → Int32) (J : Nat → Nat → Int64) (K : Nat → List Value → List Value → IJ → Option α) (rt : Option Value → IJ → Option α) :
  blkS O none 2 T0 C_X8_copyFrom k_X8_copyFrom K rt f_X8_copyFrom 0 [.ref 155, .ref 39] [] (I, J) = rt none ((p_cp (p_cp (p_wr (p_wr I 155 0 (I 39 0)) 155 1 (I 39 1)) 40 156 0 0 10) 41 157 0 0 20), J) := rfl
set_option maxRecDepth 100000 in
set_option maxHeartbeats 4000000 in
theorem s_X8_copyFrom_158_39_0 {α : Type} (O : Ora) (I : Nat → Nat → Int32) (J : Nat → Nat → Int64) (K : Nat → List Value → List Value → IJ → Option α) (rt : Option Value → IJ → Option α) :
  blkS O none 2 T0 C_X8_copyFrom k_X8_copyFrom K rt f_X8_copyFrom 0 [.ref 158, .ref 39] [] (I, J) = rt none ((p_cp (p_cp (p_wr (p_wr I 158 0 (I 39 0)) 158 1 (I 39 1)) 40 159 0 0 10) 41 160 0 0 20), J) := rfl
set_option maxRecDepth 100000 in
set_option maxHeartbeats 4000000 in
theorem s_X8_copyFrom_161_39_0 {α : Type} (O : Ora) (I : Nat → Nat → Int32) (J : Nat → Nat → Int64) (K : Nat → List Value → List Value → IJ → Option α) (rt : Option Value → IJ → Option α) :
  blkS O none 2 T0 C_X8_copyFrom k_X8_copyFrom K rt f_X8_copyFrom 0 [.ref 161, .ref 39] [] (I, J) = rt none ((p_cp (p_cp (p_wr (p_wr I 161 0 (I 39 0)) 161 1 (I 39 1)) 40 162 0 0 10) 41 163 0 0 20), J) := rfl
set_option maxRecDepth 100000 in
set_option maxHeartbeats 4000000 in
theorem s_X8_copyFrom_164_39_0 {α : Type} (O : Ora) (I : Nat → Nat → Int32) (J : Nat → Nat → Int64) (K : Nat → List Value → List Value → IJ → Option α) (rt : Option Value → IJ → Option α) :
  blkS O none 2 T0 C_X8_copyFrom k_X8_copyFrom K rt f_X8_copyFrom 0 [.ref 164, .ref 39] [] (I, J) = rt none ((p_cp (p_cp (p_wr (p_wr I 164 0 (I 39 0)) 164 1 (I 39 1)) 40 165 0 0 10) 41 166 0 0 20), J) := rfl
set_option maxRecDepth 100000 in
set_option maxHeartbeats 4000000 in
theorem s_X8_copyFrom_39_183_0 {α : Type} (O : Ora) (I : Nat → Nat → Int32) (J : Nat → Nat → Int64) (K : Nat → List Value → List Value → IJ → Option α) (rt : Option Value → IJ → Option α) :
  blkS O none 2 T0 C_X8_copyFrom k_X8_copyFrom K rt f_X8_copyFrom 0 [.ref 39, .ref 183] [] (I, J) = rt none ((p_cp (p_cp (p_wr (p_wr I 39 0 (I 183 0)) 39 1 (I 183 1)) 184 40 0 0 10) 185 41 0 0 20), J) := rfl
set_option maxRecDepth 100000 in
set_option maxHeartbeats 4000000 in
theorem s_X8_copyFrom_39_186_0 {α : Type} (O : Ora) (I : Nat → Nat → Int32) (J : Nat → Nat → Int64) (K : Nat → List Value → List Value → IJ → Option α) (rt : Option Value → IJ → Option α) :
  blkS O none 2 T0 C_X8_copyFrom k_X8_copyFrom K rt f_X8_copyFrom 0 [.ref 39, .ref 186] [] (I, J) = rt none ((p_cp (p_cp (p_wr (p_wr I 39 0 (I 186 0)) 39 1 (I 186 1)) 187 40 0 0 10) 188 41 0 0 20), J) := rfl
set_option maxRecDepth 100000 in
set_option maxHeartbeats 4000000 in
theorem s_X8_copyFrom_39_189_0 {α : Type} (O : Ora) (I : Nat → Nat → Int32) (J : Nat → Nat → Int64) (K : Nat → List Value → List Value → IJ → Option α) (rt : Option Value → IJ → Option α) :
  blkS O none 2 T0 C_X8_copyFrom k_X8_copyFrom K rt f_X8_copyFrom 0 [.ref 39, .ref 189] [] (I, J) = rt none ((p_cp (p_cp (p_wr (p_wr I 39 0 (I 189 0)) 39 1 (I 189 1)) 190 40 0 0 10) 191 41 0 0 20), J) := rfl
set_option maxRecDepth 100000 in
set_option maxHeartbeats 4000000 in
theorem s_X8_copyFrom_39_47_0 {α : Type} (O : Ora) (I : Nat → Nat → Int32) (J : Nat → Nat → Int64) (K : Nat → List Value → List Value → IJ → Option α) (rt : Option Value → IJ → Option α) :
  blkS O none 2 T0 C_X8_copyFrom k_X8_copyFrom K rt f_X8_copyFrom 0 [.ref 39, .ref 47] [] (I, J) = rt none ((p_cp (p_cp (p_wr (p_wr I 39 0 (I 47 0)) 39 1 (I 47 1)) 48 40 0 0 10) 49 41 0 0 20), J) := rfl
set_option maxRecDepth 100000 in
set_option maxHeartbeats 4000000 in
theorem s_X8_copyFrom_39_50_0 {α : Type} (O : Ora) (I : Nat → Nat → Int32) (J : Nat → Nat → Int64) (K : Nat → List Value → List Value → IJ → Option α) (rt : Option Value → IJ → Option α) :
  blkS O none 2 T0 C_X8_copyFrom k_X8_copyFrom K rt f_X8_copyFrom 0 [.ref 39, .ref 50] [] (I, J) = rt none ((p_cp (p_cp (p_wr (p_wr I 39 0 (I 50 0)) 39 1 (I 50 1)) 51 40 0 0 10) 52 41 0 0 20), J) := rfl
set_option maxRecDepth 100000 in
set_option maxHeartbeats 4000000 in
theorem s_X8_copyFrom_39_53_0 {α : Type} (O : Ora) (I : Nat → Nat → Int32) (J : Nat → Nat → Int64) (K : Nat → List Value → List Value → IJ → Option α) (rt : Option Value → IJ → Option α) :
  blkS O none 2 T0 C_X8_copyFrom k_X8_copyFrom K rt f_X8_copyFrom 0 [.ref 39, .ref 53] [] (I, J) = rt none ((p_cp (p_cp (p_wr (p_wr I 39 0 (I 53 0)) 39 1 (I 53 1)) 54 40 0 0 10) 55 41 0 0 20), J) := rfl
set_option maxRecDepth 100000 in
set_option maxHeartbeats 4000000 in
theorem s_X8_copyFrom_39_56_0 {α : Type} (O : Ora) (I : Nat → Nat → Int32) (J : Nat → Nat → Int64) (K : Nat → List Value → List Value → IJ → Option α) (rt : Option Value → IJ → Option α) :
  blkS O none 2 T0 C_X8_copyFrom k_X8_copyFrom K rt f_X8_copyFrom 0 [.ref 39, .ref 56] [] (I, J) = rt none ((p_cp (p_cp (p_wr (p_wr I 39 0 (I 56 0)) 39 1 (I 56 1)) 57 40 0 0 10) 58 41 0 0 20), J) := rfl
set_option maxRecDepth 100000 in
set_option maxHeartbeats 4000000 in
theorem s_X8_copyFrom_39_59_0 {α : Type} (O : Ora) (I : Nat → Nat → Int32) (J : Nat → Nat → Int64) (K : Nat → List Value → List Value → IJ → Option α) (rt : Option Value → IJ → Option α) :
  blkS O none 2 T0 C_X8_copyFrom k_X8_copyFrom K rt f_X8_copyFrom 0 [.ref 39, .ref 59] [] (I, J) = rt none ((p_cp (p_cp (p_wr (p_wr I 39 0 (I 59 0)) 39 1 (I 59 1)) 60 40 0 0 10) 61 41 0 0 20), J) := rfl
set_option maxRecDepth 100000 in
set_option maxHeartbeats 4000000 in
theorem s_X8_copyFrom_39_62_0 {α : Type} (O : Ora) (I : Nat → Nat → Int32) (J : Nat → Nat → Int64) (K : Nat → List Value → List Value → IJ → Option α) (rt : Option Value → IJ → Option α) :
  blkS O none 2 T0 C_X8_copyFrom k_X8_copyFrom K rt f_X8_copyFrom 0 [.ref 39, .ref 62] [] (I, J) = rt none ((p_cp (p_cp (p_wr (p_wr I 39 0 (I 62 0)) 39 1 (I 62 1)) 63 40 0 0 10) 64 41 0 0 20), J) := rfl
set_option maxRecDepth 100000 in
set_option maxHeartbeats 4000000 in
theorem s_X8_copyFrom_39_65_0 {α : Type} (O : Ora) (I : Nat → Nat → Int32) (J : Nat → Nat → Int64) (K : Nat → List Value → List Value → IJ → Option α) (rt : Option Value → IJ → Option α) :
  blkS O none 2 T0 C_X8_copyFrom k_X8_copyFrom K rt f_X8_copyFrom 0 [.ref 39, .ref 65] [] (I, J) = rt none ((p_cp (p_cp (p_wr (p_wr I 39 0 (I 65 0)) 39 1 (I 65 1)) 66 40 0 0 10) 67 41 0 0 20), J) := rfl
set_option maxRecDepth 100000 in
set_option maxHeartbeats 4000000 in
theorem s_X8_copyFrom_39_68_0 {α : Type} (O : Ora) (I : Nat → Nat → Int32) (J : Nat → Nat → Int64) (K : Nat → List Value → List Value → IJ → Option α) (rt : Option Value → IJ → Option α) :
  blkS O none 2 T0 C_X8_copyFrom k_X8_copyFrom K rt f_X8_copyFrom 0 [.ref 39, .ref 68] [] (I, J) = rt none ((p_cp (p_cp (p_wr (p_wr I 39 0 (I 68 0)) 39 1 (I 68 1)) 69 40 0 0 10) 70 41 0 0 20), J) := rfl
set_option maxRecDepth 100000 in
set_option maxHeartbeats 4000000 in
theorem s_X8_copyFrom_39_71_0 {α : Type} (O : Ora) (I : Nat → Nat → Int32) (J : Nat → Nat → Int64) (K : Nat → List Value → List Value → IJ → Option α) (rt : Option Value → IJ → Option α) :
  blkS O none 2 T0 C_X8_copyFrom k_X8_copyFrom K rt f_X8_copyFrom 0 [.ref 39, .ref 71] [] (I, J) = rt none ((p_cp (p_cp (p_wr (p_wr I 39 0 (I 71 0)) 39 1 (I 71 1)) 72 40 0 0 10) 73 41 0 0 20), J) := rfl
set_option maxRecDepth 100000 in
set_option maxHeartbeats 4000000 in
theorem s_X8_copyFrom_39_74_0 {α : Type} (O : Ora) (I : Nat → Nat → Int32) (J : Nat → Nat → Int64) (K : Nat → List Value → List Value → IJ → Option α) (rt : Option Value → IJ → Option α) :
  blkS O none 2 T0 C_X8_copyFrom k_X8_copyFrom K rt f_X8_copyFrom 0 [.ref 39, .ref 74] [] (I, J) = rt none ((p_cp (p_cp (p_wr (p_wr I 39 0 (I 74 0)) 39 1 (I 74 1)) 75 40 0 0 10) 76 41 0 0 20), J) := rfl
set_option maxRecDepth 100000 in
set_option maxHeartbeats 4000000 in
theorem s_X8_copyFrom_39_77_0 {α : Type} (O : Ora) (I : Nat → Nat → Int32) (J : Nat → Nat → Int64) (K : Nat → List Value → List Value → IJ → Option α) (rt : Option Value → IJ → Option α) :
  blkS O none 2 T0 C_X8_copyFrom k_X8_copyFrom K rt f_X8_copyFrom 0 [.ref 39, .ref 77] [] (I, J) = rt none ((p_cp (p_cp (p_wr (p_wr I 39 0 (I 77 0)) 39 1 (I 77 1)) 78 40 0 0 10) 79 41 0 0 20), J) := rfl
set_option maxRecDepth 100000 in
set_option maxHeartbeats 4000000 in
theorem s_X8_copyFrom_39_80_0 {α : Type} (O : Ora) (I : Nat → Nat → Int32) (J : Nat → Nat → Int64) (K : Nat → List Value → List Value → IJ → Option α) (rt : Option Value → IJ → Option α) :
  blkS O none 2 T0 C_X8_copyFrom k_X8_copyFrom K rt f_X8_copyFrom 0 [.ref 39, .ref 80] [] (I, J) = rt none ((p_cp (p_cp (p_wr (p_wr I 39 0 (I 80 0)) 39 1 (I 80 1)) 81 40 0 0 10) 82 41 0 0 20), J) := rfl
set_option maxRecDepth 100000 in
set_option maxHeartbeats 4000000 in
theorem s_X8_copyFrom_39_83_0 {α : Type} (O : Ora) (I : Nat → Nat → Int32) (J : Nat → Nat → Int64) (K : Nat → List Value → List Value → IJ → Option α) (rt : Option Value → IJ → Option α) :
  blkS O none 2 T0 C_X8_copyFrom k_X8_copyFrom K rt f_X8_copyFrom 0 [.ref 39, .ref 83] [] (I, J) = rt none ((p_cp (p_cp (p_wr (p_wr I 39 0 (I 83 0)) 39 1 (I 83 1)) 84 40 0 0 10) 85 41 0 0 20), J) := rfl
set_option maxRecDepth 100000 in
set_option maxHeartbeats 4000000 in
theorem s_X8_copyFrom_39_86_0 {α : Type} (O : Ora) (I : Nat → Nat → Int32) (J : Nat → Nat → Int64) (K : Nat → List Value → List Value → IJ → Option α) (rt : Option Value → IJ → Option α) :
  blkS O none 2 T0 C_X8_copyFrom k_X8_copyFrom K rt f_X8_copyFrom 0 [.ref 39, .ref 86] [] (I, J) = rt none ((p_cp (p_cp (p_wr (p_wr I 39 0 (I 86 0)) 39 1 (I 86 1)) 87 40 0 0 10) 88 41 0 0 20), J) := rfl
set_option maxRecDepth 100000 in
set_option maxHeartbeats 4000000 in
theorem s_X8_copyFrom_39_89_0 {α : Type} (O : Ora) (I : Nat → Nat → Int32) (J : Nat → Nat → Int64) (K : Nat → List Value → List Value → IJ → Option α) (rt : Option Value → IJ → Option α) :
  blkS O none 2 T0 C_X8_copyFrom k_X8_copyFrom K rt f_X8_copyFrom 0 [.ref 39, .ref 89] [] (I, J) = rt none ((p_cp (p_cp (p_wr (p_wr I 39 0 (I 89 0)) 39 1 (I 89 1)) 90 40 0 0 10) 91 41 0 0 20), J) := rfl
set_option maxRecDepth 100000 in
set_option maxHeartbeats 4000000 in
theorem s_X8_copyFrom_39_92_0 {α : Type} (O : Ora) (I : Nat → Nat → Int32) (J : Nat → Nat → Int64) (K : Nat → List Value → List Value → IJ → Option α) (rt : Option Value → IJ → Option α) :
  blkS O none 2 T0 C_X8_copyFrom k_X8_copyFrom K rt f_X8_copyFrom 0 [.ref 39, .ref 92] [] (I, J) = rt none ((p_cp (p_cp (p_wr (p_wr I 39 0 (I 92 0)) 39 1 (I 92 1)) 93 40 0 0 10) 94 41 0 0 20), J) := rfl
set_option maxRecDepth 100000 in
set_option maxHeartbeats 4000000 in
theorem s_X8_copyFrom_39_95_0 {α : Type} (O : Ora) (I : Nat → Nat → Int32) (J : Nat → Nat → Int64) (K : Nat → List Value → List Value → IJ → Option α) (rt : Option Value → IJ → Option α) :
  blkS O none 2 T0 C_X8_copyFrom k_X8_copyFrom K rt f_X8_copyFrom 0 [.ref 39, .ref 95] [] (I, J) = rt none ((p_cp (p_cp (p_wr (p_wr I 39 0 (I 95 0)) 39 1 (I 95 1)) 96 40 0 0 10) 97 41 0 0 20), J) := rfl
set_option maxRecDepth 100000 in
set_option maxHeartbeats 4000000 in
theorem s_X8_copyFrom_39_98_0 {α : Type} (O : Ora) (I : Nat → Nat → Int32) (J : Nat → Nat → Int64) (K : Nat → List Value → List Value → IJ → Option α) (rt : Option Value → IJ → Option α) :
  blkS O none 2 T0 C_X8_copyFrom k_X8_copyFrom K rt f_X8_copyFrom 0 [.ref 39, .ref 98] [] (I, J) = rt none ((p_cp (p_cp (p_wr (p_wr I 39 0 (I 98 0)) 39 1 (I 98 1)) 99 40 0 0 10) 100 41 0 0 20), J) := rfl
set_option maxRecDepth 100000 in
set_option maxHeartbeats 4000000 in
theorem s_X8_copyFrom_39_101_0 {α : Type} (O : Ora) (I : Nat → Nat → Int32) (J : Nat → Nat → Int64) (K : Nat → List Value → List Value → IJ → Option α) (rt : Option Value → IJ → Option α) :
  blkS O none 2 T0 C_X8_copyFrom k_X8_copyFrom K rt f_X8_copyFrom 0 [.ref 39, .ref 101] [] (I, J) = rt none ((p_cp (p_cp (p_wr (p_wr I 39 0 (I 101 0)) 39 1 (I 101 1)) 102 40 0 0 10) 103 41 0 0 20), J) := rfl
set_option maxRecDepth 100000 in
set_option maxHeartbeats 4000000 in
theorem s_X8_copyFrom_39_104_0 {α : Type} (O : Ora) (I : Nat → Nat → Int32) (J : Nat → Nat → Int64) (K : Nat → List Value → List Value → IJ → Option α) (rt : Option Value → IJ → Option α) :
  blkS O none 2 T0 C_X8_copyFrom k_X8_copyFrom K rt f_X8_copyFrom 0 [.ref 39, .ref 104] [] (I, J) = rt none ((p_cp (p_cp (p_wr (p_wr I 39 0 (I 104 0)) 39 1 (I 104 1)) 105 40 0 0 10) 106 41 0 0 20), J) := rfl
set_option maxRecDepth 100000 in
set_option maxHeartbeats 4000000 in
theorem s_X8_copyFrom_39_107_0 {α : Type} (O : Ora) (I : Nat → Nat → Int32) (J : Nat → Nat → Int64) (K : Nat → List Value → List Value → IJ → Option α) (rt : Option Value → IJ → Option α) :
  blkS O none 2 T0 C_X8_copyFrom k_X8_copyFrom K rt f_X8_copyFrom 0 [.ref 39, .ref 107] [] (I, J) = rt none ((p_cp (p_cp (p_wr (p_wr I 39 0 (I 107 0)) 39 1 (I 107 1)) 108 40 0 0 10) 109 41 0 0 20), J) := rfl
set_option maxRecDepth 100000 in
set_option maxHeartbeats 4000000 in
theorem s_X8_copyFrom_39_110_0 {α : Type} (O : Ora) (I : Nat → Nat → Int32) (J : Nat → Nat → Int64) (K : Nat → List Value → List Value → IJ → Option α) (rt : Option Value → IJ → Option α) :
  blkS O none 2 T0 C_X8_copyFrom k_X8_copyFrom K rt f_X8_copyFrom 0 [.ref 39, .ref 110] [] (I, J) = rt none ((p_cp (p_cp (p_wr (p_wr I 39 0 (I 110 0)) 39 1 (I 110 1)) 111 40 0 0 10) 112 41 0 0 20), J) := rfl
set_option maxRecDepth 100000 in
set_option maxHeartbeats 4000000 in
theorem s_X8_copyFrom_39_113_0 {α : Type} (O : Ora) (I : Nat → Nat → Int32) (J : Nat → Nat → Int64) (K : Nat → List Value → List Value → IJ → Option α) (rt : Option Value → IJ → Option α) :
  blkS O none 2 T0 C_X8_copyFrom k_X8_copyFrom K rt f_X8_copyFrom 0 [.ref 39, .ref 113] [] (I, J) = rt none ((p_cp (p_cp (p_wr (p_wr I 39 0 (I 113 0)) 39 1 (I 113 1)) 114 40 0 0 10) 115 41 0 0 20), J) := rfl
set_option maxRecDepth 100000 in
set_option maxHeartbeats 4000000 in
theorem s_X8_copyFrom_39_116_0 {α : Type} (O : Ora) (I : Nat → Nat → Int32) (J : Nat → Nat → Int64) (K : Nat → List Value → List Value → IJ → Option α) (rt : Option Value → IJ → Option α) :
  blkS O none 2 T0 C_X8_copyFrom k_X8_copyFrom K rt f_X8_copyFrom 0 [.ref 39, .ref 116] [] (I, J) = rt none ((p_cp (p_cp (p_wr (p_wr I 39 0 (I 116 0)) 39 1 (I 116 1)) 117 40 0 0 10) 118 41 0 0 20), J) := rfl
set_option maxRecDepth 100000 in
set_option maxHeartbeats 4000000 in
theorem s_X8_copyFrom_39_119_0 {α : Type} (O : Ora) (I : Nat → Nat → Int32) (J : Nat → Nat → Int64) (K : Nat → List Value → List Value → IJ → Option α) (rt : Option Value → IJ → Option α) :
  blkS O none 2 T0 C_X8_copyFrom k_X8_copyFrom K rt f_X8_copyFrom 0 [.ref 39, .ref 119] [] (I, J) = rt none ((p_cp (p_cp (p_wr (p_wr I 39 0 (I 119 0)) 39 1 (I 119 1)) 120 40 0 0 10) 121 41 0 0 20), J) := rfl
set_option maxRecDepth 100000 in
set_option maxHeartbeats 4000000 in
theorem s_X8_copyFrom_39_122_0 {α : Type} (O : Ora) (I : Nat → Nat → Int32) (J : Nat → Nat → Int64) (K : Nat → List Value → List Value → IJ → Option α) (rt : Option Value → IJ → Option α) :
  blkS O none 2 T0 C_X8_copyFrom k_X8_copyFrom K rt f_X8_copyFrom 0 [.ref 39, .ref 122] [] (I, J) = rt none ((p_cp (p_cp (p_wr (p_wr I 39 0 (I 122 0)) 39 1 (I 122 1)) 123 40 0 0 10) 124 41 0 0 20), J) := rfl
set_option maxRecDepth 100000 in
set_option maxHeartbeats 4000000 in
theorem s_X8_copyFrom_39_125_0 {α : Type} (O : Ora) (I : Nat → Nat → Int32) (J : Nat → Nat → Int64) (K : Nat → List Value → List Value → IJ → Option α) (rt : Option Value → IJ → Option α) :
  blkS O none 2 T0 C_X8_copyFrom k_X8_copyFrom K rt f_X8_copyFrom 0 [.ref 39, .ref 125] [] (I, J) = rt none ((p_cp (p_cp (p_wr (p_wr I 39 0 (I 125 0)) 39 1 (I 125 1)) 126 40 0 0 10) 127 41 0 0 20), J) := rfl
set_option maxRecDepth 100000 in
set_option maxHeartbeats 4000000 in
theorem s_X8_copyFrom_39_128_0 {α : Type} (O : Ora) (I : Nat → Nat → Int32) (J : Nat → Nat → Int64) (K : Nat → List Value → List Value → IJ → Option α) (rt : Option Value → IJ → Option α) :
  blkS O none 2 T0 C_X8_copyFrom k_X8_copyFrom K rt f_X8_copyFrom 0 [.ref 39, .ref 128] [] (I, J) = rt none ((p_cp (p_cp (p_wr (p_wr I 39 0 (I 128 0)) 39 1 (I 128 1)) 129 40 0 0 10) 130 41 0 0 20), J) := rfl
set_option maxRecDepth 100000 in
set_option maxHeartbeats 4000000 in
theorem s_X8_copyFrom_39_131_0 {α : Type} (O : Ora) (I : Nat → Nat → Int32) (J : Nat → Nat → Int64) (K : Nat → List Value → List Value → IJ → Option α) (rt : Option Value → IJ → Option α) :
  blkS O none 2 T0 C_X8_copyFrom k_X8_copyFrom K rt f_X8_copyFrom 0 [.ref 39, .ref 131] [] (I, J) = rt none ((p_cp (p_cp (p_wr (p_wr I 39 0 (I 131 0)) 39 1 (I 131 1)) 132 40 0 0 10) 133 41 0 0 20), J) := rfl
set_option maxRecDepth 100000 in
set_option maxHeartbeats 4000000 in
theorem s_X8_copyFrom_39_134_0 {α : Type} (O : Ora) (I : Nat → Nat → Int32) (J : Nat → Nat → Int64) (K : Nat → List Value → List Value → IJ → Option α) (rt : Option Value → IJ → Option α) :
  blkS O none 2 T0 C_X8_copyFrom k_X8_copyFrom K rt f_X8_copyFrom 0 [.ref 39, .ref 134] [] (I, J) = rt none ((p_cp (p_cp (p_wr (p_wr I 39 0 (I 134 0)) 39 1 (I 134 1)) 135 40 0 0 10) 136 41 0 0 20), J) := rfl
set_option maxRecDepth 100000 in
set_option maxHeartbeats 4000000 in
theorem s_X8_copyFrom_39_137_0 {α : Type} (O : Ora) (I : Nat → Nat → Int32) (J : Nat → Nat → Int64) (K : Nat → List Value → List Value → IJ → Option α) (rt : Option Value → IJ → Option α) :
  blkS O none 2 T0 C_X8_copyFrom k_X8_copyFrom K rt f_X8_copyFrom 0 [.ref 39, .ref 137] [] (I, J) = rt none ((p_cp (p_cp (p_wr (p_wr I 39 0 (I 137 0)) 39 1 (I 137 1)) 138 40 0 0 10) 139 41 0 0 20), J) := rfl
set_option maxRecDepth 100000 in
set_option maxHeartbeats 4000000 in
theorem s_X8_copyFrom_39_140_0 {α : Type} (O : Ora) (I : Nat → Nat → Int32) (J : Nat → Nat → Int64) (K : Nat → List Value → List Value → IJ → Option α) (rt : Option Value → IJ → Option α) :
  blkS O none 2 T0 C_X8_copyFrom k_X8_copyFrom K rt f_X8_copyFrom 0 [.ref 39, .ref 140] [] (I, J) = rt none ((p_cp (p_cp (p_wr (p_wr I 39 0 (I 140 0)) 39 1 (I 140 1)) 141 40 0 0 10) 142 41 0 0 20), J) := rfl
set_option maxRecDepth 100000 in
set_option maxHeartbeats 4000000 in
theorem s_X8_copyFrom_39_143_0 {α : Type} (O : Ora) (I : Nat → Nat → Int32) (J : Nat → Nat → Int64) (K : Nat → List Value → List Value → IJ → Option α) (rt : Option Value → IJ → Option α) :
  blkS O none 2 T0 C_X8_copyFrom k_X8_copyFrom K rt f_X8_copyFrom 0 [.ref 39, .ref 143] [] (I, J) = rt none ((p_cp (p_cp (p_wr (p_wr I 39 0 (I 143 0)) 39 1 (I 143 1)) 144 40 0 0 10) 145 41 0 0 20), J) := rfl
set_option maxRecDepth 100000 in
set_option maxHeartbeats 4000000 in
theorem s_X8_copyFrom_39_146_0 {α : Type} (O : Ora) (I : Nat → Nat → Int32) (J : Nat → Nat → Int64) (K : Nat → List Value → List Value → IJ → Option α) (rt : Option Value → IJ → Option α) :
  blkS O none 2 T0 C_X8_copyFrom k_X8_copyFrom K rt f_X8_copyFrom 0 [.ref 39, .ref 146] [] (I, J) = rt none ((p_cp (p_cp (p_wr (p_wr I 39 0 (I 146 0)) 39 1 (I 146 1)) 147 40 0 0 10) 148 41 0 0 20), J) := rfl
set_option maxRecDepth 100000 in
set_option maxHeartbeats 4000000 in
theorem s_X8_copyFrom_39_149_0 {α : Type} (O : Ora) (I : Nat → Nat → Int32) (J : Nat → Nat → Int64) (K : Nat → List Value → List Value → IJ → Option α) (rt : Option Value → IJ → Option α) :
  blkS O none 2 T0 C_X8_copyFrom k_X8_copyFrom K rt f_X8_copyFrom 0 [.ref 39, .ref 149] [] (I, J) = rt none ((p_cp (p_cp (p_wr (p_wr I 39 0 (I 149 0)) 39 1 (I 149 1)) 150 40 0 0 10) 151 41 0 0 20), J) := rfl
set_option maxRecDepth 100000 in
set_option maxHeartbeats 4000000 in
theorem s_X8_copyFrom_39_152_0 {α : Type} (O : Ora) (I : Nat → Nat → Int32) (J : Nat → Nat → Int64) (K : Nat → List Value → List Value → IJ → Option α) (rt : Option Value → IJ → Option α) :
  blkS O none 2 T0 C_X8_copyFrom k_X8_copyFrom K rt f_X8_copyFrom 0 [.ref 39, .ref 152] [] (I, J) = rt none ((p_cp (p_cp (p_wr (p_wr I 39 0 (I 152 0)) 39 1 (I 152 1)) 153 40 0 0 10) 154 41 0 0 20), J) := rfl
set_option maxRecDepth 100000 in
set_option maxHeartbeats 4000000 in
theorem s_X8_copyFrom_39_155_0 {α : Type} (O : Ora) (I : Nat → Nat → Int32) (J : Nat → Nat → Int64) (K : Nat → List Value → List Value → IJ → Option α) (rt : Option Value → IJ → Option α) :
  blkS O none 2 T0 C_X8_copyFrom k_X8_copyFrom K rt f_X8_copyFrom 0 [.ref 39, .ref 155] [] (I, J) = rt none ((p_cp (p_cp (p_wr (p_wr I 39 0 (I 155 0)) 39 1 (I 155 1)) 156 40 0 0 10) 157 41 0 0 20), J) := rfl
set_option maxRecDepth 100000 in
set_option maxHeartbeats 4000000 in
theorem s_X8_copyFrom_39_158_0 {α : Type} (O : Ora) (I : Nat → Nat → Int32) (J : Nat → Nat → Int64) (K : Nat → List Value → List Value → IJ → Option α) (rt : Option Value → IJ → Option α) :
  blkS O none 2 T0 C_X8_copyFrom k_X8_copyFrom K rt f_X8_copyFrom 0 [.ref 39, .ref 158] [] (I, J) = rt none ((p_cp (p_cp (p_wr (p_wr I 39 0 (I 158 0)) 39 1 (I 158 1)) 159 40 0 0 10) 160 41 0 0 20), J) := rfl
set_option maxRecDepth 100000 in
set_option maxHeartbeats 4000000 in
theorem s_X8_copyFrom_39_161_0 {α : Type} (O : Ora) (I : Nat → Nat → Int32) (J : Nat → Nat → Int64) (K : Nat → List Value → List Value → IJ → Option α) (rt : Option Value → IJ → Option α) :
  blkS O none 2 T0 C_X8_copyFrom k_X8_copyFrom K rt f_X8_copyFrom 0 [.ref 39, .ref 161] [] (I, J) = rt none ((p_cp (p_cp (p_wr (p_wr I 39 0 (I 161 0)) 39 1 (I 161 1)) 162 40 0 0 10) 163 41 0 0 20), J) := rfl
set_option maxRecDepth 100000 in
set_option maxHeartbeats 4000000 in
theorem s_X8_copyFrom_39_164_0 {α : Type} (O : Ora) (I : Nat → Nat → Int32) (J : Nat → Nat → Int64) (K : Nat → List Value → List Value → IJ → Option α) (rt : Option Value → IJ → Option α) :
  blkS O none 2 T0 C_X8_copyFrom k_X8_copyFrom K rt f_X8_copyFrom 0 [.ref 39, .ref 164] [] (I, J) = rt none ((p_cp (p_cp (p_wr (p_wr I 39 0 (I 164 0)) 39 1 (I 164 1)) 165 40 0 0 10) 166 41 0 0 20), J) := rfl
def C_X8_cartField (pc : Nat) : Option PE := if pc < 11 then (if pc < 6 then (if pc < 4 then (if pc < 1 then (if pc = 0 then some ((.aload_n 0), 1, 0, 0, 0, []) else none) else (if pc = 1 then some ((.getfield 15), 4, 8, 3, 0, []) else none)) else (if pc < 5 then (if pc = 4 then some ((.iload_n 1), 5, 0, 0, 0, []) else none) else (if pc = 5 then some ((.iconst 5), 6, 0, 0, 5, []) else none))) else (if pc < 8 then (if pc < 7 then (if pc = 6 then some (.imul, 7, 0, 0, 0, []) else none) else (if pc = 7 then some ((.iload_n 2), 8, 0, 0, 0, []) else none)) else (if pc < 9 then (if pc = 8 then some (.iadd, 9, 0, 0, 0, []) else none) else (if pc < 10 then (if pc = 9 then some (.iaload, 10, 0, 0, 0, []) else none) else (if pc = 10 then some (.ireturn, 11, 0, 0, 0, []) else none))))) else none
set_option maxRecDepth 100000 in
theorem ck_X8_cartField : ∀ pc E, C_X8_cartField pc = some E → ckI 8 (mB 92) pc E = true := ck_tab (n := 11) (by decide +kernel) (fun pc h => by unfold C_X8_cartField; rw [if_neg h])
def k_X8_cartField (pc : Nat) : Option (List Bool) := none
abbrev f_X8_cartField : Nat := 9
set_option maxRecDepth 100000 in
set_option maxHeartbeats 4000000 in
theorem s_X8_cartField_39_0 {α : Type} (O : Ora) (I : Nat → Nat → Int32) (J : Nat → Nat → Int64) (K : Nat → List Value → List Value → IJ → Option α) (rt : Option Value → IJ → Option α) (a1 a2 : Int32) :
  blkS O none 3 T0 C_X8_cartField k_X8_cartField K rt f_X8_cartField 0 [.ref 39, .int a1, .int a2] [] (I, J) = p_chk (p_in ((a1 * 5) + a2) 20) (rt (some (.int (I 41 (((a1 * 5) + a2).toNatClampNeg)))) (I, J)) := rfl
set_option maxRecDepth 100000 in
set_option maxHeartbeats 4000000 in
theorem s_X8_cartField_42_0 {α : Type} (O : Ora) (I : Nat → Nat → Int32) (J : Nat → Nat → Int64) (K : Nat → List Value → List Value → IJ → Option α) (rt : Option Value → IJ → Option α) (a1 a2 : Int32) :
  blkS O none 3 T0 C_X8_cartField k_X8_cartField K rt f_X8_cartField 0 [.ref 42, .int a1, .int a2] [] (I, J) = p_chk (p_in ((a1 * 5) + a2) 20) (rt (some (.int (I 44 (((a1 * 5) + a2).toNatClampNeg)))) (I, J)) := rfl
def C_X8_setCartField (pc : Nat) : Option PE := if pc < 12 then (if pc < 7 then (if pc < 4 then (if pc < 1 then (if pc = 0 then some ((.aload_n 0), 1, 0, 0, 0, []) else none) else (if pc = 1 then some ((.getfield 15), 4, 8, 3, 0, []) else none)) else (if pc < 5 then (if pc = 4 then some ((.iload_n 1), 5, 0, 0, 0, []) else none) else (if pc < 6 then (if pc = 5 then some ((.iconst 5), 6, 0, 0, 5, []) else none) else (if pc = 6 then some (.imul, 7, 0, 0, 0, []) else none)))) else (if pc < 9 then (if pc < 8 then (if pc = 7 then some ((.iload_n 2), 8, 0, 0, 0, []) else none) else (if pc = 8 then some (.iadd, 9, 0, 0, 0, []) else none)) else (if pc < 10 then (if pc = 9 then some ((.iload_n 3), 10, 0, 0, 0, []) else none) else (if pc < 11 then (if pc = 10 then some (.iastore, 11, 0, 0, 0, []) else none) else (if pc = 11 then some (.return_, 12, 0, 0, 0, []) else none))))) else none
set_option maxRecDepth 100000 in
theorem ck_X8_setCartField : ∀ pc E, C_X8_setCartField pc = some E → ckI 8 (mB 93) pc E = true := ck_tab (n := 12) (by decide +kernel) (fun pc h => by unfold C_X8_setCartField; rw [if_neg h])
def k_X8_setCartField (pc : Nat) : Option (List Bool) := none
abbrev f_X8_setCartField : Nat := 10
set_option maxRecDepth 100000 in
set_option maxHeartbeats 4000000 in
theorem s_X8_setCartField_39_0 {α : Type} (O : Ora) (I : Nat → Nat → Int32) (J : Nat → Nat → Int64) (K : Nat → List Value → List Value → IJ → Option α) (rt : Option Value → IJ → Option α) (a1 a2 a3 : Int32) :
  blkS O none 4 T0 C_X8_setCartField k_X8_setCartField K rt f_X8_setCartField 0 [.ref 39, .int a1, .int a2, .int a3] [] (I, J) = p_chk (p_in ((a1 * 5) + a2) 20) (rt none ((p_wr I 41 (((a1 * 5) + a2).toNatClampNeg) a3), J)) := rfl
set_option maxRecDepth 100000 in
set_option maxHeartbeats 4000000 in
theorem s_X8_setCartField_42_0 {α : Type} (O : Ora) (I : Nat → Nat → Int32) (J : Nat → Nat → Int64) (K : Nat → List Value → List Value → IJ → Option α) (rt : Option Value → IJ → Option α) (a1 a2 a3 : Int32) :
  blkS O none 4 T0 C_X8_setCartField k_X8_setCartField K rt f_X8_setCartField 0 [.ref 42, .int a1, .int a2, .int a3] [] (I, J) = p_chk (p_in ((a1 * 5) + a2) 20) (rt none ((p_wr I 44 (((a1 * 5) + a2).toNatClampNeg) a3), J)) := rfl
def C_X8_addToCartField (pc : Nat) : Option PE := if pc < 15 then (if pc < 8 then (if pc < 5 then (if pc < 1 then (if pc = 0 then some ((.aload_n 0), 1, 0, 0, 0, []) else none) else (if pc < 4 then (if pc = 1 then some ((.getfield 15), 4, 8, 3, 0, []) else none) else (if pc = 4 then some ((.iload_n 1), 5, 0, 0, 0, []) else none))) else (if pc < 6 then (if pc = 5 then some ((.iconst 5), 6, 0, 0, 5, []) else none) else (if pc < 7 then (if pc = 6 then some (.imul, 7, 0, 0, 0, []) else none) else (if pc = 7 then some ((.iload_n 2), 8, 0, 0, 0, []) else none)))) else (if pc < 11 then (if pc < 9 then (if pc = 8 then some (.iadd, 9, 0, 0, 0, []) else none) else (if pc < 10 then (if pc = 9 then some (.dup2, 10, 0, 0, 0, []) else none) else (if pc = 10 then some (.iaload, 11, 0, 0, 0, []) else none))) else (if pc < 13 then (if pc < 12 then (if pc = 11 then some ((.iload_n 3), 12, 0, 0, 0, []) else none) else (if pc = 12 then some (.iadd, 13, 0, 0, 0, []) else none)) else (if pc < 14 then (if pc = 13 then some (.iastore, 14, 0, 0, 0, []) else none) else (if pc = 14 then some (.return_, 15, 0, 0, 0, []) else none))))) else none
set_option maxRecDepth 100000 in
theorem ck_X8_addToCartField : ∀ pc E, C_X8_addToCartField pc = some E → ckI 8 (mB 94) pc E = true := ck_tab (n := 15) (by decide +kernel) (fun pc h => by unfold C_X8_addToCartField; rw [if_neg h])
def k_X8_addToCartField (pc : Nat) : Option (List Bool) := none
abbrev f_X8_addToCartField : Nat := 13
set_option maxRecDepth 100000 in
set_option maxHeartbeats 4000000 in
theorem s_X8_addToCartField_39_0 {α : Type} (O : Ora) (I : Nat → Nat → Int32) (J : Nat → Nat → Int64) (K : Nat → List Value → List Value → IJ → Option α) (rt : Option Value → IJ → Option α) (a1 a2 a3 : Int32) :
  blkS O none 4 T0 C_X8_addToCartField k_X8_addToCartField K rt f_X8_addToCartField 0 [.ref 39, .int a1, .int a2, .int a3] [] (I, J) = p_chk (p_in ((a1 * 5) + a2) 20) (p_chk (p_in ((a1 * 5) + a2) 20) (rt none ((p_wr I 41 (((a1 * 5) + a2).toNatClampNeg) ((I 41 (((a1 * 5) + a2).toNatClampNeg)) + a3)), J))) := rfl
set_option maxRecDepth 100000 in
set_option maxHeartbeats 4000000 in
theorem s_X8_addToCartField_42_0 {α : Type} (O : Ora) (I : Nat → Nat → Int32) (J : Nat → Nat → Int64) (K : Nat → List Value → List Value → IJ → Option α) (rt : Option Value → IJ → Option α) (a1 a2 a3 : Int32) :
  blkS O none 4 T0 C_X8_addToCartField k_X8_addToCartField K rt f_X8_addToCartField 0 [.ref 42, .int a1, .int a2, .int a3] [] (I, J) = p_chk (p_in ((a1 * 5) + a2) 20) (p_chk (p_in ((a1 * 5) + a2) 20) (rt none ((p_wr I 44 (((a1 * 5) + a2).toNatClampNeg) ((I 44 (((a1 * 5) + a2).toNatClampNeg)) + a3)), J))) := rfl
def C_X8_isOnRoad (pc : Nat) : Option PE := if pc < 15 then (if pc < 6 then (if pc < 2 then (if pc < 1 then (if pc = 0 then some ((.aload_n 0), 1, 0, 0, 0, []) else none) else (if pc = 1 then some ((.iload_n 1), 2, 0, 0, 0, []) else none)) else (if pc < 3 then (if pc = 2 then some ((.iconst 1), 3, 0, 0, 1, []) else none) else (if pc = 3 then some ((.invokevirtual 50), 6, 92, 3, 0, [1, 8]) else none))) else (if pc < 10 then (if pc < 9 then (if pc = 6 then some ((.ifCond .eq 7), 9, 13, 0, 0, []) else none) else (if pc = 9 then some ((.iconst 1), 10, 0, 0, 1, []) else none)) else (if pc < 13 then (if pc = 10 then some ((.goto 4), 13, 14, 0, 0, []) else none) else (if pc < 14 then (if pc = 13 then some ((.iconst 0), 14, 0, 0, 0, []) else none) else (if pc = 14 then some (.ireturn, 15, 0, 0, 0, []) else none))))) else none
set_option maxRecDepth 100000 in
theorem ck_X8_isOnRoad : ∀ pc E, C_X8_isOnRoad pc = some E → ckI 8 (mB 95) pc E = true := ck_tab (n := 15) (by decide +kernel) (fun pc h => by unfold C_X8_isOnRoad; rw [if_neg h])
def k_X8_isOnRoad (pc : Nat) : Option (List Bool) := none
abbrev f_X8_isOnRoad : Nat := 8
set_option maxRecDepth 100000 in
set_option maxHeartbeats 4000000 in
theorem s_X8_isOnRoad_39_0 {α : Type} (O : Ora) (I : Nat → Nat → Int32) (J : Nat → Nat → Int64) (K : Nat → List Value → List Value → IJ → Option α) (rt : Option Value → IJ → Option α) (a1 : Int32) :
  blkS O none 2 T0 C_X8_isOnRoad k_X8_isOnRoad K rt f_X8_isOnRoad 0 [.ref 39, .int a1] [] (I, J) = p_ci (O T0 92 [.ref 39, .int a1, .int 1] (I, J)) (fun v2 z1 => if v2 = 0 then (rt (some (.int 0)) z1) else (rt (some (.int 1)) z1)) := rfl
set_option maxRecDepth 100000 in
set_option maxHeartbeats 4000000 in
theorem s_X8_isOnRoad_42_0 {α : Type} (O : Ora) (I : Nat → Nat → Int32) (J : Nat → Nat → Int64) (K : Nat → List Value → List Value → IJ → Option α) (rt : Option Value → IJ → Option α) (a1 : Int32) :
  blkS O none 2 T0 C_X8_isOnRoad k_X8_isOnRoad K rt f_X8_isOnRoad 0 [.ref 42, .int a1] [] (I, J) = p_ci (O T0 92 [.ref 42, .int a1, .int 1] (I, J)) (fun v2 z1 => if v2 = 0 then (rt (some (.int 0)) z1) else (rt (some (.int 1)) z1)) := rfl
def C_X8_wholeSeams (pc : Nat) : Option PE := if pc < 35 then (if pc < 17 then (if pc < 5 then (if pc < 2 then (if pc < 1 then (if pc = 0 then some ((.iconst 0), 1, 0, 0, 0, []) else none) else (if pc = 1 then some ((.istore_n 2), 2, 0, 0, 0, []) else none)) else (if pc < 3 then (if pc = 2 then some ((.iconst 0), 3, 0, 0, 0, []) else none) else (if pc < 4 then (if pc = 3 then some ((.istore_n 3), 4, 0, 0, 0, []) else none) else (if pc = 4 then some ((.iload_n 3), 5, 0, 0, 0, []) else none)))) else (if pc < 12 then (if pc < 6 then (if pc = 5 then some ((.aload_n 1), 6, 0, 0, 0, []) else none) else (if pc < 9 then (if pc = 6 then some ((.getfield 54), 9, 3, 1, 0, []) else none) else (if pc = 9 then some ((.if_icmp .ge 24), 12, 33, 0, 0, []) else none))) else (if pc < 13 then (if pc = 12 then some ((.aload_n 0), 13, 0, 0, 0, []) else none) else (if pc < 16 then (if pc = 13 then some ((.getfield 9), 16, 8, 2, 0, []) else none) else (if pc = 16 then some ((.iload_n 3), 17, 0, 0, 0, []) else none))))) else (if pc < 25 then (if pc < 22 then (if pc < 18 then (if pc = 17 then some (.iaload, 18, 0, 0, 0, []) else none) else (if pc < 21 then (if pc = 18 then some ((.ifCond .le 9), 21, 27, 0, 0, []) else none) else (if pc = 21 then some ((.iload_n 2), 22, 0, 0, 0, []) else none))) else (if pc < 23 then (if pc = 22 then some ((.iconst 1), 23, 0, 0, 1, []) else none) else (if pc < 24 then (if pc = 23 then some ((.iload_n 3), 24, 0, 0, 0, []) else none) else (if pc = 24 then some (.ishl, 25, 0, 0, 0, []) else none)))) else (if pc < 30 then (if pc < 26 then (if pc = 25 then some (.ior, 26, 0, 0, 0, []) else none) else (if pc < 27 then (if pc = 26 then some ((.istore_n 2), 27, 0, 0, 0, []) else none) else (if pc = 27 then some ((.iinc 3 1), 30, 0, 0, 1, []) else none))) else (if pc < 33 then (if pc = 30 then some ((.goto (-26)), 33, 4, 0, 0, []) else none) else (if pc < 34 then (if pc = 33 then some ((.iload_n 2), 34, 0, 0, 0, []) else none) else (if pc = 34 then some (.ireturn, 35, 0, 0, 0, []) else none)))))) else none
set_option maxRecDepth 100000 in
theorem ck_X8_wholeSeams : ∀ pc E, C_X8_wholeSeams pc = some E → ckI 8 (mB 96) pc E = true := ck_tab (n := 35) (by decide +kernel) (fun pc h => by unfold C_X8_wholeSeams; rw [if_neg h])
def k_X8_wholeSeams (pc : Nat) : Option (List Bool) := if pc = 4 then some [true, true, true, true] else none
abbrev f_X8_wholeSeams : Nat := 17
set_option maxRecDepth 100000 in
set_option maxHeartbeats 4000000 in
theorem s_X8_wholeSeams_39_0 {α : Type} (O : Ora) (I : Nat → Nat → Int32) (J : Nat → Nat → Int64) (K : Nat → List Value → List Value → IJ → Option α) (rt : Option Value → IJ → Option α) :
  blkS O none 4 T0 C_X8_wholeSeams k_X8_wholeSeams K rt f_X8_wholeSeams 0 [.ref 39, .ref 25, un, un] [] (I, J) = K 4 [.ref 39, .ref 25, .int 0, .int 0] [] (I, J) := rfl
set_option maxRecDepth 100000 in
set_option maxHeartbeats 4000000 in
theorem s_X8_wholeSeams_39_4 {α : Type} (O : Ora) (I : Nat → Nat → Int32) (J : Nat → Nat → Int64) (K : Nat → List Value → List Value → IJ → Option α) (rt : Option Value → IJ → Option α) (x2 x3 : Int32) :
  blkS O none 4 T0 C_X8_wholeSeams k_X8_wholeSeams K rt f_X8_wholeSeams 4 [.ref 39, .ref 25, .int x2, .int x3] [] (I, J) = if (I 25 1) ≤ x3 then (rt (some (.int x2)) (I, J)) else (p_chk (p_in x3 10) (if (I 40 x3.toNatClampNeg) ≤ 0 then (K 4 [.ref 39, .ref 25, .int x2, .int (x3 + 1)] [] (I, J)) else (K 4 [.ref 39, .ref 25, .int (x2 ||| (1 <<< (x3 &&& 31))), .int (x3 + 1)] [] (I, J)))) := rfl
set_option maxRecDepth 100000 in
set_option maxHeartbeats 4000000 in
theorem s_X8_wholeSeams_42_0 {α : Type} (O : Ora) (I : Nat → Nat → Int32) (J : Nat → Nat → Int64) (K : Nat → List Value → List Value → IJ → Option α) (rt : Option Value → IJ → Option α) :
  blkS O none 4 T0 C_X8_wholeSeams k_X8_wholeSeams K rt f_X8_wholeSeams 0 [.ref 42, .ref 25, un, un] [] (I, J) = K 4 [.ref 42, .ref 25, .int 0, .int 0] [] (I, J) := rfl
set_option maxRecDepth 100000 in
set_option maxHeartbeats 4000000 in
theorem s_X8_wholeSeams_42_4 {α : Type} (O : Ora) (I : Nat → Nat → Int32) (J : Nat → Nat → Int64) (K : Nat → List Value → List Value → IJ → Option α) (rt : Option Value → IJ → Option α) (x2 x3 : Int32) :
  blkS O none 4 T0 C_X8_wholeSeams k_X8_wholeSeams K rt f_X8_wholeSeams 4 [.ref 42, .ref 25, .int x2, .int x3] [] (I, J) = if (I 25 1) ≤ x3 then (rt (some (.int x2)) (I, J)) else (p_chk (p_in x3 10) (if (I 43 x3.toNatClampNeg) ≤ 0 then (K 4 [.ref 42, .ref 25, .int x2, .int (x3 + 1)] [] (I, J)) else (K 4 [.ref 42, .ref 25, .int (x2 ||| (1 <<< (x3 &&& 31))), .int (x3 + 1)] [] (I, J)))) := rfl
def C_X8_cartsOnRoad (pc : Nat) : Option PE := if pc < 34 then (if pc < 17 then (if pc < 5 then (if pc < 2 then (if pc < 1 then (if pc = 0 then some ((.iconst 0), 1, 0, 0, 0, []) else none) else (if pc = 1 then some ((.istore_n 2), 2, 0, 0, 0, []) else none)) else (if pc < 3 then (if pc = 2 then some ((.iconst 0), 3, 0, 0, 0, []) else none) else (if pc < 4 then (if pc = 3 then some ((.istore_n 3), 4, 0, 0, 0, []) else none) else (if pc = 4 then some ((.iload_n 3), 5, 0, 0, 0, []) else none)))) else (if pc < 12 then (if pc < 6 then (if pc = 5 then some ((.aload_n 1), 6, 0, 0, 0, []) else none) else (if pc < 9 then (if pc = 6 then some ((.getfield 41), 9, 3, 3, 0, []) else none) else (if pc = 9 then some ((.if_icmp .ge 23), 12, 32, 0, 0, []) else none))) else (if pc < 13 then (if pc = 12 then some ((.aload_n 0), 13, 0, 0, 0, []) else none) else (if pc < 14 then (if pc = 13 then some ((.iload_n 3), 14, 0, 0, 0, []) else none) else (if pc = 14 then some ((.invokevirtual 57), 17, 95, 2, 0, [1, 8]) else none))))) else (if pc < 24 then (if pc < 21 then (if pc < 20 then (if pc = 17 then some ((.ifCond .eq 9), 20, 26, 0, 0, []) else none) else (if pc = 20 then some ((.iload_n 2), 21, 0, 0, 0, []) else none)) else (if pc < 22 then (if pc = 21 then some ((.iconst 1), 22, 0, 0, 1, []) else none) else (if pc < 23 then (if pc = 22 then some ((.iload_n 3), 23, 0, 0, 0, []) else none) else (if pc = 23 then some (.ishl, 24, 0, 0, 0, []) else none)))) else (if pc < 29 then (if pc < 25 then (if pc = 24 then some (.ior, 25, 0, 0, 0, []) else none) else (if pc < 26 then (if pc = 25 then some ((.istore_n 2), 26, 0, 0, 0, []) else none) else (if pc = 26 then some ((.iinc 3 1), 29, 0, 0, 1, []) else none))) else (if pc < 32 then (if pc = 29 then some ((.goto (-25)), 32, 4, 0, 0, []) else none) else (if pc < 33 then (if pc = 32 then some ((.iload_n 2), 33, 0, 0, 0, []) else none) else (if pc = 33 then some (.ireturn, 34, 0, 0, 0, []) else none)))))) else none
set_option maxRecDepth 100000 in
theorem ck_X8_cartsOnRoad : ∀ pc E, C_X8_cartsOnRoad pc = some E → ckI 8 (mB 97) pc E = true := ck_tab (n := 34) (by decide +kernel) (fun pc h => by unfold C_X8_cartsOnRoad; rw [if_neg h])
def k_X8_cartsOnRoad (pc : Nat) : Option (List Bool) := if pc = 4 then some [true, true, true, true] else none
abbrev f_X8_cartsOnRoad : Nat := 16
set_option maxRecDepth 100000 in
set_option maxHeartbeats 4000000 in
theorem s_X8_cartsOnRoad_39_0 {α : Type} (O : Ora) (I : Nat → Nat → Int32) (J : Nat → Nat → Int64) (K : Nat → List Value → List Value → IJ → Option α) (rt : Option Value → IJ → Option α) :
  blkS O none 4 T0 C_X8_cartsOnRoad k_X8_cartsOnRoad K rt f_X8_cartsOnRoad 0 [.ref 39, .ref 25, un, un] [] (I, J) = K 4 [.ref 39, .ref 25, .int 0, .int 0] [] (I, J) := rfl
set_option maxRecDepth 100000 in
set_option maxHeartbeats 4000000 in
theorem s_X8_cartsOnRoad_39_4 {α : Type} (O : Ora) (I : Nat → Nat → Int32) (J : Nat → Nat → Int64) (K : Nat → List Value → List Value → IJ → Option α) (rt : Option Value → IJ → Option α) (x2 x3 : Int32) :
  blkS O none 4 T0 C_X8_cartsOnRoad k_X8_cartsOnRoad K rt f_X8_cartsOnRoad 4 [.ref 39, .ref 25, .int x2, .int x3] [] (I, J) = if (I 25 3) ≤ x3 then (rt (some (.int x2)) (I, J)) else (p_ci (O T0 95 [.ref 39, .int x3] (I, J)) (fun v2 z1 => if v2 = 0 then (K 4 [.ref 39, .ref 25, .int x2, .int (x3 + 1)] [] z1) else (K 4 [.ref 39, .ref 25, .int (x2 ||| (1 <<< (x3 &&& 31))), .int (x3 + 1)] [] z1))) := rfl
set_option maxRecDepth 100000 in
set_option maxHeartbeats 4000000 in
theorem s_X8_cartsOnRoad_42_0 {α : Type} (O : Ora) (I : Nat → Nat → Int32) (J : Nat → Nat → Int64) (K : Nat → List Value → List Value → IJ → Option α) (rt : Option Value → IJ → Option α) :
  blkS O none 4 T0 C_X8_cartsOnRoad k_X8_cartsOnRoad K rt f_X8_cartsOnRoad 0 [.ref 42, .ref 25, un, un] [] (I, J) = K 4 [.ref 42, .ref 25, .int 0, .int 0] [] (I, J) := rfl
set_option maxRecDepth 100000 in
set_option maxHeartbeats 4000000 in
theorem s_X8_cartsOnRoad_42_4 {α : Type} (O : Ora) (I : Nat → Nat → Int32) (J : Nat → Nat → Int64) (K : Nat → List Value → List Value → IJ → Option α) (rt : Option Value → IJ → Option α) (x2 x3 : Int32) :
  blkS O none 4 T0 C_X8_cartsOnRoad k_X8_cartsOnRoad K rt f_X8_cartsOnRoad 4 [.ref 42, .ref 25, .int x2, .int x3] [] (I, J) = if (I 25 3) ≤ x3 then (rt (some (.int x2)) (I, J)) else (p_ci (O T0 95 [.ref 42, .int x3] (I, J)) (fun v2 z1 => if v2 = 0 then (K 4 [.ref 42, .ref 25, .int x2, .int (x3 + 1)] [] z1) else (K 4 [.ref 42, .ref 25, .int (x2 ||| (1 <<< (x3 &&& 31))), .int (x3 + 1)] [] z1))) := rfl
def C_X8_sewnTogether (pc : Nat) : Option PE := if pc < 29 then (if pc < 13 then (if pc < 4 then (if pc < 2 then (if pc < 1 then (if pc = 0 then some ((.iconst 0), 1, 0, 0, 0, []) else none) else (if pc = 1 then some ((.istore_n 2), 2, 0, 0, 0, []) else none)) else (if pc < 3 then (if pc = 2 then some ((.iconst 0), 3, 0, 0, 0, []) else none) else (if pc = 3 then some ((.istore_n 3), 4, 0, 0, 0, []) else none))) else (if pc < 6 then (if pc < 5 then (if pc = 4 then some ((.iload_n 3), 5, 0, 0, 0, []) else none) else (if pc = 5 then some ((.aload_n 1), 6, 0, 0, 0, []) else none)) else (if pc < 9 then (if pc = 6 then some ((.getfield 54), 9, 3, 1, 0, []) else none) else (if pc < 12 then (if pc = 9 then some ((.if_icmp .ge 18), 12, 27, 0, 0, []) else none) else (if pc = 12 then some ((.iload_n 2), 13, 0, 0, 0, []) else none))))) else (if pc < 20 then (if pc < 17 then (if pc < 14 then (if pc = 13 then some ((.aload_n 0), 14, 0, 0, 0, []) else none) else (if pc = 14 then some ((.getfield 9), 17, 8, 2, 0, []) else none)) else (if pc < 18 then (if pc = 17 then some ((.iload_n 3), 18, 0, 0, 0, []) else none) else (if pc < 19 then (if pc = 18 then some (.iaload, 19, 0, 0, 0, []) else none) else (if pc = 19 then some (.iadd, 20, 0, 0, 0, []) else none)))) else (if pc < 24 then (if pc < 21 then (if pc = 20 then some ((.istore_n 2), 21, 0, 0, 0, []) else none) else (if pc = 21 then some ((.iinc 3 1), 24, 0, 0, 1, []) else none)) else (if pc < 27 then (if pc = 24 then some ((.goto (-20)), 27, 4, 0, 0, []) else none) else (if pc < 28 then (if pc = 27 then some ((.iload_n 2), 28, 0, 0, 0, []) else none) else (if pc = 28 then some (.ireturn, 29, 0, 0, 0, []) else none)))))) else none
set_option maxRecDepth 100000 in
theorem ck_X8_sewnTogether : ∀ pc E, C_X8_sewnTogether pc = some E → ckI 8 (mB 98) pc E = true := ck_tab (n := 29) (by decide +kernel) (fun pc h => by unfold C_X8_sewnTogether; rw [if_neg h])
def k_X8_sewnTogether (pc : Nat) : Option (List Bool) := if pc = 4 then some [true, true, true, true] else none
abbrev f_X8_sewnTogether : Nat := 13
set_option maxRecDepth 100000 in
set_option maxHeartbeats 4000000 in
theorem s_X8_sewnTogether_0 {α : Type} (O : Ora) (I : Nat → Nat → Int32) (J : Nat → Nat → Int64) (K : Nat → List Value → List Value → IJ → Option α) (rt : Option Value → IJ → Option α) :
  blkS O none 4 T0 C_X8_sewnTogether k_X8_sewnTogether K rt f_X8_sewnTogether 0 [.ref 39, .ref 25, un, un] [] (I, J) = K 4 [.ref 39, .ref 25, .int 0, .int 0] [] (I, J) := rfl
set_option maxRecDepth 100000 in
set_option maxHeartbeats 4000000 in
theorem s_X8_sewnTogether_4 {α : Type} (O : Ora) (I : Nat → Nat → Int32) (J : Nat → Nat → Int64) (K : Nat → List Value → List Value → IJ → Option α) (rt : Option Value → IJ → Option α) (x2 x3 : Int32) :
  blkS O none 4 T0 C_X8_sewnTogether k_X8_sewnTogether K rt f_X8_sewnTogether 4 [.ref 39, .ref 25, .int x2, .int x3] [] (I, J) = if (I 25 1) ≤ x3 then (rt (some (.int x2)) (I, J)) else (p_chk (p_in x3 10) (K 4 [.ref 39, .ref 25, .int (x2 + (I 40 x3.toNatClampNeg)), .int (x3 + 1)] [] (I, J))) := rfl
def C_X8_evenLevel (pc : Nat) : Option PE := if pc < 62 then (if pc < 30 then (if pc < 13 then (if pc < 7 then (if pc < 3 then (if pc < 2 then (if pc = 0 then some ((.bipush 99), 2, 0, 0, 99, []) else none) else (if pc = 2 then some ((.istore_n 3), 3, 0, 0, 0, []) else none)) else (if pc < 4 then (if pc = 3 then some ((.iload_n 3), 4, 0, 0, 0, []) else none) else (if pc = 4 then some ((.ifCond .le 56), 7, 60, 0, 0, []) else none))) else (if pc < 10 then (if pc < 8 then (if pc = 7 then some ((.iconst 0), 8, 0, 0, 0, []) else none) else (if pc = 8 then some ((.istore 4), 10, 0, 0, 0, []) else none)) else (if pc < 11 then (if pc = 10 then some ((.iconst 0), 11, 0, 0, 0, []) else none) else (if pc = 11 then some ((.istore 5), 13, 0, 0, 0, []) else none)))) else (if pc < 22 then (if pc < 16 then (if pc < 15 then (if pc = 13 then some ((.iload 5), 15, 0, 0, 0, []) else none) else (if pc = 15 then some ((.aload_n 1), 16, 0, 0, 0, []) else none)) else (if pc < 19 then (if pc = 16 then some ((.getfield 54), 19, 3, 1, 0, []) else none) else (if pc = 19 then some ((.if_icmp .ge 27), 22, 46, 0, 0, []) else none))) else (if pc < 25 then (if pc < 24 then (if pc = 22 then some ((.iload 4), 24, 0, 0, 0, []) else none) else (if pc = 24 then some ((.iconst 0), 25, 0, 0, 0, []) else none)) else (if pc < 26 then (if pc = 25 then some ((.iload_n 3), 26, 0, 0, 0, []) else none) else (if pc < 27 then (if pc = 26 then some ((.aload_n 0), 27, 0, 0, 0, []) else none) else (if pc = 27 then some ((.getfield 9), 30, 8, 2, 0, []) else none)))))) else (if pc < 46 then (if pc < 37 then (if pc < 33 then (if pc < 32 then (if pc = 30 then some ((.iload 5), 32, 0, 0, 0, []) else none) else (if pc = 32 then some (.iaload, 33, 0, 0, 0, []) else none)) else (if pc < 34 then (if pc = 33 then some (.isub, 34, 0, 0, 0, []) else none) else (if pc = 34 then some ((.invokestatic 61), 37, 9000, 0, 0, [1, 1]) else none))) else (if pc < 40 then (if pc < 38 then (if pc = 37 then some (.iadd, 38, 0, 0, 0, []) else none) else (if pc = 38 then some ((.istore 4), 40, 0, 0, 0, []) else none)) else (if pc < 43 then (if pc = 40 then some ((.iinc 5 1), 43, 0, 0, 1, []) else none) else (if pc = 43 then some ((.goto (-30)), 46, 13, 0, 0, []) else none)))) else (if pc < 53 then (if pc < 49 then (if pc < 48 then (if pc = 46 then some ((.iload 4), 48, 0, 0, 0, []) else none) else (if pc = 48 then some ((.iload_n 2), 49, 0, 0, 0, []) else none)) else (if pc < 52 then (if pc = 49 then some ((.if_icmp .gt 5), 52, 54, 0, 0, []) else none) else (if pc = 52 then some ((.iload_n 3), 53, 0, 0, 0, []) else none))) else (if pc < 57 then (if pc < 54 then (if pc = 53 then some (.ireturn, 54, 0, 0, 0, []) else none) else (if pc = 54 then some ((.iinc 3 (-1)), 57, 0, 0, (-1), []) else none)) else (if pc < 60 then (if pc = 57 then some ((.goto (-54)), 60, 3, 0, 0, []) else none) else (if pc < 61 then (if pc = 60 then some ((.iconst 0), 61, 0, 0, 0, []) else none) else (if pc = 61 then some (.ireturn, 62, 0, 0, 0, []) else none))))))) else none
set_option maxRecDepth 100000 in
theorem ck_X8_evenLevel : ∀ pc E, C_X8_evenLevel pc = some E → ckI 8 (mB 99) pc E = true := ck_tab (n := 62) (by decide +kernel) (fun pc h => by unfold C_X8_evenLevel; rw [if_neg h])
def k_X8_evenLevel (pc : Nat) : Option (List Bool) := if pc = 3 then some [true, true, true, true, false, false] else if pc = 13 then some [true, true, true, true, true, true] else none
abbrev f_X8_evenLevel : Nat := 17
set_option maxRecDepth 100000 in
set_option maxHeartbeats 4000000 in
theorem s_X8_evenLevel_0 {α : Type} (O : Ora) (I : Nat → Nat → Int32) (J : Nat → Nat → Int64) (K : Nat → List Value → List Value → IJ → Option α) (rt : Option Value → IJ → Option α) (a2 : Int32) :
  blkS O none 6 T0 C_X8_evenLevel k_X8_evenLevel K rt f_X8_evenLevel 0 [.ref 39, .ref 25, .int a2, un, un, un] [] (I, J) = K 3 [.ref 39, .ref 25, .int a2, .int 99, un, un] [] (I, J) := rfl
set_option maxRecDepth 100000 in
set_option maxHeartbeats 4000000 in
theorem s_X8_evenLevel_3 {α : Type} (O : Ora) (I : Nat → Nat → Int32) (J : Nat → Nat → Int64) (K : Nat → List Value → List Value → IJ → Option α) (rt : Option Value → IJ → Option α) (x2 x3 : Int32) :
  blkS O none 6 T0 C_X8_evenLevel k_X8_evenLevel K rt f_X8_evenLevel 3 [.ref 39, .ref 25, .int x2, .int x3, un, un] [] (I, J) = if x3 ≤ 0 then (rt (some (.int 0)) (I, J)) else (K 13 [.ref 39, .ref 25, .int x2, .int x3, .int 0, .int 0] [] (I, J)) := rfl
set_option maxRecDepth 100000 in
set_option maxHeartbeats 4000000 in
theorem s_X8_evenLevel_13 {α : Type} (O : Ora) (I : Nat → Nat → Int32) (J : Nat → Nat → Int64) (K : Nat → List Value → List Value → IJ → Option α) (rt : Option Value → IJ → Option α) (x2 x3 x4 x5 : Int32) :
  blkS O none 6 T0 C_X8_evenLevel k_X8_evenLevel K rt f_X8_evenLevel 13 [.ref 39, .ref 25, .int x2, .int x3, .int x4, .int x5] [] (I, J) = if (I 25 1) ≤ x5 then (if x2 < x4 then (K 3 [.ref 39, .ref 25, .int x2, .int (x3 + (-1)), un, un] [] (I, J)) else (rt (some (.int x3)) (I, J))) else (p_chk (p_in x5 10) (K 13 [.ref 39, .ref 25, .int x2, .int x3, .int (x4 + (if (0 : Int32) < (x3 - (I 40 x5.toNatClampNeg)) then (x3 - (I 40 x5.toNatClampNeg)) else 0)), .int (x5 + 1)] [] (I, J))) := rfl
