/-! ===== the pure machine: a static part PT (how many cells, how many slots, the cells' kinds, their references), a moving part IJ (ints, longs) ===== -/
abbrev PT : Type := Nat × Nat × (Nat → Nat × Nat) × (Nat → Nat → Nat)
abbrev IJ : Type := (Nat → Nat → Int32) × (Nat → Nat → Int64)
/-- an instruction, where the next one stands, two numbers, a constant, numbers -/
abbrev PE : Type := Instr × Nat × Nat × Nat × Int32 × List Nat
abbrev Rs : Type := Option Value × IJ
abbrev Ora : Type := PT → Nat → List Value → IJ → Option Rs
abbrev PX : Type := Option (Nat × (Nat → Int32))
abbrev un : Value := .retAddr 0
def p_kd (T : PT) (k : Nat) : Nat × Nat := if k < T.1 ∧ (T.2.2.1 k).2 < 100000 then T.2.2.1 k else (999, 0)
def p_wr (I : Nat → Nat → Int32) (k j : Nat) (x : Int32) : Nat → Nat → Int32 := fun a => if a = k then upd (I a) j x else I a
def p_wrJ (J : Nat → Nat → Int64) (k j : Nat) (x : Int64) : Nat → Nat → Int64 := fun a => if a = k then vp_updL (J a) j x else J a
def p_cp (I : Nat → Nat → Int32) (k0 k1 sp dp n : Nat) : Nat → Nat → Int32 := fun a => if a = k1 then va_cpy (I k0) (I k1) sp dp n else I a
/-- a choice that the tables decide (it unfolds first), and one that is looked at (it stays) -/
abbrev p_bif {α : Type} (b : Bool) (x y : α) : α := match b with
  | true => x
  | false => y
def p_i1 (b : Bool) : Bool := b
def p_i2 (b : Bool) : Bool := p_i1 b
def p_i3 (b : Bool) : Bool := p_i2 b
def p_chk {α : Type} (b : Bool) (x : Option α) : Option α := p_bif (p_i3 b) x none
theorem p_bif_dec {α : Type} {c : Prop} [Decidable c] {x y : α} : p_bif (decide c) x y = if c then x else y := by
  by_cases h : c
  · simp [p_bif, h]
  · simp [p_bif, h]
theorem p_chk_ite {α : Type} {b : Bool} {x : Option α} : p_chk b x = if b = true then x else none := by cases b <;> rfl
def p_in (i : Int32) (n : Nat) : Bool := Nat.blt i.toUInt32.toNat n
def p_nz (y : Int32) : Bool := !(Nat.beq y.toUInt32.toNat 0)
def p_01 (y : Int32) : Bool := Nat.blt y.toUInt32.toNat 2
/-- storing a value of one slot, of two -/
def p_clr (L : List Value) (i : Nat) : List Value := match i with
  | 0 => L
  | j + 1 => match L[j]? with
    | some v => if v.category = 2 then L.set j un else L
    | none => L
def p_st1 (L : List Value) (i : Nat) (v : Value) : List Value := (p_clr L i).set i v
def p_st2 (L : List Value) (i : Nat) (v : Value) : List Value := ((p_clr L i).set (i + 1) un).set i v
def p_msk (mk : List Bool) (L : List Value) : List Value := List.zipWith (fun b v => if b then v else un) mk L
def p_sw {α : Type} (k : Nat → α) (d : Nat) (x : Int32) : Nat → List Nat → α
  | _, [] => k d
  | n, t :: ts => if x = nI n then k t else p_sw k d x (n + 1) ts
def p_cv {α : Type} (o : Option Rs) (k : IJ → Option α) : Option α := match o with
  | some (none, ij) => k ij
  | _ => none
def p_ci {α : Type} (o : Option Rs) (k : Int32 → IJ → Option α) : Option α := match o with
  | some (some (.int v), ij) => k v ij
  | _ => none
def p_cl {α : Type} (o : Option Rs) (k : Int64 → IJ → Option α) : Option α := match o with
  | some (some (.long v), ij) => k v ij
  | _ => none
def p_out {α : Type} (k : List Value → IJ → Option α) (rk : Nat) (o : Option Rs) (rest : List Value) : Option α := match rk with
  | 0 => p_cv o (fun ij => k rest ij)
  | 1 => p_ci o (fun v ij => k (.int v :: rest) ij)
  | _ => p_cl o (fun v ij => k (.long v :: rest) ij)
def p_words (st : List Value) : Nat := (st.map fun v => v.category).sum
def p_b1 {α : Type} (st : List Value) (f : Int32 → Value) (k : List Value → Option α) : Option α := match st with
  | .int x :: r => k (f x :: r)
  | _ => none
def p_b2 {α : Type} (st : List Value) (f : Int32 → Int32 → Value) (k : List Value → Option α) : Option α := match st with
  | .int y :: .int x :: r => k (f x y :: r)
  | _ => none
def p_l1 {α : Type} (st : List Value) (f : Int64 → Value) (k : List Value → Option α) : Option α := match st with
  | .long x :: r => k (f x :: r)
  | _ => none
def p_l2 {α : Type} (st : List Value) (f : Int64 → Int64 → Value) (k : List Value → Option α) : Option α := match st with
  | .long y :: .long x :: r => k (f x y :: r)
  | _ => none
def p_ldi {α : Type} (L : List Value) (i : Nat) (st : List Value) (k : List Value → Option α) : Option α := match L[i]? with
  | some (.int x) => k (.int x :: st)
  | _ => none
def p_ldl {α : Type} (L : List Value) (i : Nat) (st : List Value) (k : List Value → Option α) : Option α := match L[i]? with
  | some (.long x) => k (.long x :: st)
  | _ => none
def p_lda {α : Type} (L : List Value) (i : Nat) (st : List Value) (k : List Value → Option α) : Option α := match L[i]? with
  | some (.ref x) => k (.ref x :: st)
  | _ => none
def p_sti {α : Type} (L : List Value) (i : Nat) (st : List Value) (k : List Value → List Value → Option α) : Option α := match st with
  | .int x :: r => p_bif (decide (i < L.length)) (k (p_st1 L i (.int x)) r) none
  | _ => none
def p_sta {α : Type} (L : List Value) (i : Nat) (st : List Value) (k : List Value → List Value → Option α) : Option α := match st with
  | .ref x :: r => p_bif (decide (i < L.length)) (k (p_st1 L i (.ref x)) r) none
  | _ => none
def p_stl {α : Type} (L : List Value) (i : Nat) (st : List Value) (k : List Value → List Value → Option α) : Option α := match st with
  | .long x :: r => p_bif (decide (i + 1 < L.length)) (k (p_st2 L i (.long x)) r) none
  | _ => none
def p_inc {α : Type} (L : List Value) (i : Nat) (v : Int32) (k : List Value → Option α) : Option α := match L[i]? with
  | some (.int x) => k (p_st1 L i (.int (x + v)))
  | _ => none
def p_br1 {α : Type} (cd : ClassFile.Cond) (x : Int32) (kt kf : Option α) : Option α := match cd with
  | .eq => if x = 0 then kt else kf
  | .ne => if x = 0 then kf else kt
  | .lt => if x < 0 then kt else kf
  | .ge => if 0 ≤ x then kt else kf
  | .gt => if 0 < x then kt else kf
  | .le => if x ≤ 0 then kt else kf
def p_br2 {α : Type} (cd : ClassFile.Cond) (x y : Int32) (kt kf : Option α) : Option α := match cd with
  | .eq => if x = y then kt else kf
  | .ne => if x = y then kf else kt
  | .lt => if x < y then kt else kf
  | .ge => if y ≤ x then kt else kf
  | .gt => if y < x then kt else kf
  | .le => if x ≤ y then kt else kf
def p_if1 {α : Type} (cd : ClassFile.Cond) (st : List Value) (kt kf : List Value → Option α) : Option α := match st with
  | .int x :: r => p_br1 cd x (kt r) (kf r)
  | _ => none
def p_if2 {α : Type} (cd : ClassFile.Cond) (st : List Value) (kt kf : List Value → Option α) : Option α := match st with
  | .int y :: .int x :: r => p_br2 cd x y (kt r) (kf r)
  | _ => none
def p_ald {α : Type} (X : PX) (T : PT) (ij : IJ) (st : List Value) (k : List Value → Option α) : Option α := match st with
  | .int i :: .ref q :: r =>
    p_bif (decide (q = 100000)) ((match X with
      | some X => p_chk (p_in i X.1) (k (.int (X.2 i.toNatClampNeg) :: r))
      | none => none)) (p_bif (decide ((p_kd T q).1 = 100)) ((p_chk (p_in i (p_kd T q).2) (k (.int (ij.1 q i.toNatClampNeg) :: r)))) none)
  | _ => none
def p_bld {α : Type} (T : PT) (ij : IJ) (st : List Value) (k : List Value → Option α) : Option α := match st with
  | .int i :: .ref q :: r => p_bif (decide ((p_kd T q).1 = 101 ∨ (p_kd T q).1 = 102)) ((p_chk (p_in i (p_kd T q).2) (k (.int (ij.1 q i.toNatClampNeg) :: r)))) none
  | _ => none
def p_lld {α : Type} (T : PT) (ij : IJ) (st : List Value) (k : List Value → Option α) : Option α := match st with
  | .int i :: .ref q :: r => p_bif (decide ((p_kd T q).1 = 103)) ((p_chk (p_in i (p_kd T q).2) (k (.long (ij.2 q i.toNatClampNeg) :: r)))) none
  | _ => none
def p_rf {α : Type} (t : Nat) (k : Nat → Option α) : Option α := match t with
  | 0 => none
  | t + 1 => k t
def p_qld {α : Type} (T : PT) (st : List Value) (k : List Value → Option α) : Option α := match st with
  | .int i :: .ref q :: r => p_bif (decide ((p_kd T q).1 = 104)) (p_chk (p_in i (p_kd T q).2) (p_rf (T.2.2.2 q i.toNatClampNeg) (fun t => k (.ref t :: r)))) none
  | _ => none
def p_ast {α : Type} (T : PT) (ij : IJ) (st : List Value) (k : List Value → IJ → Option α) : Option α := match st with
  | .int x :: .int i :: .ref q :: r => p_bif (decide ((p_kd T q).1 = 100)) ((p_chk (p_in i (p_kd T q).2) (k r (p_wr ij.1 q i.toNatClampNeg x, ij.2)))) none
  | _ => none
def p_bst {α : Type} (T : PT) (ij : IJ) (st : List Value) (k : List Value → IJ → Option α) : Option α := match st with
  | .int x :: .int i :: .ref q :: r =>
    p_bif (decide ((p_kd T q).1 = 101)) ((p_chk (p_in i (p_kd T q).2) (k r (p_wr ij.1 q i.toNatClampNeg (vp_nar .byte x), ij.2)))) (p_bif (decide ((p_kd T q).1 = 102)) ((p_chk (p_in i (p_kd T q).2) (k r (p_wr ij.1 q i.toNatClampNeg (vp_nar .boolean x), ij.2)))) none)
  | _ => none
def p_lst {α : Type} (T : PT) (ij : IJ) (st : List Value) (k : List Value → IJ → Option α) : Option α := match st with
  | .long x :: .int i :: .ref q :: r => p_bif (decide ((p_kd T q).1 = 103)) ((p_chk (p_in i (p_kd T q).2) (k r (ij.1, p_wrJ ij.2 q i.toNatClampNeg x)))) none
  | _ => none
def p_len {α : Type} (X : PX) (T : PT) (st : List Value) (k : List Value → Option α) : Option α := match st with
  | .ref q :: r =>
    p_bif (decide (q = 100000)) ((match X with
      | some X => k (.int (Int32.ofNat X.1) :: r)
      | none => none)) (p_bif (decide (100 ≤ (p_kd T q).1 ∧ (p_kd T q).1 ≤ 103)) (k (.int (Int32.ofNat (p_kd T q).2) :: r)) none)
  | _ => none
def p_get {α : Type} (T : PT) (ij : IJ) (a b : Nat) (st : List Value) (k : List Value → Option α) : Option α := match st with
  | .ref q :: r => p_bif (decide ((p_kd T q).1 = a)) ((p_bif (decide (b < (p_kd T q).2)) ((p_bif (decide (p_fk a b = 2)) ((match T.2.2.2 q b with
      | 0 => none
      | t + 1 => k (.ref t :: r))) (k (.int (ij.1 q b) :: r)))) none)) none
  | _ => none
def p_put {α : Type} (T : PT) (ij : IJ) (a b : Nat) (st : List Value) (k : List Value → IJ → Option α) : Option α := match st with
  | .int x :: .ref q :: r => p_bif (decide ((p_kd T q).1 = a)) ((p_bif (decide (b < (p_kd T q).2)) ((match p_fk a b with
      | 0 => k r (p_wr ij.1 q b x, ij.2)
      | 1 => p_chk (p_01 x) (k r (p_wr ij.1 q b x, ij.2))
      | _ => none)) none)) none
  | _ => none
def p_acp {α : Type} (T : PT) (ij : IJ) (st : List Value) (k : List Value → IJ → Option α) : Option α := match st with
  | .int n :: .int dp :: .ref q1 :: .int sp :: .ref q0 :: r =>
    p_bif (decide ((p_kd T q0).1 = 100)) ((p_bif (decide ((p_kd T q1).1 = 100)) ((p_bif (decide (0 ≤ sp ∧ 0 ≤ dp ∧ 0 ≤ n ∧ sp.toNatClampNeg + n.toNatClampNeg ≤ (p_kd T q0).2 ∧ dp.toNatClampNeg + n.toNatClampNeg ≤ (p_kd T q1).2 ∧ p_words r ≤ 8
     )) (k r (p_cp ij.1 q0 q1 sp.toNatClampNeg dp.toNatClampNeg n.toNatClampNeg, ij.2)) none)) none)) none
  | _ => none
def p_call {α : Type} (O : Ora) (T : PT) (ij : IJ) (a b rk : Nat) (st : List Value) (k : List Value → IJ → Option α) : Option α :=
  p_bif (decide (b ≤ st.length)) ((p_bif (decide (p_words (st.drop b) ≤ 8)) (p_out k rk (O T a (st.take b).reverse ij) (st.drop b)) none)) none
def p_inv {α : Type} (O : Ora) (T : PT) (ij : IJ) (a b : Nat) (ts : List Nat) (st : List Value) (k : List Value → IJ → Option α) : Option α := match ts with
  | [rk] => p_call O T ij a b rk st k
  | [_, 1] => p_bif (decide (p_words st ≤ 8)) (p_b2 st (fun x y => .int (if x < y then y else x)) (fun st => k st ij)) none
  | [_, 2] => p_bif (decide (p_words st ≤ 8)) (p_b2 st (fun x y => .int (if y < x then y else x)) (fun st => k st ij)) none
  | [_, 3] => p_acp T ij st k
  | _ => none
/-- the JDK's methods on the two literals: length of the first, a char of it, where a char stands in the second -/
def p_str {α : Type} (w : Nat) (st : List Value) (k : List Value → Option α) : Option α := match w with
  | 1 => (match st with
    | .ref q :: r => p_bif (decide (q = 100001 ∧ p_words r ≤ 8)) (k (.int 128 :: r)) none
    | _ => none)
  | 2 => (match st with
    | .int i :: .ref q :: r => p_bif (decide (q = 100001 ∧ p_words r ≤ 8)) (p_chk (p_in i 128) (k (.int (kch i.toNatClampNeg) :: r))) none
    | _ => none)
  | _ => (match st with
    | .int x :: .ref q :: r => p_bif (decide (q = 100003 ∧ p_words r ≤ 8)) (k (.int (kix x) :: r)) none
    | _ => none)
/-- a call of an object's method: its class is cn -/
def p_inw {α : Type} (O : Ora) (T : PT) (ij : IJ) (a b : Nat) (ts : List Nat) (st : List Value) (k : List Value → IJ → Option α) : Option α := match ts with
  | [rk, cn] => (match (st.take b).reverse with
    | .ref q :: _ => p_bif (decide ((p_kd T q).1 = cn)) (p_call O T ij a b rk st k) none
    | _ => none)
  | [_, _, w] => p_str w st (fun st => k st ij)
  | _ => none
/-- one step of the pure machine, in a static world; k goes on, rt ends -/
def stpS {α : Type} (O : Ora) (X : PX) (nL : Nat) (T : PT) (e : PE) (L st : List Value) (ij : IJ) (k : Nat → List Value → List Value → IJ → Option α) (rt : Option Value → IJ → Option α) : Option α := match e.1 with
  | .iconst _ => k e.2.1 L (.int e.2.2.2.2.1 :: st) ij
  | .bipush _ => k e.2.1 L (.int e.2.2.2.2.1 :: st) ij
  | .sipush _ => k e.2.1 L (.int e.2.2.2.2.1 :: st) ij
  | .ldc _ => (match e.2.2.2.2.2 with
    | [] => k e.2.1 L (.int e.2.2.2.2.1 :: st) ij
    | q :: _ => k e.2.1 L (.ref q :: st) ij)
  | .ldc_w _ => k e.2.1 L (.int e.2.2.2.2.1 :: st) ij
  | .lconst _ => k e.2.1 L (.long (Int64.ofNat e.2.2.1) :: st) ij
  | .ldc2_w _ => k e.2.1 L (.long (Int64.ofNat e.2.2.1) :: st) ij
  | .iload i => p_ldi L i st (fun st => k e.2.1 L st ij)
  | .iload_n i => p_ldi L i st (fun st => k e.2.1 L st ij)
  | .lload i => p_ldl L i st (fun st => k e.2.1 L st ij)
  | .lload_n i => p_ldl L i st (fun st => k e.2.1 L st ij)
  | .aload i => p_lda L i st (fun st => k e.2.1 L st ij)
  | .aload_n i => p_lda L i st (fun st => k e.2.1 L st ij)
  | .istore i => p_sti L i st (fun L st => k e.2.1 L st ij)
  | .istore_n i => p_sti L i st (fun L st => k e.2.1 L st ij)
  | .lstore i => p_stl L i st (fun L st => k e.2.1 L st ij)
  | .lstore_n i => p_stl L i st (fun L st => k e.2.1 L st ij)
  | .astore i => p_sta L i st (fun L st => k e.2.1 L st ij)
  | .astore_n i => p_sta L i st (fun L st => k e.2.1 L st ij)
  | .iinc i _ => p_inc L i e.2.2.2.2.1 (fun L => k e.2.1 L st ij)
  | .iadd => p_b2 st (fun x y => .int (x + y)) (fun st => k e.2.1 L st ij)
  | .isub => p_b2 st (fun x y => .int (x - y)) (fun st => k e.2.1 L st ij)
  | .imul => p_b2 st (fun x y => .int (x * y)) (fun st => k e.2.1 L st ij)
  | .iand => p_b2 st (fun x y => .int (x &&& y)) (fun st => k e.2.1 L st ij)
  | .ior => p_b2 st (fun x y => .int (x ||| y)) (fun st => k e.2.1 L st ij)
  | .ixor => p_b2 st (fun x y => .int (x ^^^ y)) (fun st => k e.2.1 L st ij)
  | .ishl => p_b2 st (fun x y => .int (x <<< (y &&& 31))) (fun st => k e.2.1 L st ij)
  | .ishr => p_b2 st (fun x y => .int (x >>> (y &&& 31))) (fun st => k e.2.1 L st ij)
  | .iushr => p_b2 st (fun x y => .int (x.toUInt32 >>> (y.toUInt32 &&& Int32.toUInt32 31)).toInt32) (fun st => k e.2.1 L st ij)
  | .idiv => (match st with
    | .int y :: .int x :: r => p_chk (p_nz y) (k e.2.1 L (.int (x / y) :: r) ij)
    | _ => none)
  | .irem => (match st with
    | .int y :: .int x :: r => p_chk (p_nz y) (k e.2.1 L (.int (x - x / y * y) :: r) ij)
    | _ => none)
  | .ineg => p_b1 st (fun x => .int (-x)) (fun st => k e.2.1 L st ij)
  | .i2l => p_b1 st (fun x => .long x.toInt64) (fun st => k e.2.1 L st ij)
  | .i2b => p_b1 st (fun x => .int x.toInt8.toInt32) (fun st => k e.2.1 L st ij)
  | .i2c => p_b1 st (fun x => .int (x.toUInt32 % 65536).toInt32) (fun st => k e.2.1 L st ij)
  | .l2i => p_l1 st (fun x => .int x.toInt32) (fun st => k e.2.1 L st ij)
  | .ladd => p_l2 st (fun x y => .long (x + y)) (fun st => k e.2.1 L st ij)
  | .lsub => p_l2 st (fun x y => .long (x - y)) (fun st => k e.2.1 L st ij)
  | .lmul => p_l2 st (fun x y => .long (x * y)) (fun st => k e.2.1 L st ij)
  | .lcmp => p_l2 st (fun x y => .int (lg_cmp x y)) (fun st => k e.2.1 L st ij)
  | .dup => (match st with
    | v :: r => p_bif (decide (v.category = 1)) (k e.2.1 L (v :: v :: r) ij) none
    | _ => none)
  | .dup2 => (match st with
    | v :: w :: r => p_bif (decide (v.category = 1)) (p_bif (decide (w.category = 1)) (k e.2.1 L (v :: w :: v :: w :: r) ij) none) none
    | _ => none)
  | .pop => (match st with
    | v :: r => p_bif (decide (v.category = 1)) (k e.2.1 L r ij) none
    | _ => none)
  | .ifCond cd _ => p_if1 cd st (fun st => k e.2.2.1 L st ij) (fun st => k e.2.1 L st ij)
  | .if_icmp cd _ => p_if2 cd st (fun st => k e.2.2.1 L st ij) (fun st => k e.2.1 L st ij)
  | .goto _ => k e.2.2.1 L st ij
  | .tableswitch _ _ _ _ => (match st with
    | .int x :: r => p_sw (fun t => k t L r ij) e.2.2.1 x e.2.2.2.1 e.2.2.2.2.2
    | _ => none)
  | .iaload => p_ald X T ij st (fun st => k e.2.1 L st ij)
  | .baload => p_bld T ij st (fun st => k e.2.1 L st ij)
  | .laload => p_lld T ij st (fun st => k e.2.1 L st ij)
  | .aaload => p_qld T st (fun st => k e.2.1 L st ij)
  | .iastore => p_ast T ij st (fun st ij => k e.2.1 L st ij)
  | .bastore => p_bst T ij st (fun st ij => k e.2.1 L st ij)
  | .lastore => p_lst T ij st (fun st ij => k e.2.1 L st ij)
  | .arraylength => p_len X T st (fun st => k e.2.1 L st ij)
  | .getfield _ => p_get T ij e.2.2.1 e.2.2.2.1 st (fun st => k e.2.1 L st ij)
  | .putfield _ => p_put T ij e.2.2.1 e.2.2.2.1 st (fun st ij => k e.2.1 L st ij)
  | .invokevirtual _ => p_bif (decide (L.length = nL)) (p_inw O T ij e.2.2.1 e.2.2.2.1 e.2.2.2.2.2 st (fun st ij => k e.2.1 L st ij)) none
  | .invokestatic _ => p_bif (decide (L.length = nL)) (p_inv O T ij e.2.2.1 e.2.2.2.1 e.2.2.2.2.2 st (fun st ij => k e.2.1 L st ij)) none
  | .ireturn => (match st with
    | [.int v] => rt (some (.int v)) ij
    | _ => none)
  | .lreturn => (match st with
    | [.long v] => rt (some (.long v)) ij
    | _ => none)
  | .return_ => (match st with
    | [] => rt none ij
    | _ => none)
  | _ => none
/-- from a place to the next cuts: K goes on there -/
def blkS {α : Type} (O : Ora) (X : PX) (nL : Nat) (T : PT) (C : Nat → Option PE) (cuts : Nat → Option (List Bool)) (K : Nat → List Value → List Value → IJ → Option α) (rt : Option Value → IJ → Option α) (n : Nat) : Nat → List Value → List Value → IJ → Option α :=
  Nat.rec (fun _ _ _ _ => none) (fun _ ih pc L st ij => match C pc with
    | none => none
    | some e => stpS O X nL T e L st ij (fun pc L st ij => match cuts pc with
      | some km => p_bif (decide (km.length = L.length)) (K pc (p_msk km L) st ij) none
      | none => ih pc L st ij) rt) n
/-- n cuts at most -/
def runS {α : Type} (O : Ora) (X : PX) (nL : Nat) (T : PT) (C : Nat → Option PE) (cuts : Nat → Option (List Bool)) (rt : Option Value → IJ → Option α) (f n : Nat) : Nat → List Value → List Value → IJ → Option α :=
  Nat.rec (fun _ _ _ _ => none) (fun _ ih => blkS O X nL T C cuts ih rt f) n
