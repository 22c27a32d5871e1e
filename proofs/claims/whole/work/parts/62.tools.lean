/-! ===== Int32 by its bits: bt x i ===== -/
def bt (x : Int32) (i : Nat) : Bool := x.toBitVec.getLsbD i
theorem b_ext {x y : Int32} (h : ∀ i, i < 32 → bt x i = bt y i) : x = y := Int32.toBitVec_inj.mp (BitVec.eq_of_getLsbD_eq (fun i hi => h i hi))
theorem b_or (x y : Int32) (i : Nat) : bt (x ||| y) i = (bt x i || bt y i) := by unfold bt; rw [Int32.toBitVec_or, BitVec.getLsbD_or]
theorem b_and (x y : Int32) (i : Nat) : bt (x &&& y) i = (bt x i && bt y i) := by unfold bt; rw [Int32.toBitVec_and, BitVec.getLsbD_and]
theorem b_xor (x y : Int32) (i : Nat) : bt (x ^^^ y) i = (bt x i ^^ bt y i) := by unfold bt; rw [Int32.toBitVec_xor, BitVec.getLsbD_xor]
theorem b_big {x : Int32} {i : Nat} (h : 32 ≤ i) : bt x i = false := BitVec.getLsbD_of_ge _ _ h
theorem b_255 (i : Nat) : bt 255 i = decide (i < 8) := by
  rcases Nat.lt_or_ge i 32 with h | h
  · exact (by decide +kernel : ∀ i, i < 32 → bt 255 i = decide (i < 8)) i h
  · rw [b_big h, decide_eq_false (by omega)]
theorem b_65535 (i : Nat) : bt 65535 i = decide (i < 16) := by
  rcases Nat.lt_or_ge i 32 with h | h
  · exact (by decide +kernel : ∀ i, i < 32 → bt 65535 i = decide (i < 16)) i h
  · rw [b_big h, decide_eq_false (by omega)]
theorem b_m1 : ∀ i, i < 32 → bt (-1) i = true := by decide +kernel
theorem b_0 (i : Nat) : bt 0 i = false := BitVec.getLsbD_zero
theorem s_l : ∀ n, n < 32 → ((nI n &&& 31).toBitVec.smod 32).toNat = n := by decide +kernel
theorem s_u : ∀ n, n < 32 → (((nI n).toUInt32 &&& Int32.toUInt32 31).toBitVec % 32).toNat = n := by decide +kernel
theorem b_shl (n : Nat) (hn : n < 32) (x : Int32) {i : Nat} (hi : i < 32) : bt (x <<< (nI n &&& 31)) i = (decide (n ≤ i) && bt x (i - n)) := by
  unfold bt
  rw [Int32.toBitVec_shiftLeft]
  show (x.toBitVec <<< ((nI n &&& 31).toBitVec.smod 32).toNat).getLsbD i = _
  rw [s_l n hn, BitVec.getLsbD_shiftLeft]
  rcases Nat.lt_or_ge i n with h | h
  · simp [h, Nat.not_le.mpr h]
  · simp [hi, h, Nat.not_lt.mpr h]
theorem b_ushr (n : Nat) (hn : n < 32) (x : Int32) (i : Nat) : bt ((x.toUInt32 >>> ((nI n).toUInt32 &&& Int32.toUInt32 31)).toInt32) i = bt x (n + i) := by
  show (x.toUInt32 >>> ((nI n).toUInt32 &&& Int32.toUInt32 31)).toBitVec.getLsbD i = x.toUInt32.toBitVec.getLsbD (n + i)
  rw [UInt32.toBitVec_shiftRight]
  show (x.toUInt32.toBitVec >>> (((nI n).toUInt32 &&& Int32.toUInt32 31).toBitVec % 32).toNat).getLsbD i = _
  rw [s_u n hn, BitVec.getLsbD_ushiftRight]
theorem b_sshr (n : Nat) (hn : n < 32) (x : Int32) {i : Nat} (hi : i < 32) : bt (x >>> (nI n &&& 31)) i = if n + i < 32 then bt x (n + i) else bt x 31 := by
  unfold bt
  rw [Int32.toBitVec_shiftRight]
  show (x.toBitVec.sshiftRight ((nI n &&& 31).toBitVec.smod 32).toNat).getLsbD i = _
  rw [s_l n hn, BitVec.getLsbD_sshiftRight, BitVec.msb_eq_getLsbD_last]
  simp [hi]
theorem b_shl8 (x : Int32) {i : Nat} (hi : i < 32) : bt (x <<< ((8 : Int32) &&& 31)) i = (decide (8 ≤ i) && bt x (i - 8)) := b_shl 8 (by omega) x hi
/-! ===== tools: bits of sets, numbers in simp's form, what is kept ===== -/
theorem b_one {i : Nat} (hi : i < 32) (j : Nat) : bt (1 <<< (nI i &&& 31)) j = decide (i = j) := by
  rcases Nat.lt_or_ge j 32 with h | h
  · exact (by decide +kernel : ∀ i, i < 32 → ∀ j, j < 32 → bt (1 <<< (nI i &&& 31)) j = decide (i = j)) i hi j h
  · rw [b_big h, decide_eq_false (by omega)]
theorem b_1 (j : Nat) : bt 1 j = decide (0 = j) := b_one (i := 0) (by omega) j
theorem b_not (x : Int32) {j : Nat} (hj : j < 32) : bt (x ^^^ (-1)) j = !(bt x j) := by
  rw [b_xor, b_m1 j hj]
  cases bt x j <;> rfl
theorem bitOf_iff {w : Int32} {i : Nat} (hi : i < 32) : bitOf w (nI i) = 0 ↔ bt w i = false := by
  unfold bitOf
  constructor
  · intro h
    have h1 := congrArg (fun z => bt z i) h
    rw [b_and, b_one hi, b_0, decide_eq_true rfl, Bool.and_true] at h1
    exact h1
  · intro h
    apply b_ext
    intro j hj
    rw [b_and, b_one hi, b_0]
    by_cases e : i = j
    · subst e; rw [h]; rfl
    · rw [decide_eq_false e, Bool.and_false]
theorem bitOf_t {w : Int32} {i : Nat} (hi : i < 32) : (¬ bitOf w (nI i) = 0) ↔ bt w i = true := by
  rw [bitOf_iff hi]
  cases bt w i <;> simp
theorem shr1 (w : Int32) {a : Nat} (ha : a < 32) : (w >>> (nI a &&& 31)) &&& 1 = if bt w a then 1 else 0 := by
  apply b_ext
  intro j hj
  rw [b_and, b_1, b_sshr a ha w hj]
  by_cases e : 0 = j
  · subst e
    rw [decide_eq_true rfl, Bool.and_true, if_pos (by omega), Nat.add_zero]
    cases bt w a
    · rw [if_neg (by decide), b_0]
    · rw [if_pos rfl, b_1]; rfl
  · rw [decide_eq_false e, Bool.and_false]
    cases bt w a
    · rw [if_neg (by decide), b_0]
    · rw [if_pos rfl, b_1, decide_eq_false e]
theorem shr1_1 {w : Int32} {a : Nat} (ha : a < 32) : ((w >>> (nI a &&& 31)) &&& 1 = 1) = (bt w a = true) := by
  rw [shr1 w ha]
  cases bt w a <;> simp
theorem shr1_0 {w : Int32} {a : Nat} (ha : a < 32) : ((w >>> (nI a &&& 31)) &&& 1 = 0) = (bt w a = false) := by
  rw [shr1 w ha]
  cases bt w a <;> simp
theorem bt_set {p : Nat → Prop} [DecidablePred p] {j : Nat} : ∀ (k i : Nat) (w : Int32), i + k ≤ 32 → bt ((List.range' i k).foldl (setF p) w) j = (bt w j || decide (i ≤ j ∧ j < i + k ∧ p j)) := by
  intro k
  induction k with
  | zero =>
    intro i w _
    show bt w j = _
    rw [decide_eq_false (by omega), Bool.or_false]
  | succ k ih =>
    intro i w hi
    show bt ((List.range' (i + 1) k).foldl (setF p) (setF p w i)) j = _
    rw [ih (i + 1) _ (by omega)]
    unfold setF
    by_cases hp : p i
    · rw [if_pos hp, b_or, b_one (by omega)]
      by_cases e : i = j
      · subst e
        rw [decide_eq_true rfl, decide_eq_true (show i ≤ i ∧ i < i + (k + 1) ∧ p i from ⟨Nat.le_refl _, by omega, hp⟩)]
        simp
      · rw [decide_eq_false e, Bool.or_false]
        congr 1
        apply decide_eq_decide.mpr
        constructor
        · rintro ⟨h1, h2, h3⟩; exact ⟨by omega, by omega, h3⟩
        · rintro ⟨h1, h2, h3⟩; exact ⟨by omega, by omega, h3⟩
    · rw [if_neg hp]
      congr 1
      apply decide_eq_decide.mpr
      constructor
      · rintro ⟨h1, h2, h3⟩; exact ⟨by omega, by omega, h3⟩
      · rintro ⟨h1, h2, h3⟩
        refine ⟨?_, by omega, h3⟩
        rcases Nat.lt_or_ge i j with h | h
        · exact h
        · have e : i = j := by omega
          subst e; exact absurd h3 hp
theorem le_nI {a b : Nat} (ha : a < 2 ^ 31) (hb : b < 2 ^ 31) : (nI a ≤ nI b) = (a ≤ b) := propext (nI_leI ha hb)
theorem lt_nI {a b : Nat} (ha : a < 2 ^ 31) (hb : b < 2 ^ 31) : (nI a < nI b) = (a < b) := propext (nI_ltI ha hb)
theorem eq_nI {a b : Nat} (ha : a < 2 ^ 31) (hb : b < 2 ^ 31) : (nI a = nI b) = (a = b) := propext (nI_eq ha hb)
theorem chk_in {α : Type} {i n : Nat} {x : Option α} (h : i < n) (hn : n < 2 ^ 31) : p_chk (p_in (nI i) n) x = x := chk_t (p_in_nI h hn)
theorem clN {n : Nat} (h : n < 2 ^ 31) : (nI n).toNatClampNeg = n := nI_clamp h
/-- all cells but those of X are as they were -/
def kp (X : List Nat) (I I' : Nat → Nat → Int32) : Prop := ∀ k, k ∉ X → I' k = I k
theorem kp.rf {X : List Nat} {I : Nat → Nat → Int32} : kp X I I := fun _ _ => rfl
theorem kp.tr {X : List Nat} {I I' I'' : Nat → Nat → Int32} (h1 : kp X I I') (h2 : kp X I' I'') : kp X I I'' := fun k hk => (h2 k hk).trans (h1 k hk)
theorem kp.up {X Y : List Nat} {I I' : Nat → Nat → Int32} (h : kp X I I') (hs : ∀ k ∈ X, k ∈ Y) : kp Y I I' := fun k hk => h k (fun h9 => hk (hs k h9))
theorem kp.cs {X : List Nat} {I I' : Nat → Nat → Int32} {k : Nat} {f : Nat → Int32} (h : kp X I I') (hk : k ∈ X) : kp X I (cs I' k f) := fun a ha => (cs_ne (fun e : a = k => ha (by rw [e]; exact hk))).trans (h a ha)
theorem kp.wr {X : List Nat} {I I' : Nat → Nat → Int32} {k j : Nat} {x : Int32} (h : kp X I I') (hk : k ∈ X) : kp X I (p_wr I' k j x) := fun a ha => (wr_ne (fun e : a = k => ha (by rw [e]; exact hk))).trans (h a ha)
