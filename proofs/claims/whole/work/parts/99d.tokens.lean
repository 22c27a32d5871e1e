/-! ===== read: tokens (class) ===== -/
theorem p_cl_s {α : Type} {v : Int64} {ij : IJ} {k : Int64 → IJ → Option α} : p_cl (some (some (.long v), ij)) k = k v ij := rfl
/-- the words, as both sides number them -/
def kyL : List Int64 := [405230, 377662, 12527906, 60284, 1903978, 12322792, 6501869857, 404931, 291587638, 3554408, 377761, 249, 399641, 107681, 175125302, 378257, 456500, 95969041, 43947175, 12387257, 247162, 10364, 454132]
def kyW (i : Nat) : Int64 := kyL.getD i 0
theorem kyW_i : ∀ i, i < 23 → ∀ j, j < 23 → kyW i = kyW j → i = j := by decide +kernel
/-- a token: its kind (the class's number), its place, its number, its name -/
abbrev TK : Type := Nat × Nat × Nat × Int64
def isL (m : Nat) : Bool := decide (97 ≤ m ∧ m ≤ 122)
def isD (m : Nat) : Bool := decide (48 ≤ m ∧ m ≤ 57)
def isB (m : Nat) : Bool := decide (m = 9 ∨ m = 10 ∨ m = 13 ∨ m = 32)
def isG (m : Nat) : Bool := decide (m = 59 ∨ m = 61 ∨ m = 43 ∨ m = 45 ∨ m = 42 ∨ m = 47 ∨ m = 60 ∨ m = 40 ∨ m = 41)
def adL (v : Int64) (m : Nat) : Int64 := (v * (Int64.ofNat 27)) + (((nI m - 97) + 1).toInt64)
def ltF (b : Nat → Nat) (n : Nat) : Nat → Nat → Int64 → Nat × Int64
  | 0, p, v => (p, v)
  | k + 1, p, v => if isL (b p) = true then ltF b n k (p + 1) (adL v (b p)) else (p, v)
def dgF (b : Nat → Nat) (n : Nat) : Nat → Nat → Nat → Nat × Nat
  | 0, p, v => (p, v)
  | k + 1, p, v => if isD (b p) = true then dgF b n k (p + 1) (10 * v + (b p - 48)) else (p, v)
def blF (b : Nat → Nat) (n : Nat) : Nat → Nat → Nat
  | 0, p => p
  | k + 1, p => if isB (b p) = true then blF b n k (p + 1) else p
def srF (v : Int64) : Nat → Nat → Nat
  | 0, _ => 2
  | k + 1, i => if kyW i = v then 256 + i else srF v k (i + 1)
/-- one token from place p on, and where the next one may begin -/
def sc1 (b : Nat → Nat) (n p : Nat) : TK × Nat :=
  if n ≤ p then ((0, p, 0, 0), p + 1)
  else if isL (b p) = true then ((if (ltF b n (n - p) p 0).1 - p ≤ 8 then srF (ltF b n (n - p) p 0).2 23 0 else 1, p, 0, (ltF b n (n - p) p 0).2), (ltF b n (n - p) p 0).1)
  else if isD (b p) = true then ((if (dgF b n (n - p) p 0).1 - p ≤ 4 then 3 else 1, p, (dgF b n (n - p) p 0).2, 0), (dgF b n (n - p) p 0).1)
  else ((if isG (b p) = true then b p else 1, p, 0, 0), p + 1)
section RI
variable {I : Nat → Nat → Int32} {J : Nat → Nat → Int64} {d : Nat} {b : Nat → Nat} {n : Nat}
/-- the text on the class's tape -/
def TB (I : Nat → Nat → Int32) (n : Nat) (b : Nat → Nat) : Prop := I 1 1 = nI n ∧ n ≤ 2000 ∧ ∀ j, j < n → I 2 j &&& 255 = nI (b j) ∧ b j < 256
theorem TB.kp {I' : Nat → Nat → Int32} {X : List Nat} (h : TB I n b) (hk : kp X I I') (hX : 1 ∉ X ∧ 2 ∉ X) : TB I' n b := by
  unfold TB; rw [hk 1 hX.1, hk 2 hX.2]; exact h
theorem q_byte (hd : 1 ≤ d) (h : TB I n b) {p : Nat} (hp : p < n) : EV d T0 103 [.ref 1, .int (nI p)] (I, J) = some (some (.int (nI (b p))), (I, J)) := by
  obtain ⟨d, rfl⟩ : ∃ z, d = z + 1 := ⟨d - 1, by omega⟩
  obtain ⟨h1, h2, h3⟩ := h
  rw [e_X9_byteAt, runS_M, s_X9_byteAt_0, if_neg (show ¬ nI p < (0 : Int32) from nI_nlt (b := 0) (by omega) (by omega)), h1, if_neg (nI_ge (by omega) (by omega)), chk_in (by omega) (by omega), nI_clamp (by omega), (h3 p hp).1]
  rfl
theorem q_byteE (hd : 1 ≤ d) (h : TB I n b) {p : Nat} (hp : n ≤ p) (hp2 : p < 5000) : EV d T0 103 [.ref 1, .int (nI p)] (I, J) = some (some (.int (-1)), (I, J)) := by
  obtain ⟨d, rfl⟩ : ∃ z, d = z + 1 := ⟨d - 1, by omega⟩
  obtain ⟨h1, h2, h3⟩ := h
  rw [e_X9_byteAt, runS_M, s_X9_byteAt_0, if_neg (show ¬ nI p < (0 : Int32) from nI_nlt (b := 0) (by omega) (by omega)), h1, if_pos (nI_le (by omega) (by omega))]
  rfl
theorem q_isL (hd : 1 ≤ d) {m : Nat} (hm : m < 256) (ij : IJ) : EV d T0 117 [.int (nI m)] ij = some (some (.int (zI (isL m = true))), ij) := by
  obtain ⟨d, rfl⟩ : ∃ z, d = z + 1 := ⟨d - 1, by omega⟩
  obtain ⟨I, J⟩ := ij
  rw [e_X10_isLetter, runS_M, s_X10_isLetter_0]
  simp only [show (nI m < (97 : Int32)) = (m < 97) from lt_nI (b := 97) (by omega) (by omega), show ((122 : Int32) < nI m) = (122 < m) from lt_nI (a := 122) (by omega) (by omega)]
  by_cases c : m < 97
  · rw [if_pos c, zI_f (fun h9 => by have := of_decide_eq_true h9; omega)]; rfl
  · rw [if_neg c]
    by_cases c2 : 122 < m
    · rw [if_pos c2, zI_f (fun h9 => by have := of_decide_eq_true h9; omega)]; rfl
    · rw [if_neg c2, zI_t (show isL m = true from decide_eq_true ⟨by omega, by omega⟩)]; rfl
theorem q_isLE (hd : 1 ≤ d) (ij : IJ) : EV d T0 117 [.int (-1)] ij = some (some (.int 0), ij) := by
  obtain ⟨d, rfl⟩ : ∃ z, d = z + 1 := ⟨d - 1, by omega⟩
  obtain ⟨I, J⟩ := ij
  rw [e_X10_isLetter, runS_M, s_X10_isLetter_0, if_pos (by decide)]; rfl
theorem q_isDE (hd : 1 ≤ d) (ij : IJ) : EV d T0 118 [.int (-1)] ij = some (some (.int 0), ij) := by
  obtain ⟨d, rfl⟩ : ∃ z, d = z + 1 := ⟨d - 1, by omega⟩
  obtain ⟨I, J⟩ := ij
  rw [e_X10_isDigit, runS_M, s_X10_isDigit_0, if_pos (by decide)]; rfl
theorem q_isD (hd : 1 ≤ d) {m : Nat} (hm : m < 256) (ij : IJ) : EV d T0 118 [.int (nI m)] ij = some (some (.int (zI (isD m = true))), ij) := by
  obtain ⟨d, rfl⟩ : ∃ z, d = z + 1 := ⟨d - 1, by omega⟩
  obtain ⟨I, J⟩ := ij
  rw [e_X10_isDigit, runS_M, s_X10_isDigit_0]
  simp only [show (nI m < (48 : Int32)) = (m < 48) from lt_nI (b := 48) (by omega) (by omega), show ((57 : Int32) < nI m) = (57 < m) from lt_nI (a := 57) (by omega) (by omega)]
  by_cases c : m < 48
  · rw [if_pos c, zI_f (fun h9 => by have := of_decide_eq_true h9; omega)]; rfl
  · rw [if_neg c]
    by_cases c2 : 57 < m
    · rw [if_pos c2, zI_f (fun h9 => by have := of_decide_eq_true h9; omega)]; rfl
    · rw [if_neg c2, zI_t (show isD m = true from decide_eq_true ⟨by omega, by omega⟩)]; rfl
theorem q_isB (hd : 1 ≤ d) {m : Nat} (hm : m < 256) (ij : IJ) : EV d T0 116 [.int (nI m)] ij = some (some (.int (zI (isB m = true))), ij) := by
  obtain ⟨d, rfl⟩ : ∃ z, d = z + 1 := ⟨d - 1, by omega⟩
  obtain ⟨I, J⟩ := ij
  rw [e_X10_isBlank, runS_M, s_X10_isBlank_0]
  simp only [show (nI m = (9 : Int32)) = (m = 9) from eq_nI (b := 9) (by omega) (by omega), show (nI m = (10 : Int32)) = (m = 10) from eq_nI (b := 10) (by omega) (by omega), show (nI m = (13 : Int32)) = (m = 13) from eq_nI (b := 13) (by omega) (by omega), show (nI m = (32 : Int32)) = (m = 32) from eq_nI (b := 32) (by omega) (by omega)]
  by_cases c : isB m = true
  · rw [zI_t c]
    rcases (of_decide_eq_true c : m = 9 ∨ m = 10 ∨ m = 13 ∨ m = 32) with rfl | rfl | rfl | rfl
    · rfl
    · rfl
    · rfl
    · rfl
  · have h9 : ¬ (m = 9 ∨ m = 10 ∨ m = 13 ∨ m = 32) := fun h9 => c (decide_eq_true h9)
    rw [zI_f c, if_neg (by omega), if_neg (by omega), if_neg (by omega), if_neg (by omega)]; rfl
theorem lp_blank (hd : 1 ≤ d) (h : TB I n b) : ∀ (k p m : Nat), p + k = n → 2 * k < m →
    runS (EV d) none 3 T0 C_X10_afterBlanks k_X10_afterBlanks rtI f_X10_afterBlanks m 2 [.ref 1, un, .int (nI p)] [] (I, J) = some (some (.int (nI (blF b n k p))), (I, J)) := by
  have h2 := h.2.1
  intro k
  induction k with
  | zero =>
    intro p m hp hm
    obtain ⟨m, rfl⟩ : ∃ z, m = z + 1 := ⟨m - 1, by omega⟩
    rw [runS_s, s_X10_afterBlanks_2, h.1, if_pos (nI_le (by omega) (by omega))]
    rfl
  | succ k ih =>
    intro p m hp hm
    obtain ⟨m, rfl⟩ : ∃ z, m = z + 1 + 1 := ⟨m - 2, by omega⟩
    rw [runS_s, s_X10_afterBlanks_2, h.1, if_neg (nI_ge (by omega) (by omega)), q_byte hd h (by omega), p_ci_s, q_isB hd (h.2.2 p (by omega)).2, p_ci_s]
    unfold blF
    by_cases c : isB (b p) = true
    · rw [if_neg (by rw [zI_t c]; decide), if_pos c, runS_s, s_X10_afterBlanks_21, nI_1]
      exact ih (p + 1) m (by omega) (by omega)
    · rw [if_pos (zI_f c), if_neg c]; rfl
theorem q_blanks (hd : 2 ≤ d) (h : TB I n b) {p : Nat} (hp : p ≤ n) : EV d T0 114 [.ref 1, .int (nI p)] (I, J) = some (some (.int (nI (blF b n (n - p) p))), (I, J)) := by
  obtain ⟨d, rfl⟩ : ∃ z, d = z + 1 := ⟨d - 1, by omega⟩
  have h2 := h.2.1
  rw [e_X10_afterBlanks, runS_M, s_X10_afterBlanks_0]
  exact lp_blank (d := d) (J := J) (by omega) h (n - p) p 999999 (by omega) (by omega)
theorem q_with (hd : 1 ≤ d) (v : Int64) (m : Nat) (ij : IJ) : EV d T0 115 [.long v, .int (nI m)] ij = some (some (.long (adL v m)), ij) := by
  obtain ⟨d, rfl⟩ : ∃ z, d = z + 1 := ⟨d - 1, by omega⟩
  obtain ⟨I, J⟩ := ij
  rw [e_X10_withLetter, runS_M, s_X10_withLetter_0]; rfl
theorem lp_lets (hd : 1 ≤ d) (h : TB I n b) {p0 : Nat} : ∀ (k p m : Nat) (v : Int64), p + k = n → 3 * k < m →
    ∃ m', m ≤ m' + 3 * k + 1 ∧ runS (EV d) none 7 T0 C_X10_scanLetters k_X10_scanLetters rtI f_X10_scanLetters m 5 [.ref 18, .ref 1, .int (nI p0), .int (nI p), .long v, un, un] [] (I, J) = runS (EV d) none 7 T0 C_X10_scanLetters k_X10_scanLetters rtI f_X10_scanLetters m' 42 [.ref 18, un, .int (nI p0), .int (nI (ltF b n k p v).1), .long (ltF b n k p v).2, un, un] [] (I, J) := by
  have h2 := h.2.1
  intro k
  induction k with
  | zero =>
    intro p m v hp hm
    obtain ⟨m, rfl⟩ : ∃ z, m = z + 1 := ⟨m - 1, by omega⟩
    refine ⟨m, by omega, ?_⟩
    rw [runS_s, s_X10_scanLetters_5, h.1, if_pos (nI_le (by omega) (by omega))]
    rfl
  | succ k ih =>
    intro p m v hp hm
    obtain ⟨m, rfl⟩ : ∃ z, m = z + 1 + 1 + 1 := ⟨m - 3, by omega⟩
    rw [runS_s, s_X10_scanLetters_5, h.1, if_neg (nI_ge (by omega) (by omega)), q_byte hd h (by omega), p_ci_s, q_isL hd (h.2.2 p (by omega)).2, p_ci_s]
    unfold ltF
    by_cases c : isL (b p) = true
    · obtain ⟨m', u1, u2⟩ := ih (p + 1) m (adL v (b p)) (by omega) (by omega)
      refine ⟨m', by omega, ?_⟩
      rw [if_neg (by rw [zI_t c]; decide), if_pos c, runS_s, s_X10_scanLetters_24, q_byte hd h (by omega), p_ci_s, q_with hd, p_cl_s, runS_s, s_X10_scanLetters_36, nI_1]
      exact u2
    · refine ⟨m + 1 + 1, by omega, ?_⟩
      rw [if_pos (zI_f c), if_neg c]
theorem lt_b : ∀ (k p : Nat) (v : Int64), p ≤ (ltF b n k p v).1 ∧ (ltF b n k p v).1 ≤ p + k := by
  intro k
  induction k with
  | zero => intro p v; exact ⟨Nat.le_refl _, Nat.le_refl _⟩
  | succ k ih =>
    intro p v
    unfold ltF
    split
    · have := ih (p + 1) (adL v (b p)); omega
    · exact ⟨Nat.le_refl _, by dsimp only; omega⟩
theorem bl_b : ∀ (k p : Nat), p ≤ blF b n k p ∧ blF b n k p ≤ p + k := by
  intro k
  induction k with
  | zero => intro p; exact ⟨Nat.le_refl _, Nat.le_refl _⟩
  | succ k ih =>
    intro p
    unfold blF
    split
    · have := ih (p + 1); omega
    · exact ⟨Nat.le_refl _, by omega⟩
theorem dg_b : ∀ (k p v : Nat), p ≤ (dgF b n k p v).1 ∧ (dgF b n k p v).1 ≤ p + k := by
  intro k
  induction k with
  | zero => intro p v; exact ⟨Nat.le_refl _, Nat.le_refl _⟩
  | succ k ih =>
    intro p v
    unfold dgF
    split
    · have := ih (p + 1) (10 * v + (b p - 48)); omega
    · exact ⟨Nat.le_refl _, by dsimp only; omega⟩
end RI
