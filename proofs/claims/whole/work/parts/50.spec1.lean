/-! ===== what the methods answer, in words of the cells: leaves ===== -/
theorem runS_s {α : Type} {O : Ora} {X : PX} {nL : Nat} {T : PT} {C : Nat → Option PE} {cuts : Nat → Option (List Bool)} {rt : Option Value → IJ → Option α} {f n pc : Nat} {L st : List Value} {ij : IJ} : runS O X nL T C cuts rt f (n + 1) pc L st ij = blkS O X nL T C cuts (runS O X nL T C cuts rt f n) rt f pc L st ij := rfl
theorem runS_M {α : Type} {O : Ora} {X : PX} {nL : Nat} {T : PT} {C : Nat → Option PE} {cuts : Nat → Option (List Bool)} {rt : Option Value → IJ → Option α} {f pc : Nat} {L st : List Value} {ij : IJ} : runS O X nL T C cuts rt f 1000000 pc L st ij = blkS O X nL T C cuts (runS O X nL T C cuts rt f 999999) rt f pc L st ij := rfl
theorem p_in_nI {i n : Nat} (h : i < n) (hn : n < 2 ^ 31) : p_in (nI i) n = true := by
  unfold p_in
  rw [Nat.blt_eq]
  have h1 : (nI i).toUInt32.toNat = i := by
    show (nI i).toBitVec.toNat = i
    exact pk_tn (by omega)
  rw [h1]
  exact h
theorem chk_t {α : Type} {b : Bool} {x : Option α} (h : b = true) : p_chk b x = x := by rw [p_chk_ite, if_pos h]
/-- a truth as an int -/
def zI (b : Prop) [Decidable b] : Int32 := if b then 1 else 0
theorem zI_t {b : Prop} [Decidable b] (h : b) : zI b = 1 := if_pos h
theorem zI_f {b : Prop} [Decidable b] (h : ¬ b) : zI b = 0 := if_neg h
theorem p_ci_s {α : Type} {v : Int32} {ij : IJ} {k : Int32 → IJ → Option α} : p_ci (some (some (.int v), ij)) k = k v ij := rfl
theorem p_cv_s {α : Type} {ij : IJ} {k : IJ → Option α} : p_cv (some (none, ij)) k = k ij := rfl
theorem ev_within (d : Nat) (n lo hi : Int32) (ij : IJ) : EV (d + 1) T0 164 [.int n, .int lo, .int hi] ij = some (some (.int (zI (¬ n < lo ∧ ¬ hi < n))), ij) := by
  obtain ⟨I, J⟩ := ij
  rw [e_X11_within, runS_M, s_X11_within_0]
  by_cases h1 : n < lo
  · rw [if_pos h1]
    unfold zI
    rw [if_neg (fun q => q.1 h1)]
    rfl
  · rw [if_neg h1]
    by_cases h2 : hi < n
    · rw [if_pos h2]
      unfold zI
      rw [if_neg (fun q => q.2 h2)]
      rfl
    · rw [if_neg h2]
      unfold zI
      rw [if_pos ⟨h1, h2⟩]
      rfl
def bitOf (s : Int32) (i : Int32) : Int32 := s &&& (1 <<< (i &&& 31))
theorem ev_hasBit (d : Nat) (s i : Int32) (ij : IJ) : EV (d + 1) T0 165 [.int s, .int i] ij = some (some (.int (zI (¬ bitOf s i = 0))), ij) := by
  obtain ⟨I, J⟩ := ij
  rw [e_X11_hasBit, runS_M, s_X11_hasBit_0]
  show (if bitOf s i = 0 then _ else _) = _
  by_cases h1 : bitOf s i = 0
  · rw [if_pos h1]
    unfold zI
    rw [if_neg (fun q => q h1)]
    rfl
  · rw [if_neg h1]
    unfold zI
    rw [if_pos h1]
    rfl
/-- one seam of a spread -/
def sprS (I : Nat → Nat → Int32) (seams towns w : Int32) (i : Nat) : Int32 := if bitOf seams (nI i) = 0 then w else if I 28 i &&& towns = 0 then w else w ||| I 28 i
def sprF (I : Nat → Nat → Int32) (S : Nat) (seams towns : Int32) : Int32 := (List.range' 0 S).foldl (sprS I seams towns) towns
theorem lp_spread {d : Nat} {I : Nat → Nat → Int32} {J : Nat → Nat → Int64} {S : Nat} (hS : I 25 1 = nI S) (h10 : S ≤ 10) (a b : Int32) : ∀ (k i n : Nat) (w : Int32), i + k = S → k < n →
    runS (EV (d + 1)) none 5 T0 C_X1_spread k_X1_spread rtI f_X1_spread n 5 [.ref 172, .int a, .int b, .int w, .int (nI i)] [] (I, J) = some (some (.int ((List.range' i k).foldl (sprS I a b) w)), (I, J)) := by
  intro k
  induction k with
  | zero =>
    intro i n w hi hn
    obtain ⟨n, rfl⟩ : ∃ z, n = z + 1 := ⟨n - 1, by omega⟩
    rw [runS_s, s_X1_spread_5, hS, if_pos (nI_le (by omega) (by omega))]
    rfl
  | succ k ih =>
    intro i n w hi hn
    obtain ⟨n, rfl⟩ : ∃ z, n = z + 1 := ⟨n - 1, by omega⟩
    rw [runS_s, s_X1_spread_5, hS, if_neg (nI_ge (by omega) (by omega)), ev_hasBit]
    have hst : (List.range' i (k + 1)).foldl (sprS I a b) w = (List.range' (i + 1) k).foldl (sprS I a b) (sprS I a b w i) := rfl
    rw [hst]
    rw [p_ci_s]
    by_cases h1 : bitOf a (nI i) = 0
    · have e1 : sprS I a b w i = w := by unfold sprS; rw [if_pos h1]
      rw [zI_f (fun q => q h1), if_pos rfl, nI_1, e1]
      exact ih (i + 1) n w (by omega) (by omega)
    · rw [zI_t h1, if_neg (by decide), chk_t (p_in_nI (by omega) (by omega)), nI_clamp (by omega), nI_1]
      by_cases h2 : I 28 i &&& b = 0
      · have e1 : sprS I a b w i = w := by unfold sprS; rw [if_neg h1, if_pos h2]
        rw [if_pos h2, e1]
        exact ih (i + 1) n w (by omega) (by omega)
      · have e1 : sprS I a b w i = w ||| I 28 i := by unfold sprS; rw [if_neg h1, if_neg h2]
        rw [if_neg h2, chk_t (p_in_nI (by omega) (by omega)), e1]
        exact ih (i + 1) n _ (by omega) (by omega)
theorem ev_spread (d : Nat) {I : Nat → Nat → Int32} {J : Nat → Nat → Int64} {S : Nat} (hS : I 25 1 = nI S) (h10 : S ≤ 10) (a b : Int32) : EV (d + 2) T0 11 [.ref 172, .int a, .int b] (I, J) = some (some (.int (sprF I S a b)), (I, J)) := by
  rw [e_X1_spread, runS_M, s_X1_spread_0]
  exact lp_spread hS h10 a b S 0 999999 b (by omega) (by omega)
