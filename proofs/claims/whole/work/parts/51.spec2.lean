theorem rtZ_z {b : Prop} [Decidable b] {ij : IJ} : rtZ (some (.int (zI b))) ij = some (some (.int (zI b)), ij) := by
  by_cases h : b
  · rw [zI_t h]; rfl
  · rw [zI_f h]; rfl
/-- towns reached from w by seams, k spreads at most -/
def rchF (I : Nat → Nat → Int32) (S : Nat) (seams : Int32) : Nat → Int32 → Int32
  | 0, w => w
  | k + 1, w => if sprF I S seams w = w then w else rchF I S seams k (sprF I S seams w)
theorem lp_reach {d : Nat} {I : Nat → Nat → Int32} {J : Nat → Nat → Int64} {S : Nat} (hS : I 25 1 = nI S) (h10 : S ≤ 10) (a : Int32) : ∀ (k i n : Nat) (w : Int32), i + k = 7 → k < n →
    runS (EV (d + 2)) none 6 T0 C_X1_reach k_X1_reach rtI f_X1_reach n 5 [.ref 172, .int a, un, .int w, .int (nI i), un] [] (I, J) = some (some (.int (rchF I S a k w)), (I, J)) := by
  intro k
  induction k with
  | zero =>
    intro i n w hi hn
    obtain ⟨n, rfl⟩ : ∃ z, n = z + 1 := ⟨n - 1, by omega⟩
    have e7 : i = 7 := by omega
    subst e7
    rw [runS_s, s_X1_reach_5, if_pos (by decide)]
    rfl
  | succ k ih =>
    intro i n w hi hn
    obtain ⟨n, rfl⟩ : ∃ z, n = z + 1 := ⟨n - 1, by omega⟩
    have e7 : ¬ (7 : Int32) ≤ nI i := nI_ge (a := i) (b := 7) (by omega) (by omega)
    rw [runS_s, s_X1_reach_5, if_neg e7, ev_spread d hS h10, p_ci_s]
    unfold rchF
    by_cases h1 : sprF I S a w = w
    · rw [if_pos h1, if_pos h1]
      rfl
    · rw [if_neg h1, if_neg h1, nI_1]
      exact ih (i + 1) n _ (by omega) (by omega)
theorem ev_reach (d : Nat) {I : Nat → Nat → Int32} {J : Nat → Nat → Int64} {S : Nat} (hS : I 25 1 = nI S) (h10 : S ≤ 10) (a b : Int32) : EV (d + 3) T0 12 [.ref 172, .int a, .int b] (I, J) = some (some (.int (rchF I S a 7 b)), (I, J)) := by
  rw [e_X1_reach, runS_M, s_X1_reach_0]
  exact lp_reach hS h10 a 7 0 999999 b (by omega) (by omega)
theorem ev_joins (d : Nat) {I : Nat → Nat → Int32} {J : Nat → Nat → Int64} {S : Nat} (hS : I 25 1 = nI S) (h10 : S ≤ 10) (a t u : Int32) : EV (d + 4) T0 13 [.ref 172, .int a, .int t, .int u] (I, J) = some (some (.int (zI (¬ bitOf (rchF I S a 7 (1 <<< (t &&& 31))) u = 0))), (I, J)) := by
  rw [e_X1_joins, runS_M, s_X1_joins_0, ev_reach d hS h10, p_ci_s, ev_hasBit (d + 2), p_ci_s, rtZ_z]
/-- seams (bits) of which p holds -/
def setF (p : Nat → Prop) [DecidablePred p] (w : Int32) (i : Nat) : Int32 := if p i then w ||| (1 <<< (nI i &&& 31)) else w
theorem lp_whole {O : Ora} {I : Nat → Nat → Int32} {J : Nat → Nat → Int64} {S : Nat} (hS : I 25 1 = nI S) (h10 : S ≤ 10) : ∀ (k i n : Nat) (w : Int32), i + k = S → k < n →
    runS O none 4 T0 C_X8_wholeSeams k_X8_wholeSeams rtI f_X8_wholeSeams n 4 [.ref 39, .ref 25, .int w, .int (nI i)] [] (I, J) = some (some (.int ((List.range' i k).foldl (setF (fun i => ¬ I 40 i ≤ 0)) w)), (I, J)) := by
  intro k
  induction k with
  | zero =>
    intro i n w hi hn
    obtain ⟨n, rfl⟩ : ∃ z, n = z + 1 := ⟨n - 1, by omega⟩
    rw [runS_s, s_X8_wholeSeams_39_4, hS, if_pos (nI_le (by omega) (by omega))]
    rfl
  | succ k ih =>
    intro i n w hi hn
    obtain ⟨n, rfl⟩ : ∃ z, n = z + 1 := ⟨n - 1, by omega⟩
    rw [runS_s, s_X8_wholeSeams_39_4, hS, if_neg (nI_ge (by omega) (by omega)), chk_t (p_in_nI (by omega) (by omega)), nI_clamp (by omega), nI_1]
    have hst : (List.range' i (k + 1)).foldl (setF (fun i => ¬ I 40 i ≤ 0)) w = (List.range' (i + 1) k).foldl (setF (fun i => ¬ I 40 i ≤ 0)) (setF (fun i => ¬ I 40 i ≤ 0) w i) := rfl
    rw [hst]
    by_cases h1 : I 40 i ≤ 0
    · have e1 : setF (fun i => ¬ I 40 i ≤ 0) w i = w := by unfold setF; rw [if_neg (fun q => q h1)]
      rw [if_pos h1, e1]
      exact ih (i + 1) n w (by omega) (by omega)
    · have e1 : setF (fun i => ¬ I 40 i ≤ 0) w i = w ||| (1 <<< (nI i &&& 31)) := by unfold setF; rw [if_pos h1]
      rw [if_neg h1, e1]
      exact ih (i + 1) n _ (by omega) (by omega)
theorem ev_whole (d : Nat) {I : Nat → Nat → Int32} {J : Nat → Nat → Int64} {S : Nat} (hS : I 25 1 = nI S) (h10 : S ≤ 10) : EV (d + 1) T0 96 [.ref 39, .ref 25] (I, J) = some (some (.int ((List.range' 0 S).foldl (setF (fun i => ¬ I 40 i ≤ 0)) 0)), (I, J)) := by
  rw [e_X8_wholeSeams_39, runS_M, s_X8_wholeSeams_39_0]
  exact lp_whole hS h10 S 0 999999 0 (by omega) (by omega)
