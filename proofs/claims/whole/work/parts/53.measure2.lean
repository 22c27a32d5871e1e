/-- one seam of a round of measuring: whether something changed, what is known -/
def msS (seams : Int32) (fs sc : Nat → Nat) (wy : Nat → Int32) (q : Int32 × (Nat → Int32)) (i : Nat) : Int32 × (Nat → Int32) :=
  if bitOf seams (nI i) = 0 then q else ((q.1 ||| (shF q.2 (fs i) (sc i) (wy i)).1) ||| (shF (shF q.2 (fs i) (sc i) (wy i)).2 (sc i) (fs i) (wy i)).1, (shF (shF q.2 (fs i) (sc i) (wy i)).2 (sc i) (fs i) (wy i)).2)
/-- a round -/
def msO (S : Nat) (seams : Int32) (fs sc : Nat → Nat) (wy : Nat → Int32) (f : Nat → Int32) : Int32 × (Nat → Int32) := (List.range' 0 S).foldl (msS seams fs sc wy) (0, f)
def msR (S : Nat) (seams : Int32) (fs sc : Nat → Nat) (wy : Nat → Int32) : Nat → Int32 → (Nat → Int32) → (Nat → Int32)
  | 0, _, f => f
  | k + 1, ch, f => if ch = 0 then f else msR S seams fs sc wy k (msO S seams fs sc wy f).1 (msO S seams fs sc wy f).2
/-- the seams' ends, as the plan has them -/
def ends2 (I : Nat → Nat → Int32) (S : Nat) (fs sc : Nat → Nat) : Prop := ∀ i, i < S → I 26 i = nI (fs i) ∧ fs i < 7 ∧ I 27 i = nI (sc i) ∧ sc i < 7
theorem lp_meas1 {d : Nat} {I : Nat → Nat → Int32} {J : Nat → Nat → Int64} {S : Nat} {fs sc : Nat → Nat} (hS : I 25 1 = nI S) (h10 : S ≤ 10) (hE : ends2 I S fs sc) (a rd : Int32) : ∀ (k i n : Nat) (q : Int32 × (Nat → Int32)), i + k = S →
    runS (EV (d + 2)) none 7 T0 C_X1_measure k_X1_measure rtV f_X1_measure (n + k + 1) 40 [.ref 172, .int a, .ref 176, un, .int q.1, .int rd, .int (nI i)] [] (cs I 173 q.2, J) =
    runS (EV (d + 2)) none 7 T0 C_X1_measure k_X1_measure rtV f_X1_measure n 22 [.ref 172, .int a, .ref 176, un, .int ((List.range' i k).foldl (msS a fs sc (I 176)) q).1, .int (rd + 1), un] [] (cs I 173 ((List.range' i k).foldl (msS a fs sc (I 176)) q).2, J) := by
  intro k
  induction k with
  | zero =>
    intro i n q hi
    rw [runS_s, s_X1_measure_40, cs_ne (by decide), hS, if_pos (nI_le (by omega) (by omega))]
    rfl
  | succ k ih =>
    intro i n q hi
    obtain ⟨e1, e2, e3, e4⟩ := hE i (by omega)
    rw [runS_s, s_X1_measure_40, cs_ne (by decide), hS, if_neg (nI_ge (by omega) (by omega)), ev_hasBit (d + 1), p_ci_s]
    have hst : (List.range' i (k + 1)).foldl (msS a fs sc (I 176)) q = (List.range' (i + 1) k).foldl (msS a fs sc (I 176)) (msS a fs sc (I 176) q i) := rfl
    rw [hst, show n + (k + 1) = n + k + 1 by omega]
    by_cases h1 : bitOf a (nI i) = 0
    · have e9 : msS a fs sc (I 176) q i = q := by unfold msS; rw [if_pos h1]
      rw [zI_f (fun q => q h1), if_pos rfl, nI_1, e9]
      exact ih (i + 1) n q (by omega)
    · have hp := p_in_nI (i := i) (n := 10) (by omega) (by omega)
      rw [zI_t h1, if_neg (by decide)]
      simp only [chk_t hp, nI_clamp (show i < 2 ^ 31 by omega), cs_ne (show (26 : Nat) ≠ 173 by decide), cs_ne (show (27 : Nat) ≠ 173 by decide), cs_ne (show (176 : Nat) ≠ 173 by decide), e1, e3]
      rw [ev_shorten d I J q.2 e2 e4, p_ci_s]
      simp only [cs_ne (show (26 : Nat) ≠ 173 by decide), cs_ne (show (27 : Nat) ≠ 173 by decide), cs_ne (show (176 : Nat) ≠ 173 by decide), e1, e3]
      rw [ev_shorten d I J _ e4 e2, p_ci_s, nI_1]
      have e9 : msS a fs sc (I 176) q i = ((q.1 ||| (shF q.2 (fs i) (sc i) (I 176 i)).1) ||| (shF (shF q.2 (fs i) (sc i) (I 176 i)).2 (sc i) (fs i) (I 176 i)).1, (shF (shF q.2 (fs i) (sc i) (I 176 i)).2 (sc i) (fs i) (I 176 i)).2) := by unfold msS; rw [if_neg h1]
      rw [e9]
      exact ih (i + 1) n (_, _) (by omega)
theorem lp_meas2 {d : Nat} {I : Nat → Nat → Int32} {J : Nat → Nat → Int64} {S : Nat} {fs sc : Nat → Nat} (hS : I 25 1 = nI S) (h10 : S ≤ 10) (hE : ends2 I S fs sc) (a : Int32) : ∀ (k i n : Nat) (ch : Int32) (f : Nat → Int32), i + k = 7 → k * 12 < n →
    runS (EV (d + 2)) none 7 T0 C_X1_measure k_X1_measure rtV f_X1_measure n 22 [.ref 172, .int a, .ref 176, un, .int ch, .int (nI i), un] [] (cs I 173 f, J) = some (none, (cs I 173 (msR S a fs sc (I 176) k ch f), J)) := by
  intro k
  induction k with
  | zero =>
    intro i n ch f hi hn
    obtain ⟨n, rfl⟩ : ∃ z, n = z + 1 := ⟨n - 1, by omega⟩
    have e7 : i = 7 := by omega
    subst e7
    rw [runS_s, s_X1_measure_22, if_pos (by decide)]
    rfl
  | succ k ih =>
    intro i n ch f hi hn
    have e7 : ¬ (7 : Int32) ≤ nI i := nI_ge (a := i) (b := 7) (by omega) (by omega)
    obtain ⟨n, rfl⟩ : ∃ z, n = (z + S + 1) + 1 := ⟨n - S - 2, by omega⟩
    rw [runS_s, s_X1_measure_22, if_neg e7]
    unfold msR
    by_cases h1 : ch = 0
    · rw [if_pos h1, if_pos h1]
      rfl
    · rw [if_neg h1, if_neg h1]
      have h := lp_meas1 (d := d) (J := J) hS h10 hE a (nI i) S 0 n (0, f) (by omega)
      refine h.trans ?_
      rw [nI_1]
      exact ih (i + 1) n _ _ (by omega) (by omega)
/-- what is known of all towns from one on: 0 there, 1000000 elsewhere, then at most seven rounds -/
def measF (I : Nat → Nat → Int32) (S : Nat) (fs sc : Nat → Nat) (seams : Int32) (t : Nat) : Nat → Int32 := msR S seams fs sc (I 176) 7 1 (upd (fillF (I 173) 1000000 7) t 0)
theorem ev_measure (d : Nat) {I : Nat → Nat → Int32} {J : Nat → Nat → Int64} {S : Nat} {fs sc : Nat → Nat} (hS : I 25 1 = nI S) (h10 : S ≤ 10) (hE : ends2 I S fs sc) (a : Int32) {t : Nat} (ht : t < 7) :
    EV (d + 3) T0 14 [.ref 172, .int a, .ref 176, .int (nI t)] (I, J) = some (none, (cs I 173 (measF I S fs sc a t), J)) := by
  rw [e_X1_measure, runS_M, s_X1_measure_0, ev_fill (d + 1), p_cv_s, chk_t (p_in_nI ht (by omega)), nI_clamp (by omega), wr_cs2]
  exact lp_meas2 hS h10 hE a 7 0 999999 1 _ (by omega) (by omega)
