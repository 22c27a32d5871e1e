/-! ===== the reference's distances ===== -/
/-- how the reference's text stands: side v, N towns, S seams, their ends -/
def refP (I : Nat → Nat → Int32) (v N S : Nat) (fs sc : Nat → Nat) : Prop := I 192 18 = nI v ∧ v < 2 ∧ I 202 v = nI N ∧ N ≤ 7 ∧ I 203 v = nI S ∧ S ≤ 10 ∧ ∀ i, i < S → I 204 (10 * v + i) = nI (fs i) ∧ fs i < 7 ∧ I 205 (10 * v + i) = nI (sc i) ∧ sc i < 7
theorem ten_nI (v i : Nat) : (10 * nI v) + nI i = nI (10 * v + i) := by
  rw [show (10 : Int32) = nI 10 from rfl, pk_mul, nI_add]
def shM (f : Nat → Int32) (a b : Nat) (w : Int32) : Nat → Int32 := if f b ≤ f a + w then f else upd f b (f a + w)
def frS (fs sc : Nat → Nat) (wy : Nat → Int32) (f : Nat → Int32) (i : Nat) : Nat → Int32 := if wy i < 99999 then shM (shM f (fs i) (sc i) (wy i)) (sc i) (fs i) (wy i) else f
def frO (S : Nat) (fs sc : Nat → Nat) (wy : Nat → Int32) (f : Nat → Int32) : Nat → Int32 := (List.range' 0 S).foldl (frS fs sc wy) f
def frR (S : Nat) (fs sc : Nat → Nat) (wy : Nat → Int32) : Nat → (Nat → Int32) → (Nat → Int32)
  | 0, f => f
  | k + 1, f => frR S fs sc wy k (frO S fs sc wy f)
theorem lp_far1 {O : Ora} {I : Nat → Nat → Int32} {J : Nat → Nat → Int64} {v N S : Nat} {fs sc : Nat → Nat} (hR : refP I v N S fs sc) (rd : Int32) {r : Rs} {B : Nat} : ∀ (k i n : Nat) (f : Nat → Int32), i + k = S → B + 4 * k + 1 ≤ n →
    (∀ n', B ≤ n' → runS O none 6 T0 C_X12_fillsFar k_X12_fillsFar rtV f_X12_fillsFar n' 32 [.ref 192, un, .int (rd + 1), un, un, un] [] (cs I 231 ((List.range' i k).foldl (frS fs sc (I 232)) f), J) = some r) →
    runS O none 6 T0 C_X12_fillsFar k_X12_fillsFar rtV f_X12_fillsFar n 47 [.ref 192, un, .int rd, .int (nI i), un, un] [] (cs I 231 f, J) = some r := by
  obtain ⟨r1, r2, r3, r4, r5, r6, r7⟩ := hR
  have hv2 := p_in_nI (i := v) (n := 2) r2 (by omega)
  have hvc := nI_clamp (n := v) (by omega)
  intro k
  induction k with
  | zero =>
    intro i n f hi hn hk
    obtain ⟨n, rfl⟩ : ∃ z, n = z + 1 := ⟨n - 1, by omega⟩
    rw [runS_s, s_X12_fillsFar_47]
    simp only [cs_ne (show (192 : Nat) ≠ 231 by decide), cs_ne (show (203 : Nat) ≠ 231 by decide), r1, chk_t hv2, hvc, r5]
    rw [if_pos (nI_le (by omega) (by omega))]
    exact hk n (by omega)
  | succ k ih =>
    intro i n f hi hn hk
    obtain ⟨e1, e2, e3, e4⟩ := r7 i (by omega)
    have hp := p_in_nI (i := 10 * v + i) (n := 20) (by omega) (by omega)
    have hpi := p_in_nI (i := i) (n := 10) (by omega) (by omega)
    have hpa := p_in_nI e2 (show 7 < 2 ^ 31 by omega)
    have hpb := p_in_nI e4 (show 7 < 2 ^ 31 by omega)
    have hci := nI_clamp (n := i) (by omega)
    have hca := nI_clamp (n := fs i) (by omega)
    have hcb := nI_clamp (n := sc i) (by omega)
    obtain ⟨n, rfl⟩ : ∃ z, n = z + 1 + 1 + 1 + 1 := ⟨n - 4, by omega⟩
    rw [runS_s, s_X12_fillsFar_47]
    simp only [cs_ne (show (192 : Nat) ≠ 231 by decide), cs_ne (show (203 : Nat) ≠ 231 by decide), cs_ne (show (204 : Nat) ≠ 231 by decide), cs_ne (show (205 : Nat) ≠ 231 by decide), r1, chk_t hv2, hvc, r5, ten_nI]
    rw [if_neg (nI_ge (by omega) (by omega)), chk_t hp, chk_t hp, nI_clamp (show 10 * v + i < 2 ^ 31 by omega), e1, e3, runS_s, s_X12_fillsFar_92]
    simp only [cs_ne (show (232 : Nat) ≠ 231 by decide), cs_eq, chk_t hpi, chk_t hpa, chk_t hpb, hci, hca, hcb, wr_cs2]
    have hst : (List.range' i (k + 1)).foldl (frS fs sc (I 232)) f = (List.range' (i + 1) k).foldl (frS fs sc (I 232)) (frS fs sc (I 232) f i) := rfl
    rw [hst] at hk
    by_cases h1 : I 232 i < 99999
    · rw [if_pos h1]
      have e9 : frS fs sc (I 232) f i = shM (shM f (fs i) (sc i) (I 232 i)) (sc i) (fs i) (I 232 i) := by unfold frS; rw [if_pos h1]
      rw [e9] at hk
      have hmid : ∀ g : Nat → Int32, g = shM f (fs i) (sc i) (I 232 i) → runS O none 6 T0 C_X12_fillsFar k_X12_fillsFar rtV f_X12_fillsFar (n + 1 + 1) 152 [.ref 192, un, .int rd, .int (nI i), .int (nI (fs i)), .int (nI (sc i))] [] (cs I 231 g, J) = some r := by
        intro g hg
        rw [← hg] at hk
        rw [runS_s, s_X12_fillsFar_152]
        simp only [cs_ne (show (232 : Nat) ≠ 231 by decide), cs_eq, chk_t hpi, chk_t hpa, chk_t hpb, hci, hca, hcb, wr_cs2]
        by_cases h2 : g (fs i) ≤ g (sc i) + I 232 i
        · have e8 : shM g (sc i) (fs i) (I 232 i) = g := by unfold shM; rw [if_pos h2]
          rw [e8] at hk
          rw [if_pos h2, runS_s, s_X12_fillsFar_197, nI_1]
          exact ih (i + 1) n _ (by omega) (by omega) hk
        · have e8 : shM g (sc i) (fs i) (I 232 i) = upd g (fs i) (g (sc i) + I 232 i) := by unfold shM; rw [if_neg h2]
          rw [e8] at hk
          rw [if_neg h2, runS_s, s_X12_fillsFar_197, nI_1]
          exact ih (i + 1) n _ (by omega) (by omega) hk
      by_cases h3 : f (sc i) ≤ f (fs i) + I 232 i
      · rw [if_pos h3]
        exact hmid f (by unfold shM; rw [if_pos h3])
      · rw [if_neg h3]
        exact hmid _ (by unfold shM; rw [if_neg h3])
    · have e9 : frS fs sc (I 232) f i = f := by unfold frS; rw [if_neg h1]
      rw [e9] at hk
      rw [if_neg h1, runS_s, s_X12_fillsFar_197, nI_1]
      exact ih (i + 1) (n + 1) f (by omega) (by omega) hk
theorem lp_far2 {O : Ora} {I : Nat → Nat → Int32} {J : Nat → Nat → Int64} {v N S : Nat} {fs sc : Nat → Nat} (hR : refP I v N S fs sc) : ∀ (k i n : Nat) (f : Nat → Int32), i + k = N → k * 50 < n →
    runS O none 6 T0 C_X12_fillsFar k_X12_fillsFar rtV f_X12_fillsFar n 32 [.ref 192, un, .int (nI i), un, un, un] [] (cs I 231 f, J) = some (none, (cs I 231 (frR S fs sc (I 232) k f), J)) := by
  obtain ⟨r1, r2, r3, r4, r5, r6, r7⟩ := id hR
  have hv2 := p_in_nI (i := v) (n := 2) r2 (by omega)
  have hvc := nI_clamp (n := v) (by omega)
  intro k
  induction k with
  | zero =>
    intro i n f hi hn
    obtain ⟨n, rfl⟩ : ∃ z, n = z + 1 := ⟨n - 1, by omega⟩
    rw [runS_s, s_X12_fillsFar_32]
    simp only [cs_ne (show (192 : Nat) ≠ 231 by decide), cs_ne (show (202 : Nat) ≠ 231 by decide), r1, chk_t hv2, hvc, r3]
    rw [if_pos (nI_le (by omega) (by omega))]
    rfl
  | succ k ih =>
    intro i n f hi hn
    obtain ⟨n, rfl⟩ : ∃ z, n = z + 1 := ⟨n - 1, by omega⟩
    rw [runS_s, s_X12_fillsFar_32]
    simp only [cs_ne (show (192 : Nat) ≠ 231 by decide), cs_ne (show (202 : Nat) ≠ 231 by decide), r1, chk_t hv2, hvc, r3]
    rw [if_neg (nI_ge (by omega) (by omega))]
    refine lp_far1 hR (nI i) (B := k * 50 + 1) S 0 n f (by omega) (by omega) (fun n' hn' => ?_)
    rw [nI_1]
    exact ih (i + 1) n' _ (by omega) (by omega)
theorem lp_far0 {O : Ora} {I : Nat → Nat → Int32} {J : Nat → Nat → Int64} {v N S : Nat} {fs sc : Nat → Nat} (hR : refP I v N S fs sc) {t : Nat} (ht : t < 7) (g : Nat → Int32) : ∀ (k i n : Nat), i + k = 7 → k + 500 < n →
    runS O none 6 T0 C_X12_fillsFar k_X12_fillsFar rtV f_X12_fillsFar n 2 [.ref 192, .int (nI t), .int (nI i), un, un, un] [] (cs I 231 (fillF g 99999 i), J) = some (none, (cs I 231 (frR S fs sc (I 232) N (upd (fillF g 99999 7) t 0)), J)) := by
  intro k
  induction k with
  | zero =>
    intro i n hi hn
    obtain ⟨n, rfl⟩ : ∃ z, n = z + 1 := ⟨n - 1, by omega⟩
    have e7 : i = 7 := by omega
    subst e7
    rw [runS_s, s_X12_fillsFar_2, if_pos (by decide), chk_t (p_in_nI ht (by omega)), nI_clamp (by omega), wr_cs2]
    have h4 := hR.2.2.2.1
    exact lp_far2 hR N 0 n _ (by omega) (by omega)
  | succ k ih =>
    intro i n hi hn
    obtain ⟨n, rfl⟩ : ∃ z, n = z + 1 := ⟨n - 1, by omega⟩
    have e7 : ¬ (7 : Int32) ≤ nI i := nI_ge (a := i) (b := 7) (by omega) (by omega)
    rw [runS_s, s_X12_fillsFar_2, if_neg e7, chk_t (p_in_nI (by omega) (by omega)), nI_clamp (by omega), nI_1, wr_cs2, fillF_s]
    exact ih (i + 1) n (by omega) (by omega)
theorem ev_fillsFar (d : Nat) {I : Nat → Nat → Int32} {J : Nat → Nat → Int64} {v N S : Nat} {fs sc : Nat → Nat} (hR : refP I v N S fs sc) {t : Nat} (ht : t < 7) : EV (d + 1) T0 222 [.ref 192, .int (nI t)] (I, J) = some (none, (cs I 231 (frR S fs sc (I 232) N (upd (fillF (I 231) 99999 7) t 0)), J)) := by
  rw [e_X12_fillsFar, runS_M, s_X12_fillsFar_0]
  have h := lp_far0 (O := EV d) (J := J) hR ht (I 231) 7 0 999999 (by omega) (by omega)
  rw [fillF_0, cs_self] at h
  exact h
