theorem refP_cs {I : Nat → Nat → Int32} {v N S : Nat} {fs sc : Nat → Nat} {k : Nat} {f : Nat → Int32} (h : refP I v N S fs sc) (hk : k ≠ 192 ∧ k ≠ 202 ∧ k ≠ 203 ∧ k ≠ 204 ∧ k ≠ 205) : refP (cs I k f) v N S fs sc := by
  obtain ⟨k1, k2, k3, k4, k5⟩ := hk
  unfold refP at h ⊢
  rw [cs_ne (fun q => k1 q.symm), cs_ne (fun q => k2 q.symm), cs_ne (fun q => k3 q.symm), cs_ne (fun q => k4 q.symm), cs_ne (fun q => k5 q.symm)]
  exact h
/-- ways of one for whole seams -/
def oneF (sewn g : Nat → Int32) (n : Nat) : Nat → Int32 := fun e => if e < n then (if sewn e ≤ 0 then 99999 else 1) else g e
theorem oneF_0 {sewn g : Nat → Int32} : oneF sewn g 0 = g := by funext j; unfold oneF; rw [if_neg (Nat.not_lt_zero _)]
theorem oneF_s {sewn g : Nat → Int32} {i : Nat} {x : Int32} (hx : x = if sewn i ≤ 0 then 99999 else 1) : upd (oneF sewn g i) i x = oneF sewn g (i + 1) := by
  funext j
  unfold upd oneF
  by_cases h : j = i
  · rw [if_pos h, if_pos (show j < i + 1 by omega), hx, h]
  · rw [if_neg h]
    by_cases h2 : j < i
    · rw [if_pos h2, if_pos (show j < i + 1 by omega)]
    · rw [if_neg h2, if_neg (show ¬ j < i + 1 by omega)]
/-- the reference's cells behind areJoined(a, ..) -/
def arjI (I : Nat → Nat → Int32) (N S : Nat) (fs sc : Nat → Nat) (t : Nat) : Nat → Nat → Int32 :=
  cs (cs I 232 (oneF (I 230) (I 232) S)) 231 (frR S fs sc (oneF (I 230) (I 232) S) N (upd (fillF (I 231) 99999 7) t 0))
theorem lp_arj {d : Nat} {I : Nat → Nat → Int32} {J : Nat → Nat → Int64} {v N S : Nat} {fs sc : Nat → Nat} (hR : refP I v N S fs sc) {t u : Nat} (ht : t < 7) (hu : u < 7) : ∀ (k i n : Nat), i + k = S → k < n →
    runS (EV (d + 1)) none 4 T0 C_X12_areJoined k_X12_areJoined rtZ f_X12_areJoined n 2 [.ref 192, .int (nI t), .int (nI u), .int (nI i)] [] (cs I 232 (oneF (I 230) (I 232) i), J) =
      some (some (.int (zI (¬ 99999 ≤ arjI I N S fs sc t 231 u))), (arjI I N S fs sc t, J)) := by
  obtain ⟨r1, r2, r3, r4, r5, r6, r7⟩ := id hR
  have hv2 := p_in_nI (i := v) (n := 2) r2 (by omega)
  have hvc := nI_clamp (n := v) (by omega)
  intro k
  induction k with
  | zero =>
    intro i n hi hn
    obtain ⟨n, rfl⟩ : ∃ z, n = z + 1 := ⟨n - 1, by omega⟩
    have e7 : i = S := by omega
    subst e7
    rw [runS_s, s_X12_areJoined_2]
    simp only [cs_ne (show (192 : Nat) ≠ 232 by decide), cs_ne (show (203 : Nat) ≠ 232 by decide), r1, chk_t hv2, hvc, r5]
    rw [if_pos (nI_le (by omega) (by omega)), ev_fillsFar d (refP_cs hR (by decide)) ht, p_cv_s, chk_t (p_in_nI hu (by omega)), nI_clamp (by omega)]
    have e1 : cs (cs I 232 (oneF (I 230) (I 232) i)) 231 (frR i fs sc (cs I 232 (oneF (I 230) (I 232) i) 232) N (upd (fillF (cs I 232 (oneF (I 230) (I 232) i) 231) 99999 7) t 0)) = arjI I N i fs sc t := by
      rw [cs_eq, cs_ne (show (231 : Nat) ≠ 232 by decide)]
      rfl
    rw [e1]
    by_cases h : 99999 ≤ arjI I N i fs sc t 231 u
    · rw [if_pos h, zI_f (fun q => q h)]; rfl
    · rw [if_neg h, zI_t h]; rfl
  | succ k ih =>
    intro i n hi hn
    obtain ⟨n, rfl⟩ : ∃ z, n = z + 1 := ⟨n - 1, by omega⟩
    have hp := p_in_nI (i := i) (n := 10) (by omega) (by omega)
    have hp3 := p_in_nI (i := i) (n := 32) (by omega) (by omega)
    rw [runS_s, s_X12_areJoined_2]
    simp only [cs_ne (show (192 : Nat) ≠ 232 by decide), cs_ne (show (203 : Nat) ≠ 232 by decide), cs_ne (show (230 : Nat) ≠ 232 by decide), r1, chk_t hv2, hvc, r5, chk_t hp, chk_t hp3, nI_clamp (show i < 2 ^ 31 by omega), nI_1, wr_cs2]
    rw [if_neg (nI_ge (by omega) (by omega))]
    by_cases h : I 230 i ≤ 0
    · rw [if_pos h, oneF_s (by rw [if_pos h])]
      exact ih (i + 1) n (by omega) (by omega)
    · rw [if_neg h, oneF_s (by rw [if_neg h])]
      exact ih (i + 1) n (by omega) (by omega)
theorem ev_areJoined (d : Nat) {I : Nat → Nat → Int32} {J : Nat → Nat → Int64} {v N S : Nat} {fs sc : Nat → Nat} (hR : refP I v N S fs sc) {t u : Nat} (ht : t < 7) (hu : u < 7) :
    EV (d + 2) T0 223 [.ref 192, .int (nI t), .int (nI u)] (I, J) = some (some (.int (zI (¬ 99999 ≤ arjI I N S fs sc t 231 u))), (arjI I N S fs sc t, J)) := by
  rw [e_X12_areJoined, runS_M, s_X12_areJoined_0]
  have h := lp_arj (d := d) (J := J) hR ht hu S 0 999999 (by omega) (by have := hR.2.2.2.2.2.1; omega)
  rw [oneF_0, cs_self] at h
  exact h
