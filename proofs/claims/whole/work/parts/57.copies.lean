/-- the reference's row is what is now; lots is the seed; nothing is still -/
def copI (I : Nat → Nat → Int32) (v : Nat) : Nat → Nat → Int32 := p_wr (p_wr (cs I 230 (cpF (I 229) (I 230) 32)) 192 56 (I 216 v)) 192 57 0
theorem lp_copies {O : Ora} {I : Nat → Nat → Int32} {J : Nat → Nat → Int64} {v : Nat} (hv : I 192 18 = nI v) (hv2 : v < 2) (g : Nat → Int32) : ∀ (k i n : Nat), i + k = 32 → k < n →
    runS O none 2 T0 C_X12_copies k_X12_copies rtV f_X12_copies n 2 [.ref 192, .int (nI i)] [] (cs I 230 (cpF (I 229) g i), J) = some (none, (p_wr (p_wr (cs I 230 (cpF (I 229) g 32)) 192 56 (I 216 v)) 192 57 0, J)) := by
  intro k
  induction k with
  | zero =>
    intro i n hi hn
    obtain ⟨n, rfl⟩ : ∃ z, n = z + 1 := ⟨n - 1, by omega⟩
    have e7 : i = 32 := by omega
    subst e7
    rw [runS_s, s_X12_copies_2, if_pos (by decide), cs_ne (show (192 : Nat) ≠ 230 by decide), cs_ne (show (216 : Nat) ≠ 230 by decide), hv, chk_t (p_in_nI hv2 (by omega)), nI_clamp (by omega)]
    rfl
  | succ k ih =>
    intro i n hi hn
    obtain ⟨n, rfl⟩ : ∃ z, n = z + 1 := ⟨n - 1, by omega⟩
    have e7 : ¬ (32 : Int32) ≤ nI i := nI_ge (a := i) (b := 32) (by omega) (by omega)
    have hp := p_in_nI (i := i) (n := 32) (by omega) (by omega)
    rw [runS_s, s_X12_copies_2, if_neg e7, chk_t hp, chk_t hp, nI_clamp (by omega), nI_1, cs_ne (show (229 : Nat) ≠ 230 by decide), wr_cs2, cpF_s]
    exact ih (i + 1) n (by omega) (by omega)
theorem ev_copies (d : Nat) {I : Nat → Nat → Int32} {J : Nat → Nat → Int64} {v : Nat} (hv : I 192 18 = nI v) (hv2 : v < 2) : EV (d + 1) T0 210 [.ref 192] (I, J) = some (none, (copI I v, J)) := by
  rw [e_X12_copies, runS_M, s_X12_copies_0]
  have h := lp_copies (O := EV d) (I := I) (J := J) hv hv2 (I 230) 32 0 999999 (by omega) (by omega)
  rw [cpF_0, cs_self] at h
  exact h
