/-! ===== who is there: both sides in one form ===== -/
/-- 1 if a is one of N, else 0 -/
def oneOf (a : Int32) (N : Nat) : Int32 := zI (¬ a < 0 ∧ ¬ nI N ≤ a)
theorem oneOf_z {a : Int32} {N : Nat} {ij : IJ} : rtZ (some (.int (oneOf a N))) ij = some (some (.int (oneOf a N)), ij) := rtZ_z
theorem g3 {a : Int32} {N : Nat} {ij : IJ} : (if a < 0 then rtZ (some (.int 0)) ij else (if nI N ≤ a then rtZ (some (.int 0)) ij else rtZ (some (.int 1)) ij)) = some (some (.int (oneOf a N)), ij) := by
  unfold oneOf
  by_cases h1 : a < 0
  · rw [if_pos h1, zI_f (fun q => q.1 h1)]; rfl
  · rw [if_neg h1]
    by_cases h2 : nI N ≤ a
    · rw [if_pos h2, zI_f (fun q => q.2 h2)]; rfl
    · rw [if_neg h2, zI_t ⟨h1, h2⟩]; rfl
theorem ev_isTown (d : Nat) {I : Nat → Nat → Int32} {J : Nat → Nat → Int64} {N : Nat} (h : I 25 0 = nI N) (a : Int32) : EV (d + 1) T0 160 [.ref 0, .int a] (I, J) = some (some (.int (oneOf a N)), (I, J)) := by
  rw [e_X11_isTown, runS_M, s_X11_isTown_0, h]; exact g3
theorem ev_isSeam (d : Nat) {I : Nat → Nat → Int32} {J : Nat → Nat → Int64} {N : Nat} (h : I 25 1 = nI N) (a : Int32) : EV (d + 1) T0 162 [.ref 0, .int a] (I, J) = some (some (.int (oneOf a N)), (I, J)) := by
  rw [e_X11_isSeam, runS_M, s_X11_isSeam_0, h]; exact g3
theorem ev_isCart (d : Nat) {I : Nat → Nat → Int32} {J : Nat → Nat → Int64} {N : Nat} (h : I 25 3 = nI N) (a : Int32) : EV (d + 1) T0 163 [.ref 0, .int a] (I, J) = some (some (.int (oneOf a N)), (I, J)) := by
  rw [e_X11_isCart, runS_M, s_X11_isCart_0, h]; exact g3
theorem ev_in (d : Nat) (n lo hi : Int32) (ij : IJ) : EV (d + 1) T0 203 [.int n, .int lo, .int hi] ij = some (some (.int (zI (¬ n < lo ∧ ¬ hi < n))), ij) := by
  obtain ⟨I, J⟩ := ij
  rw [e_X12_in, runS_M, s_X12_in_0]
  by_cases h1 : n < lo
  · rw [if_pos h1, zI_f (fun q => q.1 h1)]; rfl
  · rw [if_neg h1]
    by_cases h2 : hi < n
    · rw [if_pos h2, zI_f (fun q => q.2 h2)]; rfl
    · rw [if_neg h2, zI_t ⟨h1, h2⟩]; rfl
theorem pred_lt {N : Nat} (hN : N < 1000) (a : Int32) : (nI N - 1 < a) ↔ nI N ≤ a := by
  have e : (nI N - 1).toInt = (N : Int) - 1 := by
    have := pk_sub_toInt (a := N) (b := 1) (by omega) (by omega)
    exact this
  rw [Int32.lt_iff_toInt_lt, Int32.le_iff_toInt_le, e, nI_toInt (by omega)]
  omega
theorem oneOf_in {N : Nat} (hN : N < 1000) (a : Int32) : zI (¬ a < 0 ∧ ¬ nI N - 1 < a) = oneOf a N := by
  unfold oneOf zI
  simp only [pred_lt hN]
theorem ev_isTownR (d : Nat) {I : Nat → Nat → Int32} {J : Nat → Nat → Int64} {v N : Nat} (hv : I 192 18 = nI v) (hv2 : v < 2) (h : I 202 v = nI N) (hN : N < 1000) (a : Int32) : EV (d + 2) T0 205 [.ref 192, .int a] (I, J) = some (some (.int (oneOf a N)), (I, J)) := by
  rw [e_X12_isTown, runS_M, s_X12_isTown_0, hv, chk_t (p_in_nI hv2 (by omega)), nI_clamp (by omega), h, ev_in, p_ci_s, oneOf_in hN]; exact oneOf_z
theorem ev_isSeamR (d : Nat) {I : Nat → Nat → Int32} {J : Nat → Nat → Int64} {v N : Nat} (hv : I 192 18 = nI v) (hv2 : v < 2) (h : I 203 v = nI N) (hN : N < 1000) (a : Int32) : EV (d + 2) T0 206 [.ref 192, .int a] (I, J) = some (some (.int (oneOf a N)), (I, J)) := by
  rw [e_X12_isSeam, runS_M, s_X12_isSeam_0, hv, chk_t (p_in_nI hv2 (by omega)), nI_clamp (by omega), h, ev_in, p_ci_s, oneOf_in hN]; exact oneOf_z
theorem ev_isCartR (d : Nat) {I : Nat → Nat → Int32} {J : Nat → Nat → Int64} {v N : Nat} (hv : I 192 18 = nI v) (hv2 : v < 2) (h : I 210 v = nI N) (hN : N < 1000) (a : Int32) : EV (d + 2) T0 207 [.ref 192, .int a] (I, J) = some (some (.int (oneOf a N)), (I, J)) := by
  rw [e_X12_isCart, runS_M, s_X12_isCart_0, hv, chk_t (p_in_nI hv2 (by omega)), nI_clamp (by omega), h, ev_in, p_ci_s, oneOf_in hN]; exact oneOf_z
/-- a copy of the first n of a row -/
def cpF (src g : Nat → Int32) (n : Nat) : Nat → Int32 := fun j => if j < n then src j else g j
theorem cpF_0 {src g : Nat → Int32} : cpF src g 0 = g := by funext j; unfold cpF; rw [if_neg (Nat.not_lt_zero _)]
theorem cpF_s {src g : Nat → Int32} {i : Nat} : upd (cpF src g i) i (src i) = cpF src g (i + 1) := by
  funext j
  unfold upd cpF
  by_cases h : j = i
  · rw [if_pos h, if_pos (show j < i + 1 by omega), h]
  · rw [if_neg h]
    by_cases h2 : j < i
    · rw [if_pos h2, if_pos (show j < i + 1 by omega)]
    · rw [if_neg h2, if_neg (show ¬ j < i + 1 by omega)]
theorem lp_keeps {O : Ora} {I : Nat → Nat → Int32} {J : Nat → Nat → Int64} (g : Nat → Int32) : ∀ (k i n : Nat), i + k = 32 → k < n →
    runS O none 2 T0 C_X12_keepsRow k_X12_keepsRow rtV f_X12_keepsRow n 2 [.ref 192, .int (nI i)] [] (cs I 229 (cpF (I 230) g i), J) = some (none, (cs I 229 (cpF (I 230) g 32), J)) := by
  intro k
  induction k with
  | zero =>
    intro i n hi hn
    obtain ⟨n, rfl⟩ : ∃ z, n = z + 1 := ⟨n - 1, by omega⟩
    have e7 : i = 32 := by omega
    subst e7
    rw [runS_s, s_X12_keepsRow_2, if_pos (by decide)]
    rfl
  | succ k ih =>
    intro i n hi hn
    obtain ⟨n, rfl⟩ : ∃ z, n = z + 1 := ⟨n - 1, by omega⟩
    have e7 : ¬ (32 : Int32) ≤ nI i := nI_ge (a := i) (b := 32) (by omega) (by omega)
    have hp := p_in_nI (i := i) (n := 32) (by omega) (by omega)
    rw [runS_s, s_X12_keepsRow_2, if_neg e7, chk_t hp, chk_t hp, nI_clamp (by omega), nI_1, cs_ne (show (230 : Nat) ≠ 229 by decide), wr_cs2, cpF_s]
    exact ih (i + 1) n (by omega) (by omega)
theorem ev_keepsRow (d : Nat) (I : Nat → Nat → Int32) (J : Nat → Nat → Int64) : EV (d + 1) T0 209 [.ref 192] (I, J) = some (none, (cs I 229 (cpF (I 230) (I 229) 32), J)) := by
  rw [e_X12_keepsRow, runS_M, s_X12_keepsRow_0]
  have h := lp_keeps (O := EV d) (I := I) (J := J) (I 229) 32 0 999999 (by omega) (by omega)
  rw [cpF_0, cs_self] at h
  exact h
