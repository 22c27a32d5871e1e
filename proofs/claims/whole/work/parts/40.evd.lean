/-! ===== constructors together; no Tokens yet ===== -/
/-- code, steps, class, cells and slots that it makes -/
abbrev CD : Type := (Nat → Option PE) × Nat × Nat × Nat × Nat
def ctd (y : Nat) : Option CD := (if y < 63 then (if y < 27 then (if y < 10 then (if y = 0 then some (C_X0_init, 6000, 0, 3, 444) else none) else (if y < 23 then (if y = 10 then some (C_X1_init, 6000, 1, 1, 7) else none) else (if y = 23 then some (C_X2_init, 6000, 2, 121, 1400) else none))) else (if y < 34 then (if y = 27 then some (C_X3_init, 6000, 3, 13, 520) else none) else (if y < 53 then (if y = 34 then some (C_X4_init, 6000, 4, 21, 1797) else none) else (if y = 53 then some (C_X5_init, 6000, 5, 2, 1033) else none)))) else (if y < 100 then (if y < 73 then (if y = 63 then some (C_X6_init, 6000, 6, 4, 550) else none) else (if y < 89 then (if y = 73 then some (C_X7_init, 6000, 7, 3, 30) else none) else (if y = 89 then some (C_X8_init, 6000, 8, 2, 30) else none))) else (if y < 119 then (if y < 104 then (if y = 100 then some (C_X9_init, 6000, 9, 1, 2000) else none) else (if y = 104 then some (C_X10_init, 6000, 10, 4, 1226) else none)) else (if y < 166 then (if y = 119 then some (C_X11_init, 6000, 11, 191, 7565) else none) else (if y = 166 then some (C_X12_init, 6000, 12, 50, 10812) else none)))))
def dF (y : Nat) (q : CD) : Prop := iF y ∧ (mN y).cls = oN q.2.2.1 ∧ ∀ pc E, q.1 pc = some E → ckJ q.2.2.1 (mB y) pc E = true
set_option maxRecDepth 100000 in
theorem df_0 : dF 0 (C_X0_init, 6000, 0, 3, 444) := ⟨iF_at (i := 0) rfl, rfl, ck_X0_init⟩
set_option maxRecDepth 100000 in
theorem df_10 : dF 10 (C_X1_init, 6000, 1, 1, 7) := ⟨iF_at (i := 1) rfl, rfl, ck_X1_init⟩
set_option maxRecDepth 100000 in
theorem df_23 : dF 23 (C_X2_init, 6000, 2, 121, 1400) := ⟨iF_at (i := 2) rfl, rfl, ck_X2_init⟩
set_option maxRecDepth 100000 in
theorem df_27 : dF 27 (C_X3_init, 6000, 3, 13, 520) := ⟨iF_at (i := 3) rfl, rfl, ck_X3_init⟩
set_option maxRecDepth 100000 in
theorem df_34 : dF 34 (C_X4_init, 6000, 4, 21, 1797) := ⟨iF_at (i := 4) rfl, rfl, ck_X4_init⟩
set_option maxRecDepth 100000 in
theorem df_53 : dF 53 (C_X5_init, 6000, 5, 2, 1033) := ⟨iF_at (i := 5) rfl, rfl, ck_X5_init⟩
set_option maxRecDepth 100000 in
theorem df_63 : dF 63 (C_X6_init, 6000, 6, 4, 550) := ⟨iF_at (i := 6) rfl, rfl, ck_X6_init⟩
set_option maxRecDepth 100000 in
theorem df_73 : dF 73 (C_X7_init, 6000, 7, 3, 30) := ⟨iF_at (i := 7) rfl, rfl, ck_X7_init⟩
set_option maxRecDepth 100000 in
theorem df_89 : dF 89 (C_X8_init, 6000, 8, 2, 30) := ⟨iF_at (i := 8) rfl, rfl, ck_X8_init⟩
set_option maxRecDepth 100000 in
theorem df_100 : dF 100 (C_X9_init, 6000, 9, 1, 2000) := ⟨iF_at (i := 9) rfl, rfl, ck_X9_init⟩
set_option maxRecDepth 100000 in
theorem df_104 : dF 104 (C_X10_init, 6000, 10, 4, 1226) := ⟨iF_at (i := 10) rfl, rfl, ck_X10_init⟩
set_option maxRecDepth 100000 in
theorem df_119 : dF 119 (C_X11_init, 6000, 11, 191, 7565) := ⟨iF_at (i := 11) rfl, rfl, ck_X11_init⟩
set_option maxRecDepth 100000 in
theorem df_166 : dF 166 (C_X12_init, 6000, 12, 50, 10812) := ⟨iF_at (i := 12) rfl, rfl, ck_X12_init⟩
theorem ctd_all {y : Nat} {q : CD} (h : ctd y = some q) : dF y q := by
  have hy : y = 0 ∨ y = 10 ∨ y = 23 ∨ y = 27 ∨ y = 34 ∨ y = 53 ∨ y = 63 ∨ y = 73 ∨ y = 89 ∨ y = 100 ∨ y = 104 ∨ y = 119 ∨ y = 166 ∨ ctd y = none := by
    unfold ctd
    repeat' split
    all_goals first | omega | simp_all
  rcases hy with h0 | h0 | h0 | h0 | h0 | h0 | h0 | h0 | h0 | h0 | h0 | h0 | h0 | h0
  · subst h0
    have e9 : ctd 0 = some (C_X0_init, 6000, 0, 3, 444) := rfl
    rw [e9] at h
    cases h
    exact df_0
  · subst h0
    have e9 : ctd 10 = some (C_X1_init, 6000, 1, 1, 7) := rfl
    rw [e9] at h
    cases h
    exact df_10
  · subst h0
    have e9 : ctd 23 = some (C_X2_init, 6000, 2, 121, 1400) := rfl
    rw [e9] at h
    cases h
    exact df_23
  · subst h0
    have e9 : ctd 27 = some (C_X3_init, 6000, 3, 13, 520) := rfl
    rw [e9] at h
    cases h
    exact df_27
  · subst h0
    have e9 : ctd 34 = some (C_X4_init, 6000, 4, 21, 1797) := rfl
    rw [e9] at h
    cases h
    exact df_34
  · subst h0
    have e9 : ctd 53 = some (C_X5_init, 6000, 5, 2, 1033) := rfl
    rw [e9] at h
    cases h
    exact df_53
  · subst h0
    have e9 : ctd 63 = some (C_X6_init, 6000, 6, 4, 550) := rfl
    rw [e9] at h
    cases h
    exact df_63
  · subst h0
    have e9 : ctd 73 = some (C_X7_init, 6000, 7, 3, 30) := rfl
    rw [e9] at h
    cases h
    exact df_73
  · subst h0
    have e9 : ctd 89 = some (C_X8_init, 6000, 8, 2, 30) := rfl
    rw [e9] at h
    cases h
    exact df_89
  · subst h0
    have e9 : ctd 100 = some (C_X9_init, 6000, 9, 1, 2000) := rfl
    rw [e9] at h
    cases h
    exact df_100
  · subst h0
    have e9 : ctd 104 = some (C_X10_init, 6000, 10, 4, 1226) := rfl
    rw [e9] at h
    cases h
    exact df_104
  · subst h0
    have e9 : ctd 119 = some (C_X11_init, 6000, 11, 191, 7565) := rfl
    rw [e9] at h
    cases h
    exact df_119
  · subst h0
    have e9 : ctd 166 = some (C_X12_init, 6000, 12, 50, 10812) := rfl
    rw [e9] at h
    cases h
    exact df_166
  · rw [h0] at h
    cases h
def EVD : Nat → OrD := Nat.rec (fun _ _ _ _ => none) (fun d ih y as T ij => match ctd y with
  | none => none
  | some q => p_bif (decide ((p_slots as).length ≤ mL y)) (match runD (EV d) ih (T.1 + q.2.2.2.1, T.2.1 + q.2.2.2.2) (mL y) q.1 rtD q.2.1 0 (p_init (mL y) as) [] T ij with
    | some (T', ij') => p_bif (decide (T'.1 = T.1 + q.2.2.2.1 ∧ T'.2.1 = T.2.1 + q.2.2.2.2)) (some (T', ij')) none
    | none => none) none)
theorem evd_sound {l : Launch} : ∀ (d y : Nat) (as : List Value) (T : PT) (ij : IJ) (T' : PT) (ij' : IJ), EVD d y as T ij = some (T', ij') → MetD l d y T as ij T' ij' := by
  intro d
  induction d with
  | zero =>
    intro y as T ij T' ij' h
    have h' : (none : Option (PT × IJ)) = some (T', ij') := h
    cases h'
  | succ d ih =>
    intro y as T ij T' ij' h
    have h' : (match ctd y with
      | none => none
      | some q => p_bif (decide ((p_slots as).length ≤ mL y)) (match runD (EV d) (EVD d) (T.1 + q.2.2.2.1, T.2.1 + q.2.2.2.2) (mL y) q.1 rtD q.2.1 0 (p_init (mL y) as) [] T ij with
        | some (T', ij') => p_bif (decide (T'.1 = T.1 + q.2.2.2.1 ∧ T'.2.1 = T.2.1 + q.2.2.2.2)) (some (T', ij')) none
        | none => none) none) = some (T', ij') := h
    cases hq : ctd y with
    | none => rw [hq] at h'; cases h'
    | some q =>
      rw [hq] at h'
      dsimp only at h'
      rw [p_bif_dec] at h'
      split at h'
      · rename_i hlen
        split at h'
        · rename_i T2 ij2 hrun
          rw [p_bif_dec] at h'
          split at h'
          · rename_i hg
            cases h'
            obtain ⟨h1, h2, h3⟩ := ctd_all hq
            refine metD_of h1 h2 h3 (fun T y as ij r0 h0 => ev_sound d y as ij r0 h0) (fun y as T ij T' ij' h0 => ih y as T ij T' ij' h0) hlen ⟨by omega, by omega⟩ (n := q.2.1) ?_
            rw [hg.1, hg.2]
            exact hrun
          · cases h'
        · cases h'
      · cases h'
