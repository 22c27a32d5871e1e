theorem ck_L_law : ∀ pc E, C_L_law pc = some E → ckI 13 code pc E = true := by
  intro pc E hE
  by_cases hp : pc < 1221
  · have h1 := List.all_eq_true.mp (ckl (pc / 40) (by omega)) (pc % 40) (List.mem_range.mpr (Nat.mod_lt _ (by decide)))
    rw [Nat.div_add_mod] at h1
    unfold ckT at h1
    rw [hE] at h1
    exact h1
  · have e : C_L_law pc = none := by unfold C_L_law; rw [if_neg hp]
    rw [e] at hE
    cases hE
