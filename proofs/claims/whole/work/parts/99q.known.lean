/-! ===== read: names (reference) ===== -/
section RV
variable {I : Nat → Nat → Int32} {J : Nat → Nat → Int64} {d : Nat} {tok : Nat → TK} {T : Nat}
/-- names that were told: in the reference's cells -/
def nmM (I : Nat → Nat → Int32) (J : Nat → Nat → Int64) (m : Nat) (nm : Nat → Int64) (tw : Nat → Int32) : Prop := I 192 20 = nI m ∧ m ≤ 14 ∧ ∀ j, j < m → J 200 j = nm j ∧ I 201 j = tw j
/-- the first of the names that is v and a town -/
def ftF (nm : Nat → Int64) (tw : Nat → Int32) (v : Int64) : Nat → Nat → Option Nat
  | 0, _ => none
  | k + 1, i => if nm i = v ∧ ¬ tw i < 0 then some i else ftF nm tw v k (i + 1)
theorem lp_known21 {O : Ora} {m : Nat} {nm : Nat → Int64} {tw : Nat → Int32} (hn : nmM I J m nm tw) {j : Nat} (hj : j < 403) : ∀ (k i q : Nat), i + k = m → k < q →
    ∃ q', q ≤ q' + k ∧ runS O none 3 T0 C_X12_knownTown k_X12_knownTown rtI f_X12_knownTown q 21 [.ref 192, .int (nI j), .int (nI i)] [] (I, J) = (match ftF nm tw (J 198 j) k i with
      | some r => some (some (.int (tw r)), (I, J))
      | none => runS O none 3 T0 C_X12_knownTown k_X12_knownTown rtI f_X12_knownTown q' 21 [.ref 192, .int (nI j), .int (nI m)] [] (I, J)) := by
  obtain ⟨n1, n2, n3⟩ := hn
  intro k
  induction k with
  | zero =>
    intro i q hi hq
    have e : i = m := by omega
    subst e
    exact ⟨q, by omega, rfl⟩
  | succ k ih =>
    intro i q hi hq
    obtain ⟨q, rfl⟩ : ∃ z, q = z + 1 := ⟨q - 1, by omega⟩
    obtain ⟨q', u1, u2⟩ := ih (i + 1) q (by omega) (by omega)
    refine ⟨q', by omega, ?_⟩
    have hp : ∀ z : Option Rs, p_chk (p_in (nI i) 14) z = z := fun z => chk_in (by omega) (by omega)
    rw [runS_s, s_X12_knownTown_21, n1, if_neg (nI_ge (by omega) (by omega)), hp, hp, hp, chk_in hj (by omega), nI_clamp (by omega), nI_clamp (by omega), (n3 i (by omega)).1, (n3 i (by omega)).2, nI_1]
    simp only [lg_0]
    unfold ftF
    by_cases e : nm i = J 198 j
    · by_cases e2 : tw i < 0
      · rw [if_pos e, if_pos e2, if_neg (fun h9 => h9.2 e2)]; exact u2
      · rw [if_pos e, if_neg e2, if_pos ⟨e, e2⟩]; rfl
    · rw [if_neg e, if_neg (fun h9 => e h9.1)]; exact u2
end RV
