/-! ===== read: towns by name (class) ===== -/
section RY
variable {I : Nat → Nat → Int32} {J : Nat → Nat → Int64} {d : Nat} {tok : Nat → TK} {T : Nat}
theorem fnF_b (nm : Nat → Int64) (v : Int64) : ∀ (k i r : Nat), fnF nm v k i = some r → i ≤ r ∧ r < i + k ∧ nm r = v := by
  intro k
  induction k with
  | zero => intro i r h; exact absurd h (by show ¬ none = some r; exact fun h9 => by cases h9)
  | succ k ih =>
    intro i r h
    unfold fnF at h
    by_cases c : nm i = v
    · rw [if_pos c] at h
      have e : i = r := Option.some.inj h
      subst e; exact ⟨Nat.le_refl _, by omega, c⟩
    · rw [if_neg c] at h
      have := ih (i + 1) r h
      exact ⟨by omega, by omega, this.2.2⟩
/-- the town of a name, or none -/
def twF (nm : Nat → Int64) (tw : Nat → Int32) (m : Nat) (v : Int64) : Int32 := match fnF nm v m 0 with
  | none => -1
  | some r => tw r
theorem ev_townAt (hd : 3 ≤ d) (hT : TKS tok T) {c : Nat × Nat} (h : cuC I J tok T c) {s : Nat × Nat} (hs : sfC I s) {m : Nat} {nm : Nat → Int64} {tw : Nat → Int32} (hn : nmC I J m nm tw) {j : Nat} (hj : j < T) :
    ∃ I', EV d T0 51 [.ref 3, .int (nI j)] (I, J) = some (some (.int (twF nm tw m (tkV (tok j)))), (I', J)) ∧ kp [3] I I' ∧ (∀ q, q ≠ 9 → q ≠ 10 → I' 3 q = I 3 q) ∧ cuC I' J tok T c ∧ sfC I' (if 0 ≤ twF nm tw m (tkV (tok j)) then s else ntS 4 (tok j).2.1 s) := by
  obtain ⟨d, rfl⟩ : ∃ z, d = z + 1 := ⟨d - 1, by omega⟩
  have h14 := hn.2.1
  obtain ⟨I1, t1, t2, t3, t4, t5⟩ := ev_note (d := d) (I := I) (J := J) (by omega) hT h hs (k := 4) (by omega) (by omega) hj
  have t1' : EV d T0 48 [.ref 3, .int 4, .int (nI j)] (I, J) = _ := t1
  rw [e_X4_townAt, runS_M, s_X4_townAt_0, q_findName (by omega) hT h hn hj, p_ci_s]
  unfold twF
  cases e : fnF nm (tkV (tok j)) m 0 with
  | none =>
    rw [if_neg (show ¬ (0 : Int32) ≤ fnI none by decide), t1', p_cv_s]
    dsimp only
    rw [if_neg (show ¬ (0 : Int32) ≤ -1 by decide)]
    exact ⟨I1, rfl, t2, t3, t4, t5⟩
  | some r =>
    have hr := fnF_b nm (tkV (tok j)) m 0 r e
    have hp : ∀ z : Option Rs, p_chk (p_in (nI r) 14) z = z := fun z => chk_in (by omega) (by omega)
    have e24 : I 24 r = tw r := (hn.2.2 r (by omega)).2
    show ∃ I', (if (0 : Int32) ≤ nI r then p_chk (p_in (nI r) 14) (if 0 ≤ I 24 (nI r).toNatClampNeg then rtI (some (.int (I 24 (nI r).toNatClampNeg))) (I, J) else p_cv (EV d T0 48 [.ref 3, .int 4, .int (nI j)] (I, J)) (fun z3 => rtI (some (.int (I 24 (nI r).toNatClampNeg))) z3)) else _) = _ ∧ _
    simp only [if_pos (show (0 : Int32) ≤ nI r from nI_le (a := 0) (by omega) (by omega)), hp, nI_clamp (show r < 2 ^ 31 by omega), e24]
    by_cases c1 : 0 ≤ tw r
    · rw [if_pos c1, if_pos c1]; exact ⟨I, rfl, kp.rf, fun _ _ _ => rfl, h, hs⟩
    · rw [if_neg c1, if_neg c1, t1', p_cv_s]; exact ⟨I1, rfl, t2, t3, t4, t5⟩
end RY
