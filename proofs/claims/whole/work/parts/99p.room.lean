/-! ===== read: first tokens (reference) ===== -/
section RU
variable {I : Nat → Nat → Int32} {J : Nat → Nat → Int64} {d : Nat} {tok : Nat → TK} {T : Nat}
theorem ev_roomFor (hd : 3 ≤ d) (hT : TKS tok T) {c : Nat × Nat} (h : cuM I J tok T c) {a m : Nat} (ha : a < 100) (hm : m < 100) (h0 : (tok c.1).1 ≠ 0) (h1 : (tok c.1).1 ≠ 1) (hc : c.2 = 0) : ∃ I', EV d T0 186 [.ref 192, .int (nI a), .int (nI m)] (I, J) = some (none, (I', J)) ∧ kp [192] I I' ∧ kCu I I' ∧ cuM I' J tok T (tfS (decide (a ≠ m)) c) := by
  obtain ⟨d, rfl⟩ : ∃ z, d = z + 1 := ⟨d - 1, by omega⟩
  rw [e_X12_roomFor, runS_M, s_X12_roomFor_0]
  simp only [eq_nI (show a < 2 ^ 31 by omega) (show m < 2 ^ 31 by omega)]
  unfold tfS
  rw [if_pos hc]
  by_cases e : a = m
  · obtain ⟨I1, t1, t2, t3, t4⟩ := ev_fail (d := d) (I := I) (J := J) (by omega) hT h (k := 2) (by omega)
    have t1' : EV d T0 179 [.ref 192, .int 2] (I, J) = _ := t1
    have e9 : flS 2 c = (c.1, 2) := if_pos hc
    rw [e9] at t4
    have e13 : I1 192 13 = 2 := t4.2.1
    rw [if_pos e, t1', p_cv_s]
    dsimp only
    rw [if_neg (show ¬ I1 192 13 = 0 by rw [e13]; decide), if_neg (show ¬ decide (a ≠ m) = true from fun h9 => (of_decide_eq_true h9) e)]
    exact ⟨I1, rfl, t2, t3, t4⟩
  · obtain ⟨I1, t1, t2, t3, t4⟩ := ev_goesOn (d := d) (I := I) (J := J) (by omega) hT h h0 h1 hc
    have e13 : I 192 13 = 0 := by rw [h.2.1, hc]; rfl
    rw [if_neg e, if_pos e13, t1, p_cv_s, if_pos (show decide (a ≠ m) = true from decide_eq_true e)]
    exact ⟨I1, rfl, t2, t3, t4⟩
end RU
