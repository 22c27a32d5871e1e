/-! ===== read: numbers (class) ===== -/
section RX
variable {I : Nat → Nat → Int32} {J : Nat → Nat → Int64} {d : Nat} {tok : Nat → TK} {T : Nat}
theorem t32 {v : Nat} (hv : v < 20000) : (Int64.ofNat v).toInt32 = nI v := by
  apply Int32.toInt_inj.mp
  rw [nI_toInt (by omega), Int64.toInt_toInt32, Int64.toInt_ofNat_of_lt (by omega)]
  exact Int.bmod_eq_of_le (by omega) (by omega)
theorem ev_numberAt (hd : 3 ≤ d) (hT : TKS tok T) {c : Nat × Nat} (h : cuC I J tok T c) {s : Nat × Nat} (hs : sfC I s) {j : Nat} (hj : j < T) (hz : (tok j).2.2.2 = 0) (hv : (tok j).2.2.1 < 20000) {lo hi : Nat} (hlo : lo < 20000) (hhi : hi < 20000) :
    ∃ I', EV d T0 52 [.ref 3, .int (nI j), .int (nI lo), .int (nI hi)] (I, J) = some (some (.int (nI (tok j).2.2.1)), (I', J)) ∧ kp [3] I I' ∧ (∀ q, q ≠ 9 → q ≠ 10 → I' 3 q = I 3 q) ∧ cuC I' J tok T c ∧ sfC I' (nbS lo hi (tok j).2.2.1 (tok j).2.1 s) := by
  obtain ⟨d, rfl⟩ : ∃ z, d = z + 1 := ⟨d - 1, by omega⟩
  have e : tkV (tok j) = Int64.ofNat (tok j).2.2.1 := by unfold tkV; rw [hz]; exact Int64.add_zero _
  rw [e_X4_numberAt, runS_M, s_X4_numberAt_0, q_valueOf (by omega) hT h hj, p_cl_s, e, t32 hv, q_within (by omega), p_ci_s]
  unfold nbS
  have hz2 : zI (¬ nI (tok j).2.2.1 < nI lo ∧ ¬ nI hi < nI (tok j).2.2.1) = zI (inN lo hi (tok j).2.2.1 = true) := z_cg (by
    rw [lt_nI (by omega) (by omega), lt_nI (by omega) (by omega)]
    unfold inN
    rw [decide_eq_true_iff]; omega)
  rw [hz2]
  by_cases c1 : inN lo hi (tok j).2.2.1 = true
  · rw [if_neg (by rw [zI_t c1]; decide), if_pos c1]
    exact ⟨I, rfl, kp.rf, fun _ _ _ => rfl, h, hs⟩
  · obtain ⟨I1, t1, t2, t3, t4, t5⟩ := ev_note (d := d) (I := I) (J := J) (by omega) hT h hs (k := 5) (by omega) (by omega) hj
    have t1' : EV d T0 48 [.ref 3, .int 5, .int (nI j)] (I, J) = _ := t1
    rw [if_pos (zI_f c1), if_neg c1]
    refine ⟨I1, ?_, t2, t3, t4, t5⟩
    rw [show (999999 : Nat) = 999998 + 1 from rfl, runS_s, s_X4_numberAt_21, t1', p_cv_s]; rfl
end RX
