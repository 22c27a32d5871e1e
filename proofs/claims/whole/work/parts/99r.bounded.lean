/-! ===== read: numbers ===== -/
section RW
variable {I : Nat → Nat → Int32} {J : Nat → Nat → Int64} {d : Nat} {tok : Nat → TK} {T : Nat}
def inN (lo hi v : Nat) : Bool := decide (lo ≤ v ∧ v ≤ hi)
def nbS (lo hi v p : Nat) (s : Nat × Nat) : Nat × Nat := if inN lo hi v = true then s else ntS 5 p s
theorem ev_bounded (hd : 3 ≤ d) (hT : TKS tok T) {c : Nat × Nat} (h : cuM I J tok T c) (hc : c.2 = 0) (hk : (tok c.1).1 = 3) {s : Nat × Nat} (hs : sfM I s) {lo hi : Nat} (hlo : lo < 20000) (hhi : hi < 20000) (hv : (tok c.1).2.2.1 < 20000) (ho : s.1 = 0 ∨ s.2 < (tok c.1).2.1 ∨ (s.2 = (tok c.1).2.1 ∧ s.1 ≤ 5)) :
    ∃ I', EV d T0 192 [.ref 192, .int (nI lo), .int (nI hi)] (I, J) = some (some (.int (nI (tok c.1).2.2.1)), (I', J)) ∧ kp [192] I I' ∧ (∀ q, q ≠ 11 → q ≠ 13 → q ≠ 14 → q ≠ 15 → q ≠ 16 → I' 192 q = I 192 q) ∧ cuM I' J tok T (goS c) ∧ sfM I' (nbS lo hi (tok c.1).2.2.1 (tok c.1).2.1 s) := by
  obtain ⟨d, rfl⟩ : ∃ z, d = z + 1 := ⟨d - 1, by omega⟩
  have hTT := hT.2.1
  have a4 := h.2.2.2.1
  have hval : I 197 c.1 = nI (tok c.1).2.2.1 := (h.2.2.2.2.2 c.1 a4).2.2.1 hk
  have hcur : ∀ (I1 : Nat → Nat → Int32) (s' : Nat × Nat), cuM I1 J tok T c → sfM I1 s' → ∃ I', runS (EV d) none 4 T0 C_X12_bounded k_X12_bounded rtI f_X12_bounded 999999 51 [.ref 192, un, un, .int (nI (tok c.1).2.2.1)] [] (I1, J) = some (some (.int (nI (tok c.1).2.2.1)), (I', J)) ∧ kp [192] I1 I' ∧ kCu I1 I' ∧ cuM I' J tok T (goS c) ∧ sfM I' s' := by
    intro I1 s' g1 g2
    obtain ⟨I2, u1, u2, u3, u4⟩ := ev_goesOn (d := d) (I := I1) (J := J) (by omega) hT g1 (by rw [hk]; decide) (by rw [hk]; decide) hc
    refine ⟨I2, ?_, u2, u3, u4, ?_⟩
    · rw [show (999999 : Nat) = 999998 + 1 from rfl, runS_s, s_X12_bounded_51, u1, p_cv_s]; rfl
    · exact ⟨(u3 15 (by decide) (by decide) (by decide)).trans g2.1, g2.2.1, fun h9 => (u3 16 (by decide) (by decide) (by decide)).trans (g2.2.2.1 h9), g2.2.2.2⟩
  have q1 := q_is (d := d) (I := I) (J := J) (by omega) hT h (k := 3) (by decide) (by decide)
  have q1' : EV d T0 178 [.ref 192, .int 2] (I, J) = some (some (.int (zI (c.2 = 0 ∧ (tok c.1).1 = 3))), (I, J)) := q1
  have e13 : I 192 13 = nI 0 := by rw [h.2.1, hc]
  rw [e_X12_bounded, runS_M, s_X12_bounded_0, e13, if_neg (show ¬ (0 : Int32) < nI 0 by decide), q1', p_ci_s, if_neg (by rw [zI_t ⟨hc, hk⟩]; decide)]
  dsimp only
  have hp : ∀ z : Option Rs, p_chk (p_in (nI c.1) 403) z = z := fun z => chk_in (by omega) (by omega)
  have e11 : I 192 11 = nI c.1 := h.1
  simp only [e11, hp, nI_clamp (show c.1 < 2 ^ 31 by omega), hval, lt_nI (show (tok c.1).2.2.1 < 2 ^ 31 by omega) (show lo < 2 ^ 31 by omega), le_nI (show (tok c.1).2.2.1 < 2 ^ 31 by omega) (show hi < 2 ^ 31 by omega)]
  unfold nbS
  by_cases e : inN lo hi (tok c.1).2.2.1 = true
  · have e' := (of_decide_eq_true e : lo ≤ (tok c.1).2.2.1 ∧ (tok c.1).2.2.1 ≤ hi)
    obtain ⟨I', w1, w2, w3, w4, w5⟩ := hcur I s h hs
    rw [if_neg (by omega), if_pos e'.2, if_pos e]
    exact ⟨I', w1, w2, fun q b1 b2 b3 _ _ => w3 q b1 b2 b3, w4, w5⟩
  · obtain ⟨I1, t1, t2, t3, t4, t5⟩ := ev_wrong (d := d) (I := I) (J := J) (by omega) hT h hc hs (k := 5) (by omega) a4 ho
    have t1' : EV d T0 180 [.ref 192, .int 5, .int (nI c.1)] (I, J) = _ := t1
    obtain ⟨I', w1, w2, w3, w4, w5⟩ := hcur I1 _ t4 t5
    rw [if_neg e]
    refine ⟨I', ?_, t2.tr w2, fun q b1 b2 b3 b4 b5 => (w3 q b1 b2 b3).trans (t3 q b4 b5), w4, w5⟩
    by_cases e1 : (tok c.1).2.2.1 < lo
    · rw [if_pos e1, t1', p_cv_s]; exact w1
    · rw [if_neg e1, if_neg (fun h9 => e (decide_eq_true ⟨by omega, h9⟩)), t1', p_cv_s]; exact w1
end RW
