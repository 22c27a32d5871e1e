/-! ===== read: the token at hand (reference) ===== -/
section RQ
variable {I : Nat → Nat → Int32} {J : Nat → Nat → Int64} {d : Nat} {tok : Nat → TK} {T : Nat}
def kCu (I I' : Nat → Nat → Int32) : Prop := ∀ j, j ≠ 11 → j ≠ 13 → j ≠ 14 → I' 192 j = I 192 j
theorem kCu.rf : kCu I I := fun _ _ _ _ => rfl
theorem kCu.tr {I' I'' : Nat → Nat → Int32} (h : kCu I I') (h' : kCu I' I'') : kCu I I'' := fun j a b c => (h' j a b c).trans (h j a b c)
theorem tkM.kp {I' : Nat → Nat → Int32} {j : Nat} {t : TK} {X : List Nat} (h : tkM I J j t) (hk : kp X I I') (hX : 195 ∉ X ∧ 196 ∉ X ∧ 197 ∉ X) : tkM I' J j t := by
  unfold tkM; rw [hk 195 hX.1, hk 196 hX.2.1, hk 197 hX.2.2]; exact h
def flS (k : Nat) (c : Nat × Nat) : Nat × Nat := if c.2 = 0 then (c.1, k) else c
theorem ev_fail (hd : 1 ≤ d) (hT : TKS tok T) {c : Nat × Nat} (h : cuM I J tok T c) {k : Nat} (hk : k < 3) : ∃ I', EV d T0 179 [.ref 192, .int (nI k)] (I, J) = some (none, (I', J)) ∧ kp [192] I I' ∧ kCu I I' ∧ cuM I' J tok T (flS k c) := by
  obtain ⟨d, rfl⟩ : ∃ z, d = z + 1 := ⟨d - 1, by omega⟩
  obtain ⟨a1, a2, a3, a4, a5, a6⟩ := h
  have hTT := hT.2.1
  rw [e_X12_fail, runS_M, s_X12_fail_0, a1, a2]
  simp only [le0_nI (show c.2 < 2 ^ 31 by omega)]
  unfold flS
  by_cases e : c.2 = 0
  · have x1 : kp [192] I (p_wr (p_wr I 192 13 (nI k)) 192 14 (nI (tok c.1).2.1)) := (kp.rf.wr (by decide)).wr (by decide)
    rw [if_pos e, if_pos e, chk_in (by omega) (by omega), nI_clamp (by omega), (a6 c.1 a4).2.1]
    refine ⟨_, rfl, x1, fun j b1 b2 b3 => by rw [wr_eq, pk_un b3, wr_eq, pk_un b2], ?_, ?_, fun _ => ?_, a4, hk, fun j hj => (a6 j hj).kp x1 (by decide)⟩
    · rw [wr_eq, pk_un (by decide), wr_eq, pk_un (by decide)]; exact a1
    · rw [wr_eq, pk_un (by decide), wr_eq, pk_us]
    · rw [wr_eq, pk_us]
  · rw [if_neg e, if_neg e]
    exact ⟨I, rfl, kp.rf, kCu.rf, a1, a2, a3, a4, a5, a6⟩
/-- on to the next token: the one at hand is one -/
def goS (c : Nat × Nat) : Nat × Nat := if c.1 = 400 then (c.1, 2) else (c.1 + 1, 0)
theorem ev_goesOn (hd : 2 ≤ d) (hT : TKS tok T) {c : Nat × Nat} (h : cuM I J tok T c) (h0 : (tok c.1).1 ≠ 0) (h1 : (tok c.1).1 ≠ 1) (hf : c.2 = 0) : ∃ I', EV d T0 181 [.ref 192] (I, J) = some (none, (I', J)) ∧ kp [192] I I' ∧ kCu I I' ∧ cuM I' J tok T (goS c) := by
  obtain ⟨d, rfl⟩ : ∃ z, d = z + 1 := ⟨d - 1, by omega⟩
  have hTT := hT.2.1
  have a1 := h.1
  have a4 := h.2.2.2.1
  rw [e_X12_goesOn, runS_M, s_X12_goesOn_0, a1]
  simp only [show (nI c.1 = (400 : Int32)) = (c.1 = 400) from eq_nI (b := 400) (by omega) (by omega)]
  unfold goS
  by_cases e : c.1 = 400
  · rw [if_pos e, if_pos e]
    obtain ⟨I1, t1, t2, t3, t4⟩ := ev_fail (d := d) (I := I) (J := J) (by omega) hT h (k := 2) (by omega)
    have t1' : EV d T0 179 [.ref 192, .int 2] (I, J) = _ := t1
    rw [t1', p_cv_s]
    refine ⟨I1, rfl, t2, t3, ?_⟩
    have e9 : flS 2 c = (c.1, 2) := if_pos hf
    rw [e9] at t4; exact t4
  · obtain ⟨-, a2, a3, -, a5, a6⟩ := h
    have x1 : kp [192] I (p_wr I 192 11 (nI (c.1 + 1))) := kp.rf.wr (by decide)
    rw [if_neg e, if_neg e, nI_1]
    refine ⟨_, rfl, x1, fun j b1 b2 b3 => by rw [wr_eq, pk_un b1], ?_, ?_, fun h9 => absurd rfl h9, hT.2.2.2 c.1 a4 h0 h1 e, by show 0 < 3; omega, fun j hj => (a6 j hj).kp x1 (by decide)⟩
    · rw [wr_eq, pk_us]
    · rw [wr_eq, pk_un (by decide), a2, hf]
theorem go_tk {c : Nat × Nat} {k : Nat} (hf : c.2 = 0) (hk : (tok c.1).1 = k) (hc : c.1 ≤ 400) : tkS tok k c = goS c := by
  unfold tkS goS
  rw [if_pos hf, if_pos hk]
  by_cases e : c.1 = 400
  · rw [if_neg (by omega), if_pos e]
  · rw [if_pos (by omega), if_neg e]
theorem ev_must (hd : 3 ≤ d) (hT : TKS tok T) {c : Nat × Nat} (h : cuM I J tok T c) {k : Nat} (hk : k < 300) (hv : vK k = true) (h0 : k ≠ 0) (h1 : k ≠ 1) : ∃ I', EV d T0 182 [.ref 192, .int (nI (kap k))] (I, J) = some (none, (I', J)) ∧ kp [192] I I' ∧ kCu I I' ∧ cuM I' J tok T (tkS tok k c) := by
  obtain ⟨d, rfl⟩ : ∃ z, d = z + 1 := ⟨d - 1, by omega⟩
  have hTT := hT.2.1
  have a4 := h.2.2.2.1
  rw [e_X12_must, runS_M, s_X12_must_0, q_is (by omega) hT h hk hv, p_ci_s]
  by_cases e : c.2 = 0 ∧ (tok c.1).1 = k
  · obtain ⟨I1, t1, t2, t3, t4⟩ := ev_goesOn (d := d) (I := I) (J := J) (by omega) hT h (by rw [e.2]; exact h0) (by rw [e.2]; exact h1) e.1
    refine ⟨I1, ?_, t2, t3, ?_⟩
    · rw [if_neg (by rw [zI_t e]; decide), t1, p_cv_s, show (999999 : Nat) = 999998 + 1 from rfl, runS_s, s_X12_must_12]; rfl
    · rw [go_tk e.1 e.2 (by omega)]; exact t4
  · obtain ⟨I1, t1, t2, t3, t4⟩ := ev_fail (d := d) (I := I) (J := J) (by omega) hT h (k := 1) (by omega)
    have t1' : EV d T0 179 [.ref 192, .int 1] (I, J) = _ := t1
    refine ⟨I1, ?_, t2, t3, ?_⟩
    · rw [if_pos (zI_f e), t1', p_cv_s]; rfl
    · have e9 : tkS tok k c = flS 1 c := by
        unfold tkS flS
        by_cases e1 : c.2 = 0
        · rw [if_pos e1, if_pos e1, if_neg (fun h9 => e ⟨e1, h9⟩)]
        · rw [if_neg e1, if_neg e1]
      rw [e9]; exact t4
end RQ
