/-! ===== read: a law (class) ===== -/
section SI
variable {J : Nat → Nat → Int64} {d : Nat} {tok : Nat → TK} {T : Nat}
theorem ld_kp {I : Nat → Nat → Int32} {u sz : Nat} : kp [15] I (ldS I u sz) := by
  unfold ldS
  split
  · exact kp.rf.wr (by decide)
  · exact kp.rf
set_option maxHeartbeats 2000000 in
theorem lw_C (hd : 22 ≤ d) (hT : TKS tok T) (hV : TKV tok T) {l : Nat} (hl : l < 4) (x : Int32) : ∀ (k i sz n : Nat) (c : Nat × Nat) (I : Nat → Nat → Int32), i + k = 5 → cuC I J tok T c → I 14 3 = nI sz → sz ≤ 408 → (c.2 = 0 → sz + 1 ≤ 8 + c.1) → 8 * (k + 1) ≤ n →
    ∃ I', runS (EV d) none 6 T0 C_X4_readLaw k_X4_readLaw rtV f_X4_readLaw n 53 [.ref 3, .int (nI (260 + l)), .ref 14, .int x, .int (nI i), un] [] (I, J) = some (none, (I', J)) ∧ lwR I I' J tok T sz l x (lwG tok k c) := by
  have hTT := hT.2.1
  intro k
  induction k with
  | zero =>
    intro i sz n c I hi h h14 hz hs hn
    obtain ⟨n, rfl⟩ : ∃ z, n = z + 1 + 1 := ⟨n - 2, by omega⟩
    have e5 : i = 5 := by omega
    subst e5
    rw [runS_s, s_X4_readLaw_53, if_pos (by decide)]
    exact base_C hd hT hV h h14 hz hs hl x
  | succ k ih =>
    intro i sz n c I hi h h14 hz hs hn
    obtain ⟨n, rfl⟩ : ∃ z, n = z + 1 + 1 + 1 + 1 + 1 + 1 := ⟨n - 6, by omega⟩
    have h1 := h.2.2.2.1
    have h2 := h.2.2.2.2.1
    have kb := (hT.2.2.1 c.1 h1).1
    have e7 : I 3 7 = nI (tok c.1).1 := h.2.1
    have e8 : I 3 8 = nI c.2 := h.2.2.1
    rw [runS_s, s_X4_readLaw_53, if_neg (show ¬ (4 : Int32) < nI (i) from nI_nlt (a := 4) (b := i) (by omega) (by omega))]
    by_cases hk : c.2 = 0 ∧ (tok c.1).1 = 267
    · have a1 := if_p hT hV (k := k) h1 h2 hk.2
      obtain ⟨-, g1, -, g2, -, g3, -⟩ := a1
      have hz9 := if_z hT hV (k := k) h1 h2 hk.2
      rw [lw_y hk]
      have lwp := lw_p hT hV k (iC4 tok k c) (if_p hT hV (k := k) h1 h2 hk.2).2.2.2.2.2.2.1 (if_p hT hV (k := k) h1 h2 hk.2).2.2.2.2.2.2.2
      /- all steps -/
      obtain ⟨I1, t1, t2, t3, t4⟩ := ev_takeFirst (d := d) (I := I) (J := J) (by omega) hT h (decide (k ≠ 0)) (by omega) (by omega) (x := zI (decide (k ≠ 0) = true)) rfl
      have hs1 : (tfS (decide (k ≠ 0)) c).2 = 0 → sz ≤ 8 + (tfS (decide (k ≠ 0)) c).1 := fun hz => by
        obtain ⟨q1, -, -, q4⟩ := tf_z hz
        have := hs q1
        rw [q4]; show sz ≤ 8 + (c.1 + 1); omega
      obtain ⟨I2, u1, u2, u3, sz2, u4, u5, u6⟩ := ev_sumC (d := d) (I := I1) (J := J) hd hT hV t4 (by rw [t2 14 (by decide)]; exact h14) hz hs1
      obtain ⟨I3, v1, v2, v3, v4⟩ := ev_take (d := d) (I := I2) (J := J) (by omega) hT u3 (k := 60) (by omega) (by omega) (by omega)
      have v1' : EV d T0 47 [.ref 3, .int 60] (I2, J) = _ := v1
      have hs2 : (tkS tok 60 (iE1 tok k c).2).2 = 0 → sz2 ≤ 8 + (tkS tok 60 (iE1 tok k c).2).1 := fun hz => by
        obtain ⟨q1, -, -, q4⟩ := tk_z hz
        obtain ⟨p1, -, p3, -⟩ := g1.2.2 q1
        have r1 := (u6 q1).1
        obtain ⟨-, -, -, w4⟩ := tf_z p1
        rw [w4] at p3
        have p3' : c.1 + 1 + (iE1 tok k c).1.length ≤ (iE1 tok k c).2.1 := p3
        have r1' : sz2 = sz + (iE1 tok k c).1.length := r1
        have := hs hk.1
        rw [q4]; show sz2 ≤ 8 + ((iE1 tok k c).2.1 + 1); omega
      obtain ⟨I4, w1, w2, w3, sz4, w4, w5, w6⟩ := ev_sumC (d := d) (I := I3) (J := J) hd hT hV v4 (by rw [v2 14 (by decide)]; exact u4) u5 hs2
      obtain ⟨sz5, b1, b2, b3⟩ := ad_r (v := 0 * 64 + 3) w4 w5
      have hk5 := ad_K (I := I4) (sz := sz4) (v := 0 * 64 + 3)
      obtain ⟨I6, x1, x2, x3, x4⟩ := ev_take (d := d) (J := J) (by omega) hT (w3.kx hk5.1 (by decide)) (k := 268) (by omega) (by omega) (by omega)
      have x1' : EV d T0 47 [.ref 3, .int 268] (adS I4 sz4 (0 * 64 + 3), J) = _ := x1
      have hs3 : (tkS tok 268 (iE2 tok k c).2).2 = 0 → sz5 ≤ 8 + (tkS tok 268 (iE2 tok k c).2).1 ∧ sz4 < 408 := fun hz => by
        obtain ⟨q1, -, -, q4⟩ := tk_z hz
        obtain ⟨p1, -, p3, -⟩ := g2.2.2 q1
        have r1 : sz4 = sz2 + (iE2 tok k c).1.length := (w6 q1).1
        obtain ⟨-, -, -, y4⟩ := tk_z p1
        have r2 := hs2 p1
        rw [y4] at p3 r2
        have p3' : (iE1 tok k c).2.1 + 1 + (iE2 tok k c).1.length ≤ (iE2 tok k c).2.1 := p3
        have r2' : sz2 ≤ 8 + ((iE1 tok k c).2.1 + 1) := r2
        have hlt := g2.1.1
        have hq3 : (iE2 tok k c).2.1 < 400 := (tk_z hz).2.2.1
        have r3 := (b3 (by omega)).1
        rw [q4]; show sz5 ≤ 8 + ((iE2 tok k c).2.1 + 1) ∧ sz4 < 408; omega
      obtain ⟨I7, y1, y2, y3, sz7, y4, y5, y6⟩ := ev_sumC (d := d) (I := I6) (J := J) hd hT hV x4 (by rw [x2 14 (by decide)]; exact b1) b2 (fun hz => (hs3 hz).1)
      obtain ⟨sz8, c1, c2, c3⟩ := ad_r (v := 0 * 64 + 4) y4 y5
      have hk8 := ad_K (I := I7) (sz := sz7) (v := 0 * 64 + 4)
      obtain ⟨I9, r1, r2, r3, r4⟩ := ev_take (d := d) (J := J) (by omega) hT (y3.kx hk8.1 (by decide)) (k := 269) (by omega) (by omega) (by omega)
      have r1' : EV d T0 47 [.ref 3, .int 269] (adS I7 sz7 (0 * 64 + 4), J) = _ := r1
      have e14 : I9 14 3 = nI sz8 := by rw [r2 14 (by decide)]; exact c1
      have k10 := ld_kp (I := I9) (u := sz4) (sz := sz8)
      have cu10 : cuC (ldS I9 sz4 sz8) J tok T (iC4 tok k c) := r4.kx k10 (by decide)
      have hs4 : (iC4 tok k c).2 = 0 → sz8 + 1 ≤ 8 + (iC4 tok k c).1 ∧ sz7 < 408 ∧ sz8 = sz7 + 1 ∧ sz7 = sz5 + (iE3 tok k c).1.length ∧ sz5 = sz4 + 1 ∧ sz4 = sz2 + (iE2 tok k c).1.length ∧ sz2 = sz + (iE1 tok k c).1.length := fun hz => by
        obtain ⟨m1, m2, m3, m4, m5, m6, m7, m8, m9, ⟨m10, m11, m12⟩, m13, m14, m15⟩ := hz9 hz
        have n1 := hs m1
        have n2 : sz2 = sz + (iE1 tok k c).1.length := (u6 m4).1
        have n4 : sz4 = sz2 + (iE2 tok k c).1.length := (w6 m6).1
        have n5 := (b3 (by omega)).1
        have n7 : sz7 = sz5 + (iE3 tok k c).1.length := (y6 m8).1
        have n8 := (c3 (by omega)).1
        rw [m9]
        show sz8 + 1 ≤ 8 + ((iE3 tok k c).2.1 + 1) ∧ _
        omega
      obtain ⟨I11, s1, s2, s3, s4, s5⟩ := ih (i + 1) sz8 n (iC4 tok k c) (ldS I9 sz4 sz8) (by omega) cu10 (by rw [k10 14 (by decide)]; exact e14) c2 (fun hz => (hs4 hz).1) (by omega)
      have hgo : ∃ I', p_cv (EV d T0 46 [.ref 3, .int (zI (decide (k ≠ 0) = true))] (I, J)) (fun z9 => p_cv (EV d T0 43 [.ref 3, .int 0] z9) (fun z10 => runS (EV d) none 6 T0 C_X4_readLaw k_X4_readLaw rtV f_X4_readLaw (n + 1 + 1 + 1 + 1 + 1) 96 [.ref 3, .int (nI (260 + l)), .ref 14, .int x, .int (nI i), un] [] z10)) = some (none, (I', J)) ∧ lwR I I' J tok T sz l x ((iBr tok k c :: (lwG tok k (iC4 tok k c)).1.1, (lwG tok k (iC4 tok k c)).1.2), (lwG tok k (iC4 tok k c)).2) := by
        refine ⟨I11, ?_, ?_, s3, ?_, fun hzf => ?_⟩
        · rw [t1, p_cv_s, u1, p_cv_s, runS_s, s_X4_readLaw_96, v1', p_ci_s, w1, p_cv_s, runS_s, s_X4_readLaw_108, q_nextStep (by omega), p_ci_s, w4, ev_addStep (by omega) w4 w5, p_cv_s, runS_s, s_X4_readLaw_120, x1', p_ci_s, y1, p_cv_s, runS_s, s_X4_readLaw_133, ev_addStep (by omega) y4 y5, p_cv_s, r1', p_ci_s, runS_s, s_X4_readLaw_147, ev_leadHere (by omega) e14 c2 w5, p_cv_s, nI_1]
          exact s1
        · exact ((mv_K t2 t3).lw.tr (u2.lw.tr ((mv_K v2 v3).lw.tr (w2.lw.tr (hk5.2.lw.tr ((mv_K x2 x3).lw.tr (y2.lw.tr (hk8.2.lw.tr ((mv_K r2 r3).lw.tr ⟨k10.up (by decide), fun j _ _ _ => by rw [k10 3 (by decide)], fun j _ => by rw [k10 14 (by decide)]⟩))))))))).tr s2
        · rw [s4, k10 17 (by decide), r2 17 (by decide), hk8.1 17 (by decide), y2.1 17 (by decide), x2 17 (by decide), hk5.1 17 (by decide), w2.1 17 (by decide), v2 17 (by decide), u2.1 17 (by decide), t2 17 (by decide)]
        · obtain ⟨f1, f2, f3⟩ := s5 hzf
          have hz4 : (iC4 tok k c).2 = 0 := (lwp.2 hzf).1
          obtain ⟨m1, m2, m3, m4, m5, m6, m7, m8, m9, -, m13, m14, m15⟩ := hz9 hz4
          obtain ⟨n0, n1, n2, n3, n4, n5, n6⟩ := hs4 hz4
          obtain ⟨-, q2a, q2b⟩ := u6 m4
          obtain ⟨-, q4a, q4b⟩ := w6 m6
          obtain ⟨-, q5a, q5b⟩ := b3 (by omega)
          obtain ⟨-, q7a, q7b⟩ := y6 m8
          obtain ⟨-, q8a, q8b⟩ := c3 (by omega)
          have eld : ldS I9 sz4 sz8 15 = upd (I9 15) sz4 (nI sz8 * 64 + 3) := by unfold ldS; rw [if_pos (by omega), wr_eq]
          have e9 : I9 15 = adS I7 sz7 (0 * 64 + 4) 15 := r2 15 (by decide)
          have e6 : I6 15 = adS I4 sz4 (0 * 64 + 3) 15 := x2 15 (by decide)
          have e3 : I3 15 = I2 15 := v2 15 (by decide)
          have e1 : I1 15 = I 15 := t2 15 (by decide)
          /- below sz8, all but sz4, as behind the third expression -/
          have d9 : ∀ j, j < sz7 → j ≠ sz4 → I11 15 j = I7 15 j := fun j hj hj4 => by rw [f3 j (by omega), eld, pk_un hj4, e9, q8b j hj]
          have d6 : ∀ j, j < sz4 → I11 15 j = I4 15 j := fun j hj => by rw [d9 j (by omega) (by omega), q7b j (by omega), e6, q5b j hj]
          have d3 : ∀ j, j < sz2 → I11 15 j = I2 15 j := fun j hj => by rw [d6 j (by omega), q4b j hj, e3]
          refine ⟨?_, ⟨?_, ?_, ?_, ?_, ?_, ?_⟩, fun j hj => ?_⟩
          · rw [f1]
            show nI (sz8 + lnL (lwG tok k (iC4 tok k c)).1.1 (lwG tok k (iC4 tok k c)).1.2) = nI (sz + ((iE1 tok k c).1.length + (iE2 tok k c).1.length + (iE3 tok k c).1.length + 2 + lnL (lwG tok k (iC4 tok k c)).1.1 (lwG tok k (iC4 tok k c)).1.2))
            congr 1; omega
          · exact atC_cg (iE1 tok k c).1 sz (fun j _ hj => d3 j (by omega)) q2a
          · show atC (I11 15) (sz + (iE1 tok k c).1.length) (iE2 tok k c).1
            rw [← n6]
            exact atC_cg (iE2 tok k c).1 sz2 (fun j _ hj => d6 j (by omega)) q4a
          · show I11 15 (sz + (iE1 tok k c).1.length + (iE2 tok k c).1.length) = nI (64 * (sz + (iE1 tok k c).1.length + (iE2 tok k c).1.length + (iE3 tok k c).1.length + 2) + 3)
            rw [show sz + (iE1 tok k c).1.length + (iE2 tok k c).1.length = sz4 by omega, f3 sz4 (by omega), eld, pk_us, show (64 : Int32) = nI 64 from rfl, pk_mul, show (3 : Int32) = nI 3 from rfl, nI_add]
            congr 1; omega
          · show atC (I11 15) (sz + (iE1 tok k c).1.length + (iE2 tok k c).1.length + 1) (iE3 tok k c).1
            rw [show sz + (iE1 tok k c).1.length + (iE2 tok k c).1.length + 1 = sz5 by omega]
            exact atC_cg (iE3 tok k c).1 sz5 (fun j a b => d9 j (by omega) (by omega)) q7a
          · show I11 15 (sz + (iE1 tok k c).1.length + (iE2 tok k c).1.length + (iE3 tok k c).1.length + 1) = nI 4
            rw [show sz + (iE1 tok k c).1.length + (iE2 tok k c).1.length + (iE3 tok k c).1.length + 1 = sz7 by omega, f3 sz7 (by omega), eld, pk_un (by omega), e9, q8a]; rfl
          · show atL (I11 15) (sz + (iE1 tok k c).1.length + (iE2 tok k c).1.length + (iE3 tok k c).1.length + 2) _ _
            rw [show sz + (iE1 tok k c).1.length + (iE2 tok k c).1.length + (iE3 tok k c).1.length + 2 = sz8 by omega]
            exact f2
          · rw [d3 j (by omega), q2b j hj, e1]
      rw [if_pos (show I 3 8 = 0 by rw [e8, hk.1]; rfl), if_pos (show I 3 7 = 267 by rw [e7, hk.2]; rfl)]
      by_cases k0 : k = 0
      · rw [if_pos (show (4 : Int32) ≤ nI (i) from nI_le (a := 4) (b := i) (by omega) (by omega))]
        have ez : zI (decide (k ≠ 0) = true) = 0 := zI_f (fun h9 => (of_decide_eq_true h9) k0)
        rw [ez] at hgo; exact hgo
      · rw [if_neg (show ¬ (4 : Int32) ≤ nI (i) from nI_ge (a := i) (b := 4) (by omega) (by omega))]
        have ez : zI (decide (k ≠ 0) = true) = 1 := zI_t (decide_eq_true k0)
        rw [ez] at hgo; exact hgo
    · rw [lw_n hk]
      have hb := base_C (d := d) (n := n + 1 + 1 + 1 + 1) hd hT hV h h14 hz hs hl x
      by_cases e0 : c.2 = 0
      · rw [if_pos (show I 3 8 = 0 by rw [e8, e0]; rfl), if_neg (show ¬ I 3 7 = 267 by rw [e7, show (267 : Int32) = nI 267 from rfl, nI_eq (by omega) (by omega)]; exact fun h9 => hk ⟨e0, h9⟩)]
        exact hb
      · rw [if_neg (show ¬ I 3 8 = 0 by rw [e8, eq0_nI (by omega)]; exact e0)]
        exact hb
/-- a law, in the class -/
def lawT (tok : Nat → TK) (c : Nat × Nat) : (List Br × List Op) × (Nat × Nat) := lwG tok 5 (tkS tok 61 (tkS tok (tok c.1).1 c))
theorem ev_readLaw (hd : 23 ≤ d) (hT : TKS tok T) (hV : TKV tok T) {I : Nat → Nat → Int32} {c : Nat × Nat} {sz : Nat} (h : cuC I J tok T c) (hc : c.2 = 0) (h14 : I 14 3 = nI sz) (hz : sz ≤ 8 + c.1) :
    ((260 ≤ (tok c.1).1 ∧ (tok c.1).1 ≤ 263) → ∃ I', EV d T0 42 [.ref 3] (I, J) = some (none, (I', J)) ∧ lwR I I' J tok T sz ((tok c.1).1 - 260) (nI sz) (lawT tok c)) ∧
    (¬ (260 ≤ (tok c.1).1 ∧ (tok c.1).1 ≤ 263) → ∃ I', EV d T0 42 [.ref 3] (I, J) = some (none, (I', J)) ∧ kp [3] I I' ∧ k678 I I' ∧ cuC I' J tok T (c.1, 1)) := by
  obtain ⟨d, rfl⟩ : ∃ z, d = z + 1 := ⟨d - 1, by omega⟩
  have hTT := hT.2.1
  have h1 := h.2.2.2.1
  have h2 := h.2.2.2.2.1
  have kb := (hT.2.2.1 c.1 h1).1
  have e7 : I 3 7 = nI (tok c.1).1 := h.2.1
  have hw : zI (¬ nI (tok c.1).1 < 260 ∧ ¬ (263 : Int32) < nI (tok c.1).1) = zI (260 ≤ (tok c.1).1 ∧ (tok c.1).1 ≤ 263) := z_cg (by
    rw [show (260 : Int32) = nI 260 from rfl, show (263 : Int32) = nI 263 from rfl, lt_nI (by omega) (by omega), lt_nI (by omega) (by omega)]; omega)
  rw [e_X4_readLaw, runS_M, s_X4_readLaw_0, e7, q_within (by omega), p_ci_s, hw]
  constructor
  · intro hk
    obtain ⟨I1, t1, t2, t3, t4⟩ := ev_take (d := d) (I := I) (J := J) (by omega) hT h (k := (tok c.1).1) (by omega) (by omega) (by omega)
    obtain ⟨I2, u1, u2, u3, u4⟩ := ev_take (d := d) (I := I1) (J := J) (by omega) hT t4 (k := 61) (by omega) (by omega) (by omega)
    have u1' : EV d T0 47 [.ref 3, .int 61] (I1, J) = _ := u1
    have x12 : kp [3] I I2 := t2.tr u2
    obtain ⟨I3, w1, w2, w3, w4, w5⟩ := lw_C (d := d) (J := J) (by omega) hT hV (l := (tok c.1).1 - 260) (by omega) (nI sz) 5 0 sz 999997 (tkS tok 61 (tkS tok (tok c.1).1 c)) I2 (by omega) u4 (by rw [x12 14 (by decide)]; exact h14) (by omega) (fun hz9 => by
      obtain ⟨q1, -, -, q4⟩ := tk_z hz9
      obtain ⟨-, -, -, p4⟩ := tk_z q1
      rw [q4, p4]; show sz + 1 ≤ 8 + (c.1 + 1 + 1); omega) (by omega)
    rw [show 260 + ((tok c.1).1 - 260) = (tok c.1).1 by omega] at w1
    refine ⟨I3, ?_, ?_, w3, ?_, fun hz9 => ?_⟩
    · rw [if_neg (by rw [zI_t hk]; decide), q_nextStep (by omega), p_ci_s, h14, show (999999 : Nat) = 999998 + 1 from rfl, runS_s, s_X4_readLaw_37, t1, p_ci_s, u1', p_ci_s, show (999998 : Nat) = 999997 + 1 from rfl, runS_s, s_X4_readLaw_50]
      exact w1
    · exact ((mv_K t2 t3).lw.tr (mv_K u2 u3).lw).tr w2
    · rw [w4, x12 17 (by decide)]
    · obtain ⟨f1, f2, f3⟩ := w5 hz9
      exact ⟨f1, f2, fun j hj => by rw [f3 j hj, x12 15 (by decide)]⟩
  · intro hk
    have x1 : kp [3] I (p_wr I 3 8 1) := kp.rf.wr (by decide)
    refine ⟨_, by rw [if_pos (zI_f hk)]; rfl, x1, fun j _ _ b3 => by show p_wr I 3 8 1 3 j = _; rw [wr_eq, pk_un b3], ?_, ?_, ?_, h1, by show 1 < 3; omega, by show p_wr I 3 8 1 18 4 = _; rw [x1 18 (by decide)]; exact h.2.2.2.2.2.1, fun j hj => (h.2.2.2.2.2.2 j hj).kp x1 (by decide)⟩
    · show p_wr I 3 8 1 3 6 = _; rw [wr_eq, pk_un (by decide)]; exact h.1
    · show p_wr I 3 8 1 3 7 = _; rw [wr_eq, pk_un (by decide)]; exact e7
    · show p_wr I 3 8 1 3 8 = _; rw [wr_eq, pk_us]; rfl
end SI
