/-! ===== read: a cart told (reference) ===== -/
section SR
variable {I : Nat → Nat → Int32} {J : Nat → Nat → Int64} {d : Nat} {tok : Nat → TK} {T : Nat}
theorem ev_tellCart (hd : 6 ≤ d) (hT : TKS tok T) (hV : TKV tok T) {c : Nat × Nat} (cu : cuM I J tok T c) (hc : c.2 = 0) {v C : Nat} (hv : v < 2) (h19 : I 192 19 = nI v) (hC : I 210 v = nI C) (hC4 : C < 4) {m : Nat} {nm : Nat → Int64} {tw : Nat → Int32} (hn : nmM I J m nm tw) (hm : m < 14) {s : Nat × Nat} (hs : sfM I s) (ho : orQ (tok c.1).2.1 s) :
    ∃ I' J', EV d T0 195 [.ref 192] (I, J) = some (none, (I', J')) ∧ kp [192, 201, 210, 211, 212, 213] I I' ∧ kpJ [200] J J' ∧ (∀ j, j ∉ [11, 13, 14, 15, 16, 20] → I' 192 j = I 192 j) ∧ (∀ j, j ≠ v → I' 210 j = I 210 j) ∧ (∀ k, 211 ≤ k → k ≤ 213 → ∀ j, j ≠ 4 * v + C → I' k j = I k j) ∧ cuG I' J' tok T (tkS tok 59 (tkS tok 3 (tkS tok 2 (tkS tok 2 (tkS tok 2 c))))) ∧ ((tkS tok 59 (tkS tok 3 (tkS tok 2 (tkS tok 2 (tkS tok 2 c))))).2 = 0 → I' 210 v = nI (C + 1) ∧ (I' 211 (4 * v + C) = ftV nm tw m (tkV (tok (c.1 + 1))) ∧ I' 212 (4 * v + C) = ftV nm tw m (tkV (tok (c.1 + 2))) ∧ I' 213 (4 * v + C) = nI (tok (c.1 + 3)).2.2.1) ∧ nmM I' J' (m + 1) (updA nm m (tkV (tok c.1))) (upd tw m (-1)) ∧
      sfM I' (nbS 0 99 (tok (c.1 + 3)).2.2.1 (tok (c.1 + 3)).2.1 (twS (ftV nm tw m (tkV (tok (c.1 + 1)))) (ftV nm tw m (tkV (tok (c.1 + 2)))) false (tok (c.1 + 2)).2.1 (tnS (ftV nm tw m (tkV (tok (c.1 + 2)))) (tok (c.1 + 2)).2.1 (tnS (ftV nm tw m (tkV (tok (c.1 + 1)))) (tok (c.1 + 1)).2.1 (anS tok nm m c.1 s)))))) := by
  obtain ⟨d, rfl⟩ : ∃ z, d = z + 1 := ⟨d - 1, by omega⟩
  have hTT := hT.2.1
  have cT := cu.2.2.2.1
  have c3 := cu.2.2.2.2.1
  obtain ⟨I0, n1, n2, n3, n4, n5⟩ := ev_named (d := d) (J := J) (by omega) hT hV cu hc hn hs ho
  have T0' := tkS_lt hT (k := 2) (by omega) (by omega) cT c3
  have hz0 := tk_z (tok := tok) (k := 2) (c := c)
  generalize tkS tok 2 c = d0 at n4 n5 T0' hz0 ⊢
  have hn0 : nmM I0 J m nm tw := hn.go (n3 20 (by decide)) (n2 201 (by decide))
  have ho0 : d0.2 = 0 → orQ (tok d0.1).2.1 (anS tok nm m c.1 s) := fun z => by
    obtain ⟨-, -, -, e⟩ := hz0 z
    have hp := pl_lt hV (i := c.1) (j := d0.1) (by rw [e]; show c.1 < c.1 + 1; omega) T0'.1
    exact (ho.up (by omega)).an hp
  obtain ⟨I1, x1, t1, t2, t3, t4, t5⟩ := ev_known (d := d) (J := J) (by omega) hT hV n4 T0'.1 hn0 n5 ho0
  have T1 := tkS_lt hT (k := 2) (by omega) (by omega) T0'.1 T0'.2
  have hz1 := tk_z (tok := tok) (k := 2) (c := d0)
  generalize tkS tok 2 d0 = d1 at t4 t5 T1 hz1 ⊢
  have hn1 : nmM I1 J m nm tw := hn0.go (t3 20 (by decide)) (t2 201 (by decide))
  have ed0 : d1.2 = 0 → d0.1 = c.1 + 1 ∧ d1.1 = c.1 + 2 := fun z => by
    obtain ⟨z1, -, -, e⟩ := hz1 z
    obtain ⟨-, -, -, e0⟩ := hz0 z1
    rw [e, e0]; exact ⟨rfl, rfl⟩
  have ho1 : d1.2 = 0 → orQ (tok d1.1).2.1 (tnS (ftV nm tw m (tkV (tok (c.1 + 1)))) (tok (c.1 + 1)).2.1 (anS tok nm m c.1 s)) := fun z => by
    obtain ⟨e0, e1⟩ := ed0 z
    have hp := pl_lt hV (i := c.1 + 1) (j := d1.1) (by omega) T1.1
    have h9 := ho0 (hz1 z).1
    rw [e0] at h9
    exact (h9.up (by omega)).tn hp
  obtain ⟨I2, x2, u1, u2, u3, u4, u5⟩ := ev_known (d := d) (J := J) (by omega) hT hV t4 T1.1 hn1 (s := tnS (ftV nm tw m (tkV (tok (c.1 + 1)))) (tok (c.1 + 1)).2.1 (anS tok nm m c.1 s)) (fun z => by have h9 := (t5 z).2; rw [(ed0 z).1] at h9; exact h9) ho1
  have T2 := tkS_lt hT (k := 2) (by omega) (by omega) T1.1 T1.2
  have hz2 := tk_z (tok := tok) (k := 2) (c := d1)
  generalize tkS tok 2 d1 = d2 at u4 u5 T2 hz2 ⊢
  have k12 : kp [192] I I2 := (n2.tr t2).tr u2
  have f12 : kCw I I2 := (n3.tr t3).tr u3
  have ed2 : d2.2 = 0 → d0.1 = c.1 + 1 ∧ d1.1 = c.1 + 2 ∧ d2.1 = c.1 + 3 := fun z => by
    obtain ⟨z1, -, -, e⟩ := hz2 z
    obtain ⟨a, b⟩ := ed0 z1
    exact ⟨a, b, by rw [e]; show d1.1 + 1 = _; omega⟩
  generalize hs6 : tnS (ftV nm tw m (tkV (tok (c.1 + 1)))) (tok (c.1 + 1)).2.1 (anS tok nm m c.1 s) = s6 at *
  have h27 : ∃ I3, (if I2 192 13 = 0 then (if x1 < 0 then runS (EV d) none 6 T0 C_X12_tellCart k_X12_tellCart rtV f_X12_tellCart 999998 63 [.ref 192, .int (nI (4 * v + C)), .int (nI c.1), .int x1, un, .int x2] [] (I2, J) else (if x1 = x2 then p_cv (EV d T0 180 [.ref 192, .int 3, .int (I1 192 11)] (I2, J)) (fun z3 => runS (EV d) none 6 T0 C_X12_tellCart k_X12_tellCart rtV f_X12_tellCart 999998 63 [.ref 192, .int (nI (4 * v + C)), .int (nI c.1), .int x1, un, .int x2] [] z3) else runS (EV d) none 6 T0 C_X12_tellCart k_X12_tellCart rtV f_X12_tellCart 999998 63 [.ref 192, .int (nI (4 * v + C)), .int (nI c.1), .int x1, un, .int x2] [] (I2, J))) else runS (EV d) none 6 T0 C_X12_tellCart k_X12_tellCart rtV f_X12_tellCart 999998 63 [.ref 192, .int (nI (4 * v + C)), .int (nI c.1), .int x1, un, .int x2] [] (I2, J)) = runS (EV d) none 6 T0 C_X12_tellCart k_X12_tellCart rtV f_X12_tellCart 999998 63 [.ref 192, .int (nI (4 * v + C)), .int (nI c.1), .int x1, un, .int x2] [] (I3, J) ∧ kp [192] I2 I3 ∧ kCw I2 I3 ∧ cuG I3 J tok T d2 ∧ (d2.2 = 0 → sfM I3 (twS (ftV nm tw m (tkV (tok (c.1 + 1)))) (ftV nm tw m (tkV (tok (c.1 + 2)))) false (tok (c.1 + 2)).2.1 (tnS (ftV nm tw m (tkV (tok (c.1 + 2)))) (tok (c.1 + 2)).2.1 s6))) := by
    by_cases z : d2.2 = 0
    · obtain ⟨z1, y2, -, e2⟩ := hz2 z
      obtain ⟨ea, eb, ec⟩ := ed2 z
      obtain ⟨w1, w2⟩ := t5 z1
      obtain ⟨w3, w4⟩ := u5 z
      rw [ea] at w1
      rw [eb] at w3 w4
      have cu2 := u4.1 z
      have e11 : I1 192 11 = nI (c.1 + 2) := by rw [(t4.1 z1).1, eb]
      rw [if_pos (show I2 192 13 = 0 by rw [cu2.2.1, z]; rfl), e11, w1, w3]
      unfold twS
      have hT1 : c.1 + 2 < T := by rw [← eb]; exact T1.1
      have ho2 := ho1 z1
      rw [eb] at ho2
      generalize ftV nm tw m (tkV (tok (c.1 + 1))) = ta at *
      generalize ftV nm tw m (tkV (tok (c.1 + 2))) = tb at *
      by_cases a0 : ta < 0
      · rw [if_pos a0, if_neg (fun h9 => absurd a0 (Int32.not_lt.mpr h9.1))]
        exact ⟨I2, rfl, kp.rf, kCw.rf, u4, fun _ => w4⟩
      · have a0' := Int32.not_lt.mp a0
        rw [if_neg a0]
        by_cases t : ta = tb
        · have e3 : tnS tb (tok (c.1 + 2)).2.1 s6 = s6 := if_pos (t ▸ a0')
          rw [e3] at w4 ⊢
          obtain ⟨I3, r1, r2, r3, r4, r5⟩ := ev_wrong (d := d) (I := I2) (J := J) (by omega) hT cu2 z w4 (k := 3) (j := c.1 + 2) (by omega) hT1 (ho2.elim Or.inl (fun h9 => Or.inr (Or.inl h9)))
          have r1' : EV d T0 180 [.ref 192, .int 3, .int (nI (c.1 + 2))] (I2, J) = _ := r1
          rw [if_pos t, if_pos ⟨a0', t ▸ a0', Or.inl t⟩, r1', p_cv_s]
          exact ⟨I3, rfl, r2, wrg_w r3, r4.g, fun _ => r5⟩
        · rw [if_neg t, if_neg (fun h9 => h9.2.2.elim t (fun h8 => absurd h8 (by decide)))]
          exact ⟨I2, rfl, kp.rf, kCw.rf, u4, fun _ => w4⟩
    · rw [if_neg (u4.2 z).nz]
      exact ⟨I2, rfl, kp.rf, kCw.rf, u4, fun h9 => absurd h9 z⟩
  obtain ⟨I3, r1, r2, r3, r4, r5⟩ := h27
  let I4 := p_wr (p_wr I3 211 (4 * v + C) x1) 212 (4 * v + C) x2
  have k4 : kp [211, 212] I3 I4 := (kp.rf.wr (by decide)).wr (by decide)
  have e4 : I4 192 = I3 192 := k4 192 (by decide)
  have cu4 : cuG I4 J tok T d2 := r4.go k4 (by decide) (by rw [e4]) (by rw [e4]) (by rw [e4])
  have ho4 : d2.2 = 0 → orQ (tok d2.1).2.1 (twS (ftV nm tw m (tkV (tok (c.1 + 1)))) (ftV nm tw m (tkV (tok (c.1 + 2)))) false (tok (c.1 + 2)).2.1 (tnS (ftV nm tw m (tkV (tok (c.1 + 2)))) (tok (c.1 + 2)).2.1 s6)) := fun z => by
    obtain ⟨ea, eb, ec⟩ := ed2 z
    have h2T := T2.1
    have p2 := pl_lt hV (i := c.1 + 2) (j := d2.1) (by omega) T2.1
    have h8 := ho1 (hz2 z).1
    rw [eb] at h8
    have h9 : orQ (tok d2.1).2.1 (tnS (ftV nm tw m (tkV (tok (c.1 + 2)))) (tok (c.1 + 2)).2.1 s6) := (h8.up (by omega)).tn p2
    unfold twS
    split
    · exact h9.nt p2
    · exact h9
  generalize hs7 : twS (ftV nm tw m (tkV (tok (c.1 + 1)))) (ftV nm tw m (tkV (tok (c.1 + 2)))) false (tok (c.1 + 2)).2.1 (tnS (ftV nm tw m (tkV (tok (c.1 + 2)))) (tok (c.1 + 2)).2.1 s6) = s7 at *
  obtain ⟨I5, x5, v1, v2, v3, v4, v5⟩ := ev_boundG (d := d) (J := J) (lo := 0) (hi := 99) (by omega) hT hV cu4 T2.1 (fun z => (r5 z).go (by rw [e4]) (by rw [e4])) (by omega) (by omega) ho4
  have v1' : EV d T0 192 [.ref 192, .int 0, .int 99] (I4, J) = _ := v1
  have T3 := tkS_lt hT (k := 3) (by omega) (by omega) T2.1 T2.2
  have hz3 := tk_z (tok := tok) (k := 3) (c := d2)
  generalize tkS tok 3 d2 = d3 at v4 v5 T3 hz3 ⊢
  let I6 := p_wr I5 213 (4 * v + C) x5
  have k6 : kp [213] I5 I6 := kp.rf.wr (by decide)
  have e6 : I6 192 = I5 192 := k6 192 (by decide)
  have cu6 : cuG I6 J tok T d3 := v4.go k6 (by decide) (by rw [e6]) (by rw [e6]) (by rw [e6])
  have k16 : kp [192, 211, 212, 213] I I6 := ((((k12.up (by decide)).tr (r2.up (by decide))).tr (k4.up (by decide))).tr (v2.up (by decide))).tr (k6.up (by decide))
  have f16 : kCw I I6 := fun j hj => by rw [e6, v3 j hj, e4, r3 j hj, f12 j hj]
  have hn6 : nmM I6 J m nm tw := hn.go (f16 20 (by decide)) (k16 201 (by decide))
  by_cases z0 : d0.2 = 0
  · have hv198 : J 198 c.1 = tkV (tok c.1) := ((cu.2.2.2.2.2 c.1 cT).2.2.2 (hz0 z0).2.1).trans (tkV_nm hV cT (hz0 z0).2.1).symm
    obtain ⟨I9, J9, y1, y2, y3, y4, y5, y6⟩ := ev_ends (d := d) (J := J) (by omega) hT cu6 hn6 hm (j := c.1) cT hv198 (-1)
    have hz5 := tk_z (tok := tok) (k := 59) (c := d3)
    generalize tkS tok 59 d3 = d5 at y5 y6 hz5 ⊢
    have kk9 : kp [192, 201, 211, 212, 213] I I9 := (k16.up (by decide)).tr (y2.up (by decide))
    have f9 : ∀ j, j ∉ [11, 13, 14, 15, 16, 20] → I9 192 j = I 192 j := fun j hj => by rw [y4 j (fun h9 => hj ((by decide : ∀ j ∈ [11, 13, 14, 20], j ∈ [11, 13, 14, 15, 16, 20]) j h9)), f16 j (fun h9 => hj ((by decide : ∀ j ∈ [11, 13, 14, 15, 16], j ∈ [11, 13, 14, 15, 16, 20]) j h9))]
    have c211 : I9 211 = upd (I 211) (4 * v + C) x1 := by rw [y2 211 (by decide), k6 211 (by decide), v2 211 (by decide)]; show p_wr (p_wr I3 211 (4 * v + C) x1) 212 (4 * v + C) x2 211 = _; rw [wr_ne (by decide), wr_eq, r2 211 (by decide), k12 211 (by decide)]
    have c212 : I9 212 = upd (I 212) (4 * v + C) x2 := by rw [y2 212 (by decide), k6 212 (by decide), v2 212 (by decide)]; show p_wr (p_wr I3 211 (4 * v + C) x1) 212 (4 * v + C) x2 212 = _; rw [wr_eq, wr_ne (by decide), r2 212 (by decide), k12 212 (by decide)]
    have c213 : I9 213 = upd (I 213) (4 * v + C) x5 := by rw [y2 213 (by decide)]; show p_wr I5 213 (4 * v + C) x5 213 = _; rw [wr_eq, v2 213 (by decide), k4 213 (by decide), r2 213 (by decide), k12 213 (by decide)]
    have call : ∀ k, 211 ≤ k → k ≤ 213 → ∀ j, j ≠ 4 * v + C → I9 k j = I k j := fun k a b j hj => by
      have hk : k = 211 ∨ k = 212 ∨ k = 213 := by omega
      rcases hk with rfl | rfl | rfl
      · rw [c211, pk_un hj]
      · rw [c212, pk_un hj]
      · rw [c213, pk_un hj]
    have g210 : I9 210 = I 210 := kk9 210 (by decide)
    have g19 : I9 192 19 = nI v := (f9 19 (by decide)).trans h19
    have hp20 : ∀ y : Option Rs, p_chk (p_in (nI (4 * v + C)) 8) y = y := fun y => chk_in (by omega) (by omega)
    have hp2 : ∀ y : Option Rs, p_chk (p_in (nI v) 2) y = y := fun y => chk_in (by omega) (by omega)
    have run : EV (d + 1) T0 195 [.ref 192] (I, J) = (if I9 192 13 = 0 then p_chk (p_in (I9 192 19) 2) (p_chk (p_in (I9 192 19) 2) (rtV none ((p_wr I9 210 ((I9 192 19).toNatClampNeg) ((I9 210 ((I9 192 19).toNatClampNeg)) + 1)), J9))) else rtV none (I9, J9)) := by
      rw [e_X12_tellCart, runS_M, s_X12_tellCart_0, h19, hp2, n1, p_ci_s, t1, p_ci_s, nI_clamp (by omega), hC, four_nI, show (999999 : Nat) = 999998 + 1 from rfl, runS_s, s_X12_tellCart_27, u1, p_ci_s]
      dsimp only
      rw [r1, show (999998 : Nat) = 999997 + 1 from rfl, runS_s, s_X12_tellCart_63, hp20, hp20, nI_clamp (by omega), v1', p_ci_s, hp20]
      dsimp only
      rw [y1, p_cv_s, show (999997 : Nat) = 999996 + 1 from rfl, runS_s, s_X12_tellCart_97]
    rw [run]
    by_cases z : d5.2 = 0
    · obtain ⟨z3, -, -, e5⟩ := hz5 z
      obtain ⟨z2, q3, -, e3'⟩ := hz3 z3
      obtain ⟨z1, q2, -, e2'⟩ := hz2 z2
      obtain ⟨ea, eb, ec⟩ := ed2 z2
      have x10 : kp [210] I9 (p_wr I9 210 v (nI (C + 1))) := kp.rf.wr (by decide)
      refine ⟨p_wr I9 210 v (nI (C + 1)), J9, ?_, (kk9.up (by decide)).tr (x10.up (by decide)), y3, fun j hj => by rw [x10 192 (by decide)]; exact f9 j hj, fun j hj => by rw [wr_eq, pk_un hj, g210], fun k a b j hj => by rw [x10 k (fun h9 => by rw [List.mem_singleton] at h9; omega)]; exact call k a b j hj, y5.go x10 (by decide) (by rw [x10 192 (by decide)]) (by rw [x10 192 (by decide)]) (by rw [x10 192 (by decide)]), fun _ => ⟨by rw [wr_eq, pk_us], ⟨?_, ?_, ?_⟩, (y6 z).go (by rw [x10 192 (by decide)]) (x10 201 (by decide)), ?_⟩⟩
      · rw [if_pos (show I9 192 13 = 0 by rw [(y5.1 z).2.1, z]; rfl), g19, hp2, hp2, nI_clamp (by omega), g210, hC, nI_1]; rfl
      · rw [x10 211 (by decide), c211, pk_us, (t5 z1).1, ea]
      · rw [x10 212 (by decide), c212, pk_us, (u5 z2).1, eb]
      · rw [x10 213 (by decide), c213, pk_us, (v5 z3).1, ec]
      · have h9 := (v5 z3).2
        rw [ec] at h9
        refine (h9.go (I' := p_wr I9 210 v (nI (C + 1))) ?_ ?_)
        · rw [x10 192 (by decide), y4 15 (by decide), e6]
        · rw [x10 192 (by decide), y4 16 (by decide), e6]
    · refine ⟨I9, J9, ?_, kk9.up (by decide), y3, f9, fun j _ => by rw [g210], call, y5, fun h9 => absurd h9 z⟩
      rw [if_neg (y5.2 z).nz]; rfl
  · /- a fault at the name: nothing is kept -/
    have ez1 : d1.2 ≠ 0 := fun h9 => z0 (hz1 h9).1
    have ez2 : d2.2 ≠ 0 := fun h9 => ez1 (hz2 h9).1
    have ez3 : d3.2 ≠ 0 := fun h9 => ez2 (hz3 h9).1
    have cf6 := cu6.2 ez3
    have e5 : tkS tok 59 d3 = d3 := tk_f ez3
    rw [e5]
    have ends : EV d T0 190 [.ref 192, .int (nI c.1), .int (-1)] (I6, J) = some (none, (I6, J)) := by
      obtain ⟨d, rfl⟩ : ∃ z, d = z + 1 := ⟨d - 1, by omega⟩
      rw [e_X12_ends, runS_M, s_X12_ends_0, ev_mustF (by omega) cf6, p_cv_s, if_neg cf6.nl]; rfl
    have hp20 : ∀ y : Option Rs, p_chk (p_in (nI (4 * v + C)) 8) y = y := fun y => chk_in (by omega) (by omega)
    have hp2 : ∀ y : Option Rs, p_chk (p_in (nI v) 2) y = y := fun y => chk_in (by omega) (by omega)
    refine ⟨I6, J, ?_, k16.up (by decide), kpJ.rf, fun j hj => f16 j (fun h9 => hj ((by decide : ∀ j ∈ [11, 13, 14, 15, 16], j ∈ [11, 13, 14, 15, 16, 20]) j h9)), fun j _ => by rw [k16 210 (by decide)], fun k a b j hj => ?_, cu6, fun h9 => absurd h9 ez3⟩
    · rw [e_X12_tellCart, runS_M, s_X12_tellCart_0, h19, hp2, n1, p_ci_s, t1, p_ci_s, nI_clamp (by omega), hC, four_nI, show (999999 : Nat) = 999998 + 1 from rfl, runS_s, s_X12_tellCart_27, u1, p_ci_s]
      dsimp only
      rw [r1, show (999998 : Nat) = 999997 + 1 from rfl, runS_s, s_X12_tellCart_63, hp20, hp20, nI_clamp (by omega), v1', p_ci_s, hp20]
      dsimp only
      rw [ends, p_cv_s, show (999997 : Nat) = 999996 + 1 from rfl, runS_s, s_X12_tellCart_97, if_neg cf6.nz]; rfl
    · have hk : k = 211 ∨ k = 212 ∨ k = 213 := by omega
      rcases hk with rfl | rfl | rfl
      · rw [k6 211 (by decide), v2 211 (by decide)]; show p_wr (p_wr I3 211 (4 * v + C) x1) 212 (4 * v + C) x2 211 j = _; rw [wr_ne (by decide), wr_eq, pk_un hj, r2 211 (by decide), k12 211 (by decide)]
      · rw [k6 212 (by decide), v2 212 (by decide)]; show p_wr (p_wr I3 211 (4 * v + C) x1) 212 (4 * v + C) x2 212 j = _; rw [wr_eq, pk_un hj, wr_ne (by decide), r2 212 (by decide), k12 212 (by decide)]
      · show p_wr I5 213 (4 * v + C) x5 213 j = _; rw [wr_eq, pk_un hj, v2 213 (by decide), k4 213 (by decide), r2 213 (by decide), k12 213 (by decide)]
end SR
