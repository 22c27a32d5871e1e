/-! ===== read: the whole text (class) ===== -/
section SX
variable {I : Nat → Nat → Int32} {J : Nat → Nat → Int64} {d : Nat}
theorem ev_addDef (hd : 2 ≤ d) {l sz : Nat} (hl : l < 4) (h14 : I 14 3 = nI sz) (hz : sz + 2 ≤ 408) (x y : Int32) : ∃ I', EV d T0 9 [.ref 14, .int (nI l), .int x, .int y] (I, J) = some (none, (I', J)) ∧ kp [14, 15, 17] I I' ∧ (∀ j, j ≠ 3 → I' 14 j = I 14 j) ∧ I' 14 3 = nI (sz + 2) ∧ I' 17 = upd (I 17) l (nI sz) ∧ I' 15 = upd (upd (I 15) sz (y * 64 + x)) (sz + 1) (nI 4) := by
  obtain ⟨d, rfl⟩ : ∃ z, d = z + 1 := ⟨d - 1, by omega⟩
  have a1 : p_wr I 17 l (nI sz) 14 3 = nI sz := by rw [wr_ne (by decide)]; exact h14
  have e1 : adS (p_wr I 17 l (nI sz)) sz (y * 64 + x) = p_wr (p_wr (p_wr I 17 l (nI sz)) 15 sz (y * 64 + x)) 14 3 (nI (sz + 1)) := if_pos (by omega)
  have a2 : p_wr (p_wr (p_wr I 17 l (nI sz)) 15 sz (y * 64 + x)) 14 3 (nI (sz + 1)) 14 3 = nI (sz + 1) := by rw [wr_eq, pk_us]
  have e2 : adS (p_wr (p_wr (p_wr I 17 l (nI sz)) 15 sz (y * 64 + x)) 14 3 (nI (sz + 1))) (sz + 1) (0 * 64 + 4) = p_wr (p_wr (p_wr (p_wr (p_wr I 17 l (nI sz)) 15 sz (y * 64 + x)) 14 3 (nI (sz + 1))) 15 (sz + 1) (0 * 64 + 4)) 14 3 (nI (sz + 1 + 1)) := if_pos (by omega)
  refine ⟨p_wr (p_wr (p_wr (p_wr (p_wr I 17 l (nI sz)) 15 sz (y * 64 + x)) 14 3 (nI (sz + 1))) 15 (sz + 1) (0 * 64 + 4)) 14 3 (nI (sz + 1 + 1)), ?_, ((((kp.rf.wr (by decide)).wr (by decide)).wr (by decide)).wr (by decide)).wr (by decide), fun j hj => ?_, by rw [wr_eq, pk_us], ?_, ?_⟩
  · rw [e_X0_addDefault, runS_M, s_X0_addDefault_0, chk_in hl (by omega), nI_clamp (by omega), h14, ev_addStep (by omega) a1 (by omega), p_cv_s, e1, ev_addStep (by omega) a2 (by omega), p_cv_s, e2]; rfl
  · rw [wr_eq, pk_un hj, wr_ne (by decide), wr_eq, pk_un hj, wr_ne (by decide), wr_ne (by decide)]
  · rw [wr_ne (by decide), wr_ne (by decide), wr_ne (by decide), wr_ne (by decide), wr_eq]
  · rw [wr_ne (by decide), wr_eq, wr_ne (by decide), wr_eq, wr_ne (by decide)]; rfl
/-- the laws that hold if none is told -/
def lwD (k : Nat) : List Br × List Op := ([], [lawD k])
theorem ev_clearL (hd : 3 ≤ d) : ∃ I', EV d T0 1 [.ref 14] (I, J) = some (none, (I', J)) ∧ kp [14, 15, 17] I I' ∧ (∀ j, j ≠ 3 → I' 14 j = I 14 j) ∧ lwC I' lwD 8 := by
  obtain ⟨d, rfl⟩ : ∃ z, d = z + 1 := ⟨d - 1, by omega⟩
  have x0 : kp [14] I (p_wr I 14 3 0) := kp.rf.wr (by decide)
  obtain ⟨I1, a1, a2, a3, a4, a5, a6⟩ := ev_addDef (d := d) (I := p_wr I 14 3 0) (J := J) (by omega) (l := 0) (sz := 0) (by omega) (by rw [wr_eq, pk_us]; rfl) (by omega) 1 1
  obtain ⟨I2, b1, b2, b3, b4, b5, b6⟩ := ev_addDef (d := d) (I := I1) (J := J) (by omega) (l := 1) (sz := 2) (by omega) a4 (by omega) 1 1
  obtain ⟨I3, c1, c2, c3, c4, c5, c6⟩ := ev_addDef (d := d) (I := I2) (J := J) (by omega) (l := 2) (sz := 4) (by omega) b4 (by omega) 1 0
  obtain ⟨I4, d1, d2, d3, d4, d5, d6⟩ := ev_addDef (d := d) (I := I3) (J := J) (by omega) (l := 3) (sz := 6) (by omega) c4 (by omega) 2 0
  have a1' : EV d T0 9 [.ref 14, .int 0, .int 1, .int 1] (p_wr I 14 3 0, J) = _ := a1
  have b1' : EV d T0 9 [.ref 14, .int 1, .int 1, .int 1] (I1, J) = _ := b1
  have c1' : EV d T0 9 [.ref 14, .int 2, .int 1, .int 0] (I2, J) = _ := c1
  have d1' : EV d T0 9 [.ref 14, .int 3, .int 2, .int 0] (I3, J) = _ := d1
  refine ⟨I4, ?_, (((x0.up (by decide)).tr a2).tr b2).tr (c2.tr d2), fun j hj => by rw [d3 j hj, c3 j hj, b3 j hj, a3 j hj, wr_eq, pk_un hj], d4, fun k hk => ?_⟩
  · rw [e_X0_clear, runS_M, s_X0_clear_0, a1', p_cv_s, b1', p_cv_s, c1', p_cv_s, d1', p_cv_s]; rfl
  · rw [d5, c5, b5, a5, d6, c6, b6, a6]
    have hk4 : k = 0 ∨ k = 1 ∨ k = 2 ∨ k = 3 := by omega
    rcases hk4 with rfl | rfl | rfl | rfl
    · exact ⟨0, rfl, ⟨⟨rfl, trivial⟩, rfl⟩, by show 0 + 2 ≤ 8; omega⟩
    · exact ⟨2, rfl, ⟨⟨rfl, trivial⟩, rfl⟩, by show 2 + 2 ≤ 8; omega⟩
    · exact ⟨4, rfl, ⟨⟨rfl, trivial⟩, rfl⟩, by show 4 + 2 ≤ 8; omega⟩
    · exact ⟨6, rfl, ⟨⟨rfl, trivial⟩, rfl⟩, by show 6 + 2 ≤ 8; omega⟩
def yD : DY := ((0, 0), (0, fun _ => 0, fun _ => 0), (0, 0, 0, 0), (0, 100, 0, 0), (fun _ => 0, fun _ => 0, fun _ => 0, fun _ => 0), (fun _ => 0, fun _ => 0, fun _ => 0), lwD)
theorem py_D (tok : Nat → TK) : PY tok 0 yD := by
  refine ⟨Or.inl rfl, fun _ i j hi => absurd hi (Nat.not_lt_zero _), fun j hj => absurd hj (Nat.not_lt_zero _), fun _ => ⟨fun i hi => absurd hi (Nat.not_lt_zero _), fun i hi => absurd hi (Nat.not_lt_zero _), ⟨by omega, by omega, by omega⟩, by omega⟩, fun k hk => ?_, ⟨by omega, by omega, by omega, by omega⟩, rfl⟩
  have hk4 : k = 0 ∨ k = 1 ∨ k = 2 ∨ k = 3 := by omega
  rcases hk4 with rfl | rfl | rfl | rfl
  · exact ⟨Or.inl ⟨rfl, by decide, by decide, rfl⟩, Or.inl ⟨rfl, by decide, by decide, rfl⟩⟩
  · exact ⟨Or.inl ⟨rfl, by decide, by decide, rfl⟩, Or.inl ⟨rfl, by decide, by decide, rfl⟩⟩
  · exact ⟨Or.inl ⟨rfl, by decide, by decide, rfl⟩, Or.inl ⟨rfl, by decide, by decide, rfl⟩⟩
  · exact ⟨Or.inr (Or.inl ⟨rfl, by decide, by decide, rfl⟩), Or.inr (Or.inl ⟨rfl, by decide, by decide, rfl⟩)⟩
theorem ev_clearP (hd : 4 ≤ d) : ∃ I', EV d T0 28 [.ref 4] (I, J) = some (none, (I', J)) ∧ kp [4, 14, 15, 17] I I' ∧ RdP I' 0 yD := by
  obtain ⟨d, rfl⟩ : ∃ z, d = z + 1 := ⟨d - 1, by omega⟩
  let I0 := p_wr (p_wr (p_wr (p_wr (p_wr (p_wr (p_wr (p_wr I 4 0 0) 4 1 0) 4 2 0) 4 3 0) 4 4 0) 4 5 100) 4 6 0) 4 7 0
  have x0 : kp [4] I I0 := (((((((kp.rf.wr (by decide)).wr (by decide)).wr (by decide)).wr (by decide)).wr (by decide)).wr (by decide)).wr (by decide)).wr (by decide)
  obtain ⟨I1, a1, a2, a3, a4⟩ := ev_clearL (d := d) (I := I0) (J := J) (by omega)
  have e4 : I1 4 = I0 4 := a2 4 (by decide)
  have f : ∀ q, I1 4 q = I0 4 q := fun q => by rw [e4]
  refine ⟨I1, ?_, (x0.up (by decide)).tr (a2.up (by decide)), ⟨⟨?_, by show 0 ≤ 7; omega⟩, ⟨?_, by show 0 ≤ 10; omega⟩, ⟨?_, by show 0 ≤ 3; omega⟩, ?_, by show 0 ≤ 4; omega⟩, ⟨?_, ?_, ?_, ?_⟩, fun i hi => absurd hi (Nat.not_lt_zero _), fun i hi => absurd hi (Nat.not_lt_zero _), 8, a4, by omega⟩
  · rw [e_X3_clear, runS_M, s_X3_clear_0]
    show p_cv (EV d T0 1 [.ref 14] (I0, J)) _ = _
    rw [a1, p_cv_s]; rfl
  all_goals (rw [f]; show p_wr (p_wr (p_wr (p_wr (p_wr (p_wr (p_wr (p_wr I 4 0 0) 4 1 0) 4 2 0) 4 3 0) 4 4 0) 4 5 100) 4 6 0) 4 7 0 4 _ = _; rfl)
def rtL : List Nat := [3, 4, 5, 6, 7, 8, 9, 11, 12, 13, 14, 15, 17, 18, 19, 20, 24]
def tkL (b : Nat → Nat) (n j : Nat) : TK := (scL b n 401 0).getD j tk0
def tkT (b : Nat → Nat) (n : Nat) : Nat := (scL b n 401 0).length
/-- what a text comes to -/
def rdR (b : Nat → Nat) (n : Nat) : (Nat × Nat) × DY := tlL (tkL b n) 401 ((0, 0), yD)
theorem ev_readText (hd : 26 ≤ d) {b : Nat → Nat} {n : Nat} (h : TB I n b) (hb : ∀ j, j < n → b j < 256) (hK : ∀ i, i < 23 → J 22 i = kyW i) :
    ∃ I' J', EV d T0 35 [.ref 3, .ref 1] (I, J) = some (some (.int (nI (ansV (rdR b n)))), (I', J')) ∧ kp rtL I I' ∧ kpJ [21, 23] J J' ∧ I' 3 1 = ansP (tkL b n) (rdR b n) ∧ ((rdR b n).1.1 ≤ 400 ∧ (rdR b n).1.2 < 3) ∧ ((rdR b n).1.2 = 0 → RdV I' J' (rdR b n).1.1 (rdR b n).2 ∧ PY (tkL b n) (rdR b n).1.1 (rdR b n).2) := by
  obtain ⟨d, rfl⟩ : ∃ z, d = z + 1 := ⟨d - 1, by omega⟩
  have hT : TKS (tkL b n) (tkT b n) := TKS_of hb h.2.1
  have hV : TKV (tkL b n) (tkT b n) := TKV_of
  obtain ⟨I1, a1, a2, a3⟩ := ev_clearP (d := d) (I := I) (J := J) (by omega)
  obtain ⟨I2, J2, b1, b2, b3, b4, b5⟩ := ev_scan (d := d) (I := I1) (J := J) (by omega) (h.kp a2 (by decide)) hK
  have hT1 : 1 ≤ tkT b n := hT.1
  have hTT : tkT b n ≤ 401 := hT.2.1
  let I3 := p_wr (p_wr I2 3 5 0) 3 6 0
  have x3 : kp [3] I2 I3 := (kp.rf.wr (by decide)).wr (by decide)
  have e18 : I3 18 4 = nI (tkT b n) := by rw [x3 18 (by decide)]; exact b4
  have qk : EV d T0 105 [.ref 18, .int (nI 0)] (I3, J2) = _ := q_kindOf (d := d) (I := I3) (J := J2) (by omega) e18 (j := 0) (by omega) hTT
  have qk' : EV d T0 105 [.ref 18, .int 0] (I3, J2) = _ := qk
  have e19 : I3 19 0 = nI (tkL b n 0).1 := by rw [x3 19 (by decide)]; exact (b5 0 (by show 0 < tkT b n; omega)).1
  let I4 := p_wr (p_wr (p_wr (p_wr I3 3 7 (nI (tkL b n 0).1)) 3 8 0) 3 9 0) 3 10 (-1)
  have x4 : kp [3] I3 I4 := (((kp.rf.wr (by decide)).wr (by decide)).wr (by decide)).wr (by decide)
  have x24 : kp [3] I2 I4 := x3.tr x4
  have cu4 : cuC I4 J2 (tkL b n) (tkT b n) (0, 0) := by
    refine ⟨rfl, rfl, rfl, by show 0 < tkT b n; omega, by show 0 < 3; omega, by rw [x4 18 (by decide)]; exact e18, fun j hj => (b5 j hj).kp x24 (by decide)⟩
  have kp14 : ∀ k, 4 ≤ k → k ≤ 17 → I4 k = I1 k := fun k p q => by rw [x24 k (fun h9 => by rw [List.mem_singleton] at h9; omega), b2 k (fun h9 => by simp only [List.mem_cons, List.not_mem_nil, or_false] at h9; omega)]
  have rv : RdV I4 J2 0 yD := ⟨⟨⟨rfl, by show 0 < 6; omega, fun h9 => absurd rfl h9, fun _ => rfl⟩, ⟨rfl, by show 0 ≤ 14; omega, fun j hj => absurd hj (Nat.not_lt_zero _)⟩, rfl⟩, RdP.kp a3 kp14 (Nat.le_refl _)⟩
  obtain ⟨I5, J5, r1, r2, r3, r4, r5⟩ := lp_read (d := d) (by omega) hT hV 401 0 999998 (0, 0) yD I4 J2 cu4 (fun _ => ⟨rv, py_D _, Nat.le_refl _, by omega⟩) (by omega) (by omega)
  refine ⟨I5, J5, ?_, ?_, ?_, r3, ⟨by have h9 := r4.2.2.2.1; show (tlL (tkL b n) 401 ((0, 0), yD)).1.1 ≤ 400; omega, r4.2.2.2.2.1⟩, r5⟩
  · rw [e_X4_readText, runS_M, s_X4_readText_0, a1, p_cv_s, b1, p_cv_s, show (999999 : Nat) = 999998 + 1 from rfl, runS_s, s_X4_readText_15]
    show p_ci (EV d T0 105 [.ref 18, .int 0] (I3, J2)) _ = _
    rw [qk', p_ci_s, e19]
    exact r1
  · exact ((a2.up (by decide)).tr (b2.up (by decide))).tr ((x24.up (by decide)).tr (r2.1.up (by decide)))
  · intro k hk
    rw [r2.2 k (fun h9 => hk (by rw [List.mem_singleton] at h9; rw [h9]; decide)), b3 k (fun h9 => hk (by rw [List.mem_singleton] at h9; rw [h9]; decide))]
end SX
