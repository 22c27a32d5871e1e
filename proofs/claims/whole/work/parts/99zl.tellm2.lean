/-! ===== read: seams and carts told (reference) ===== -/
section SQ
variable {I : Nat → Nat → Int32} {J : Nat → Nat → Int64} {d : Nat} {tok : Nat → TK} {T : Nat}
theorem pl_mono (hV : TKV tok T) {i : Nat} : ∀ (k : Nat), i + k + 1 < T → (tok i).2.1 < (tok (i + k + 1)).2.1 := by
  intro k
  induction k with
  | zero => intro h; exact (hV i (by omega)).2.2 h
  | succ k ih =>
    intro h
    have h1 := ih (by omega)
    have h2 := (hV (i + k + 1) (by omega)).2.2 (by omega)
    have e : i + (k + 1) + 1 = i + k + 1 + 1 := by omega
    rw [e]; omega
theorem pl_lt (hV : TKV tok T) {i j : Nat} (h : i < j) (hj : j < T) : (tok i).2.1 < (tok j).2.1 := by
  have := pl_mono hV (i := i) (j - i - 1) (by omega)
  rw [show i + (j - i - 1) + 1 = j by omega] at this; exact this
def orQ (q : Nat) (s : Nat × Nat) : Prop := s.1 = 0 ∨ s.2 < q
theorem orQ.up {q q' : Nat} {s : Nat × Nat} (h : orQ q s) (hq : q ≤ q') : orQ q' s := h.elim Or.inl (fun h9 => Or.inr (by omega))
theorem orQ.nt {q k p : Nat} {s : Nat × Nat} (h : orQ q s) (hp : p < q) : orQ q (ntS k p s) := by
  unfold ntS
  split
  · exact Or.inr hp
  · exact h
theorem orQ.an {q j m : Nat} {nm : Nat → Int64} {s : Nat × Nat} (h : orQ q s) (hp : (tok j).2.1 < q) : orQ q (anS tok nm m j s) := by
  unfold anS
  split
  · exact h.nt hp
  · exact h
theorem orQ.tn {q p : Nat} {x : Int32} {s : Nat × Nat} (h : orQ q s) (hp : p < q) : orQ q (tnS x p s) := by
  unfold tnS
  split
  · exact h
  · exact h.nt hp
theorem orQ.nb {q p lo hi v : Nat} {s : Nat × Nat} (h : orQ q s) (hp : p < q) : orQ q (nbS lo hi v p s) := by
  unfold nbS
  split
  · exact h
  · exact h.nt hp
def twS (x y : Int32) (hs : Bool) (p : Nat) (s : Nat × Nat) : Nat × Nat := if 0 ≤ x ∧ 0 ≤ y ∧ (x = y ∨ hs = true) then ntS 3 p s else s
theorem ev_tellSeam (hd : 6 ≤ d) (hT : TKS tok T) (hV : TKV tok T) {c : Nat × Nat} (cu : cuM I J tok T c) (hc : c.2 = 0) {v S : Nat} (hv : v < 2) (h19 : I 192 19 = nI v) (hS : I 203 v = nI S) (hS9 : S < 10) {m : Nat} {nm : Nat → Int64} {tw : Nat → Int32} (hn : nmM I J m nm tw) {s : Nat × Nat} (hs : sfM I s) (ho : orQ (tok c.1).2.1 s) :
    ∃ I', EV d T0 194 [.ref 192] (I, J) = some (none, (I', J)) ∧ kp [192, 203, 204, 205, 206, 207] I I' ∧ kCw I I' ∧ (∀ j, j ≠ v → I' 203 j = I 203 j) ∧ (∀ k, 204 ≤ k → k ≤ 207 → ∀ j, j ≠ 10 * v + S → I' k j = I k j) ∧ cuG I' J tok T (tkS tok 59 (tkS tok 3 (tkS tok 3 (tkS tok 2 (tkS tok 2 c))))) ∧ ((tkS tok 59 (tkS tok 3 (tkS tok 3 (tkS tok 2 (tkS tok 2 c))))).2 = 0 → I' 203 v = nI (S + 1) ∧ (I' 204 (10 * v + S) = ftV nm tw m (tkV (tok c.1)) ∧ I' 205 (10 * v + S) = ftV nm tw m (tkV (tok (c.1 + 1))) ∧ I' 206 (10 * v + S) = nI (tok (c.1 + 2)).2.2.1 ∧ I' 207 (10 * v + S) = nI (tok (c.1 + 3)).2.2.1) ∧
      sfM I' (nbS 0 99 (tok (c.1 + 3)).2.2.1 (tok (c.1 + 3)).2.1 (nbS 1 99 (tok (c.1 + 2)).2.2.1 (tok (c.1 + 2)).2.1 (twS (ftV nm tw m (tkV (tok c.1))) (ftV nm tw m (tkV (tok (c.1 + 1)))) (hsR (fun i => I 204 (10 * v + i)) (fun i => I 205 (10 * v + i)) (ftV nm tw m (tkV (tok c.1))) (ftV nm tw m (tkV (tok (c.1 + 1)))) S 0) (tok (c.1 + 1)).2.1 (tnS (ftV nm tw m (tkV (tok (c.1 + 1)))) (tok (c.1 + 1)).2.1 (tnS (ftV nm tw m (tkV (tok c.1))) (tok c.1).2.1 s)))))) := by
  obtain ⟨d, rfl⟩ : ∃ z, d = z + 1 := ⟨d - 1, by omega⟩
  have hTT := hT.2.1
  have cT := cu.2.2.2.1
  have c3 := cu.2.2.2.2.1
  obtain ⟨I1, x1, t1, t2, t3, t4, t5⟩ := ev_known (d := d) (J := J) (by omega) hT hV cu.g cT hn (fun _ => hs) (fun _ => ho)
  have T1 := tkS_lt hT (k := 2) (by omega) (by omega) cT c3
  have hz1 := tk_z (tok := tok) (k := 2) (c := c)
  generalize tkS tok 2 c = d1 at t4 t5 T1 hz1 ⊢
  have hn1 : nmM I1 J m nm tw := hn.go (t3 20 (by decide)) (t2 201 (by decide))
  have ho1 : d1.2 = 0 → orQ (tok d1.1).2.1 (tnS (ftV nm tw m (tkV (tok c.1))) (tok c.1).2.1 s) := fun z => by
    obtain ⟨-, -, -, e⟩ := hz1 z
    have hp := pl_lt hV (i := c.1) (j := d1.1) (by rw [e]; show c.1 < c.1 + 1; omega) T1.1
    exact (ho.up (by omega)).tn hp
  obtain ⟨I2, x2, u1, u2, u3, u4, u5⟩ := ev_known (d := d) (J := J) (by omega) hT hV t4 T1.1 hn1 (fun z => (t5 z).2) ho1
  have T2 := tkS_lt hT (k := 2) (by omega) (by omega) T1.1 T1.2
  have hz2 := tk_z (tok := tok) (k := 2) (c := d1)
  generalize tkS tok 2 d1 = d2 at u4 u5 T2 hz2 ⊢
  have k12 : kp [192] I I2 := t2.tr u2
  have f12 : kCw I I2 := t3.tr u3
  have e19 : I2 192 19 = nI v := (f12 19 (by decide)).trans h19
  have e203 : I2 203 v = nI S := by rw [k12 203 (by decide)]; exact hS
  have h204 : (fun i => I2 204 (10 * v + i)) = fun i => I 204 (10 * v + i) := by funext i; rw [k12 204 (by decide)]
  have h205 : (fun i => I2 205 (10 * v + i)) = fun i => I 205 (10 * v + i) := by funext i; rw [k12 205 (by decide)]
  /- the seam told twice -/
  have h34 : ∃ I3, runS (EV d) none 5 T0 C_X12_tellSeam k_X12_tellSeam rtV f_X12_tellSeam 999999 34 [.ref 192, .int (nI (10 * v + S)), .int x1, .int (I1 192 11), .int x2] [] (I2, J) = runS (EV d) none 5 T0 C_X12_tellSeam k_X12_tellSeam rtV f_X12_tellSeam 999998 72 [.ref 192, .int (nI (10 * v + S)), .int x1, un, .int x2] [] (I3, J) ∧ kp [192] I2 I3 ∧ kCw I2 I3 ∧ cuG I3 J tok T d2 ∧ (d2.2 = 0 → sfM I3 (twS (ftV nm tw m (tkV (tok c.1))) (ftV nm tw m (tkV (tok (c.1 + 1)))) (hsR (fun i => I 204 (10 * v + i)) (fun i => I 205 (10 * v + i)) (ftV nm tw m (tkV (tok c.1))) (ftV nm tw m (tkV (tok (c.1 + 1)))) S 0) (tok (c.1 + 1)).2.1 (tnS (ftV nm tw m (tkV (tok (c.1 + 1)))) (tok (c.1 + 1)).2.1 (tnS (ftV nm tw m (tkV (tok c.1))) (tok c.1).2.1 s)))) := by
    rw [show (999999 : Nat) = 999998 + 1 from rfl, runS_s, s_X12_tellSeam_34]
    by_cases z : d2.2 = 0
    · obtain ⟨z1, y2, -, e2⟩ := hz2 z
      obtain ⟨-, y1, -, e1⟩ := hz1 z1
      have ed : d1.1 = c.1 + 1 := by rw [e1]
      obtain ⟨w1, w2⟩ := t5 z1
      obtain ⟨w3, w4⟩ := u5 z
      rw [ed] at w3 w4
      have cu2 := u4.1 z
      have e11 : I1 192 11 = nI (c.1 + 1) := by rw [(t4.1 z1).1, ed]
      rw [if_pos (show I2 192 13 = 0 by rw [cu2.2.1, z]; rfl), e11, w1, w3]
      unfold twS
      generalize ftV nm tw m (tkV (tok c.1)) = ta at *
      generalize ftV nm tw m (tkV (tok (c.1 + 1))) = tb at *
      by_cases a0 : ta < 0
      · rw [if_pos a0, if_neg (fun h9 => absurd a0 (Int32.not_lt.mpr h9.1))]
        exact ⟨I2, rfl, kp.rf, kCw.rf, u4, fun _ => w4⟩
      · by_cases b0 : tb < 0
        · rw [if_neg a0, if_pos b0, if_neg (fun h9 => absurd b0 (Int32.not_lt.mpr h9.2.1))]
          exact ⟨I2, rfl, kp.rf, kCw.rf, u4, fun _ => w4⟩
        · have a0' := Int32.not_lt.mp a0
          have b0' := Int32.not_lt.mp b0
          have hT1 : c.1 + 1 < T := by rw [← ed]; exact T1.1
          have hp := pl_lt hV (i := c.1) (j := c.1 + 1) (by omega) hT1
          have ho2 : orQ (tok (c.1 + 1)).2.1 (tnS tb (tok (c.1 + 1)).2.1 (tnS ta (tok c.1).2.1 s)) := by
            have e3 : tnS tb (tok (c.1 + 1)).2.1 (tnS ta (tok c.1).2.1 s) = tnS ta (tok c.1).2.1 s := if_pos b0'
            rw [e3]; exact (ho.up (by omega)).tn hp
          obtain ⟨I3, r1, r2, r3, r4, r5⟩ := ev_wrong (d := d) (I := I2) (J := J) (by omega) hT cu2 z w4 (k := 3) (j := c.1 + 1) (by omega) hT1 (ho2.elim Or.inl (fun h9 => Or.inr (Or.inl h9)))
          have r1' : EV d T0 180 [.ref 192, .int 3, .int (nI (c.1 + 1))] (I2, J) = _ := r1
          rw [if_neg a0, if_neg b0]
          by_cases t : ta = tb
          · rw [if_pos t, if_pos ⟨a0', b0', Or.inl t⟩, r1', p_cv_s]
            exact ⟨I3, rfl, r2, wrg_w r3, r4.g, fun _ => r5⟩
          · rw [if_neg t, q_hasSeamR (by omega) hv e19 e203 (by omega), p_ci_s, h204, h205]
            by_cases hq : hsR (fun i => I 204 (10 * v + i)) (fun i => I 205 (10 * v + i)) ta tb S 0 = true
            · rw [if_neg (by rw [zI_t hq]; decide), if_pos ⟨a0', b0', Or.inr hq⟩, r1', p_cv_s]
              exact ⟨I3, rfl, r2, wrg_w r3, r4.g, fun _ => r5⟩
            · rw [if_pos (zI_f hq), if_neg (fun h9 => h9.2.2.elim t hq)]
              exact ⟨I2, rfl, kp.rf, kCw.rf, u4, fun _ => w4⟩
    · rw [if_neg (u4.2 z).nz]
      exact ⟨I2, rfl, kp.rf, kCw.rf, u4, fun h9 => absurd h9 z⟩
  obtain ⟨I3, r1, r2, r3, r4, r5⟩ := h34
  let I4 := p_wr (p_wr I3 204 (10 * v + S) x1) 205 (10 * v + S) x2
  have k4 : kp [204, 205] I3 I4 := (kp.rf.wr (by decide)).wr (by decide)
  have e4 : I4 192 = I3 192 := k4 192 (by decide)
  have cu4 : cuG I4 J tok T d2 := r4.go k4 (by decide) (by rw [e4]) (by rw [e4]) (by rw [e4])
  have ho4 : d2.2 = 0 → orQ (tok d2.1).2.1 (twS (ftV nm tw m (tkV (tok c.1))) (ftV nm tw m (tkV (tok (c.1 + 1)))) (hsR (fun i => I 204 (10 * v + i)) (fun i => I 205 (10 * v + i)) (ftV nm tw m (tkV (tok c.1))) (ftV nm tw m (tkV (tok (c.1 + 1)))) S 0) (tok (c.1 + 1)).2.1 (tnS (ftV nm tw m (tkV (tok (c.1 + 1)))) (tok (c.1 + 1)).2.1 (tnS (ftV nm tw m (tkV (tok c.1))) (tok c.1).2.1 s))) := fun z => by
    obtain ⟨z1, -, -, e2⟩ := hz2 z
    obtain ⟨-, -, -, e1⟩ := hz1 z1
    have ed : d2.1 = c.1 + 2 := by rw [e2, e1]
    have h2T := T2.1
    have p1 := pl_lt hV (i := c.1) (j := d2.1) (by omega) T2.1
    have p2 := pl_lt hV (i := c.1 + 1) (j := d2.1) (by omega) T2.1
    have h9 : orQ (tok d2.1).2.1 (tnS (ftV nm tw m (tkV (tok (c.1 + 1)))) (tok (c.1 + 1)).2.1 (tnS (ftV nm tw m (tkV (tok c.1))) (tok c.1).2.1 s)) := ((ho.up (by omega)).tn p1).tn p2
    unfold twS
    split
    · exact h9.nt p2
    · exact h9
  obtain ⟨I5, x5, v1, v2, v3, v4, v5⟩ := ev_boundG (d := d) (J := J) (lo := 1) (hi := 99) (by omega) hT hV cu4 T2.1 (fun z => (r5 z).go (by rw [e4]) (by rw [e4])) (by omega) (by omega) ho4
  have v1' : EV d T0 192 [.ref 192, .int 1, .int 99] (I4, J) = _ := v1
  have T3 := tkS_lt hT (k := 3) (by omega) (by omega) T2.1 T2.2
  have hz3 := tk_z (tok := tok) (k := 3) (c := d2)
  generalize tkS tok 3 d2 = d3 at v4 v5 T3 hz3 ⊢
  let I6 := p_wr I5 206 (10 * v + S) x5
  have k6 : kp [206] I5 I6 := kp.rf.wr (by decide)
  have e6 : I6 192 = I5 192 := k6 192 (by decide)
  have cu6 : cuG I6 J tok T d3 := v4.go k6 (by decide) (by rw [e6]) (by rw [e6]) (by rw [e6])
  generalize hs7 : twS (ftV nm tw m (tkV (tok c.1))) (ftV nm tw m (tkV (tok (c.1 + 1)))) (hsR (fun i => I 204 (10 * v + i)) (fun i => I 205 (10 * v + i)) (ftV nm tw m (tkV (tok c.1))) (ftV nm tw m (tkV (tok (c.1 + 1)))) S 0) (tok (c.1 + 1)).2.1 (tnS (ftV nm tw m (tkV (tok (c.1 + 1)))) (tok (c.1 + 1)).2.1 (tnS (ftV nm tw m (tkV (tok c.1))) (tok c.1).2.1 s)) = s7 at *
  have ho6 : d3.2 = 0 → orQ (tok d3.1).2.1 (nbS 1 99 (tok d2.1).2.2.1 (tok d2.1).2.1 s7) := fun z => by
    obtain ⟨z1, -, -, e3⟩ := hz3 z
    have p1 := pl_lt hV (i := d2.1) (j := d3.1) (by rw [e3]; show d2.1 < d2.1 + 1; omega) T3.1
    exact ((ho4 z1).up (by omega)).nb p1
  obtain ⟨I7, x7, w1, w2, w3, w4, w5⟩ := ev_boundG (d := d) (J := J) (lo := 0) (hi := 99) (by omega) hT hV cu6 T3.1 (fun z => (v5 z).2.go (by rw [e6]) (by rw [e6])) (by omega) (by omega) ho6
  have w1' : EV d T0 192 [.ref 192, .int 0, .int 99] (I6, J) = _ := w1
  have T4 := tkS_lt hT (k := 3) (by omega) (by omega) T3.1 T3.2
  have hz4 := tk_z (tok := tok) (k := 3) (c := d3)
  generalize tkS tok 3 d3 = d4 at w4 w5 T4 hz4 ⊢
  let I8 := p_wr I7 207 (10 * v + S) x7
  have k8 : kp [207] I7 I8 := kp.rf.wr (by decide)
  have e8 : I8 192 = I7 192 := k8 192 (by decide)
  have cu8 : cuG I8 J tok T d4 := w4.go k8 (by decide) (by rw [e8]) (by rw [e8]) (by rw [e8])
  obtain ⟨I9, y1, y2, y3, y4⟩ := ev_mustG (d := d) (J := J) (by omega) hT cu8 4 59 (by decide) (by decide) (by decide) (by omega) (by omega)
  have hz5 := tk_z (tok := tok) (k := 59) (c := d4)
  generalize tkS tok 59 d4 = d5 at y4 hz5 ⊢
  have kk9 : kp [192, 204, 205, 206, 207] I I9 := (((((((k12.up (by decide)).tr (r2.up (by decide))).tr (k4.up (by decide))).tr (v2.up (by decide))).tr (k6.up (by decide))).tr (w2.up (by decide))).tr (k8.up (by decide))).tr (y2.up (by decide))
  have f9 : kCw I I9 := fun j hj => by rw [y3.w j hj, e8, w3 j hj, e6, v3 j hj, e4, r3 j hj, f12 j hj]
  have c204 : I9 204 = upd (I 204) (10 * v + S) x1 := by rw [y2 204 (by decide), k8 204 (by decide), w2 204 (by decide), k6 204 (by decide), v2 204 (by decide)]; show p_wr (p_wr I3 204 (10 * v + S) x1) 205 (10 * v + S) x2 204 = _; rw [wr_ne (by decide), wr_eq, r2 204 (by decide), k12 204 (by decide)]
  have c205 : I9 205 = upd (I 205) (10 * v + S) x2 := by rw [y2 205 (by decide), k8 205 (by decide), w2 205 (by decide), k6 205 (by decide), v2 205 (by decide)]; show p_wr (p_wr I3 204 (10 * v + S) x1) 205 (10 * v + S) x2 205 = _; rw [wr_eq, wr_ne (by decide), r2 205 (by decide), k12 205 (by decide)]
  have c206 : I9 206 = upd (I 206) (10 * v + S) x5 := by rw [y2 206 (by decide), k8 206 (by decide), w2 206 (by decide)]; show p_wr I5 206 (10 * v + S) x5 206 = _; rw [wr_eq, v2 206 (by decide), k4 206 (by decide), r2 206 (by decide), k12 206 (by decide)]
  have c207 : I9 207 = upd (I 207) (10 * v + S) x7 := by rw [y2 207 (by decide)]; show p_wr I7 207 (10 * v + S) x7 207 = _; rw [wr_eq, w2 207 (by decide), k6 207 (by decide), v2 207 (by decide), k4 207 (by decide), r2 207 (by decide), k12 207 (by decide)]
  have call : ∀ k, 204 ≤ k → k ≤ 207 → ∀ j, j ≠ 10 * v + S → I9 k j = I k j := fun k a b j hj => by
    have hk : k = 204 ∨ k = 205 ∨ k = 206 ∨ k = 207 := by omega
    rcases hk with rfl | rfl | rfl | rfl
    · rw [c204, pk_un hj]
    · rw [c205, pk_un hj]
    · rw [c206, pk_un hj]
    · rw [c207, pk_un hj]
  have g203 : I9 203 = I 203 := kk9 203 (by decide)
  have g19 : I9 192 19 = nI v := (f9 19 (by decide)).trans h19
  have hp20 : ∀ y : Option Rs, p_chk (p_in (nI (10 * v + S)) 20) y = y := fun y => chk_in (by omega) (by omega)
  have hp2 : ∀ y : Option Rs, p_chk (p_in (nI v) 2) y = y := fun y => chk_in (by omega) (by omega)
  have run : EV (d + 1) T0 194 [.ref 192] (I, J) = (if I9 192 13 = 0 then p_chk (p_in (I9 192 19) 2) (p_chk (p_in (I9 192 19) 2) (rtV none ((p_wr I9 203 ((I9 192 19).toNatClampNeg) ((I9 203 ((I9 192 19).toNatClampNeg)) + 1)), J))) else rtV none (I9, J)) := by
    rw [e_X12_tellSeam, runS_M, s_X12_tellSeam_0, h19, hp2, t1, p_ci_s, u1, p_ci_s, nI_clamp (by omega), hS, show (10 : Int32) * nI v = nI (10 * v) from pk_mul 10 v, nI_add]
    dsimp only
    rw [r1, show (999998 : Nat) = 999997 + 1 from rfl, runS_s, s_X12_tellSeam_72, hp20, hp20, nI_clamp (by omega), v1', p_ci_s, hp20]
    dsimp only
    rw [w1', p_ci_s, hp20]
    dsimp only
    rw [show (999997 : Nat) = 999996 + 1 from rfl, runS_s, s_X12_tellSeam_113, y1, p_cv_s]
  rw [run]
  by_cases z : d5.2 = 0
  · obtain ⟨z4, -, -, e5⟩ := hz5 z
    obtain ⟨z3, q4, -, e4'⟩ := hz4 z4
    obtain ⟨z2, q3, -, e3'⟩ := hz3 z3
    obtain ⟨z1, q2, -, e2'⟩ := hz2 z2
    obtain ⟨-, q1, -, e1'⟩ := hz1 z1
    have ed1 : d1.1 = c.1 + 1 := by rw [e1']
    have ed2 : d2.1 = c.1 + 2 := by rw [e2']; show d1.1 + 1 = _; omega
    have ed3 : d3.1 = c.1 + 3 := by rw [e3']; show d2.1 + 1 = _; omega
    have x10 : kp [203] I9 (p_wr I9 203 v (nI (S + 1))) := kp.rf.wr (by decide)
    refine ⟨p_wr I9 203 v (nI (S + 1)), ?_, (kk9.up (by decide)).tr (x10.up (by decide)), fun j hj => by rw [x10 192 (by decide)]; exact f9 j hj, fun j hj => by rw [wr_eq, pk_un hj, g203], fun k a b j hj => by rw [x10 k (fun h9 => by rw [List.mem_singleton] at h9; omega)]; exact call k a b j hj, y4.go x10 (by decide) (by rw [x10 192 (by decide)]) (by rw [x10 192 (by decide)]) (by rw [x10 192 (by decide)]), fun _ => ⟨by rw [wr_eq, pk_us], ⟨?_, ?_, ?_, ?_⟩, ?_⟩⟩
    · rw [if_pos (show I9 192 13 = 0 by rw [(y4.1 z).2.1, z]; rfl), g19, hp2, hp2, nI_clamp (by omega), g203, hS, nI_1]; rfl
    · rw [x10 204 (by decide), c204, pk_us]; exact (t5 z1).1
    · rw [x10 205 (by decide), c205, pk_us, (u5 z2).1, ed1]
    · rw [x10 206 (by decide), c206, pk_us, (v5 z3).1, ed2]
    · rw [x10 207 (by decide), c207, pk_us, (w5 z4).1, ed3]
    · have h9 := (w5 z4).2
      rw [ed3, ed2] at h9
      refine (h9.go (I' := p_wr I9 203 v (nI (S + 1))) ?_ ?_)
      · rw [x10 192 (by decide), y3 15 (by decide) (by decide) (by decide), e8]
      · rw [x10 192 (by decide), y3 16 (by decide) (by decide) (by decide), e8]
  · refine ⟨I9, ?_, kk9.up (by decide), f9, fun j _ => by rw [g203], call, y4, fun h9 => absurd h9 z⟩
    rw [if_neg (y4.2 z).nz]; rfl
end SQ
