/-! ===== read: the class's new plan ===== -/
section TA
variable {I : Nat → Nat → Int32} {J : Nat → Nat → Int64} {d : Nat} {tok : Nat → TK}
def PlCl (P : PP) (I : Nat → Nat → Int32) : Prop := (xN P ≤ 7 ∧ xS P ≤ 10 ∧ xC P ≤ 4 ∧ xv P < 2) ∧ (I 25 0 = nI (xN P) ∧ I 25 1 = nI (xS P) ∧ I 25 3 = nI (xC P)) ∧
  (∀ i, i < xS P → (I 26 i = nI (xf P i) ∧ I 27 i = nI (xg P i)) ∧ (xf P i < xN P ∧ xg P i < xN P ∧ xf P i ≠ xg P i) ∧ I 28 i = enB (nI (xf P i)) (nI (xg P i)) ∧ (I 29 i = nI (xl P i) ∧ 1 ≤ xl P i ∧ xl P i ≤ 99) ∧ I 31 i = nI (wyN P (xf P i) (xS P))) ∧
  (∀ c, c < xC P → (I 32 c = nI (xa P c) ∧ I 33 c = nI (xb P c) ∧ I 34 c = nI (xd P c)) ∧ (xa P c < xN P ∧ xb P c < xN P ∧ xa P c ≠ xb P c ∧ xd P c ≤ 99)) ∧
  (∀ k, k < 4 → okL (xL P k).1 (xL P k).2 ∧ LawC I k (xL P k).1 (xL P k).2) ∧ (I 25 6 = xz P ∧ ∃ m, m ≤ 100 ∧ xz P = nI m) ∧ I 25 7 = xe P
def PlMd (P : PP) (I : Nat → Nat → Int32) : Prop := I 192 18 = nI (xv P) ∧ (I 202 (xv P) = nI (xN P) ∧ I 203 (xv P) = nI (xS P) ∧ I 210 (xv P) = nI (xC P)) ∧
  (∀ i, i < xS P → I 204 (10 * xv P + i) = nI (xf P i) ∧ I 205 (10 * xv P + i) = nI (xg P i) ∧ I 206 (10 * xv P + i) = nI (xl P i)) ∧
  (∀ c, c < xC P → I 211 (4 * xv P + c) = nI (xa P c) ∧ I 212 (4 * xv P + c) = nI (xb P c) ∧ I 213 (4 * xv P + c) = nI (xd P c)) ∧
  (∀ k, k < 4 → LawM I (4 * xv P + k) k (xL P k).1 (xL P k).2) ∧ I 215 (xv P) = xz P ∧ I 216 (xv P) = xe P
theorem PlR_of {P : PP} (h : PlCl P I) (h' : PlMd P I) : PlR P I := by
  obtain ⟨⟨a1, a2, a3, a4⟩, ⟨b1, b2, b3⟩, c, e, f, ⟨g1, g2⟩, g3⟩ := h
  obtain ⟨p1, ⟨q1, q2, q3⟩, r, s, t, u1, u2⟩ := h'
  exact ⟨⟨p1, a4⟩, ⟨b1, q1, a1⟩, ⟨b2, q2, a2⟩, ⟨b3, q3, a3⟩, fun i hi => ⟨(c i hi).1, (c i hi).2.1, (c i hi).2.2.1, (c i hi).2.2.2.1, (c i hi).2.2.2.2, r i hi⟩, fun i hi => ⟨(e i hi).1, (e i hi).2, s i hi⟩, fun k hk => ⟨(f k hk).1, (f k hk).2, t k hk⟩, ⟨g1, u1, g2⟩, g3, u2⟩
/-- how all begins -/
def yB (Y : DY) : YS := (nI Y.2.2.2.1.2.1, (Y.2.2.2.2.1.2.2.2, 0, fun c f => if f = 0 then Y.2.2.2.2.2.1.1 c else 0))
/-- the reference's tables and the class's agree on the towns -/
theorem nw_f {v : Nat} {Y : DY} {i p : Nat} (h : Y.2.2.2.2.1.1 i = nI p) (hp : p < 100) : xf (nwP v Y) i = p := by show (Y.2.2.2.2.1.1 i).toNatClampNeg = p; rw [h, nI_clamp (by omega)]
theorem nw_g {v : Nat} {Y : DY} {i p : Nat} (h : Y.2.2.2.2.1.2.1 i = nI p) (hp : p < 100) : xg (nwP v Y) i = p := by show (Y.2.2.2.2.1.2.1 i).toNatClampNeg = p; rw [h, nI_clamp (by omega)]
theorem nw_a {v : Nat} {Y : DY} {i p : Nat} (h : Y.2.2.2.2.2.1.1 i = nI p) (hp : p < 100) : xa (nwP v Y) i = p := by show (Y.2.2.2.2.2.1.1 i).toNatClampNeg = p; rw [h, nI_clamp (by omega)]
theorem nw_b {v : Nat} {Y : DY} {i p : Nat} (h : Y.2.2.2.2.2.1.2.1 i = nI p) (hp : p < 100) : xb (nwP v Y) i = p := by show (Y.2.2.2.2.2.1.2.1 i).toNatClampNeg = p; rw [h, nI_clamp (by omega)]
/-- what was told, at its end, without a fault -/
def PZ (Y : DY) : Prop := seV Y.2.2.2.2.1.1 Y.2.2.2.2.1.2.1 Y.2.2.2.2.1.2.2.1 Y.2.2.2.2.1.2.2.2 Y.2.2.1.2.1 Y.2.2.1.1 ∧ caV Y.2.2.2.2.2.1.1 Y.2.2.2.2.2.1.2.1 Y.2.2.2.2.2.1.2.2 Y.2.2.1.2.2.2 Y.2.2.1.1 ∧ (Y.2.2.2.1.2.1 ≤ 9999 ∧ Y.2.2.2.1.2.2.1 ≤ 100 ∧ Y.2.2.2.1.2.2.2 ≤ 9999) ∧ Y.2.2.2.1.1 ≤ 99 * Y.2.2.1.2.2.1 ∧ (∀ k, k < 4 → okL (Y.2.2.2.2.2.2 k).1 (Y.2.2.2.2.2.2 k).2) ∧ (Y.2.2.1.1 ≤ 7 ∧ Y.2.2.1.2.1 ≤ 10 ∧ Y.2.2.1.2.2.1 ≤ 3 ∧ Y.2.2.1.2.2.2 ≤ 4)
theorem PZ_of {cb : Nat} {Y : DY} (h : PY tok cb Y) (hz : Y.1.1 = 0) : PZ Y := by
  obtain ⟨s, ⟨m, nm, tw⟩, ⟨N, S, W, C⟩, ⟨Q, th, fr, sd⟩, ⟨f, g, l, w⟩, ⟨a, b, ld⟩, lw⟩ := Y
  obtain ⟨h1, h2, h3, h4, h5, h6, h7⟩ := h
  obtain ⟨q1, q2, q3, q4⟩ := h4 hz
  exact ⟨q1, q2, q3, q4, h5, h6⟩
def rsL : List Nat := [25, 26, 27, 28, 29, 30, 31, 32, 33, 34, 35, 36, 38, 39, 40, 41, 45, 168, 178]
/-- all that the class holds of a new plan -/
def NC (P : PP) (I : Nat → Nat → Int32) (Y : DY) : Prop := PlCl P I ∧ stC P I 39 (yB Y) ∧ okY P (yB Y) ∧ (I 45 1 = 0 ∧ I 45 2 = 0) ∧ (∀ s, s < 3 → I 168 s = 0) ∧ I 178 6 = 0 ∧ I 25 2 = nI Y.2.2.1.2.2.1 ∧ I 25 4 = nI Y.2.2.2.1.1
theorem ev_takeover (hd : 5 ≤ d) {v cb n : Nat} (hv : v < 2) {Y : DY} (hP : RdP I cb Y) (hb : cb ≤ 400) (hz : PZ Y) (x : Int32) :
    ∃ I', p_cv (EV d T0 29 [.ref 25, .ref 4] (I, J)) (fun z3 => runS (EV d) none 2 T0 C_X11_read k_X11_read rtI f_X11_read (n + 1 + 1) 49 [.ref 0, .int x] [] z3) = some (some (.int x), (I', J)) ∧ kp rsL I I' ∧ NC (nwP v Y) I' Y := by
  obtain ⟨z1, z2, ⟨z3, z4, z5⟩, z6, z7, ⟨z8, z9, z10, z11⟩⟩ := hz
  obtain ⟨⟨⟨c0, -⟩, ⟨c1, -⟩, ⟨c2, -⟩, c3, -⟩, ⟨v0, v1, v2, v3⟩, se, ca, sz, lw, hsz⟩ := hP
  have hf : ∀ j, j < xS (nwP v Y) → I 5 j = nI (xf (nwP v Y) j) ∧ I 6 j = nI (xg (nwP v Y) j) ∧ I 7 j = enB (nI (xf (nwP v Y) j)) (nI (xg (nwP v Y) j)) ∧ xf (nwP v Y) j < Y.2.2.1.1 ∧ xg (nwP v Y) j < Y.2.2.1.1 ∧ xf (nwP v Y) j ≠ xg (nwP v Y) j := fun j hj => by
    obtain ⟨⟨p, q, e1, e2, e3, e4, e5⟩, -⟩ := z1 j hj
    obtain ⟨⟨s1, s2, s3⟩, -⟩ := se j hj
    rw [nw_f e1 (by omega), nw_g e2 (by omega)]
    exact ⟨s1.trans e1, s2.trans e2, by rw [s3, e1, e2], e3, e4, e5⟩
  obtain ⟨I1, a1, a2, a3, a4⟩ := ev_copyFrom (d := d) (I := I) (J := J) (P := nwP v Y) (by omega) c1 z9 (fun j hj => ⟨(hf j hj).1, (hf j hj).2.2.1, by have := (hf j hj).2.2.2.1; omega, by have := (hf j hj).2.2.2.2.1; omega⟩)
  obtain ⟨p1, p2, p3, p4, p5, p6⟩ := a3
  obtain ⟨I2, b1, b2, b3, b4, b5, b6, b7⟩ := ev_begin (d := d) (I := I1) (J := J) (by omega) (C := Y.2.2.1.2.2.2) ((p1 3 (by omega)).trans c3) z11
  let I3 := p_wr (p_wr I2 45 1 0) 45 2 0
  have k3 : kp [45] I2 I3 := (kp.rf.wr (by decide)).wr (by decide)
  have pc : EV d T0 24 [.ref 45] (I2, J) = some (none, (I3, J)) := by
    obtain ⟨d, rfl⟩ : ∃ z, d = z + 1 := ⟨d - 1, by omega⟩
    rw [e_X2_clear, runS_M, s_X2_clear_0]; rfl
  let I4 := p_wr I3 178 6 0
  have k4 : kp [178] I3 I4 := kp.rf.wr (by decide)
  have sc : EV d T0 64 [.ref 178] (I3, J) = some (none, (I4, J)) := by
    obtain ⟨d, rfl⟩ : ∃ z, d = z + 1 := ⟨d - 1, by omega⟩
    rw [e_X6_clear, runS_M, s_X6_clear_0]; rfl
  obtain ⟨I5, f1, f2, f3⟩ := ev_emptySlots (d := d) (I := I4) (J := J) (by omega)
  have kk : kp [45, 178, 168] I2 I5 := ((k3.up (by decide)).tr (k4.up (by decide))).tr (f2.up (by decide))
  have k15 : kp [39, 40, 41, 45, 178, 168] I1 I5 := (b2.up (by decide)).tr (kk.up (by decide))
  have cell : ∀ k, k ∈ [25, 26, 27, 28, 29, 30, 31, 32, 33, 34, 35, 36, 38] → I5 k = I1 k := fun k hk => k15 k (fun h9 => by
    have := (by decide : ∀ k ∈ [25, 26, 27, 28, 29, 30, 31, 32, 33, 34, 35, 36, 38], k ∉ [39, 40, 41, 45, 178, 168]) k hk
    exact this h9)
  refine ⟨I5, ?_, ((a2.up (by decide)).tr (b2.up (by decide))).tr (kk.up (by decide)), ⟨⟨z8, z9, z11, hv⟩, ⟨?_, ?_, ?_⟩, fun i hi => ?_, fun c hc => ?_, fun k hk => ⟨z7 k hk, ?_⟩, ⟨?_, _, z4, rfl⟩, ?_⟩, ⟨fun i hi => ?_, ?_, fun c hc f hf5 => ?_, ?_⟩, ⟨fun c hc => ?_, _, z3, rfl⟩, ⟨?_, ?_⟩, f3, ?_, ?_, ?_⟩
  · rw [a1, p_cv_s, runS_s, s_X11_read_49, b1, p_cv_s, pc, p_cv_s, runS_s, s_X11_read_67, sc, p_cv_s, f1, p_cv_s]; rfl
  · rw [cell 25 (by decide)]; exact (p1 0 (by omega)).trans c0
  · rw [cell 25 (by decide)]; exact (p1 1 (by omega)).trans c1
  · rw [cell 25 (by decide)]; exact (p1 3 (by omega)).trans c3
  · have hi' : i < Y.2.2.1.2.1 := hi
    obtain ⟨g1, g2, g3, g4, g5, g6⟩ := hf i hi
    obtain ⟨r1, r2, r3, r4, r5⟩ := p2 i (by omega)
    obtain ⟨-, s4, s5⟩ := se i hi
    rw [cell 26 (by decide), cell 27 (by decide), cell 28 (by decide), cell 29 (by decide), cell 31 (by decide)]
    exact ⟨⟨r1.trans g1, r2.trans g2⟩, ⟨g4, g5, g6⟩, r3.trans g3, ⟨r4.trans s4, (z1 i hi).2.1, (z1 i hi).2.2.1⟩, a4 i hi⟩
  · have hc' : c < Y.2.2.1.2.2.2 := hc
    obtain ⟨⟨p, q, e1, e2, e3, e4, e5⟩, e6⟩ := z2 c hc
    obtain ⟨r1, r2, r3⟩ := p3 c (by omega)
    obtain ⟨s1, s2, s3⟩ := ca c hc
    rw [cell 32 (by decide), cell 33 (by decide), cell 34 (by decide), nw_a e1 (by omega), nw_b e2 (by omega)]
    exact ⟨⟨r1.trans (s1.trans e1), r2.trans (s2.trans e2), r3.trans s3⟩, e3, e4, e5, e6⟩
  · obtain ⟨p, l1, l2, l3⟩ := lw.2 k hk
    refine ⟨sz, p, ?_, by omega, ?_, ?_, l3⟩
    · rw [cell 35 (by decide), p4]; exact lw.1
    · rw [cell 38 (by decide), p6 k hk]; exact l1
    · rw [cell 36 (by decide)]
      exact atL_cg _ _ _ (fun j _ hj => p5 j (by
        have h9 : p + lnL (Y.2.2.2.2.2.2 k).1 (Y.2.2.2.2.2.2 k).2 ≤ sz := l3
        have h8 : j < p + lnL (Y.2.2.2.2.2.2 k).1 (Y.2.2.2.2.2.2 k).2 := hj
        omega)) l2
  · rw [cell 25 (by decide)]; exact (p1 6 (by omega)).trans v2
  · rw [cell 25 (by decide)]; exact (p1 7 (by omega)).trans v3
  · have hi' : i < Y.2.2.1.2.1 := hi
    refine ⟨?_, (z1 i hi).2.2.2⟩
    rw [kk 40 (by decide), b5 i (by omega), (p2 i (by omega)).2.2.2.2]
    exact (se i hi).2.2
  · rw [kk 39 (by decide)]; exact b3
  · have hc' : c < Y.2.2.1.2.2.2 := hc
    show I5 41 (5 * c + f) = if f = 0 then Y.2.2.2.2.2.1.1 c else 0
    rw [kk 41 (by decide)]
    by_cases e : f = 0
    · rw [if_pos e, e, Nat.add_zero, b6 c hc', (p3 c (by omega)).1]; exact (ca c hc).1
    · rw [if_neg e]; exact b7 c f (by omega) (by omega) hf5
  · rw [kk 39 (by decide), b4, p1 5 (by omega)]; exact v1
  · obtain ⟨⟨p, q, e1, e2, e3, e4, e5⟩, e6⟩ := z2 c hc
    exact ⟨⟨p, e3, by show (if (0 : Nat) = 0 then Y.2.2.2.2.2.1.1 c else 0) = nI p; rw [if_pos rfl]; exact e1⟩, Or.inl rfl⟩
  · rw [f2 45 (by decide), k4 45 (by decide)]; show p_wr (p_wr I2 45 1 0) 45 2 0 45 1 = 0; rw [wr_eq, pk_un (by decide), wr_eq, pk_us]
  · rw [f2 45 (by decide), k4 45 (by decide)]; show p_wr (p_wr I2 45 1 0) 45 2 0 45 2 = 0; rw [wr_eq, pk_us]
  · rw [f2 178 (by decide)]; show p_wr I3 178 6 0 178 6 = 0; rw [wr_eq, pk_us]
  · rw [cell 25 (by decide)]; exact (p1 2 (by omega)).trans c2
  · rw [cell 25 (by decide)]; exact (p1 4 (by omega)).trans v0
theorem NC_cg {P : PP} {I' : Nat → Nat → Int32} {Y : DY} (h : NC P I Y) (hk : ∀ k, k < 192 → I' k = I k) : NC P I' Y := by
  have e : ∀ k, k < 192 → I' k = I k := hk
  unfold NC PlCl LawC stC at *
  rw [e 25 (by omega), e 26 (by omega), e 27 (by omega), e 28 (by omega), e 29 (by omega), e 31 (by omega), e 32 (by omega), e 33 (by omega), e 34 (by omega), e 35 (by omega), e 36 (by omega), e 38 (by omega), e 39 (by omega), e (39 + 1) (by omega), e (39 + 2) (by omega), e 45 (by omega), e 168 (by omega), e 178 (by omega)]
  exact h
/-- the class's call: what it answers, and what it leaves -/
theorem c_read (hd : 28 ≤ d) {P : PP} {A : AS} {E : ES} (h : SC P I A E) (hK : ∀ i, i < 23 → J 22 i = kyW i) {v : Nat} (hv : v < 2) :
    ∃ I' J', EV d T0 122 [.ref 0] (I, J) = some (some (.int (nI (ansV (rdR (fun j => byN (E.2.1 j)) E.1)))), (I', J')) ∧ kp ([0, 1] ++ rtL ++ rsL) I I' ∧ kpJ [21, 23] J J' ∧ I' 1 1 = 0 ∧ I' 0 12 = ansP (tkL (fun j => byN (E.2.1 j)) E.1) (rdR (fun j => byN (E.2.1 j)) E.1) ∧
      (ansV (rdR (fun j => byN (E.2.1 j)) E.1) ≠ 0 → kp ([0, 1] ++ rtL) I I' ∧ (∀ j, j ≠ 12 → I' 0 j = I 0 j) ∧ (∀ j, j ≠ 1 → I' 1 j = I 1 j)) ∧
      (ansV (rdR (fun j => byN (E.2.1 j)) E.1) = 0 → (rdR (fun j => byN (E.2.1 j)) E.1).1.2 = 0 ∧ (rdR (fun j => byN (E.2.1 j)) E.1).2.1.1 = 0 ∧ PZ (rdR (fun j => byN (E.2.1 j)) E.1).2 ∧ NC (nwP v (rdR (fun j => byN (E.2.1 j)) E.1).2) I' (rdR (fun j => byN (E.2.1 j)) E.1).2) := by
  obtain ⟨d, rfl⟩ : ∃ z, d = z + 1 := ⟨d - 1, by omega⟩
  have tb : TB I E.1 (fun j => byN (E.2.1 j)) := ⟨h.2.2.1, h.2.2.2.1, fun j hj => ⟨by rw [h.2.2.2.2.1 j hj]; exact byN_e _, byN_b _⟩⟩
  obtain ⟨I1, J1, a1, a2, a3, a4, a6, a5⟩ := ev_readText (d := d) (by omega) tb (fun j _ => byN_b _) hK
  generalize hR : rdR (fun j => byN (E.2.1 j)) E.1 = R at *
  let I2 := p_wr (p_wr I1 0 12 (I1 3 1)) 1 1 0
  have k2 : kp [0, 1] I1 I2 := (kp.rf.wr (by decide)).wr (by decide)
  have f0 : I2 0 12 = ansP (tkL (fun j => byN (E.2.1 j)) E.1) R := by show p_wr (p_wr I1 0 12 (I1 3 1)) 1 1 0 0 12 = _; rw [wr_ne (by decide), wr_eq, pk_us]; exact a4
  have f1 : I2 1 1 = 0 := by show p_wr (p_wr I1 0 12 (I1 3 1)) 1 1 0 1 1 = 0; rw [wr_eq, pk_us]
  have k12 : kp ([0, 1] ++ rtL) I I2 := (a2.up (by decide)).tr (k2.up (by decide))
  have hv3 : ansV R < 2 ^ 31 := by
    unfold ansV
    by_cases z : R.1.2 = 0
    · rw [if_pos z]
      have := (a5 z).1.1.1.2.1
      omega
    · rw [if_neg z]
      have := a6.2
      omega
  rw [e_X11_read, runS_M, s_X11_read_0, a1, p_ci_s]
  by_cases z : ansV R = 0
  · have zz : R.1.2 = 0 ∧ R.2.1.1 = 0 := by
      unfold ansV at z
      by_cases z1 : R.1.2 = 0
      · rw [if_pos z1] at z; exact ⟨z1, z⟩
      · rw [if_neg z1] at z; exact absurd z z1
    obtain ⟨rv, py⟩ := a5 zz.1
    have pz := PZ_of py zz.2
    have rp2 : RdP I2 R.1.1 R.2 := RdP.kp rv.2 (fun k p q => k2 k (fun h9 => by simp only [List.mem_cons, List.not_mem_nil, or_false] at h9; omega)) (Nat.le_refl _)
    have hle : R.1.1 ≤ 400 := a6.1
    obtain ⟨I3, t1, t2, t3⟩ := ev_takeover (d := d) (I := I2) (J := J1) (n := 999997) (by omega) hv rp2 hle pz (nI (ansV R))
    refine ⟨I3, J1, ?_, (k12.up (by decide)).tr (t2.up (by decide)), a3, by rw [t2 1 (by decide)]; exact f1, by rw [t2 0 (by decide)]; exact f0, fun h9 => absurd z h9, fun _ => ⟨zz.1, zz.2, pz, t3⟩⟩
    rw [if_pos (show nI (ansV R) = 0 by rw [z]; rfl)]
    exact t1
  · refine ⟨I2, J1, ?_, k12.up (by decide), a3, f1, f0, fun _ => ⟨k12, fun j hj => ?_, fun j hj => ?_⟩, fun h9 => absurd h9 z⟩
    · rw [if_neg (show ¬ nI (ansV R) = 0 by rw [eq0_nI hv3]; exact z)]; rfl
    · show p_wr (p_wr I1 0 12 (I1 3 1)) 1 1 0 0 j = _; rw [wr_ne (by decide), wr_eq, pk_un hj, a2 0 (by decide)]
    · show p_wr (p_wr I1 0 12 (I1 3 1)) 1 1 0 1 j = _; rw [wr_eq, pk_un hj, wr_ne (by decide), a2 1 (by decide)]
end TA
