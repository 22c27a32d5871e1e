/-! ===== read: the tells (class) ===== -/
section SM
variable {I : Nat → Nat → Int32} {J : Nat → Nat → Int64} {d : Nat} {tok : Nat → TK} {T : Nat}
def rdL : List Nat := [3, 4, 5, 6, 7, 8, 9, 11, 12, 13, 14, 15, 17, 24]
def rdF (I I' : Nat → Nat → Int32) (J J' : Nat → Nat → Int64) : Prop := kp rdL I I' ∧ kpJ [23] J J'
/-- notes alone -/
def ntK (I I' : Nat → Nat → Int32) : Prop := kp [3] I I' ∧ ∀ q, q ≠ 9 → q ≠ 10 → I' 3 q = I 3 q
theorem ntK.rf : ntK I I := ⟨kp.rf, fun _ _ _ => rfl⟩
theorem ntK.tr {I' I'' : Nat → Nat → Int32} (h : ntK I I') (h' : ntK I' I'') : ntK I I'' := ⟨h.1.tr h'.1, fun q a b => (h'.2 q a b).trans (h.2 q a b)⟩
theorem nmC.nt {I' : Nat → Nat → Int32} {m : Nat} {nm : Nat → Int64} {tw : Nat → Int32} (h : nmC I J m nm tw) (hk : ntK I I') : nmC I' J m nm tw := ⟨(hk.2 5 (by decide) (by decide)).trans h.1, h.2.1, fun j hj => by rw [hk.1 24 (by decide)]; exact h.2.2 j hj⟩
theorem nmC.kx {I' : Nat → Nat → Int32} {X : List Nat} {m : Nat} {nm : Nat → Int64} {tw : Nat → Int32} (h : nmC I J m nm tw) (hk : kp X I I') (hX : 3 ∉ X ∧ 24 ∉ X) : nmC I' J m nm tw := ⟨by rw [hk 3 hX.1]; exact h.1, h.2.1, fun j hj => by rw [hk 24 hX.2]; exact h.2.2 j hj⟩
theorem sfC.kx {I' : Nat → Nat → Int32} {X : List Nat} {s : Nat × Nat} (h : sfC I s) (hk : kp X I I') (hX : 3 ∉ X) : sfC I' s := h.go (by rw [hk 3 hX]) (by rw [hk 3 hX])
theorem rdP_k3 {I' : Nat → Nat → Int32} {cb cb' : Nat} {Y : DY} (h : RdP I cb Y) (hk : kp [3, 24] I I') (hb : cb ≤ cb') : RdP I' cb' Y := h.kp (fun k a b => hk k (fun h9 => by simp only [List.mem_cons, List.not_mem_nil, or_false] at h9; omega)) hb
/-- counts and numbers anew -/
theorem rdP_c4 {I' : Nat → Nat → Int32} {cb cb' : Nat} {s s' : Nat × Nat} {nms nms' : Nat × (Nat → Int64) × (Nat → Int32)} {t t' v v' : Nat × Nat × Nat × Nat} {se : (Nat → Int32) × (Nat → Int32) × (Nat → Nat) × (Nat → Nat)} {ca : (Nat → Int32) × (Nat → Int32) × (Nat → Nat)} {lw : Nat → List Br × List Op} (h : RdP I cb (s, nms, t, v, se, ca, lw)) (hk : kp [3, 4, 24] I I') (h1 : cnC I' t') (h2 : vlC I' v') (e1 : t'.2.1 = t.2.1) (e2 : t'.2.2.2 = t.2.2.2) (hb : cb ≤ cb') : RdP I' cb' (s', nms', t', v', se, ca, lw) := by
  obtain ⟨-, -, h3, h4, sz, h5, h6⟩ := h
  dsimp only at h3 h4 h5
  refine ⟨h1, h2, ?_, ?_, sz, ?_, by omega⟩
  · unfold seC at *; dsimp only; rw [e1, hk 5 (by decide), hk 6 (by decide), hk 7 (by decide), hk 8 (by decide), hk 9 (by decide)]; exact h3
  · unfold caC at *; dsimp only; rw [e2, hk 11 (by decide), hk 12 (by decide), hk 13 (by decide)]; exact h4
  · unfold lwC at *; dsimp only; rw [hk 14 (by decide), hk 15 (by decide), hk 17 (by decide)]; exact h5
theorem ev_readTown (hd : 4 ≤ d) (hT : TKS tok T) {c : Nat × Nat} (h : cuC I J tok T c) (hk : (tok c.1).1 = 256) {Y : DY} (hv : RdV I J c.1 Y) :
    ∃ I' J', EV d T0 37 [.ref 3] (I, J) = some (none, (I', J')) ∧ rdF I I' J J' ∧ cuC I' J' tok T (cu_town tok Y.2.2.1.1 c) ∧ ((cu_town tok Y.2.2.1.1 c).2 = 0 → RdV I' J' (cu_town tok Y.2.2.1.1 c).1 (y_town tok (c.1 + 1) Y)) := by
  obtain ⟨d, rfl⟩ : ∃ z, d = z + 1 := ⟨d - 1, by omega⟩
  obtain ⟨s, ⟨m, nm, tw⟩, ⟨N, S, W, C⟩, vl, se, ca, lw⟩ := Y
  obtain ⟨⟨sf, nmc, hm⟩, rp⟩ := hv
  dsimp only at sf nmc hm
  obtain ⟨⟨c0, c0'⟩, ⟨c1, c1'⟩, ⟨c2, c2'⟩, c3, c3'⟩ := rp.1
  dsimp only at c0 c0' c1 c1' c2 c2' c3 c3'
  show ∃ I' J', _ ∧ _ ∧ cuC I' J' tok T (cu_town tok N c) ∧ ((cu_town tok N c).2 = 0 → RdV I' J' (cu_town tok N c).1 _)
  unfold cu_town
  obtain ⟨I1, t1, t2, t3, t4⟩ := ev_takeFirst (d := d) (I := I) (J := J) (by omega) hT h (decide (N < 7)) (by omega) (by omega) (x := zI (decide (N < 7) = true)) rfl
  have hz1 := tf_z (room := decide (N < 7)) (c := c)
  generalize tfS (decide (N < 7)) c = d1 at t4 hz1 ⊢
  obtain ⟨I2, u1, u2, u3, u4⟩ := ev_take (d := d) (I := I1) (J := J) (by omega) hT t4 (k := 2) (by omega) (by omega) (by omega)
  have u1' : EV d T0 47 [.ref 3, .int 2] (I1, J) = _ := u1
  have hz2 := tk_z (tok := tok) (k := 2) (c := d1)
  generalize tkS tok 2 d1 = d2 at u4 hz2 ⊢
  obtain ⟨I3, v1, v2, v3, v4⟩ := ev_take (d := d) (I := I2) (J := J) (by omega) hT u4 (k := 59) (by omega) (by omega) (by omega)
  have v1' : EV d T0 47 [.ref 3, .int 59] (I2, J) = _ := v1
  have hz3 := tk_z (tok := tok) (k := 59) (c := d2)
  generalize tkS tok 59 d2 = d3 at v4 hz3 ⊢
  have k3 : kp [3] I I3 := (t2.tr u2).tr v2
  have f3 : k678 I I3 := fun j a b e => (v3 j a b e).trans ((u3 j a b e).trans (t3 j a b e))
  have hgo : ∃ I' J', p_cv (EV d T0 46 [.ref 3, .int (zI (decide (N < 7) = true))] (I, J)) (fun z1 => p_ci (EV d T0 47 [.ref 3, .int 2] z1) (fun v3 z2 => runS (EV d) none 2 T0 C_X4_readTown k_X4_readTown rtV f_X4_readTown 999999 27 [.ref 3, .int v3] [] z2)) = some (none, (I', J')) ∧ rdF I I' J J' ∧ cuC I' J' tok T d3 ∧ (d3.2 = 0 → RdV I' J' d3.1 (y_town tok (c.1 + 1) (s, (m, nm, tw), (N, S, W, C), vl, se, ca, lw))) := by
    rw [t1, p_cv_s, u1', p_ci_s, show (999999 : Nat) = 999998 + 1 from rfl, runS_s, s_X4_readTown_27, v1', p_ci_s]
    dsimp only
    by_cases z : d3.2 = 0
    · obtain ⟨a1, a2, a3, a4⟩ := hz3 z
      obtain ⟨b1, b2, b3, b4⟩ := hz2 a1
      obtain ⟨q1, q2, q3, q4⟩ := hz1 b1
      have q2' := of_decide_eq_true q2
      have e1 : d1.1 = c.1 + 1 := by rw [q4]
      have hd1 := t4.2.2.2.1
      have e40 : I3 4 0 = nI N := by rw [k3 4 (by decide)]; exact c0
      obtain ⟨I4, w1, w2, w3, w4, w5, w6⟩ := ev_addName (d := d) (I := I3) (J := J) (by omega) hT v4 (sf.go (f3 9 (by decide) (by decide) (by decide)) (f3 10 (by decide) (by decide) (by decide))) (nm := nm) (tw := tw) (m := m) ⟨(f3 5 (by decide) (by decide) (by decide)).trans nmc.1, nmc.2.1, fun j hj => by rw [k3 24 (by decide)]; exact nmc.2.2 j hj⟩ (by omega) (j := c.1 + 1) (by omega) (nI N)
      have x5 : kp [4] I4 (p_wr I4 4 0 (nI (N + 1))) := kp.rf.wr (by decide)
      have f5 : ∀ q, q ≠ 0 → p_wr I4 4 0 (nI (N + 1)) 4 q = I 4 q := fun q hq => by rw [wr_eq, pk_un hq, w2 4 (by decide), k3 4 (by decide)]
      refine ⟨p_wr I4 4 0 (nI (N + 1)), p_wrJ J 23 m (tkV (tok (c.1 + 1))), ?_, ⟨((k3.up (by decide)).tr (w2.up (by decide))).tr (x5.up (by decide)), wJ_kp⟩, w4.kx x5 (by decide), fun _ => ⟨⟨w5.kx x5 (by decide), w6.kx x5 (by decide), by show m + 1 = N + 1 + W + C; omega⟩, ?_⟩⟩
      · rw [if_pos (show I3 3 8 = 0 by rw [v4.2.2.1, z]; rfl), e1, e40, w1, p_cv_s, show (999998 : Nat) = 999997 + 1 from rfl, runS_s, s_X4_readTown_53, w2 4 (by decide), e40, nI_1]; rfl
      · refine rdP_c4 rp (((k3.up (by decide)).tr (w2.up (by decide))).tr (x5.up (by decide))) ⟨⟨by rw [wr_eq, pk_us], by show N + 1 ≤ 7; omega⟩, ⟨(f5 1 (by decide)).trans c1, c1'⟩, ⟨(f5 2 (by decide)).trans c2, c2'⟩, (f5 3 (by decide)).trans c3, c3'⟩ ?_ rfl rfl (by rw [a4, b4, q4]; show c.1 ≤ c.1 + 1 + 1 + 1; omega)
        obtain ⟨g1, g2, g3, g4⟩ := rp.2.1
        exact ⟨(f5 4 (by decide)).trans g1, (f5 5 (by decide)).trans g2, (f5 6 (by decide)).trans g3, (f5 7 (by decide)).trans g4⟩
    · refine ⟨I3, J, ?_, ⟨k3.up (by decide), kpJ.rf⟩, v4, fun h9 => absurd h9 z⟩
      rw [if_neg (show ¬ I3 3 8 = 0 by rw [v4.2.2.1, eq0_nI (by have := v4.2.2.2.2.1; omega)]; exact z)]; rfl
  rw [e_X4_readTown, runS_M, s_X4_readTown_0, c0]
  by_cases r : N < 7
  · rw [if_neg (show ¬ (7 : Int32) ≤ nI (N) from nI_ge (a := N) (b := 7) (by omega) (by omega))]
    rw [show zI (decide (N < 7) = true) = 1 from zI_t (decide_eq_true r)] at hgo; exact hgo
  · rw [if_pos (show (7 : Int32) ≤ nI (N) from nI_le (a := 7) (b := N) (by omega) (by omega))]
    rw [show zI (decide (N < 7) = true) = 0 from zI_f (fun h9 => r (of_decide_eq_true h9))] at hgo; exact hgo
theorem ev_readWoman (hd : 4 ≤ d) (hT : TKS tok T) (hV : TKV tok T) {c : Nat × Nat} (h : cuC I J tok T c) (hk : (tok c.1).1 = 258) {Y : DY} (hv : RdV I J c.1 Y) :
    ∃ I' J', EV d T0 39 [.ref 3] (I, J) = some (none, (I', J')) ∧ rdF I I' J J' ∧ cuC I' J' tok T (cu_woman tok Y.2.2.1.2.2.1 c) ∧ ((cu_woman tok Y.2.2.1.2.2.1 c).2 = 0 → RdV I' J' (cu_woman tok Y.2.2.1.2.2.1 c).1 (y_woman tok (c.1 + 1) Y)) := by
  obtain ⟨d, rfl⟩ : ∃ z, d = z + 1 := ⟨d - 1, by omega⟩
  obtain ⟨s, ⟨m, nm, tw⟩, ⟨N, S, W, C⟩, ⟨Q, th, fr, sd⟩, se, ca, lw⟩ := Y
  obtain ⟨⟨sf, nmc, hm⟩, rp⟩ := hv
  dsimp only at sf nmc hm
  obtain ⟨⟨c0, c0'⟩, ⟨c1, c1'⟩, ⟨c2, c2'⟩, c3, c3'⟩ := rp.1
  obtain ⟨g1, g2, g3, g4⟩ := rp.2.1
  dsimp only at c0 c0' c1 c1' c2 c2' c3 c3' g1 g2 g3 g4
  show ∃ I' J', _ ∧ _ ∧ cuC I' J' tok T (cu_woman tok W c) ∧ ((cu_woman tok W c).2 = 0 → RdV I' J' (cu_woman tok W c).1 _)
  unfold cu_woman
  obtain ⟨I1, t1, t2, t3, t4⟩ := ev_takeFirst (d := d) (I := I) (J := J) (by omega) hT h (decide (W < 3)) (by omega) (by omega) (x := zI (decide (W < 3) = true)) rfl
  have hz1 := tf_z (room := decide (W < 3)) (c := c)
  generalize tfS (decide (W < 3)) c = d1 at t4 hz1 ⊢
  obtain ⟨I2, u1, u2, u3, u4⟩ := ev_take (d := d) (I := I1) (J := J) (by omega) hT t4 (k := 2) (by omega) (by omega) (by omega)
  have u1' : EV d T0 47 [.ref 3, .int 2] (I1, J) = _ := u1
  have hzu := tk_z (tok := tok) (k := 2) (c := d1)
  generalize tkS tok 2 d1 = d2 at u4 hzu ⊢
  obtain ⟨I3, v1, v2, v3, v4⟩ := ev_take (d := d) (I := I2) (J := J) (by omega) hT u4 (k := 3) (by omega) (by omega) (by omega)
  have v1' : EV d T0 47 [.ref 3, .int 3] (I2, J) = _ := v1
  have hzv := tk_z (tok := tok) (k := 3) (c := d2)
  generalize tkS tok 3 d2 = d3 at v4 hzv ⊢
  obtain ⟨I4, w1, w2, w3, w4⟩ := ev_take (d := d) (I := I3) (J := J) (by omega) hT v4 (k := 59) (by omega) (by omega) (by omega)
  have w1' : EV d T0 47 [.ref 3, .int 59] (I3, J) = _ := w1
  have hzw := tk_z (tok := tok) (k := 59) (c := d3)
  generalize tkS tok 59 d3 = d4 at w4 hzw ⊢
  have k3 : kp [3] I I4 := ((t2.tr u2).tr v2).tr w2
  have f3 : k678 I I4 := fun j a b e => (w3 j a b e).trans ((v3 j a b e).trans ((u3 j a b e).trans (t3 j a b e)))
  have hgo : ∃ I' J', p_cv (EV d T0 46 [.ref 3, .int (zI (decide (W < 3) = true))] (I, J)) (fun z1 => p_ci (EV d T0 47 [.ref 3, .int 2] z1) (fun v3 z2 => runS (EV d) none 3 T0 C_X4_readWoman k_X4_readWoman rtV f_X4_readWoman 999999 26 [.ref 3, .int v3, un] [] z2)) = some (none, (I', J')) ∧ rdF I I' J J' ∧ cuC I' J' tok T d4 ∧ (d4.2 = 0 → RdV I' J' d4.1 (y_woman tok (c.1 + 1) (s, (m, nm, tw), (N, S, W, C), (Q, th, fr, sd), se, ca, lw))) := by
    rw [t1, p_cv_s, u1', p_ci_s, show (999999 : Nat) = 999998 + 1 from rfl, runS_s, s_X4_readWoman_26, v1', p_ci_s, w1', p_ci_s, show (999998 : Nat) = 999997 + 1 from rfl, runS_s, s_X4_readWoman_39]
    by_cases z : d4.2 = 0
    · obtain ⟨y1, y2, y3, y4⟩ := hzw z
      obtain ⟨a1, a2, a3, a4⟩ := hzv y1
      obtain ⟨b1, b2, b3, b4⟩ := hzu a1
      obtain ⟨q1, q2, q3, q4⟩ := hz1 b1
      have q2' := of_decide_eq_true q2
      have e1 : d1.1 = c.1 + 1 := by rw [q4]
      have e2 : d2.1 = c.1 + 2 := by rw [b4]; show d1.1 + 1 = c.1 + 2; omega
      have hd1 := t4.2.2.2.1
      have hd2 := u4.2.2.2.1
      rw [e2] at a2
      obtain ⟨nv1, nv2⟩ := (hV (c.1 + 2) (by omega)).1 a2
      obtain ⟨I5, x1, x2, x3, x4, x5, x6⟩ := ev_addName (d := d) (I := I4) (J := J) (by omega) hT w4 (sf.go (f3 9 (by decide) (by decide) (by decide)) (f3 10 (by decide) (by decide) (by decide))) (nm := nm) (tw := tw) (m := m) ⟨(f3 5 (by decide) (by decide) (by decide)).trans nmc.1, nmc.2.1, fun j hj => by rw [k3 24 (by decide)]; exact nmc.2.2 j hj⟩ (by omega) (j := c.1 + 1) (by omega) (-1)
      have y6 : kp [4] I5 (p_wr I5 4 2 (nI (W + 1))) := kp.rf.wr (by decide)
      obtain ⟨I7, p1, p2, p3, p4, p5⟩ := ev_numberAt (d := d) (J := p_wrJ J 23 m (tkV (tok (c.1 + 1)))) (by omega) hT (x4.kx y6 (by decide)) (x5.kx y6 (by decide)) (j := c.1 + 2) (by omega) nv2 (by omega) (lo := 1) (hi := 99) (by omega) (by omega)
      have p1' : EV d T0 52 [.ref 3, .int (nI (c.1 + 2)), .int 1, .int 99] (p_wr I5 4 2 (nI (W + 1)), p_wrJ J 23 m (tkV (tok (c.1 + 1)))) = _ := p1
      have x8 : kp [4] I7 (p_wr I7 4 4 (nI (Q + (tok (c.1 + 2)).2.2.1))) := kp.rf.wr (by decide)
      have e4 : ∀ q, I5 4 q = I 4 q := fun q => by rw [x2 4 (by decide), k3 4 (by decide)]
      have f8 : ∀ q, q ≠ 4 → q ≠ 2 → p_wr I7 4 4 (nI (Q + (tok (c.1 + 2)).2.2.1)) 4 q = I 4 q := fun q a b => by rw [wr_eq, pk_un a, p2 4 (by decide), wr_eq, pk_un b, e4]
      refine ⟨p_wr I7 4 4 (nI (Q + (tok (c.1 + 2)).2.2.1)), p_wrJ J 23 m (tkV (tok (c.1 + 1))), ?_, ⟨((((k3.up (by decide)).tr (x2.up (by decide))).tr (y6.up (by decide))).tr (p2.up (by decide))).tr (x8.up (by decide)), wJ_kp⟩, p4.kx x8 (by decide), fun _ => ⟨⟨p5.kx x8 (by decide), ((x6.kx y6 (by decide)).nt ⟨p2, p3⟩).kx x8 (by decide), by show m + 1 = N + (W + 1) + C; omega⟩, ?_⟩⟩
      · rw [if_pos (show I4 3 8 = 0 by rw [w4.2.2.1, z]; rfl), e1, e2, x1, p_cv_s]
        dsimp only
        rw [e4, c2, nI_1, p1', p_ci_s]
        dsimp only
        rw [e4, g1, nI_add]; rfl
      · refine rdP_c4 rp (((((k3.up (by decide)).tr (x2.up (by decide))).tr (y6.up (by decide))).tr (p2.up (by decide))).tr (x8.up (by decide))) ⟨⟨(f8 0 (by decide) (by decide)).trans c0, c0'⟩, ⟨(f8 1 (by decide) (by decide)).trans c1, c1'⟩, ⟨by rw [wr_eq, pk_un (by decide), p2 4 (by decide), wr_eq, pk_us], by show W + 1 ≤ 3; omega⟩, (f8 3 (by decide) (by decide)).trans c3, c3'⟩ ⟨by rw [wr_eq, pk_us], (f8 5 (by decide) (by decide)).trans g2, (f8 6 (by decide) (by decide)).trans g3, (f8 7 (by decide) (by decide)).trans g4⟩ rfl rfl (by rw [y4, a4, b4, q4]; show c.1 ≤ c.1 + 1 + 1 + 1 + 1; omega)
    · refine ⟨I4, J, ?_, ⟨k3.up (by decide), kpJ.rf⟩, w4, fun h9 => absurd h9 z⟩
      rw [if_neg (show ¬ I4 3 8 = 0 by rw [w4.2.2.1, eq0_nI (by have := w4.2.2.2.2.1; omega)]; exact z)]; rfl
  rw [e_X4_readWoman, runS_M, s_X4_readWoman_0, c2]
  by_cases r : W < 3
  · rw [if_neg (show ¬ (3 : Int32) ≤ nI (W) from nI_ge (a := W) (b := 3) (by omega) (by omega))]
    rw [show zI (decide (W < 3) = true) = 1 from zI_t (decide_eq_true r)] at hgo; exact hgo
  · rw [if_pos (show (3 : Int32) ≤ nI (W) from nI_le (a := 3) (b := W) (by omega) (by omega))]
    rw [show zI (decide (W < 3) = true) = 0 from zI_f (fun h9 => r (of_decide_eq_true h9))] at hgo; exact hgo
def asI (I : Nat → Nat → Int32) (S : Nat) (a b l w : Int32) : Nat → Nat → Int32 := p_wr (p_wr (p_wr (p_wr (p_wr (p_wr I 5 S a) 6 S b) 7 S (enB a b)) 8 S l) 9 S w) 4 1 (nI (S + 1))
theorem ev_addSeam (hd : 1 ≤ d) {S : Nat} (hS : I 4 1 = nI S) (h : S < 10) (a b l w : Int32) : EV d T0 30 [.ref 4, .int a, .int b, .int l, .int w] (I, J) = some (none, (asI I S a b l w, J)) := by
  obtain ⟨d, rfl⟩ : ∃ z, d = z + 1 := ⟨d - 1, by omega⟩
  have hp : ∀ z : Option Rs, p_chk (p_in (nI S) 10) z = z := fun z => chk_in (by omega) (by omega)
  rw [e_X3_addSeam, runS_M, s_X3_addSeam_0, hS, if_neg (show ¬ (10 : Int32) ≤ nI (S) from nI_ge (a := S) (b := 10) (by omega) (by omega)), hp, hp, hp, hp, hp, nI_clamp (by omega), nI_1]; rfl
def acI (I : Nat → Nat → Int32) (C : Nat) (a b l : Int32) : Nat → Nat → Int32 := p_wr (p_wr (p_wr (p_wr I 11 C a) 12 C b) 13 C l) 4 3 (nI (C + 1))
theorem ev_addCart (hd : 1 ≤ d) {C : Nat} (hC : I 4 3 = nI C) (h : C < 4) (a b l : Int32) : EV d T0 31 [.ref 4, .int a, .int b, .int l] (I, J) = some (none, (acI I C a b l, J)) := by
  obtain ⟨d, rfl⟩ : ∃ z, d = z + 1 := ⟨d - 1, by omega⟩
  have hp : ∀ z : Option Rs, p_chk (p_in (nI C) 4) z = z := fun z => chk_in (by omega) (by omega)
  rw [e_X3_addCart, runS_M, s_X3_addCart_0, hC, if_neg (show ¬ (4 : Int32) ≤ nI (C) from nI_ge (a := C) (b := 4) (by omega) (by omega)), hp, hp, hp, nI_clamp (by omega), nI_1]; rfl
end SM
