/-! ===== read: carts, numbers; any tell (class) ===== -/
section SO
variable {I : Nat → Nat → Int32} {J : Nat → Nat → Int64} {d : Nat} {tok : Nat → TK} {T : Nat}
theorem ev_readCart (hd : 4 ≤ d) (hT : TKS tok T) (hV : TKV tok T) {c : Nat × Nat} (h : cuC I J tok T c) (hk : (tok c.1).1 = 259) {Y : DY} (hv : RdV I J c.1 Y) :
    ∃ I' J', EV d T0 40 [.ref 3] (I, J) = some (none, (I', J')) ∧ rdF I I' J J' ∧ cuC I' J' tok T (cu_cart tok Y.2.2.1.2.2.2 c) ∧ ((cu_cart tok Y.2.2.1.2.2.2 c).2 = 0 → RdV I' J' (cu_cart tok Y.2.2.1.2.2.2 c).1 (y_cart tok (c.1 + 1) Y)) := by
  obtain ⟨d, rfl⟩ : ∃ z, d = z + 1 := ⟨d - 1, by omega⟩
  obtain ⟨s, ⟨m, nm, tw⟩, ⟨N, S, W, C⟩, vl, se, ⟨a, b, ld⟩, lw⟩ := Y
  obtain ⟨⟨sf, nmc, hm⟩, rp⟩ := hv
  dsimp only at sf nmc hm
  obtain ⟨⟨c0, c0'⟩, ⟨c1, c1'⟩, ⟨c2, c2'⟩, c3, c3'⟩ := rp.1
  dsimp only at c0 c0' c1 c1' c2 c2' c3 c3'
  show ∃ I' J', _ ∧ _ ∧ cuC I' J' tok T (cu_cart tok C c) ∧ ((cu_cart tok C c).2 = 0 → RdV I' J' (cu_cart tok C c).1 _)
  unfold cu_cart
  obtain ⟨I1, t1, t2, t3, t4⟩ := ev_takeFirst (d := d) (I := I) (J := J) (by omega) hT h (decide (C < 4)) (by omega) (by omega) (x := zI (decide (C < 4) = true)) rfl
  have hz1 := tf_z (room := decide (C < 4)) (c := c)
  generalize tfS (decide (C < 4)) c = d1 at t4 hz1 ⊢
  obtain ⟨I2, u1, u2, u3, u4⟩ := ev_take (d := d) (I := I1) (J := J) (by omega) hT t4 (k := 2) (by omega) (by omega) (by omega)
  have u1' : EV d T0 47 [.ref 3, .int 2] (I1, J) = _ := u1
  have hzu := tk_z (tok := tok) (k := 2) (c := d1)
  generalize tkS tok 2 d1 = d2 at u4 hzu ⊢
  obtain ⟨I3, v1, v2, v3, v4⟩ := ev_take (d := d) (I := I2) (J := J) (by omega) hT u4 (k := 2) (by omega) (by omega) (by omega)
  have v1' : EV d T0 47 [.ref 3, .int 2] (I2, J) = _ := v1
  have hzv := tk_z (tok := tok) (k := 2) (c := d2)
  generalize tkS tok 2 d2 = d3 at v4 hzv ⊢
  obtain ⟨I4, w1, w2, w3, w4⟩ := ev_take (d := d) (I := I3) (J := J) (by omega) hT v4 (k := 2) (by omega) (by omega) (by omega)
  have w1' : EV d T0 47 [.ref 3, .int 2] (I3, J) = _ := w1
  have hzw := tk_z (tok := tok) (k := 2) (c := d3)
  generalize tkS tok 2 d3 = d4 at w4 hzw ⊢
  obtain ⟨I5, x1, x2, x3, x4⟩ := ev_take (d := d) (I := I4) (J := J) (by omega) hT w4 (k := 3) (by omega) (by omega) (by omega)
  have x1' : EV d T0 47 [.ref 3, .int 3] (I4, J) = _ := x1
  have hzx := tk_z (tok := tok) (k := 3) (c := d4)
  generalize tkS tok 3 d4 = d5 at x4 hzx ⊢
  obtain ⟨I6, y1, y2, y3, y4⟩ := ev_take (d := d) (I := I5) (J := J) (by omega) hT x4 (k := 59) (by omega) (by omega) (by omega)
  have y1' : EV d T0 47 [.ref 3, .int 59] (I5, J) = _ := y1
  have hzy := tk_z (tok := tok) (k := 59) (c := d5)
  generalize tkS tok 59 d5 = d6 at y4 hzy ⊢
  have k3 : kp [3] I I6 := ((((t2.tr u2).tr v2).tr w2).tr x2).tr y2
  have f3 : k678 I I6 := fun j a b e => (y3 j a b e).trans ((x3 j a b e).trans ((w3 j a b e).trans ((v3 j a b e).trans ((u3 j a b e).trans (t3 j a b e)))))
  have hgo : ∃ I' J', p_cv (EV d T0 46 [.ref 3, .int (zI (decide (C < 4) = true))] (I, J)) (fun z1 => p_ci (EV d T0 47 [.ref 3, .int 2] z1) (fun v3 z2 => runS (EV d) none 7 T0 C_X4_readCart k_X4_readCart rtV f_X4_readCart 999999 26 [.ref 3, .int v3, un, un, un, un, un] [] z2)) = some (none, (I', J')) ∧ rdF I I' J J' ∧ cuC I' J' tok T d6 ∧ (d6.2 = 0 → RdV I' J' d6.1 (y_cart tok (c.1 + 1) (s, (m, nm, tw), (N, S, W, C), vl, se, (a, b, ld), lw))) := by
    rw [t1, p_cv_s, u1', p_ci_s, show (999999 : Nat) = 999998 + 1 from rfl, runS_s, s_X4_readCart_26, v1', p_ci_s, w1', p_ci_s, show (999998 : Nat) = 999997 + 1 from rfl, runS_s, s_X4_readCart_38, x1', p_ci_s, y1', p_ci_s, show (999997 : Nat) = 999996 + 1 from rfl, runS_s, s_X4_readCart_52]
    by_cases z : d6.2 = 0
    · obtain ⟨p1, p2, p3, p4⟩ := hzy z
      obtain ⟨q1, q2, q3, q4⟩ := hzx p1
      obtain ⟨r1, r2, r3, r4⟩ := hzw q1
      obtain ⟨a1, a2, a3, a4⟩ := hzv r1
      obtain ⟨b1, b2, b3, b4⟩ := hzu a1
      obtain ⟨g1, g2, g3, g4⟩ := hz1 b1
      have g2' := of_decide_eq_true g2
      have e1 : d1.1 = c.1 + 1 := by rw [g4]
      have e2 : d2.1 = c.1 + 1 + 1 := by rw [b4]; show d1.1 + 1 = c.1 + 1 + 1; omega
      have e3 : d3.1 = c.1 + 1 + 2 := by rw [a4]; show d2.1 + 1 = c.1 + 1 + 2; omega
      have e4 : d4.1 = c.1 + 1 + 3 := by rw [r4]; show d3.1 + 1 = c.1 + 1 + 3; omega
      have hd4 := w4.2.2.2.1
      rw [e4] at q2
      obtain ⟨nw1, nw2⟩ := (hV (c.1 + 1 + 3) (by omega)).1 q2
      have sf6 : sfC I6 s := sf.go (f3 9 (by decide) (by decide) (by decide)) (f3 10 (by decide) (by decide) (by decide))
      have nm6 : nmC I6 J m nm tw := ⟨(f3 5 (by decide) (by decide) (by decide)).trans nmc.1, nmc.2.1, fun j hj => by rw [k3 24 (by decide)]; exact nmc.2.2 j hj⟩
      obtain ⟨I0, n1, n2, n3, n4, n5, n6⟩ := ev_addName (d := d) (I := I6) (J := J) (by omega) hT y4 sf6 nm6 (by omega) (j := c.1 + 1) (by omega) (-1)
      generalize hJ' : p_wrJ J 23 m (tkV (tok (c.1 + 1))) = J' at *
      obtain ⟨I7, h71, h72, h73, h74, h75⟩ := ev_townAt (d := d) (I := I0) (J := J') (by omega) hT n4 n5 n6 (j := c.1 + 1 + 1) (by omega)
      have nm7 := n6.nt ⟨h72, h73⟩
      obtain ⟨I8, h81, h82, h83, h84, h85⟩ := ev_townAt (d := d) (I := I7) (J := J') (by omega) hT h74 h75 nm7 (j := c.1 + 1 + 2) (by omega)
      have k68 : ntK I0 I8 := (ntK.tr ⟨h72, h73⟩ ⟨h82, h83⟩)
      generalize ha : twF (updA nm m (tkV (tok (c.1 + 1)))) (upd tw m (-1)) (m + 1) (tkV (tok (c.1 + 1 + 1))) = ta at *
      generalize hb : twF (updA nm m (tkV (tok (c.1 + 1)))) (upd tw m (-1)) (m + 1) (tkV (tok (c.1 + 1 + 2))) = tb at *
      have htw : ∃ I9, (if ta = tb then p_cv (EV d T0 48 [.ref 3, .int 3, .int (nI (c.1 + 1 + 2))] (I8, J')) (fun z3 => runS (EV d) none 7 T0 C_X4_readCart k_X4_readCart rtV f_X4_readCart 999995 92 [.ref 3, un, un, un, .int (nI (c.1 + 1 + 3)), .int ta, .int tb] [] z3) else runS (EV d) none 7 T0 C_X4_readCart k_X4_readCart rtV f_X4_readCart 999995 92 [.ref 3, un, un, un, .int (nI (c.1 + 1 + 3)), .int ta, .int tb] [] (I8, J')) = runS (EV d) none 7 T0 C_X4_readCart k_X4_readCart rtV f_X4_readCart 999995 92 [.ref 3, un, un, un, .int (nI (c.1 + 1 + 3)), .int ta, .int tb] [] (I9, J') ∧ ntK I8 I9 ∧ cuC I9 J' tok T d6 ∧ sfC I9 (if ta = tb then ntS 3 (tok (c.1 + 1 + 2)).2.1 (tnS tb (tok (c.1 + 1 + 2)).2.1 (tnS ta (tok (c.1 + 1 + 1)).2.1 (anS tok nm m (c.1 + 1) s))) else tnS tb (tok (c.1 + 1 + 2)).2.1 (tnS ta (tok (c.1 + 1 + 1)).2.1 (anS tok nm m (c.1 + 1) s))) := by
        obtain ⟨I9, h91, h92, h93, h94⟩ := ev_note2 (d := d) (I := I8) (J := J') (by omega) hT h84 h85 (j := c.1 + 1 + 2) (by omega)
        by_cases t : ta = tb
        · rw [if_pos t, if_pos t, h91, p_cv_s]; exact ⟨I9, rfl, h92, h93, h94⟩
        · rw [if_neg t, if_neg t]; exact ⟨I8, rfl, ntK.rf, h84, h85⟩
      obtain ⟨I9, h91, h92, h93, h94⟩ := htw
      obtain ⟨I11, h111, h112, h113, h114, h115⟩ := ev_numberAt (d := d) (I := I9) (J := J') (by omega) hT h93 h94 (j := c.1 + 1 + 3) (by omega) nw2 (by omega) (lo := 0) (hi := 99) (by omega) (by omega)
      have h111' : EV d T0 52 [.ref 3, .int (nI (c.1 + 1 + 3)), .int 0, .int 99] (I9, J') = _ := h111
      have k011 : ntK I0 I11 := (k68.tr h92).tr ⟨h112, h113⟩
      have x12 : kp [4, 11, 12, 13] I11 (acI I11 C ta tb (nI (tok (c.1 + 1 + 3)).2.2.1)) := (((kp.rf.wr (by decide)).wr (by decide)).wr (by decide)).wr (by decide)
      have e11 : ∀ k, k ≠ 3 → k ≠ 24 → I11 k = I k := fun k hk hk2 => by rw [k011.1 k (fun h9 => hk (List.mem_singleton.mp h9)), n2 k (fun h9 => by simp only [List.mem_cons, List.not_mem_nil, or_false] at h9; omega), k3 k (fun h9 => hk (List.mem_singleton.mp h9))]
      have e43 : I11 4 3 = nI C := by rw [e11 4 (by decide) (by decide)]; exact c3
      have f12 : ∀ q, q ≠ 3 → acI I11 C ta tb (nI (tok (c.1 + 1 + 3)).2.2.1) 4 q = I 4 q := fun q hq => by unfold acI; rw [wr_eq, pk_un hq, wr_ne (by decide), wr_ne (by decide), wr_ne (by decide), e11 4 (by decide) (by decide)]
      refine ⟨acI I11 C ta tb (nI (tok (c.1 + 1 + 3)).2.2.1), J', ?_, ⟨((((k3.up (by decide)).tr (n2.up (by decide))).tr (k011.1.up (by decide))).tr (x12.up (by decide))), by rw [← hJ']; exact wJ_kp⟩, h114.kx x12 (by decide), fun _ => ⟨⟨?_, (n6.nt k011).kx x12 (by decide), by show m + 1 = N + W + (C + 1); omega⟩, ⟨⟨(f12 0 (by decide)).trans c0, c0'⟩, ⟨(f12 1 (by decide)).trans c1, c1'⟩, ⟨(f12 2 (by decide)).trans c2, c2'⟩, ?_, by show C + 1 ≤ 4; omega⟩, ?_, ?_, ?_, ?_⟩⟩
      · rw [if_pos (show I6 3 8 = 0 by rw [y4.2.2.1, z]; rfl), e1, e2, e3, e4, n1, p_cv_s, h71, p_ci_s, show (999996 : Nat) = 999995 + 1 from rfl, runS_s, s_X4_readCart_72, h81, p_ci_s, h91, show (999995 : Nat) = 999994 + 1 from rfl, runS_s, s_X4_readCart_92, h111', p_ci_s, ev_addCart (by omega) e43 (by omega), p_cv_s]; rfl
      · have := h115.kx x12 (by decide)
        show sfC _ (y_cart tok (c.1 + 1) (s, (m, nm, tw), (N, S, W, C), vl, se, (a, b, ld), lw)).1
        unfold y_cart; dsimp only; rw [ha, hb]; exact this
      · unfold acI; rw [wr_eq, pk_us]; rfl
      · obtain ⟨v1, v2, v3, v4⟩ := rp.2.1
        exact ⟨(f12 4 (by decide)).trans v1, (f12 5 (by decide)).trans v2, (f12 6 (by decide)).trans v3, (f12 7 (by decide)).trans v4⟩
      · intro i hi
        have := rp.2.2.1 i hi
        rw [x12 5 (by decide), x12 6 (by decide), x12 7 (by decide), x12 8 (by decide), x12 9 (by decide), e11 5 (by decide) (by decide), e11 6 (by decide) (by decide), e11 7 (by decide) (by decide), e11 8 (by decide) (by decide), e11 9 (by decide) (by decide)]; exact this
      · intro i hi
        have hi' : i < C + 1 := hi
        show acI I11 C ta tb _ 11 i = upd a C (twF (updA nm m (tkV (tok (c.1 + 1)))) (upd tw m (-1)) (m + 1) (tkV (tok (c.1 + 1 + 1)))) i ∧ acI I11 C ta tb _ 12 i = upd b C (twF (updA nm m (tkV (tok (c.1 + 1)))) (upd tw m (-1)) (m + 1) (tkV (tok (c.1 + 1 + 2)))) i ∧ acI I11 C ta tb _ 13 i = nI (updA ld C (tok (c.1 + 1 + 3)).2.2.1 i)
        have w5 : acI I11 C ta tb (nI (tok (c.1 + 1 + 3)).2.2.1) 11 = upd (I 11) C ta := by unfold acI; rw [wr_ne (by decide), wr_ne (by decide), wr_ne (by decide), wr_eq, e11 11 (by decide) (by decide)]
        have w6 : acI I11 C ta tb (nI (tok (c.1 + 1 + 3)).2.2.1) 12 = upd (I 12) C tb := by unfold acI; rw [wr_ne (by decide), wr_ne (by decide), wr_eq, wr_ne (by decide), e11 12 (by decide) (by decide)]
        have w7 : acI I11 C ta tb (nI (tok (c.1 + 1 + 3)).2.2.1) 13 = upd (I 13) C (nI (tok (c.1 + 1 + 3)).2.2.1) := by unfold acI; rw [wr_ne (by decide), wr_eq, wr_ne (by decide), wr_ne (by decide), e11 13 (by decide) (by decide)]
        rw [w5, w6, w7, ha, hb]
        by_cases e : i = C
        · subst e; rw [pk_us, pk_us, pk_us, pk_us, pk_us, uA_s]; exact ⟨rfl, rfl, rfl⟩
        · rw [pk_un e, pk_un e, pk_un e, pk_un e, pk_un e, uA_n e]; exact rp.2.2.2.1 i (by show i < C; omega)
      · obtain ⟨sz, lwc, hsz⟩ := rp.2.2.2.2
        refine ⟨sz, ?_, by rw [p4, q4, r4, a4, b4, g4]; show sz ≤ 8 + (c.1 + 1 + 1 + 1 + 1 + 1 + 1); omega⟩
        unfold lwC at *; rw [x12 14 (by decide), x12 15 (by decide), x12 17 (by decide), e11 14 (by decide) (by decide), e11 15 (by decide) (by decide), e11 17 (by decide) (by decide)]; exact lwc
    · refine ⟨I6, J, ?_, ⟨k3.up (by decide), kpJ.rf⟩, y4, fun h9 => absurd h9 z⟩
      rw [if_neg (show ¬ I6 3 8 = 0 by rw [y4.2.2.1, eq0_nI (by have := y4.2.2.2.2.1; omega)]; exact z)]; rfl
  rw [e_X4_readCart, runS_M, s_X4_readCart_0, c3]
  by_cases r : C < 4
  · rw [if_neg (show ¬ (4 : Int32) ≤ nI (C) from nI_ge (a := C) (b := 4) (by omega) (by omega))]
    rw [show zI (decide (C < 4) = true) = 1 from zI_t (decide_eq_true r)] at hgo; exact hgo
  · rw [if_pos (show (4 : Int32) ≤ nI (C) from nI_le (a := 4) (b := C) (by omega) (by omega))]
    rw [show zI (decide (C < 4) = true) = 0 from zI_f (fun h9 => r (of_decide_eq_true h9))] at hgo; exact hgo
theorem ev_readNumber (hd : 4 ≤ d) (hT : TKS tok T) (hV : TKV tok T) {c : Nat × Nat} (h : cuC I J tok T c) (h0 : (tok c.1).1 ≠ 0) (h1 : (tok c.1).1 ≠ 1) {s : Nat × Nat} (sf : sfC I s) {most : Nat} (hmo : most < 20000) :
    ∃ I' x, EV d T0 41 [.ref 3, .int (nI most)] (I, J) = some (some (.int x), (I', J)) ∧ kp [3] I I' ∧ I' 3 5 = I 3 5 ∧ cuC I' J tok T (cu_num tok c) ∧ ((cu_num tok c).2 = 0 → x = nI (tok (c.1 + 1)).2.2.1 ∧ sfC I' (nbS 0 most (tok (c.1 + 1)).2.2.1 (tok (c.1 + 1)).2.1 s) ∧ (cu_num tok c).1 = c.1 + 3) := by
  obtain ⟨d, rfl⟩ : ∃ z, d = z + 1 := ⟨d - 1, by omega⟩
  unfold cu_num
  obtain ⟨I1, t1, t2, t3, t4⟩ := ev_takeFirst (d := d) (I := I) (J := J) (by omega) hT h true h0 h1 (x := zI (true = true)) rfl
  have t1' : EV d T0 46 [.ref 3, .int 1] (I, J) = _ := t1
  have hz1 := tf_z (room := true) (c := c)
  generalize tfS true c = d1 at t4 hz1 ⊢
  obtain ⟨I2, u1, u2, u3, u4⟩ := ev_take (d := d) (I := I1) (J := J) (by omega) hT t4 (k := 3) (by omega) (by omega) (by omega)
  have u1' : EV d T0 47 [.ref 3, .int 3] (I1, J) = _ := u1
  have hzu := tk_z (tok := tok) (k := 3) (c := d1)
  generalize tkS tok 3 d1 = d2 at u4 hzu ⊢
  obtain ⟨I3, v1, v2, v3, v4⟩ := ev_take (d := d) (I := I2) (J := J) (by omega) hT u4 (k := 59) (by omega) (by omega) (by omega)
  have v1' : EV d T0 47 [.ref 3, .int 59] (I2, J) = _ := v1
  have hzv := tk_z (tok := tok) (k := 59) (c := d2)
  generalize tkS tok 59 d2 = d3 at v4 hzv ⊢
  have k3 : kp [3] I I3 := (t2.tr u2).tr v2
  have f3 : k678 I I3 := fun j a b e => (v3 j a b e).trans ((u3 j a b e).trans (t3 j a b e))
  rw [e_X4_readNumber, runS_M, s_X4_readNumber_0, t1', p_cv_s, u1', p_ci_s, show (999999 : Nat) = 999998 + 1 from rfl, runS_s, s_X4_readNumber_11, v1', p_ci_s]
  dsimp only
  by_cases z : d3.2 = 0
  · obtain ⟨a1, a2, a3, a4⟩ := hzv z
    obtain ⟨b1, b2, b3, b4⟩ := hzu a1
    obtain ⟨q1, q2, q3, q4⟩ := hz1 b1
    have e1 : d1.1 = c.1 + 1 := by rw [q4]
    have hd1 := t4.2.2.2.1
    rw [e1] at b2
    obtain ⟨nv1, nv2⟩ := (hV (c.1 + 1) (by omega)).1 b2
    obtain ⟨I4, p1, p2, p3, p4, p5⟩ := ev_numberAt (d := d) (I := I3) (J := J) (by omega) hT v4 (sf.go (f3 9 (by decide) (by decide) (by decide)) (f3 10 (by decide) (by decide) (by decide))) (j := c.1 + 1) (by omega) nv2 (by omega) (lo := 0) (hi := most) (by omega) hmo
    have p1' : EV d T0 52 [.ref 3, .int (nI (c.1 + 1)), .int 0, .int (nI most)] (I3, J) = _ := p1
    refine ⟨I4, nI (tok (c.1 + 1)).2.2.1, ?_, k3.tr p2, (p3 5 (by decide) (by decide)).trans (f3 5 (by decide) (by decide) (by decide)), p4, fun _ => ⟨rfl, p5, by rw [a4, b4, q4]⟩⟩
    rw [if_pos (show I3 3 8 = 0 by rw [v4.2.2.1, z]; rfl), e1, p1', p_ci_s]; rfl
  · refine ⟨I3, 0, ?_, k3, f3 5 (by decide) (by decide) (by decide), v4, fun h9 => absurd h9 z⟩
    rw [if_neg (show ¬ I3 3 8 = 0 by rw [v4.2.2.1, eq0_nI (by have := v4.2.2.2.2.1; omega)]; exact z)]; rfl
theorem atL_cg {f g : Nat → Int32} : ∀ (r : List Br) (p : Nat) (e : List Op), (∀ j, p ≤ j → j < p + lnL r e → g j = f j) → atL f p r e → atL g p r e := by
  intro r
  induction r with
  | nil =>
    intro p e h h1
    have hl : lnL [] e = e.length + 1 := rfl
    exact ⟨atC_cg _ _ (fun j a b => h j a (by omega)) h1.1, (h _ (by omega) (by omega)).trans h1.2⟩
  | cons q r ih =>
    intro p e h h1
    obtain ⟨a1, a2, a3, a4, a5, a6⟩ := h1
    have hl : lnL (q :: r) e = q.1.length + q.2.1.length + q.2.2.length + 2 + lnL r e := rfl
    exact ⟨atC_cg _ _ (fun j a b => h j (by omega) (by omega)) a1, atC_cg _ _ (fun j a b => h j (by omega) (by omega)) a2, (h _ (by omega) (by omega)).trans a3, atC_cg _ _ (fun j a b => h j (by omega) (by omega)) a4, (h _ (by omega) (by omega)).trans a5, ih _ _ (fun j a b => h j (by omega) (by omega)) a6⟩
/-- any tell: where it ends, and what it makes of what was told -/
def tlC (tok : Nat → TK) (Y : DY) (c : Nat × Nat) : Nat × Nat :=
  if (tok c.1).1 = 256 then cu_town tok Y.2.2.1.1 c else if (tok c.1).1 = 257 then cu_seam tok Y.2.2.1.2.1 c else if (tok c.1).1 = 258 then cu_woman tok Y.2.2.1.2.2.1 c else if (tok c.1).1 = 259 then cu_cart tok Y.2.2.1.2.2.2 c
  else if 264 ≤ (tok c.1).1 ∧ (tok c.1).1 ≤ 266 then cu_num tok c else if 260 ≤ (tok c.1).1 ∧ (tok c.1).1 ≤ 263 then (lawT tok c).2 else (c.1, 1)
def tlY (tok : Nat → TK) (Y : DY) (c : Nat × Nat) : DY :=
  if (tok c.1).1 = 256 then y_town tok (c.1 + 1) Y else if (tok c.1).1 = 257 then y_seam tok (c.1 + 1) Y else if (tok c.1).1 = 258 then y_woman tok (c.1 + 1) Y else if (tok c.1).1 = 259 then y_cart tok (c.1 + 1) Y
  else if 264 ≤ (tok c.1).1 ∧ (tok c.1).1 ≤ 266 then y_num tok (tok c.1).1 (c.1 + 1) Y else y_law ((tok c.1).1 - 260) (lawT tok c).1 Y
theorem ev_readTell (hd : 24 ≤ d) (hT : TKS tok T) (hV : TKV tok T) {c : Nat × Nat} (h : cuC I J tok T c) (hc : c.2 = 0) (hk0 : (tok c.1).1 ≠ 0) {Y : DY} (hv : RdV I J c.1 Y) :
    ∃ I' J', EV d T0 36 [.ref 3] (I, J) = some (none, (I', J')) ∧ rdF I I' J J' ∧ cuC I' J' tok T (tlC tok Y c) ∧ ((tlC tok Y c).2 = 0 → RdV I' J' (tlC tok Y c).1 (tlY tok Y c)) := by
  obtain ⟨d, rfl⟩ : ∃ z, d = z + 1 := ⟨d - 1, by omega⟩
  have hTT := hT.2.1
  have hcT := h.2.2.2.1
  have kb := (hT.2.2.1 c.1 hcT).1
  have e7 : I 3 7 = nI (tok c.1).1 := h.2.1
  have ne : ∀ q : Nat, q < 300 → (tok c.1).1 ≠ q → ¬ I 3 7 = nI q := fun q hq h9 => by rw [e7, nI_eq (by omega) (by omega)]; exact h9
  rw [e_X4_readTell, runS_M, s_X4_readTell_0]
  unfold tlC tlY
  by_cases k56 : (tok c.1).1 = 256
  · obtain ⟨I1, J1, t1, t2, t3, t4⟩ := ev_readTown (d := d) (by omega) hT h k56 hv
    rw [if_pos (show I 3 7 = nI 256 by rw [e7, k56]), if_pos k56, if_pos k56, t1, p_cv_s]; exact ⟨I1, J1, rfl, t2, t3, t4⟩
  rw [if_neg (ne 256 (by omega) k56), if_neg k56, if_neg k56]
  by_cases k57 : (tok c.1).1 = 257
  · obtain ⟨I1, J1, t1, t2, t3, t4⟩ := ev_readSeam (d := d) (by omega) hT hV h k57 hv
    rw [if_pos (show I 3 7 = nI 257 by rw [e7, k57]), if_pos k57, if_pos k57, t1, p_cv_s]; exact ⟨I1, J1, rfl, t2, t3, t4⟩
  rw [if_neg (ne 257 (by omega) k57), if_neg k57, if_neg k57]
  by_cases k58 : (tok c.1).1 = 258
  · obtain ⟨I1, J1, t1, t2, t3, t4⟩ := ev_readWoman (d := d) (by omega) hT hV h k58 hv
    rw [if_pos (show I 3 7 = nI 258 by rw [e7, k58]), if_pos k58, if_pos k58, t1, p_cv_s]; exact ⟨I1, J1, rfl, t2, t3, t4⟩
  rw [if_neg (ne 258 (by omega) k58), if_neg k58, if_neg k58]
  by_cases k59 : (tok c.1).1 = 259
  · obtain ⟨I1, J1, t1, t2, t3, t4⟩ := ev_readCart (d := d) (by omega) hT hV h k59 hv
    rw [if_pos (show I 3 7 = nI 259 by rw [e7, k59]), if_pos k59, if_pos k59, t1, p_cv_s]; exact ⟨I1, J1, rfl, t2, t3, t4⟩
  rw [if_neg (ne 259 (by omega) k59), if_neg k59, if_neg k59]
  obtain ⟨s, ⟨m, nm, tw⟩, ⟨N, S, W, C⟩, ⟨Q, th, fr, sd⟩, se, ca, lw⟩ := Y
  obtain ⟨⟨sf, nmc, hm⟩, rp⟩ := hv
  by_cases kn : 264 ≤ (tok c.1).1 ∧ (tok c.1).1 ≤ 266
  · rw [if_pos kn, if_pos kn]
    obtain ⟨⟨c0, c0'⟩, ⟨c1, c1'⟩, ⟨c2, c2'⟩, c3, c3'⟩ := rp.1
    obtain ⟨g1, g2, g3, g4⟩ := rp.2.1
    have hgo : ∀ (most fld k : Nat) (x0 : Int32), x0 = nI most → most < 20000 → (tok c.1).1 = k → (fld = 5 ∧ k = 264 ∧ most = 9999 ∨ fld = 6 ∧ k = 265 ∧ most = 100 ∨ fld = 7 ∧ k = 266 ∧ most = 9999) → ∃ I' J', p_ci (EV d T0 41 [.ref 3, .int x0] (I, J)) (fun v10 z9 => rtV none ((p_wr z9.1 4 fld v10), z9.2)) = some (none, (I', J')) ∧ rdF I I' J J' ∧ cuC I' J' tok T (cu_num tok c) ∧ ((cu_num tok c).2 = 0 → RdV I' J' (cu_num tok c).1 (y_num tok (tok c.1).1 (c.1 + 1) (s, (m, nm, tw), (N, S, W, C), (Q, th, fr, sd), se, ca, lw))) := by
      intro most fld k x0 hx0 hmo hk hf
      obtain ⟨I1, x, t1, t2, t3, t4, t5⟩ := ev_readNumber (d := d) (I := I) (J := J) (by omega) hT hV h (by omega) (by omega) sf hmo
      have hfld : fld = 5 ∨ fld = 6 ∨ fld = 7 := by omega
      have x2 : kp [4] I1 (p_wr I1 4 fld x) := kp.rf.wr (by decide)
      rw [hx0, t1, p_ci_s]
      refine ⟨p_wr I1 4 fld x, J, rfl, ⟨(t2.up (by decide)).tr (x2.up (by decide)), kpJ.rf⟩, t4.kx x2 (by decide), fun hz => ?_⟩
      obtain ⟨v1, v2, v3⟩ := t5 hz
      have f2 : ∀ q, q ≠ fld → p_wr I1 4 fld x 4 q = I 4 q := fun q hq => by rw [wr_eq, pk_un hq, t2 4 (by decide)]
      have fs : p_wr I1 4 fld x 4 fld = nI (tok (c.1 + 1)).2.2.1 := by rw [wr_eq, pk_us, v1]
      refine ⟨⟨?_, ⟨by show p_wr I1 4 fld x 3 5 = nI m; rw [wr_ne (by decide), t3]; exact nmc.1, nmc.2.1, fun j hj => by show J 23 j = nm j ∧ p_wr I1 4 fld x 24 j = tw j; rw [wr_ne (by decide), t2 24 (by decide)]; exact nmc.2.2 j hj⟩, hm⟩, rdP_c4 rp ((t2.up (by decide)).tr (x2.up (by decide))) ⟨⟨(f2 0 (by omega)).trans c0, c0'⟩, ⟨(f2 1 (by omega)).trans c1, c1'⟩, ⟨(f2 2 (by omega)).trans c2, c2'⟩, (f2 3 (by omega)).trans c3, c3'⟩ ?_ rfl rfl (by omega)⟩
      · have em : (if (tok c.1).1 = 265 then 100 else 9999) = most := by
          rcases hf with ⟨-, e, e2⟩ | ⟨-, e, e2⟩ | ⟨-, e, e2⟩ <;> rw [hk, e, e2] <;> rfl
        show sfC _ (nbS 0 (if (tok c.1).1 = 265 then 100 else 9999) (tok (c.1 + 1)).2.2.1 (tok (c.1 + 1)).2.1 s)
        rw [em]; exact v2.kx x2 (by decide)
      · refine ⟨(f2 4 (by omega)).trans g1, ?_, ?_, ?_⟩
        · show p_wr I1 4 fld x 4 5 = nI (if (tok c.1).1 = 264 then (tok (c.1 + 1)).2.2.1 else th)
          by_cases e : (tok c.1).1 = 264
          · rw [if_pos e, ← fs, show fld = 5 by omega]
          · rw [if_neg e, f2 5 (by omega)]; exact g2
        · show p_wr I1 4 fld x 4 6 = nI (if (tok c.1).1 = 265 then (tok (c.1 + 1)).2.2.1 else fr)
          by_cases e : (tok c.1).1 = 265
          · rw [if_pos e, ← fs, show fld = 6 by omega]
          · rw [if_neg e, f2 6 (by omega)]; exact g3
        · show p_wr I1 4 fld x 4 7 = nI (if (tok c.1).1 = 266 then (tok (c.1 + 1)).2.2.1 else sd)
          by_cases e : (tok c.1).1 = 266
          · rw [if_pos e, ← fs, show fld = 7 by omega]
          · rw [if_neg e, f2 7 (by omega)]; exact g4
    rw [if_neg (ne 260 (by omega) (by omega)), if_neg (ne 261 (by omega) (by omega)), if_neg (ne 262 (by omega) (by omega)), if_neg (ne 263 (by omega) (by omega))]
    by_cases k64 : (tok c.1).1 = 264
    · rw [if_pos (show I 3 7 = nI 264 by rw [e7, k64])]; exact hgo 9999 5 264 9999 rfl (by omega) k64 (by omega)
    rw [if_neg (ne 264 (by omega) k64)]
    by_cases k65 : (tok c.1).1 = 265
    · rw [if_pos (show I 3 7 = nI 265 by rw [e7, k65])]; exact hgo 100 6 265 100 rfl (by omega) k65 (by omega)
    rw [if_neg (ne 265 (by omega) k65), if_pos (show I 3 7 = nI 266 by rw [e7, show (tok c.1).1 = 266 by omega])]
    exact hgo 9999 7 266 9999 rfl (by omega) (by omega) (by omega)
  · rw [if_neg kn, if_neg kn]
    obtain ⟨sz, lwc, hsz⟩ := rp.2.2.2.2
    dsimp only at lwc
    obtain ⟨la, lb⟩ := ev_readLaw (d := d) (J := J) (by omega) hT hV h hc lwc.1 hsz
    have hall : ∀ R : Option Rs, p_cv (EV d T0 42 [.ref 3] (I, J)) (fun z5 => rtV none z5) = R → (if I 3 7 = nI 260 then p_cv (EV d T0 42 [.ref 3] (I, J)) (fun z5 => rtV none z5) else if I 3 7 = nI 261 then p_cv (EV d T0 42 [.ref 3] (I, J)) (fun z6 => rtV none z6) else if I 3 7 = nI 262 then p_cv (EV d T0 42 [.ref 3] (I, J)) (fun z7 => rtV none z7) else if I 3 7 = nI 263 then p_cv (EV d T0 42 [.ref 3] (I, J)) (fun z8 => rtV none z8) else if I 3 7 = nI 264 then p_ci (EV d T0 41 [.ref 3, .int 9999] (I, J)) (fun v10 z9 => rtV none ((p_wr z9.1 4 5 v10), z9.2)) else if I 3 7 = nI 265 then p_ci (EV d T0 41 [.ref 3, .int 100] (I, J)) (fun v12 z11 => rtV none ((p_wr z11.1 4 6 v12), z11.2)) else if I 3 7 = nI 266 then p_ci (EV d T0 41 [.ref 3, .int 9999] (I, J)) (fun v14 z13 => rtV none ((p_wr z13.1 4 7 v14), z13.2)) else p_cv (EV d T0 42 [.ref 3] (I, J)) (fun z15 => rtV none z15)) = R := by
      intro R hR
      rw [if_neg (ne 264 (by omega) (by omega)), if_neg (ne 265 (by omega) (by omega)), if_neg (ne 266 (by omega) (by omega))]
      split
      · exact hR
      · split
        · exact hR
        · split
          · exact hR
          · split <;> exact hR
    by_cases kl : 260 ≤ (tok c.1).1 ∧ (tok c.1).1 ≤ 263
    · rw [if_pos kl]
      obtain ⟨I1, t1, t2, t3, t4, t5⟩ := la kl
      refine ⟨I1, J, hall _ (by rw [t1, p_cv_s]; rfl), ⟨t2.1.up (by decide), kpJ.rf⟩, t3, fun hz => ?_⟩
      obtain ⟨u1, u2, u3⟩ := t5 hz
      have lp := lw_p hT hV 5 (tkS tok 61 (tkS tok (tok c.1).1 c)) (tkS_lt hT (by omega) (by omega) (tkS_lt hT (by omega) (by omega) hcT h.2.2.2.2.1).1 (tkS_lt hT (by omega) (by omega) hcT h.2.2.2.2.1).2).1 (tkS_lt hT (by omega) (by omega) (tkS_lt hT (by omega) (by omega) hcT h.2.2.2.2.1).1 (tkS_lt hT (by omega) (by omega) hcT h.2.2.2.2.1).2).2
      obtain ⟨v1, v2, v3, v4⟩ := lp.2 hz
      obtain ⟨w1, -, -, w4⟩ := tk_z v1
      obtain ⟨-, -, -, x4⟩ := tk_z w1
      have ew : (tkS tok 61 (tkS tok (tok c.1).1 c)).1 = c.1 + 1 + 1 := by rw [w4, x4]
      have v3'' : (tkS tok 61 (tkS tok (tok c.1).1 c)).1 + lnL (lawT tok c).1.1 (lawT tok c).1.2 ≤ (lawT tok c).2.1 := v3
      have v3' : c.1 + 1 + 1 + lnL (lawT tok c).1.1 (lawT tok c).1.2 ≤ (lawT tok c).2.1 := by omega
      obtain ⟨k1, k2, k3⟩ := t2
      refine ⟨⟨sf.go (k2 9 (by decide) (by decide) (by decide)) (k2 10 (by decide) (by decide) (by decide)), ⟨(k2 5 (by decide) (by decide) (by decide)).trans nmc.1, nmc.2.1, fun j hj => by rw [k1 24 (by decide)]; exact nmc.2.2 j hj⟩, hm⟩, ?_, ?_, ?_, ?_, sz + lnL (lawT tok c).1.1 (lawT tok c).1.2, ⟨u1, fun k hk => ?_⟩, by omega⟩
      · have := rp.1; unfold cnC at *; rw [k1 4 (by decide)]; exact this
      · have := rp.2.1; unfold vlC at *; rw [k1 4 (by decide)]; exact this
      · have := rp.2.2.1; unfold seC at *; rw [k1 5 (by decide), k1 6 (by decide), k1 7 (by decide), k1 8 (by decide), k1 9 (by decide)]; exact this
      · have := rp.2.2.2.1; unfold caC at *; rw [k1 11 (by decide), k1 12 (by decide), k1 13 (by decide)]; exact this
      · show ∃ p, I1 17 k = nI p ∧ atL (I1 15) p (updA lw ((tok c.1).1 - 260) (lawT tok c).1 k).1 (updA lw ((tok c.1).1 - 260) (lawT tok c).1 k).2 ∧ p + lnL (updA lw ((tok c.1).1 - 260) (lawT tok c).1 k).1 (updA lw ((tok c.1).1 - 260) (lawT tok c).1 k).2 ≤ sz + lnL (lawT tok c).1.1 (lawT tok c).1.2
        by_cases e : k = (tok c.1).1 - 260
        · rw [e, uA_s, t4, pk_us]; exact ⟨sz, rfl, u2, Nat.le_refl _⟩
        · rw [uA_n e, t4, pk_un e]
          obtain ⟨p, p1, p2, p3⟩ := lwc.2 k hk
          exact ⟨p, p1, atL_cg _ _ _ (fun j _ hj => u3 j (by omega)) p2, by omega⟩
    · rw [if_neg kl]
      obtain ⟨I1, t1, t2, t3, t4⟩ := lb kl
      exact ⟨I1, J, hall _ (by rw [t1, p_cv_s]; rfl), ⟨t2.up (by decide), kpJ.rf⟩, t4, fun h9 => absurd (show 1 = 0 from h9) (by omega)⟩
end SO
