/-! ===== read: seams, carts, numbers told (class) ===== -/
section SN
variable {I : Nat → Nat → Int32} {J : Nat → Nat → Int64} {d : Nat} {tok : Nat → TK} {T : Nat}
theorem ev_note2 (hd : 2 ≤ d) {c : Nat × Nat} (hT : TKS tok T) (h : cuC I J tok T c) {s : Nat × Nat} (hs : sfC I s) {j : Nat} (hj : j < T) : ∃ I', EV d T0 48 [.ref 3, .int 3, .int (nI j)] (I, J) = some (none, (I', J)) ∧ ntK I I' ∧ cuC I' J tok T c ∧ sfC I' (ntS 3 (tok j).2.1 s) := by
  obtain ⟨I1, t1, t2, t3, t4, t5⟩ := ev_note (d := d) (I := I) (J := J) (by omega) hT h hs (k := 3) (by omega) (by omega) hj
  exact ⟨I1, t1, ⟨t2, t3⟩, t4, t5⟩
theorem ev_readSeam (hd : 4 ≤ d) (hT : TKS tok T) (hV : TKV tok T) {c : Nat × Nat} (h : cuC I J tok T c) (hk : (tok c.1).1 = 257) {Y : DY} (hv : RdV I J c.1 Y) :
    ∃ I' J', EV d T0 38 [.ref 3] (I, J) = some (none, (I', J')) ∧ rdF I I' J J' ∧ cuC I' J' tok T (cu_seam tok Y.2.2.1.2.1 c) ∧ ((cu_seam tok Y.2.2.1.2.1 c).2 = 0 → RdV I' J' (cu_seam tok Y.2.2.1.2.1 c).1 (y_seam tok (c.1 + 1) Y)) := by
  obtain ⟨d, rfl⟩ : ∃ z, d = z + 1 := ⟨d - 1, by omega⟩
  obtain ⟨s, ⟨m, nm, tw⟩, ⟨N, S, W, C⟩, vl, ⟨f, g, l, w⟩, ca, lw⟩ := Y
  obtain ⟨⟨sf, nmc, hm⟩, rp⟩ := hv
  dsimp only at sf nmc hm
  obtain ⟨⟨c0, c0'⟩, ⟨c1, c1'⟩, ⟨c2, c2'⟩, c3, c3'⟩ := rp.1
  dsimp only at c0 c0' c1 c1' c2 c2' c3 c3'
  show ∃ I' J', _ ∧ _ ∧ cuC I' J' tok T (cu_seam tok S c) ∧ ((cu_seam tok S c).2 = 0 → RdV I' J' (cu_seam tok S c).1 _)
  unfold cu_seam
  obtain ⟨I1, t1, t2, t3, t4⟩ := ev_takeFirst (d := d) (I := I) (J := J) (by omega) hT h (decide (S < 10)) (by omega) (by omega) (x := zI (decide (S < 10) = true)) rfl
  have hz1 := tf_z (room := decide (S < 10)) (c := c)
  generalize tfS (decide (S < 10)) c = d1 at t4 hz1 ⊢
  obtain ⟨I2, u1, u2, u3, u4⟩ := ev_take (d := d) (I := I1) (J := J) (by omega) hT t4 (k := 2) (by omega) (by omega) (by omega)
  have u1' : EV d T0 47 [.ref 3, .int 2] (I1, J) = _ := u1
  have hzu := tk_z (tok := tok) (k := 2) (c := d1)
  generalize tkS tok 2 d1 = d2 at u4 hzu ⊢
  obtain ⟨I3, v1, v2, v3, v4⟩ := ev_take (d := d) (I := I2) (J := J) (by omega) hT u4 (k := 2) (by omega) (by omega) (by omega)
  have v1' : EV d T0 47 [.ref 3, .int 2] (I2, J) = _ := v1
  have hzv := tk_z (tok := tok) (k := 2) (c := d2)
  generalize tkS tok 2 d2 = d3 at v4 hzv ⊢
  obtain ⟨I4, w1, w2, w3, w4⟩ := ev_take (d := d) (I := I3) (J := J) (by omega) hT v4 (k := 3) (by omega) (by omega) (by omega)
  have w1' : EV d T0 47 [.ref 3, .int 3] (I3, J) = _ := w1
  have hzw := tk_z (tok := tok) (k := 3) (c := d3)
  generalize tkS tok 3 d3 = d4 at w4 hzw ⊢
  obtain ⟨I5, x1, x2, x3, x4⟩ := ev_take (d := d) (I := I4) (J := J) (by omega) hT w4 (k := 3) (by omega) (by omega) (by omega)
  have x1' : EV d T0 47 [.ref 3, .int 3] (I4, J) = _ := x1
  have hzx := tk_z (tok := tok) (k := 3) (c := d4)
  generalize tkS tok 3 d4 = d5 at x4 hzx ⊢
  obtain ⟨I6, y1, y2, y3, y4⟩ := ev_take (d := d) (I := I5) (J := J) (by omega) hT x4 (k := 59) (by omega) (by omega) (by omega)
  have y1' : EV d T0 47 [.ref 3, .int 59] (I5, J) = _ := y1
  have hzy := tk_z (tok := tok) (k := 59) (c := d5)
  generalize tkS tok 59 d5 = d6 at y4 hzy ⊢
  have k3 : kp [3] I I6 := ((((t2.tr u2).tr v2).tr w2).tr x2).tr y2
  have f3 : k678 I I6 := fun j a b e => (y3 j a b e).trans ((x3 j a b e).trans ((w3 j a b e).trans ((v3 j a b e).trans ((u3 j a b e).trans (t3 j a b e)))))
  have hgo : ∃ I' J', p_cv (EV d T0 46 [.ref 3, .int (zI (decide (S < 10) = true))] (I, J)) (fun z1 => p_ci (EV d T0 47 [.ref 3, .int 2] z1) (fun v3 z2 => runS (EV d) none 7 T0 C_X4_readSeam k_X4_readSeam rtV f_X4_readSeam 999999 27 [.ref 3, .int v3, un, un, un, un, un] [] z2)) = some (none, (I', J')) ∧ rdF I I' J J' ∧ cuC I' J' tok T d6 ∧ (d6.2 = 0 → RdV I' J' d6.1 (y_seam tok (c.1 + 1) (s, (m, nm, tw), (N, S, W, C), vl, (f, g, l, w), ca, lw))) := by
    rw [t1, p_cv_s, u1', p_ci_s, show (999999 : Nat) = 999998 + 1 from rfl, runS_s, s_X4_readSeam_27, v1', p_ci_s, w1', p_ci_s, show (999998 : Nat) = 999997 + 1 from rfl, runS_s, s_X4_readSeam_39, x1', p_ci_s, y1', p_ci_s, show (999997 : Nat) = 999996 + 1 from rfl, runS_s, s_X4_readSeam_53]
    by_cases z : d6.2 = 0
    · obtain ⟨p1, p2, p3, p4⟩ := hzy z
      obtain ⟨q1, q2, q3, q4⟩ := hzx p1
      obtain ⟨r1, r2, r3, r4⟩ := hzw q1
      obtain ⟨a1, a2, a3, a4⟩ := hzv r1
      obtain ⟨b1, b2, b3, b4⟩ := hzu a1
      obtain ⟨g1, g2, g3, g4⟩ := hz1 b1
      have g2' := of_decide_eq_true g2
      have e1 : d1.1 = c.1 + 1 := by rw [g4]
      have e2 : d2.1 = c.1 + 1 + 1 := by rw [b4]; show d1.1 + 1 = c.1 + 1 + 1; omega
      have e3 : d3.1 = c.1 + 1 + 2 := by rw [a4]; show d2.1 + 1 = c.1 + 1 + 2; omega
      have e4 : d4.1 = c.1 + 1 + 3 := by rw [r4]; show d3.1 + 1 = c.1 + 1 + 3; omega
      have hd4 := w4.2.2.2.1
      rw [e3] at r2
      rw [e4] at q2
      obtain ⟨nv1, nv2⟩ := (hV (c.1 + 1 + 2) (by omega)).1 r2
      obtain ⟨nw1, nw2⟩ := (hV (c.1 + 1 + 3) (by omega)).1 q2
      have sf6 : sfC I6 s := sf.go (f3 9 (by decide) (by decide) (by decide)) (f3 10 (by decide) (by decide) (by decide))
      have nm6 : nmC I6 J m nm tw := ⟨(f3 5 (by decide) (by decide) (by decide)).trans nmc.1, nmc.2.1, fun j hj => by rw [k3 24 (by decide)]; exact nmc.2.2 j hj⟩
      obtain ⟨I7, h71, h72, h73, h74, h75⟩ := ev_townAt (d := d) (I := I6) (J := J) (by omega) hT y4 sf6 nm6 (j := c.1 + 1) (by omega)
      have nm7 := nm6.nt ⟨h72, h73⟩
      obtain ⟨I8, h81, h82, h83, h84, h85⟩ := ev_townAt (d := d) (I := I7) (J := J) (by omega) hT h74 h75 nm7 (j := c.1 + 1 + 1) (by omega)
      have k68 : ntK I6 I8 := (ntK.tr ⟨h72, h73⟩ ⟨h82, h83⟩)
      generalize ha : twF nm tw m (tkV (tok (c.1 + 1))) = ta at *
      generalize hb : twF nm tw m (tkV (tok (c.1 + 1 + 1))) = tb at *
      /- twice? -/
      have h41 : ∀ {I0 : Nat → Nat → Int32}, ntK I6 I0 → I0 4 1 = nI S := fun {I0} hk0 => by rw [hk0.1 4 (by decide), k3 4 (by decide)]; exact c1
      have h7e : ∀ {I0 : Nat → Nat → Int32}, ntK I6 I0 → ∀ i, i < S → I0 7 i = enB (f i) (g i) := fun {I0} hk0 i hi => by rw [hk0.1 7 (by decide), k3 7 (by decide)]; exact (rp.2.2.1 i hi).1.2.2
      have htw : ∃ I9, runS (EV d) none 7 T0 C_X4_readSeam k_X4_readSeam rtV f_X4_readSeam 999996 74 [.ref 3, un, .int (nI (c.1 + 1 + 1)), .int (nI (c.1 + 1 + 2)), .int (nI (c.1 + 1 + 3)), .int ta, .int tb] [] (I8, J) = runS (EV d) none 7 T0 C_X4_readSeam k_X4_readSeam rtV f_X4_readSeam 999995 101 [.ref 3, un, un, .int (nI (c.1 + 1 + 2)), .int (nI (c.1 + 1 + 3)), .int ta, .int tb] [] (I9, J) ∧ ntK I8 I9 ∧ cuC I9 J tok T d6 ∧ sfC I9 (if ta = tb ∨ hsF f g ta tb S 0 = true then ntS 3 (tok (c.1 + 1 + 1)).2.1 (tnS tb (tok (c.1 + 1 + 1)).2.1 (tnS ta (tok (c.1 + 1)).2.1 s)) else tnS tb (tok (c.1 + 1 + 1)).2.1 (tnS ta (tok (c.1 + 1)).2.1 s)) := by
        obtain ⟨I9, h91, h92, h93, h94⟩ := ev_note2 (d := d) (I := I8) (J := J) (by omega) hT h84 h85 (j := c.1 + 1 + 1) (by omega)
        rw [show (999996 : Nat) = 999995 + 1 from rfl, runS_s, s_X4_readSeam_74]
        by_cases t : ta = tb
        · rw [if_pos t, if_pos (Or.inl t), h91, p_cv_s]; exact ⟨I9, rfl, h92, h93, h94⟩
        · rw [if_neg t, q_hasSeam (by omega) (h41 k68) c1' (h7e k68), p_ci_s]
          by_cases hs : hsF f g ta tb S 0 = true
          · rw [if_neg (by rw [zI_t hs]; decide), if_pos (Or.inr hs), h91, p_cv_s]; exact ⟨I9, rfl, h92, h93, h94⟩
          · rw [if_pos (zI_f hs), if_neg (fun h9 => h9.elim t hs)]; exact ⟨I8, rfl, ntK.rf, h84, h85⟩
      obtain ⟨I9, h91, h92, h93, h94⟩ := htw
      obtain ⟨I10, h101, h102, h103, h104, h105⟩ := ev_numberAt (d := d) (I := I9) (J := J) (by omega) hT h93 h94 (j := c.1 + 1 + 2) (by omega) nv2 (by omega) (lo := 1) (hi := 99) (by omega) (by omega)
      have h101' : EV d T0 52 [.ref 3, .int (nI (c.1 + 1 + 2)), .int 1, .int 99] (I9, J) = _ := h101
      obtain ⟨I11, h111, h112, h113, h114, h115⟩ := ev_numberAt (d := d) (I := I10) (J := J) (by omega) hT h104 h105 (j := c.1 + 1 + 3) (by omega) nw2 (by omega) (lo := 0) (hi := 99) (by omega) (by omega)
      have h111' : EV d T0 52 [.ref 3, .int (nI (c.1 + 1 + 3)), .int 0, .int 99] (I10, J) = _ := h111
      have k611 : ntK I6 I11 := ((k68.tr h92).tr ⟨h102, h103⟩).tr ⟨h112, h113⟩
      have x12 : kp [4, 5, 6, 7, 8, 9] I11 (asI I11 S ta tb (nI (tok (c.1 + 1 + 2)).2.2.1) (nI (tok (c.1 + 1 + 3)).2.2.1)) := (((((kp.rf.wr (by decide)).wr (by decide)).wr (by decide)).wr (by decide)).wr (by decide)).wr (by decide)
      have e11 : ∀ k, k ≠ 3 → I11 k = I k := fun k hk => by rw [k611.1 k (fun h9 => hk (List.mem_singleton.mp h9)), k3 k (fun h9 => hk (List.mem_singleton.mp h9))]
      have f12 : ∀ q, q ≠ 1 → asI I11 S ta tb (nI (tok (c.1 + 1 + 2)).2.2.1) (nI (tok (c.1 + 1 + 3)).2.2.1) 4 q = I 4 q := fun q hq => by unfold asI; rw [wr_eq, pk_un hq, wr_ne (by decide), wr_ne (by decide), wr_ne (by decide), wr_ne (by decide), wr_ne (by decide), e11 4 (by decide)]
      refine ⟨asI I11 S ta tb (nI (tok (c.1 + 1 + 2)).2.2.1) (nI (tok (c.1 + 1 + 3)).2.2.1), J, ?_, ⟨(((k3.up (by decide)).tr (k611.1.up (by decide))).tr (x12.up (by decide))), kpJ.rf⟩, h114.kx x12 (by decide), fun _ => ⟨⟨?_, (nm6.nt k611).kx x12 (by decide), hm⟩, ⟨⟨(f12 0 (by decide)).trans c0, c0'⟩, ⟨?_, by show S + 1 ≤ 10; omega⟩, ⟨(f12 2 (by decide)).trans c2, c2'⟩, (f12 3 (by decide)).trans c3, c3'⟩, ?_, ?_, ?_, ?_⟩⟩
      · rw [if_pos (show I6 3 8 = 0 by rw [y4.2.2.1, z]; rfl), e1, e2, e3, e4, h71, p_ci_s, h81, p_ci_s, h91, show (999995 : Nat) = 999994 + 1 from rfl, runS_s, s_X4_readSeam_101, h101', p_ci_s, h111', p_ci_s, ev_addSeam (by omega) (h41 k611) (by omega), p_cv_s]; rfl
      · have := h115.kx x12 (by decide)
        show sfC _ (y_seam tok (c.1 + 1) (s, (m, nm, tw), (N, S, W, C), vl, (f, g, l, w), ca, lw)).1
        unfold y_seam; dsimp only; rw [ha, hb]; exact this
      · unfold asI; rw [wr_eq, pk_us]; rfl
      · obtain ⟨v1, v2, v3, v4⟩ := rp.2.1
        exact ⟨(f12 4 (by decide)).trans v1, (f12 5 (by decide)).trans v2, (f12 6 (by decide)).trans v3, (f12 7 (by decide)).trans v4⟩
      · intro i hi
        have hi' : i < S + 1 := hi
        show (asI I11 S ta tb _ _ 5 i = upd f S (twF nm tw m (tkV (tok (c.1 + 1)))) i ∧ asI I11 S ta tb _ _ 6 i = upd g S (twF nm tw m (tkV (tok (c.1 + 1 + 1)))) i ∧ asI I11 S ta tb _ _ 7 i = enB (upd f S (twF nm tw m (tkV (tok (c.1 + 1)))) i) (upd g S (twF nm tw m (tkV (tok (c.1 + 1 + 1)))) i)) ∧ asI I11 S ta tb _ _ 8 i = nI (updA l S (tok (c.1 + 1 + 2)).2.2.1 i) ∧ asI I11 S ta tb _ _ 9 i = nI (updA w S (tok (c.1 + 1 + 3)).2.2.1 i)
        have w5 : asI I11 S ta tb (nI (tok (c.1 + 1 + 2)).2.2.1) (nI (tok (c.1 + 1 + 3)).2.2.1) 5 = upd (I 5) S ta := by unfold asI; rw [wr_ne (by decide), wr_ne (by decide), wr_ne (by decide), wr_ne (by decide), wr_ne (by decide), wr_eq, e11 5 (by decide)]
        have w6 : asI I11 S ta tb (nI (tok (c.1 + 1 + 2)).2.2.1) (nI (tok (c.1 + 1 + 3)).2.2.1) 6 = upd (I 6) S tb := by unfold asI; rw [wr_ne (by decide), wr_ne (by decide), wr_ne (by decide), wr_ne (by decide), wr_eq, wr_ne (by decide), e11 6 (by decide)]
        have w7 : asI I11 S ta tb (nI (tok (c.1 + 1 + 2)).2.2.1) (nI (tok (c.1 + 1 + 3)).2.2.1) 7 = upd (I 7) S (enB ta tb) := by unfold asI; rw [wr_ne (by decide), wr_ne (by decide), wr_ne (by decide), wr_eq, wr_ne (by decide), wr_ne (by decide), e11 7 (by decide)]
        have w8 : asI I11 S ta tb (nI (tok (c.1 + 1 + 2)).2.2.1) (nI (tok (c.1 + 1 + 3)).2.2.1) 8 = upd (I 8) S (nI (tok (c.1 + 1 + 2)).2.2.1) := by unfold asI; rw [wr_ne (by decide), wr_ne (by decide), wr_eq, wr_ne (by decide), wr_ne (by decide), wr_ne (by decide), e11 8 (by decide)]
        have w9 : asI I11 S ta tb (nI (tok (c.1 + 1 + 2)).2.2.1) (nI (tok (c.1 + 1 + 3)).2.2.1) 9 = upd (I 9) S (nI (tok (c.1 + 1 + 3)).2.2.1) := by unfold asI; rw [wr_ne (by decide), wr_eq, wr_ne (by decide), wr_ne (by decide), wr_ne (by decide), wr_ne (by decide), e11 9 (by decide)]
        rw [w5, w6, w7, w8, w9, ha, hb]
        by_cases e : i = S
        · subst e; rw [pk_us, pk_us, pk_us, pk_us, pk_us, pk_us, pk_us, uA_s, uA_s]; exact ⟨⟨rfl, rfl, rfl⟩, rfl, rfl⟩
        · rw [pk_un e, pk_un e, pk_un e, pk_un e, pk_un e, pk_un e, pk_un e, uA_n e, uA_n e]; exact rp.2.2.1 i (by show i < S; omega)
      · intro i hi
        have := rp.2.2.2.1 i hi
        rw [x12 11 (by decide), x12 12 (by decide), x12 13 (by decide), e11 11 (by decide), e11 12 (by decide), e11 13 (by decide)]; exact this
      · obtain ⟨sz, lwc, hsz⟩ := rp.2.2.2.2
        refine ⟨sz, ?_, by rw [p4, q4, r4, a4, b4, g4]; show sz ≤ 8 + (c.1 + 1 + 1 + 1 + 1 + 1 + 1); omega⟩
        unfold lwC at *; rw [x12 14 (by decide), x12 15 (by decide), x12 17 (by decide), e11 14 (by decide), e11 15 (by decide), e11 17 (by decide)]; exact lwc
    · refine ⟨I6, J, ?_, ⟨k3.up (by decide), kpJ.rf⟩, y4, fun h9 => absurd h9 z⟩
      rw [if_neg (show ¬ I6 3 8 = 0 by rw [y4.2.2.1, eq0_nI (by have := y4.2.2.2.2.1; omega)]; exact z)]; rfl
  rw [e_X4_readSeam, runS_M, s_X4_readSeam_0, c1]
  by_cases r : S < 10
  · rw [if_neg (show ¬ (10 : Int32) ≤ nI (S) from nI_ge (a := S) (b := 10) (by omega) (by omega))]
    rw [show zI (decide (S < 10) = true) = 1 from zI_t (decide_eq_true r)] at hgo; exact hgo
  · rw [if_pos (show (10 : Int32) ≤ nI (S) from nI_le (a := 10) (b := S) (by omega) (by omega))]
    rw [show zI (decide (S < 10) = true) = 0 from zI_f (fun h9 => r (of_decide_eq_true h9))] at hgo; exact hgo
end SN
