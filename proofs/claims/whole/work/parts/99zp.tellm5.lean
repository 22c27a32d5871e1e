/-! ===== read: any tell (reference), case by case ===== -/
section SU
variable {I : Nat → Nat → Int32} {J : Nat → Nat → Int64} {d : Nat} {tok : Nat → TK} {T : Nat}
theorem seam_soft {s : Nat × Nat} {nm : Nat → Int64} {tw : Nat → Int32} {m N S p1 p2 : Nat} {f g f' g' : Nat → Int32} {v1 v2 : Int64} (hd : s.1 = 0 → dsN' nm m) (ht : twOk tw m N) (hN : N ≤ 7) (hs : s.1 = 0 → ∀ i, i < S → (∃ p q, f i = nI p ∧ g i = nI q ∧ p < N ∧ q < N ∧ p ≠ q) ∧ f' i = f i ∧ g' i = g i) :
    twS (ftV nm tw m v1) (ftV nm tw m v2) (hsR f' g' (ftV nm tw m v1) (ftV nm tw m v2) S 0) p2 (tnS (ftV nm tw m v2) p2 (tnS (ftV nm tw m v1) p1 s)) = if twF nm tw m v1 = twF nm tw m v2 ∨ hsF f g (twF nm tw m v1) (twF nm tw m v2) S 0 = true then ntS 3 p2 (tnS (twF nm tw m v2) p2 (tnS (twF nm tw m v1) p1 s)) else tnS (twF nm tw m v2) p2 (tnS (twF nm tw m v1) p1 s) := by
  by_cases z : s.1 = 0
  · rw [ft_tw (hd z) ht (by omega) v1, ft_tw (hd z) ht (by omega) v2]
    have h1 := tw_v (nm := nm) ht v1
    have h2 := tw_v (nm := nm) ht v2
    generalize twF nm tw m v1 = ta at *
    generalize twF nm tw m v2 = tb at *
    by_cases hb : 0 ≤ ta ∧ 0 ≤ tb
    · obtain ⟨p, q1, q2⟩ := h1.resolve_left (fun e => by rw [e] at hb; exact absurd hb.1 (by decide))
      obtain ⟨q, q3, q4⟩ := h2.resolve_left (fun e => by rw [e] at hb; exact absurd hb.2 (by decide))
      unfold twS
      by_cases e : ta = tb
      · rw [if_pos ⟨hb.1, hb.2, Or.inl e⟩, if_pos (Or.inl e)]
      · have hpq : p ≠ q := fun e9 => e (by rw [q2, q4, e9])
        have he : hsR f' g' ta tb S 0 = hsF f g ta tb S 0 := by rw [q2, q4]; exact hs_eq hN q1 q3 hpq S 0 (fun j _ b => hs z j (by omega))
        rw [he]
        by_cases e2 : hsF f g ta tb S 0 = true
        · rw [if_pos ⟨hb.1, hb.2, Or.inr e2⟩, if_pos (Or.inr e2)]
        · rw [if_neg (fun h9 => h9.2.2.elim e e2), if_neg (fun h9 => h9.elim e e2)]
    · have hn : (tnS tb p2 (tnS ta p1 s)).1 ≠ 0 := fun h9 => hb ⟨(tn_z (tn_z h9).1).2, (tn_z h9).2⟩
      rw [tws_id hn, nt_id hn]; split <;> rfl
  · rw [tn_id z, tn_id z, tn_id z, tn_id z, tws_id z, nt_id z]; split <;> rfl
theorem cart_soft {s : Nat × Nat} {nm : Nat → Int64} {tw : Nat → Int32} {m N p1 p2 : Nat} {v0 v1 v2 : Int64} (hd : s.1 = 0 → dsN' (updA nm m v0) (m + 1)) (ht : twOk tw m N) (hN : N ≤ 7) :
    twS (ftV nm tw m v1) (ftV nm tw m v2) false p2 (tnS (ftV nm tw m v2) p2 (tnS (ftV nm tw m v1) p1 s)) = if twF (updA nm m v0) (upd tw m (-1)) (m + 1) v1 = twF (updA nm m v0) (upd tw m (-1)) (m + 1) v2 then ntS 3 p2 (tnS (twF (updA nm m v0) (upd tw m (-1)) (m + 1) v2) p2 (tnS (twF (updA nm m v0) (upd tw m (-1)) (m + 1) v1) p1 s)) else tnS (twF (updA nm m v0) (upd tw m (-1)) (m + 1) v2) p2 (tnS (twF (updA nm m v0) (upd tw m (-1)) (m + 1) v1) p1 s) := by
  by_cases z : s.1 = 0
  · have hx := tw_x ht (Nat.le_refl N) (x := -1) (Or.inl rfl)
    rw [← ft_tw (hd z) hx (by omega) v1, ← ft_tw (hd z) hx (by omega) v2, ftV_x, ftV_x]
    generalize ftV nm tw m v1 = ta at *
    generalize ftV nm tw m v2 = tb at *
    by_cases hb : 0 ≤ ta ∧ 0 ≤ tb
    · unfold twS
      by_cases e : ta = tb
      · rw [if_pos ⟨hb.1, hb.2, Or.inl e⟩, if_pos e]
      · rw [if_neg (fun h9 => h9.2.2.elim e (fun h8 => absurd h8 (by decide))), if_neg e]
    · have hn : (tnS tb p2 (tnS ta p1 s)).1 ≠ 0 := fun h9 => hb ⟨(tn_z (tn_z h9).1).2, (tn_z h9).2⟩
      rw [tws_id hn, nt_id hn]; split <;> rfl
  · rw [tn_id z, tn_id z, tn_id z, tn_id z, tws_id z, nt_id z]; split <;> rfl
/-- what a tell comes to -/
def tmR (I : Nat → Nat → Int32) (J : Nat → Nat → Int64) (tok : Nat → TK) (T v : Nat) (c' : Nat × Nat) (Y' : DY) (R : Option Rs) : Prop := ∃ I' J', R = some (none, (I', J')) ∧ rmF I I' v ∧ kpJ [200] J J' ∧ cuG I' J' tok T c' ∧ (c'.2 = 0 → RdM I' J' v c'.1 Y')
theorem m_town (hd : 6 ≤ d) (hT : TKS tok T) (hV : TKV tok T) {c : Nat × Nat} (cu : cuM I J tok T c) (hc : c.2 = 0) (hk : (tok c.1).1 = 256) {v : Nat} (hv : v < 2) {Y : DY} (hY : RdM I J v c.1 Y) (hP : PY tok c.1 Y) :
    tmR I J tok T v (cu_town tok Y.2.2.1.1 c) (y_town tok (c.1 + 1) Y) (p_chk (p_in (I 192 19) 2) (p_cv (EV d T0 186 [.ref 192, .int (I 202 ((I 192 19).toNatClampNeg)), .int 7] (I, J)) (fun z1 => if (z1.1 192 13) ≤ 0 then (p_ci (EV d T0 189 [.ref 192] z1) (fun v3 z2 => p_chk (p_in (z2.1 192 19) 2) (p_cv (EV d T0 190 [.ref 192, .int v3, .int (z2.1 202 ((z2.1 192 19).toNatClampNeg))] z2) (fun z4 => runS (EV d) none 2 T0 C_X12_tellOne k_X12_tellOne rtV f_X12_tellOne 999999 108 [.ref 192, un] [] z4)))) else (rtV none z1)))) := by
  obtain ⟨s, ⟨m, nm, tw⟩, ⟨N, S, W, C⟩, ⟨Q, th, fr, sd⟩, ⟨f, g, l, w⟩, ⟨a, b, ld⟩, lw⟩ := Y
  obtain ⟨h1, h2, h3, h4, h5, ⟨h6, h7, h8, h9⟩, h10⟩ := hP
  obtain ⟨⟨sf, nmm⟩, cn, vl, seca, tl⟩ := hY
  have h19 := tl.1.1
  dsimp only at sf nmm
  have hp2 : ∀ y : Option Rs, p_chk (p_in (nI v) 2) y = y := fun y => chk_in (by omega) (by omega)
  have cT' := cu.2.2.2.1
  show tmR I J tok T v (cu_town tok N c) _ _
  rw [h19, hp2, nI_clamp (by omega), show I 202 v = nI N from cn.1]
  obtain ⟨I1, t1, t2, t3, t4⟩ := ev_roomFor (d := d) (I := I) (J := J) (by omega) hT cu (a := N) (m := 7) (by omega) (by omega) (by omega) (by omega) hc
  have t1' : EV d T0 186 [.ref 192, .int (nI N), .int 7] (I, J) = _ := t1
  have edec : decide (N ≠ 7) = decide (N < 7) := by
    by_cases e : N < 7
    · rw [decide_eq_true e, decide_eq_true (show N ≠ 7 by omega)]
    · rw [decide_eq_false e, decide_eq_false (fun h9 : N ≠ 7 => h9 (by omega))]
  rw [edec] at t4
  rw [t1', p_cv_s]
  unfold cu_town
  have hz1 := tf_z (room := decide (N < 7)) (c := c)
  generalize tfS (decide (N < 7)) c = d1 at t4 hz1 ⊢
  by_cases z1 : d1.2 = 0
  · obtain ⟨-, g2, -, g4⟩ := hz1 z1
    have g2' := of_decide_eq_true g2
    have ed : d1.1 = c.1 + 1 := by rw [g4]
    have T1 := t4.2.2.2.1
    have hn1 : nmM I1 J m nm tw := nmm.go (t3 20 (by decide) (by decide) (by decide)) (t2 201 (by decide))
    have ho1 : orQ (tok d1.1).2.1 s := h1.up (Nat.le_of_lt (pl_lt hV (by omega) T1))
    obtain ⟨I2, u1, u2, u3, u4, u5⟩ := ev_named (d := d) (J := J) (by omega) hT hV t4 z1 hn1 (sf.cu t3) ho1
    have T2 := tkS_lt hT (k := 2) (by omega) (by omega) T1 t4.2.2.2.2.1
    have hz2 := tk_z (tok := tok) (k := 2) (c := d1)
    have hv198 : (tkS tok 2 d1).2 = 0 → J 198 d1.1 = tkV (tok d1.1) := fun z => ((t4.2.2.2.2.2 d1.1 T1).2.2.2 (hz2 z).2.1).trans (tkV_nm hV T1 (hz2 z).2.1).symm
    generalize tkS tok 2 d1 = d2 at u4 u5 T2 hz2 hv198 ⊢
    have hn2 : nmM I2 J m nm tw := hn1.go (u3 20 (by decide)) (u2 201 (by decide))
    obtain ⟨I3, J3, w1, w2, w3, w4, w5, w6⟩ := ev_endsG (d := d) (J := J) (by omega) hT u4 hn2 (by omega) (j := d1.1) T1 hv198 (nI N)
    have hz3 := tk_z (tok := tok) (k := 59) (c := d2)
    generalize tkS tok 59 d2 = d3 at w5 w6 hz3 ⊢
    have k3 : kp [192, 201] I I3 := ((t2.up (by decide)).tr (u2.up (by decide))).tr w2
    have f3 : ∀ j, j ∉ [11, 13, 14, 15, 16, 20] → I3 192 j = I 192 j := fun j hj => by rw [w4 j (fun h9 => hj ((by decide : ∀ j ∈ [11, 13, 14, 20], j ∈ [11, 13, 14, 15, 16, 20]) j h9)), u3 j (fun h9 => hj ((by decide : ∀ j ∈ [11, 13, 14, 15, 16], j ∈ [11, 13, 14, 15, 16, 20]) j h9)), t3.w j (fun h9 => hj ((by decide : ∀ j ∈ [11, 13, 14, 15, 16], j ∈ [11, 13, 14, 15, 16, 20]) j h9))]
    have rf3 : rmF I I3 v := rmF_o k3 (by decide) (fun j hj => f3 j (fun h9 => hj ((by decide : ∀ j ∈ [11, 13, 14, 15, 16, 20], j ∈ [11, 12, 13, 14, 15, 16, 20, 40, 46, 50]) j h9)))
    have e19 : I2 192 19 = nI v := by rw [u3 19 (by decide), t3 19 (by decide) (by decide) (by decide)]; exact h19
    have e19' : I3 192 19 = nI v := (f3 19 (by decide)).trans h19
    have e202 : I2 202 v = nI N := by rw [u2 202 (by decide), t2 202 (by decide)]; exact cn.1
    have e202' : I3 202 v = nI N := by rw [k3 202 (by decide)]; exact cn.1
    dsimp only
    rw [if_pos (show I1 192 13 ≤ 0 by rw [t4.2.1, z1]; decide), u1, p_ci_s]
    dsimp only
    rw [e19, hp2, nI_clamp (by omega), e202, w1, p_cv_s, show (999999 : Nat) = 999998 + 1 from rfl, runS_s, s_X12_tellOne_108]
    by_cases z : d3.2 = 0
    · obtain ⟨z2, -, -, e3⟩ := hz3 z
      have e2 := (hz2 z2).2.2.2
      have x4 : kp [202] I3 (p_wr I3 202 v (nI (N + 1))) := kp.rf.wr (by decide)
      have c4 : ∀ k, k ≠ 202 → p_wr I3 202 v (nI (N + 1)) k = I3 k := fun k h9 => wr_ne h9
      refine ⟨p_wr I3 202 v (nI (N + 1)), J3, ?_, rf3.tr (rmF_w (by decide) (by omega) (by show 1 * v ≤ v ∧ v < 1 * v + 1; omega)), w3, w5.go x4 (by decide) (by rw [c4 192 (by decide)]) (by rw [c4 192 (by decide)]) (by rw [c4 192 (by decide)]), fun _ => ⟨⟨?_, ?_⟩, ⟨by rw [wr_eq, pk_us]; rfl, ?_, ?_, ?_⟩, ?_, fun z9 => ?_, ?_⟩⟩
      · rw [if_pos (show I3 192 13 = 0 by rw [(w5.1 z).2.1, z]; rfl), e19', hp2, hp2, nI_clamp (by omega), e202', nI_1]; rfl
      · show sfM _ (anS tok nm m (c.1 + 1) s)
        rw [← ed]
        exact (u5 z2).go (by rw [c4 192 (by decide), w4 15 (by decide)]) (by rw [c4 192 (by decide), w4 16 (by decide)])
      · show nmM _ J3 (m + 1) (updA nm m (tkV (tok (c.1 + 1)))) (upd tw m (nI N))
        rw [← ed]
        exact (w6 z).go (by rw [c4 192 (by decide)]) (c4 201 (by decide))
      · show p_wr I3 202 v (nI (N + 1)) 203 v = nI S; rw [c4 203 (by decide), k3 203 (by decide)]; exact cn.2.1
      · show p_wr I3 202 v (nI (N + 1)) 208 v = nI W; rw [c4 208 (by decide), k3 208 (by decide)]; exact cn.2.2.1
      · show p_wr I3 202 v (nI (N + 1)) 210 v = nI C; rw [c4 210 (by decide), k3 210 (by decide)]; exact cn.2.2.2
      · unfold vlM at *; rw [c4 209 (by decide), c4 214 (by decide), c4 215 (by decide), c4 216 (by decide), k3 209 (by decide), k3 214 (by decide), k3 215 (by decide), k3 216 (by decide)]; exact vl
      · obtain ⟨q1, q2⟩ := seca (an_z z9).1
        have kk : kp [192, 201, 202] I (p_wr I3 202 v (nI (N + 1))) := (k3.up (by decide)).tr (x4.up (by decide))
        exact ⟨seM_go q1 kk (by decide), caM_go q2 kk (by decide)⟩
      · exact tlM_go tl ((k3.up (by decide)).tr (x4.up (Y := [192, 201, 202]) (by decide))) (by decide) (fun j hj => by rw [c4 192 (by decide)]; exact f3 j ((by decide : ∀ j ∈ [12, 19, 40, 46], j ∉ [11, 13, 14, 15, 16, 20]) j hj)) (by rw [e3, e2, g4]; show c.1 ≤ c.1 + 1 + 1 + 1; omega)
    · refine ⟨I3, J3, ?_, rf3, w3, w5, fun h9 => absurd h9 z⟩
      rw [if_neg (w5.2 z).nz]; rfl
  · have cf := t4.f z1
    have e9 : tkS tok 59 (tkS tok 2 d1) = d1 := by rw [tk_f z1, tk_f z1]
    rw [e9]
    refine ⟨I1, J, ?_, rmF_cu t2 t3, kpJ.rf, t4.g, fun h9 => absurd h9 z1⟩
    dsimp only
    rw [if_neg cf.nl]; rfl
theorem m_woman (hd : 6 ≤ d) (hT : TKS tok T) (hV : TKV tok T) {c : Nat × Nat} (cu : cuM I J tok T c) (hc : c.2 = 0) (hk : (tok c.1).1 = 258) {v : Nat} (hv : v < 2) {Y : DY} (hY : RdM I J v c.1 Y) (hP : PY tok c.1 Y) :
    tmR I J tok T v (cu_woman tok Y.2.2.1.2.2.1 c) (y_woman tok (c.1 + 1) Y) (p_chk (p_in (I 192 19) 2) (p_cv (EV d T0 186 [.ref 192, .int (I 208 ((I 192 19).toNatClampNeg)), .int 3] (I, J)) (fun z7 => if (z7.1 192 13) ≤ 0 then (p_ci (EV d T0 189 [.ref 192] z7) (fun v9 z8 => runS (EV d) none 2 T0 C_X12_tellOne k_X12_tellOne rtV f_X12_tellOne 999999 187 [.ref 192, .int v9] [] z8)) else (rtV none z7)))) := by
  obtain ⟨s, ⟨m, nm, tw⟩, ⟨N, S, W, C⟩, ⟨Q, th, fr, sd⟩, ⟨f, g, l, w⟩, ⟨a, b, ld⟩, lw⟩ := Y
  obtain ⟨h1, h2, h3, h4, h5, ⟨h6, h7, h8, h9⟩, h10⟩ := hP
  obtain ⟨⟨sf, nmm⟩, cn, vl, seca, tl⟩ := hY
  have h19 := tl.1.1
  dsimp only at sf nmm
  have hp2 : ∀ y : Option Rs, p_chk (p_in (nI v) 2) y = y := fun y => chk_in (by omega) (by omega)
  have cT' := cu.2.2.2.1
  show tmR I J tok T v (cu_woman tok W c) _ _
  rw [h19, hp2, nI_clamp (by omega), show I 208 v = nI W from cn.2.2.1]
  obtain ⟨I1, t1, t2, t3, t4⟩ := ev_roomFor (d := d) (I := I) (J := J) (by omega) hT cu (a := W) (m := 3) (by omega) (by omega) (by omega) (by omega) hc
  have t1' : EV d T0 186 [.ref 192, .int (nI W), .int 3] (I, J) = _ := t1
  have edec : decide (W ≠ 3) = decide (W < 3) := by
    by_cases e : W < 3
    · rw [decide_eq_true e, decide_eq_true (show W ≠ 3 by omega)]
    · rw [decide_eq_false e, decide_eq_false (fun h9 : W ≠ 3 => h9 (by omega))]
  rw [edec] at t4
  rw [t1', p_cv_s]
  unfold cu_woman
  have hz1 := tf_z (room := decide (W < 3)) (c := c)
  generalize tfS (decide (W < 3)) c = d1 at t4 hz1 ⊢
  by_cases z1 : d1.2 = 0
  · obtain ⟨-, g2, -, g4⟩ := hz1 z1
    have g2' := of_decide_eq_true g2
    have ed : d1.1 = c.1 + 1 := by rw [g4]
    have T1 := t4.2.2.2.1
    have hn1 : nmM I1 J m nm tw := nmm.go (t3 20 (by decide) (by decide) (by decide)) (t2 201 (by decide))
    have ho1 : orQ (tok d1.1).2.1 s := h1.up (Nat.le_of_lt (pl_lt hV (by omega) T1))
    obtain ⟨I2, u1, u2, u3, u4, u5⟩ := ev_named (d := d) (J := J) (by omega) hT hV t4 z1 hn1 (sf.cu t3) ho1
    have T2 := tkS_lt hT (k := 2) (by omega) (by omega) T1 t4.2.2.2.2.1
    have hz2 := tk_z (tok := tok) (k := 2) (c := d1)
    have hv198 : (tkS tok 2 d1).2 = 0 → J 198 d1.1 = tkV (tok d1.1) := fun z => ((t4.2.2.2.2.2 d1.1 T1).2.2.2 (hz2 z).2.1).trans (tkV_nm hV T1 (hz2 z).2.1).symm
    generalize tkS tok 2 d1 = d2 at u4 u5 T2 hz2 hv198 ⊢
    have ed2 : d2.2 = 0 → d2.1 = c.1 + 2 := fun z => by rw [(hz2 z).2.2.2]; show d1.1 + 1 = _; omega
    have hn2 : nmM I2 J m nm tw := hn1.go (u3 20 (by decide)) (u2 201 (by decide))
    have ho2 : d2.2 = 0 → orQ (tok d2.1).2.1 (anS tok nm m d1.1 s) := fun z => by
      have hlt : d1.1 < d2.1 := by rw [ed2 z, ed]; omega
      have hp := pl_lt hV hlt T2.1
      exact (ho1.up (by omega)).an hp
    obtain ⟨I3, x3, v1, v2, v3, v4, v5⟩ := ev_boundG (d := d) (J := J) (lo := 1) (hi := 99) (by omega) hT hV u4 T2.1 u5 (by omega) (by omega) ho2
    have v1' : EV d T0 192 [.ref 192, .int 1, .int 99] (I2, J) = _ := v1
    have hz3 := tk_z (tok := tok) (k := 3) (c := d2)
    generalize tkS tok 3 d2 = d3 at v4 v5 hz3 ⊢
    have x4 : kp [209] I3 (p_wr I3 209 v (nI Q + x3)) := kp.rf.wr (by decide)
    have e4 : p_wr I3 209 v (nI Q + x3) 192 = I3 192 := wr_ne (by decide)
    have cu4 : cuG (p_wr I3 209 v (nI Q + x3)) J tok T d3 := v4.go x4 (by decide) (by rw [e4]) (by rw [e4]) (by rw [e4])
    have hn4 : nmM (p_wr I3 209 v (nI Q + x3)) J m nm tw := hn2.go (by rw [e4, v3 20 (by decide)]) (by rw [x4 201 (by decide), v2 201 (by decide)])
    obtain ⟨I5, J5, w1, w2, w3, w4, w5, w6⟩ := ev_endsG (d := d) (J := J) (by omega) hT cu4 hn4 (by omega) (j := d1.1) T1 (fun z => hv198 (hz3 z).1) (-1)
    have hz4 := tk_z (tok := tok) (k := 59) (c := d3)
    generalize tkS tok 59 d3 = d4 at w5 w6 hz4 ⊢
    have f3 : ∀ j, j ∉ [11, 13, 14, 15, 16, 20] → I5 192 j = I 192 j := fun j hj => by rw [w4 j (fun h9 => hj ((by decide : ∀ j ∈ [11, 13, 14, 20], j ∈ [11, 13, 14, 15, 16, 20]) j h9)), e4, v3 j (fun h9 => hj ((by decide : ∀ j ∈ [11, 13, 14, 15, 16], j ∈ [11, 13, 14, 15, 16, 20]) j h9)), u3 j (fun h9 => hj ((by decide : ∀ j ∈ [11, 13, 14, 15, 16], j ∈ [11, 13, 14, 15, 16, 20]) j h9)), t3.w j (fun h9 => hj ((by decide : ∀ j ∈ [11, 13, 14, 15, 16], j ∈ [11, 13, 14, 15, 16, 20]) j h9))]
    have k5 : kp [192, 201, 209] I I5 := ((((t2.up (by decide)).tr (u2.up (by decide))).tr (v2.up (by decide))).tr (x4.up (by decide))).tr (w2.up (by decide))
    have e209 : I2 209 v = nI Q := by rw [u2 209 (by decide), t2 209 (by decide)]; exact vl.1
    have rf5 : rmF I I5 v := (((rmF_cu t2 t3).tr (rmF_cw u2 u3)).tr ((rmF_cw v2 v3).tr (rmF_w (k := 209) (by decide) (by omega) (by show 1 * v ≤ v ∧ v < 1 * v + 1; omega)))).tr (rmF_o w2 (by decide) (fun j hj => w4 j (fun h9 => hj ((by decide : ∀ j ∈ [11, 13, 14, 20], j ∈ [11, 12, 13, 14, 15, 16, 20, 40, 46, 50]) j h9))))
    have e19 : I2 192 19 = nI v := by rw [u3 19 (by decide), t3 19 (by decide) (by decide) (by decide)]; exact h19
    have e19' : I5 192 19 = nI v := (f3 19 (by decide)).trans h19
    have e208' : I5 208 v = nI W := by rw [k5 208 (by decide)]; exact cn.2.2.1
    dsimp only
    rw [if_pos (show I1 192 13 ≤ 0 by rw [t4.2.1, z1]; decide), u1, p_ci_s, show (999999 : Nat) = 999998 + 1 from rfl, runS_s, s_X12_tellOne_187, e19, hp2, v1', p_ci_s, hp2]
    dsimp only
    rw [nI_clamp (by omega), e209, w1, p_cv_s, show (999998 : Nat) = 999997 + 1 from rfl, runS_s, s_X12_tellOne_212]
    by_cases z : d4.2 = 0
    · obtain ⟨z3, -, -, e5⟩ := hz4 z
      obtain ⟨z2, -, -, e3⟩ := hz3 z3
      have e2 := (hz2 z2).2.2.2
      obtain ⟨y1, y2⟩ := v5 z3
      rw [ed2 z2] at y1 y2
      have x6 : kp [208] I5 (p_wr I5 208 v (nI (W + 1))) := kp.rf.wr (by decide)
      have c4 : ∀ k, k ≠ 208 → p_wr I5 208 v (nI (W + 1)) k = I5 k := fun k h9 => wr_ne h9
      refine ⟨p_wr I5 208 v (nI (W + 1)), J5, ?_, rf5.tr (rmF_w (by decide) (by omega) (by show 1 * v ≤ v ∧ v < 1 * v + 1; omega)), w3, w5.go x6 (by decide) (by rw [c4 192 (by decide)]) (by rw [c4 192 (by decide)]) (by rw [c4 192 (by decide)]), fun _ => ⟨⟨?_, ?_⟩, ⟨?_, ?_, by rw [wr_eq, pk_us]; rfl, ?_⟩, ⟨?_, ?_, ?_, ?_⟩, fun z9 => ?_, ?_⟩⟩
      · rw [if_pos (show I5 192 13 = 0 by rw [(w5.1 z).2.1, z]; rfl), e19', hp2, hp2, nI_clamp (by omega), e208', nI_1]; rfl
      · show sfM _ (nbS 1 99 (tok (c.1 + 1 + 1)).2.2.1 (tok (c.1 + 1 + 1)).2.1 (anS tok nm m (c.1 + 1) s))
        rw [← ed, ed]
        rw [ed] at y2
        exact y2.go (by rw [c4 192 (by decide), w4 15 (by decide), e4]) (by rw [c4 192 (by decide), w4 16 (by decide), e4])
      · show nmM _ J5 (m + 1) (updA nm m (tkV (tok (c.1 + 1)))) (upd tw m (-1))
        rw [← ed]
        exact (w6 z).go (by rw [c4 192 (by decide)]) (c4 201 (by decide))
      · show p_wr I5 208 v (nI (W + 1)) 202 v = nI N; rw [c4 202 (by decide), k5 202 (by decide)]; exact cn.1
      · show p_wr I5 208 v (nI (W + 1)) 203 v = nI S; rw [c4 203 (by decide), k5 203 (by decide)]; exact cn.2.1
      · show p_wr I5 208 v (nI (W + 1)) 210 v = nI C; rw [c4 210 (by decide), k5 210 (by decide)]; exact cn.2.2.2
      · show p_wr I5 208 v (nI (W + 1)) 209 v = nI (Q + (tok (c.1 + 1 + 1)).2.2.1)
        rw [c4 209 (by decide), w2 209 (by decide), wr_eq, pk_us, y1, nI_add]
      · rw [c4 214 (by decide), k5 214 (by decide)]; exact vl.2.1
      · rw [c4 215 (by decide), k5 215 (by decide)]; exact vl.2.2.1
      · rw [c4 216 (by decide), k5 216 (by decide)]; exact vl.2.2.2
      · obtain ⟨q1, q2⟩ := seca (an_z (nb_z z9).1).1
        have kk : kp [192, 201, 208, 209] I (p_wr I5 208 v (nI (W + 1))) := (k5.up (by decide)).tr (x6.up (by decide))
        exact ⟨seM_go q1 kk (by decide), caM_go q2 kk (by decide)⟩
      · exact tlM_go tl ((k5.up (by decide)).tr (x6.up (Y := [192, 201, 208, 209]) (by decide))) (by decide) (fun j hj => by rw [c4 192 (by decide)]; exact f3 j ((by decide : ∀ j ∈ [12, 19, 40, 46], j ∉ [11, 13, 14, 15, 16, 20]) j hj)) (by rw [e5, e3, e2, g4]; show c.1 ≤ c.1 + 1 + 1 + 1 + 1; omega)
    · refine ⟨I5, J5, ?_, rf5, w3, w5, fun h9 => absurd h9 z⟩
      rw [if_neg (w5.2 z).nz]; rfl
  · have cf := t4.f z1
    have e9 : tkS tok 59 (tkS tok 3 (tkS tok 2 d1)) = d1 := by rw [tk_f z1, tk_f z1, tk_f z1]
    rw [e9]
    refine ⟨I1, J, ?_, rmF_cu t2 t3, kpJ.rf, t4.g, fun h9 => absurd h9 z1⟩
    dsimp only
    rw [if_neg cf.nl]; rfl
end SU
