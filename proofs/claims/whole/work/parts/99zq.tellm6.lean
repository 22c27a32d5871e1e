/-! ===== read: any tell (reference): seams, carts, numbers, laws ===== -/
section SV
variable {I : Nat → Nat → Int32} {J : Nat → Nat → Int64} {d : Nat} {tok : Nat → TK} {T : Nat}
theorem mt_seam (hd : 7 ≤ d) (hT : TKS tok T) (hV : TKV tok T) {c : Nat × Nat} (cu : cuM I J tok T c) (hc : c.2 = 0) (hk : (tok c.1).1 = 257) {v : Nat} (hv : v < 2) {Y : DY} (hY : RdM I J v c.1 Y) (hP : PY tok c.1 Y) :
    tmR I J tok T v (cu_seam tok Y.2.2.1.2.1 c) (y_seam tok (c.1 + 1) Y) (p_chk (p_in (I 192 19) 2) (p_cv (EV d T0 186 [.ref 192, .int (I 203 ((I 192 19).toNatClampNeg)), .int 10] (I, J)) (fun z5 => if (z5.1 192 13) = 0 then (p_cv (EV d T0 194 [.ref 192] z5) (fun z6 => runS (EV d) none 2 T0 C_X12_tellOne k_X12_tellOne rtV f_X12_tellOne 999999 157 [un, un] [] z6)) else (rtV none z5)))) := by
  obtain ⟨s, ⟨m, nm, tw⟩, ⟨N, S, W, C⟩, ⟨Q, th, fr, sd⟩, ⟨f, g, l, w⟩, ⟨a, b, ld⟩, lw⟩ := Y
  obtain ⟨h1, h2, h3, h4, h5, ⟨h6, h7, h8, h9⟩, h10⟩ := hP
  obtain ⟨⟨sf, nmm⟩, cn, vl, seca, tl⟩ := hY
  have h19 := tl.1.1
  dsimp only at sf nmm
  have hp2 : ∀ y : Option Rs, p_chk (p_in (nI v) 2) y = y := fun y => chk_in (by omega) (by omega)
  have cT' := cu.2.2.2.1
  show tmR I J tok T v (cu_seam tok S c) _ _
  rw [h19, hp2, nI_clamp (by omega), show I 203 v = nI S from cn.2.1]
  obtain ⟨I1, t1, t2, t3, t4⟩ := ev_roomFor (d := d) (I := I) (J := J) (by omega) hT cu (a := S) (m := 10) (by omega) (by omega) (by omega) (by omega) hc
  have t1' : EV d T0 186 [.ref 192, .int (nI S), .int 10] (I, J) = _ := t1
  have edec : decide (S ≠ 10) = decide (S < 10) := by
    by_cases e : S < 10
    · rw [decide_eq_true e, decide_eq_true (show S ≠ 10 by omega)]
    · rw [decide_eq_false e, decide_eq_false (fun h9 : S ≠ 10 => h9 (by omega))]
  rw [edec] at t4
  rw [t1', p_cv_s]
  unfold cu_seam
  have hz1 := tf_z (room := decide (S < 10)) (c := c)
  generalize tfS (decide (S < 10)) c = d1 at t4 hz1 ⊢
  by_cases z1 : d1.2 = 0
  · obtain ⟨-, g2, -, g4⟩ := hz1 z1
    have g2' := of_decide_eq_true g2
    have ed : d1.1 = c.1 + 1 := by rw [g4]
    have T1 := t4.2.2.2.1
    have hn1 : nmM I1 J m nm tw := nmm.go (t3 20 (by decide) (by decide) (by decide)) (t2 201 (by decide))
    have ho1 : orQ (tok d1.1).2.1 s := h1.up (Nat.le_of_lt (pl_lt hV (by omega) T1))
    obtain ⟨I2, u1, u2, u3, u4, u5, u6, u7⟩ := ev_tellSeam (d := d) (I := I1) (J := J) (by omega) hT hV t4 z1 hv ((t3 19 (by decide) (by decide) (by decide)).trans h19) (S := S) (by rw [t2 203 (by decide)]; exact cn.2.1) g2' hn1 (sf.cu t3) ho1
    have rf2 : rmF I1 I2 v := ⟨u2.up (by decide), fun j hj => u3 j (fun h9 => hj ((by decide : ∀ j ∈ [11, 13, 14, 15, 16], j ∈ [11, 12, 13, 14, 15, 16, 20, 40, 46, 50]) j h9)), fun k p q j hj => by
      by_cases e3 : k = 203
      · subst e3; exact u4 j (by have : j < 1 * v ∨ 1 * v + 1 ≤ j := hj; omega)
      · by_cases e4 : 204 ≤ k ∧ k ≤ 207
        · exact u5 k e4.1 e4.2 j (by
            have hs : sdN k = 10 := if_pos e4
            rw [hs] at hj; omega)
        · rw [u2 k (fun h9 => by simp only [List.mem_cons, List.not_mem_nil, or_false] at h9; omega)]⟩
    have k2 : kp [192, 203, 204, 205, 206, 207] I I2 := (t2.up (by decide)).tr u2
    have f2 : kCw I I2 := t3.w.tr u3
    have hz5 := tk_z (tok := tok) (k := 59) (c := tkS tok 3 (tkS tok 3 (tkS tok 2 (tkS tok 2 d1))))
    have hle : (tkS tok 59 (tkS tok 3 (tkS tok 3 (tkS tok 2 (tkS tok 2 d1))))).2 = 0 → d1.1 ≤ (tkS tok 59 (tkS tok 3 (tkS tok 3 (tkS tok 2 (tkS tok 2 d1))))).1 := fun _ => Nat.le_trans tk_le (Nat.le_trans tk_le (Nat.le_trans tk_le (Nat.le_trans tk_le tk_le)))
    generalize tkS tok 59 (tkS tok 3 (tkS tok 3 (tkS tok 2 (tkS tok 2 d1)))) = d6 at u6 u7 hle ⊢
    refine ⟨I2, J, ?_, (rmF_cu t2 t3).tr rf2, kpJ.rf, u6, fun z => ?_⟩
    · dsimp only
      rw [if_pos (show I1 192 13 = 0 by rw [t4.2.1, z1]; rfl), u1, p_cv_s, show (999999 : Nat) = 999998 + 1 from rfl, runS_s, s_X12_tellOne_157]; rfl
    · obtain ⟨x1, ⟨x2, x3, x4, x5⟩, x6⟩ := u7 z
      have eq4 : (fun i => I1 204 (10 * v + i)) = fun i => I 204 (10 * v + i) := by funext i; rw [t2 204 (by decide)]
      have eq5 : (fun i => I1 205 (10 * v + i)) = fun i => I 205 (10 * v + i) := by funext i; rw [t2 205 (by decide)]
      rw [eq4, eq5, ed] at x6
      rw [ed] at x2 x3 x4 x5
      have hsoft := seam_soft (s := s) (nm := nm) (tw := tw) (m := m) (N := N) (S := S) (p1 := (tok (c.1 + 1)).2.1) (p2 := (tok (c.1 + 1 + 1)).2.1) (f := f) (g := g) (f' := fun i => I 204 (10 * v + i)) (g' := fun i => I 205 (10 * v + i)) (v1 := tkV (tok (c.1 + 1))) (v2 := tkV (tok (c.1 + 1 + 1))) h2 h3 h6 (fun z9 i hi => ⟨((h4 z9).1 i hi).1, ((seca z9).1 i hi).1, ((seca z9).1 i hi).2.1⟩)
      rw [hsoft] at x6
      refine ⟨⟨x6, nmm.go (f2 20 (by decide)) (k2 201 (by decide))⟩, ⟨?_, x1, ?_, ?_⟩, ?_, fun z9 => ?_, tlM_go tl k2 (by decide) (fun j hj => f2 j ((by decide : ∀ j ∈ [12, 19, 40, 46], j ∉ [11, 13, 14, 15, 16]) j hj)) (by have := hle z; omega)⟩
      · rw [k2 202 (by decide)]; exact cn.1
      · rw [k2 208 (by decide)]; exact cn.2.2.1
      · rw [k2 210 (by decide)]; exact cn.2.2.2
      · unfold vlM at *; rw [k2 209 (by decide), k2 214 (by decide), k2 215 (by decide), k2 216 (by decide)]; exact vl
      · have z9' : (nbS 0 99 (tok (c.1 + 1 + 3)).2.2.1 (tok (c.1 + 1 + 3)).2.1 (nbS 1 99 (tok (c.1 + 1 + 2)).2.2.1 (tok (c.1 + 1 + 2)).2.1 (if twF nm tw m (tkV (tok (c.1 + 1))) = twF nm tw m (tkV (tok (c.1 + 1 + 1))) ∨ hsF f g (twF nm tw m (tkV (tok (c.1 + 1)))) (twF nm tw m (tkV (tok (c.1 + 1 + 1)))) S 0 = true then ntS 3 (tok (c.1 + 1 + 1)).2.1 (tnS (twF nm tw m (tkV (tok (c.1 + 1 + 1)))) (tok (c.1 + 1 + 1)).2.1 (tnS (twF nm tw m (tkV (tok (c.1 + 1)))) (tok (c.1 + 1)).2.1 s)) else tnS (twF nm tw m (tkV (tok (c.1 + 1 + 1)))) (tok (c.1 + 1 + 1)).2.1 (tnS (twF nm tw m (tkV (tok (c.1 + 1)))) (tok (c.1 + 1)).2.1 s)))).1 = 0 := z9
        have y2 := (nb_z (nb_z z9').1).1
        have y0 : s.1 = 0 := by
          split at y2
          · exact absurd y2 (fun h9 => nt_z (by omega) h9)
          · exact (tn_z (tn_z y2).1).1
        rw [ft_tw (h2 y0) h3 (by omega)] at x2 x3
        obtain ⟨q1, q2⟩ := seca y0
        refine ⟨fun i hi => ?_, caM_go q2 k2 (by decide)⟩
        have hi' : i < S + 1 := hi
        show I2 204 (10 * v + i) = upd f S (twF nm tw m (tkV (tok (c.1 + 1)))) i ∧ I2 205 (10 * v + i) = upd g S (twF nm tw m (tkV (tok (c.1 + 1 + 1)))) i ∧ I2 206 (10 * v + i) = nI (updA l S (tok (c.1 + 1 + 2)).2.2.1 i) ∧ I2 207 (10 * v + i) = nI (updA w S (tok (c.1 + 1 + 3)).2.2.1 i)
        by_cases e : i = S
        · subst e; rw [pk_us, pk_us, uA_s, uA_s]; exact ⟨x2, x3, x4, x5⟩
        · have hne : 10 * v + i ≠ 10 * v + S := by omega
          rw [pk_un e, pk_un e, uA_n e, uA_n e, u5 204 (by omega) (by omega) _ hne, u5 205 (by omega) (by omega) _ hne, u5 206 (by omega) (by omega) _ hne, u5 207 (by omega) (by omega) _ hne, t2 204 (by decide), t2 205 (by decide), t2 206 (by decide), t2 207 (by decide)]
          exact q1 i (by show i < S; omega)
  · have cf := t4.f z1
    have e9 : tkS tok 59 (tkS tok 3 (tkS tok 3 (tkS tok 2 (tkS tok 2 d1)))) = d1 := by rw [tk_f z1, tk_f z1, tk_f z1, tk_f z1, tk_f z1]
    rw [e9]
    refine ⟨I1, J, ?_, rmF_cu t2 t3, kpJ.rf, t4.g, fun h9 => absurd h9 z1⟩
    dsimp only
    rw [if_neg cf.nz]; rfl
theorem mt_cart (hd : 7 ≤ d) (hT : TKS tok T) (hV : TKV tok T) {c : Nat × Nat} (cu : cuM I J tok T c) (hc : c.2 = 0) (hk : (tok c.1).1 = 259) {v : Nat} (hv : v < 2) {Y : DY} (hY : RdM I J v c.1 Y) (hP : PY tok c.1 Y) :
    tmR I J tok T v (cu_cart tok Y.2.2.1.2.2.2 c) (y_cart tok (c.1 + 1) Y) (p_chk (p_in (I 192 19) 2) (p_cv (EV d T0 186 [.ref 192, .int (I 210 ((I 192 19).toNatClampNeg)), .int 4] (I, J)) (fun z5 => if (z5.1 192 13) = 0 then (p_cv (EV d T0 195 [.ref 192] z5) (fun z6 => runS (EV d) none 2 T0 C_X12_tellOne k_X12_tellOne rtV f_X12_tellOne 999999 260 [un, un] [] z6)) else (rtV none z5)))) := by
  obtain ⟨s, ⟨m, nm, tw⟩, ⟨N, S, W, C⟩, ⟨Q, th, fr, sd⟩, ⟨f, g, l, w⟩, ⟨a, b, ld⟩, lw⟩ := Y
  obtain ⟨h1, h2, h3, h4, h5, ⟨h6, h7, h8, h9⟩, h10⟩ := hP
  obtain ⟨⟨sf, nmm⟩, cn, vl, seca, tl⟩ := hY
  have h19 := tl.1.1
  dsimp only at sf nmm
  have hp2 : ∀ y : Option Rs, p_chk (p_in (nI v) 2) y = y := fun y => chk_in (by omega) (by omega)
  have cT' := cu.2.2.2.1
  show tmR I J tok T v (cu_cart tok C c) _ _
  rw [h19, hp2, nI_clamp (by omega), show I 210 v = nI C from cn.2.2.2]
  obtain ⟨I1, t1, t2, t3, t4⟩ := ev_roomFor (d := d) (I := I) (J := J) (by omega) hT cu (a := C) (m := 4) (by omega) (by omega) (by omega) (by omega) hc
  have t1' : EV d T0 186 [.ref 192, .int (nI C), .int 4] (I, J) = _ := t1
  have edec : decide (C ≠ 4) = decide (C < 4) := by
    by_cases e : C < 4
    · rw [decide_eq_true e, decide_eq_true (show C ≠ 4 by omega)]
    · rw [decide_eq_false e, decide_eq_false (fun h9 : C ≠ 4 => h9 (by omega))]
  rw [edec] at t4
  rw [t1', p_cv_s]
  unfold cu_cart
  have hz1 := tf_z (room := decide (C < 4)) (c := c)
  generalize tfS (decide (C < 4)) c = d1 at t4 hz1 ⊢
  by_cases z1 : d1.2 = 0
  · obtain ⟨-, g2, -, g4⟩ := hz1 z1
    have g2' := of_decide_eq_true g2
    have ed : d1.1 = c.1 + 1 := by rw [g4]
    have T1 := t4.2.2.2.1
    have hn1 : nmM I1 J m nm tw := nmm.go (t3 20 (by decide) (by decide) (by decide)) (t2 201 (by decide))
    have ho1 : orQ (tok d1.1).2.1 s := h1.up (Nat.le_of_lt (pl_lt hV (by omega) T1))
    obtain ⟨I2, J2, u1, u2, uJ, u3, u4, u5, u6, u7⟩ := ev_tellCart (d := d) (I := I1) (J := J) (by omega) hT hV t4 z1 hv ((t3 19 (by decide) (by decide) (by decide)).trans h19) (C := C) (by rw [t2 210 (by decide)]; exact cn.2.2.2) g2' hn1 (by omega) (sf.cu t3) ho1
    have rf2 : rmF I1 I2 v := ⟨u2.up (by decide), fun j hj => u3 j (fun h9 => hj ((by decide : ∀ j ∈ [11, 13, 14, 15, 16, 20], j ∈ [11, 12, 13, 14, 15, 16, 20, 40, 46, 50]) j h9)), fun k p q j hj => by
      by_cases e3 : k = 210
      · subst e3; exact u4 j (by have : j < 1 * v ∨ 1 * v + 1 ≤ j := hj; omega)
      · by_cases e4 : 211 ≤ k ∧ k ≤ 213
        · exact u5 k e4.1 e4.2 j (by
            have hs : sdN k = 4 := (if_neg (by omega)).trans (if_pos (Or.inl e4))
            rw [hs] at hj; omega)
        · rw [u2 k (fun h9 => by simp only [List.mem_cons, List.not_mem_nil, or_false] at h9; omega)]⟩
    have k2 : kp [192, 201, 210, 211, 212, 213] I I2 := (t2.up (by decide)).tr u2
    have f2 : ∀ j, j ∉ [11, 13, 14, 15, 16, 20] → I2 192 j = I 192 j := fun j hj => (u3 j hj).trans (t3.w j (fun h9 => hj ((by decide : ∀ j ∈ [11, 13, 14, 15, 16], j ∈ [11, 13, 14, 15, 16, 20]) j h9)))
    have hle : (tkS tok 59 (tkS tok 3 (tkS tok 2 (tkS tok 2 (tkS tok 2 d1))))).2 = 0 → d1.1 ≤ (tkS tok 59 (tkS tok 3 (tkS tok 2 (tkS tok 2 (tkS tok 2 d1))))).1 := fun _ => Nat.le_trans tk_le (Nat.le_trans tk_le (Nat.le_trans tk_le (Nat.le_trans tk_le tk_le)))
    generalize tkS tok 59 (tkS tok 3 (tkS tok 2 (tkS tok 2 (tkS tok 2 d1)))) = d6 at u6 u7 hle ⊢
    refine ⟨I2, J2, ?_, (rmF_cu t2 t3).tr rf2, uJ, u6, fun z => ?_⟩
    · dsimp only
      rw [if_pos (show I1 192 13 = 0 by rw [t4.2.1, z1]; rfl), u1, p_cv_s, show (999999 : Nat) = 999998 + 1 from rfl, runS_s, s_X12_tellOne_260]; rfl
    · obtain ⟨x1, ⟨x2, x3, x4⟩, x5, x6⟩ := u7 z
      rw [ed] at x2 x3 x4 x5 x6
      have hds : (anS tok nm m (c.1 + 1) s).1 = 0 → dsN' (updA nm m (tkV (tok (c.1 + 1)))) (m + 1) := fun z9 => ds_x (h2 (an_z z9).1) (an_z z9).2
      rw [cart_soft (v0 := tkV (tok (c.1 + 1))) hds h3 h6] at x6
      refine ⟨⟨x6, x5⟩, ⟨?_, ?_, ?_, x1⟩, ?_, fun z9 => ?_, tlM_go tl k2 (by decide) (fun j hj => f2 j ((by decide : ∀ j ∈ [12, 19, 40, 46], j ∉ [11, 13, 14, 15, 16, 20]) j hj)) (by have := hle z; omega)⟩
      · rw [k2 202 (by decide)]; exact cn.1
      · rw [k2 203 (by decide)]; exact cn.2.1
      · rw [k2 208 (by decide)]; exact cn.2.2.1
      · unfold vlM at *; rw [k2 209 (by decide), k2 214 (by decide), k2 215 (by decide), k2 216 (by decide)]; exact vl
      · have z9' : (nbS 0 99 (tok (c.1 + 1 + 3)).2.2.1 (tok (c.1 + 1 + 3)).2.1 (if twF (updA nm m (tkV (tok (c.1 + 1)))) (upd tw m (-1)) (m + 1) (tkV (tok (c.1 + 1 + 1))) = twF (updA nm m (tkV (tok (c.1 + 1)))) (upd tw m (-1)) (m + 1) (tkV (tok (c.1 + 1 + 2))) then ntS 3 (tok (c.1 + 1 + 2)).2.1 (tnS (twF (updA nm m (tkV (tok (c.1 + 1)))) (upd tw m (-1)) (m + 1) (tkV (tok (c.1 + 1 + 2)))) (tok (c.1 + 1 + 2)).2.1 (tnS (twF (updA nm m (tkV (tok (c.1 + 1)))) (upd tw m (-1)) (m + 1) (tkV (tok (c.1 + 1 + 1)))) (tok (c.1 + 1 + 1)).2.1 (anS tok nm m (c.1 + 1) s))) else tnS (twF (updA nm m (tkV (tok (c.1 + 1)))) (upd tw m (-1)) (m + 1) (tkV (tok (c.1 + 1 + 2)))) (tok (c.1 + 1 + 2)).2.1 (tnS (twF (updA nm m (tkV (tok (c.1 + 1)))) (upd tw m (-1)) (m + 1) (tkV (tok (c.1 + 1 + 1)))) (tok (c.1 + 1 + 1)).2.1 (anS tok nm m (c.1 + 1) s)))).1 = 0 := z9
        have y2 := (nb_z z9').1
        have y1 : (anS tok nm m (c.1 + 1) s).1 = 0 := by
          split at y2
          · exact absurd y2 (fun h9 => nt_z (by omega) h9)
          · exact (tn_z (tn_z y2).1).1
        obtain ⟨q1, q2⟩ := seca (an_z y1).1
        have hx := tw_x h3 (Nat.le_refl N) (x := -1) (Or.inl rfl)
        have et : ∀ w9, ftV nm tw m w9 = twF (updA nm m (tkV (tok (c.1 + 1)))) (upd tw m (-1)) (m + 1) w9 := fun w9 => by rw [← ft_tw (hds y1) hx (by omega) w9, ftV_x]
        rw [et] at x2 x3
        refine ⟨seM_go q1 k2 (by decide), fun i hi => ?_⟩
        have hi' : i < C + 1 := hi
        show I2 211 (4 * v + i) = upd a C (twF (updA nm m (tkV (tok (c.1 + 1)))) (upd tw m (-1)) (m + 1) (tkV (tok (c.1 + 1 + 1)))) i ∧ I2 212 (4 * v + i) = upd b C (twF (updA nm m (tkV (tok (c.1 + 1)))) (upd tw m (-1)) (m + 1) (tkV (tok (c.1 + 1 + 2)))) i ∧ I2 213 (4 * v + i) = nI (updA ld C (tok (c.1 + 1 + 3)).2.2.1 i)
        by_cases e : i = C
        · subst e; rw [pk_us, pk_us, uA_s]; exact ⟨x2, x3, x4⟩
        · have hne : 4 * v + i ≠ 4 * v + C := by omega
          rw [pk_un e, pk_un e, uA_n e, u5 211 (by omega) (by omega) _ hne, u5 212 (by omega) (by omega) _ hne, u5 213 (by omega) (by omega) _ hne, t2 211 (by decide), t2 212 (by decide), t2 213 (by decide)]
          exact q2 i (by show i < C; omega)
  · have cf := t4.f z1
    have e9 : tkS tok 59 (tkS tok 3 (tkS tok 2 (tkS tok 2 (tkS tok 2 d1)))) = d1 := by rw [tk_f z1, tk_f z1, tk_f z1, tk_f z1, tk_f z1]
    rw [e9]
    refine ⟨I1, J, ?_, rmF_cu t2 t3, kpJ.rf, t4.g, fun h9 => absurd h9 z1⟩
    dsimp only
    rw [if_neg cf.nz]; rfl
theorem m_num (hd : 6 ≤ d) (hT : TKS tok T) (hV : TKV tok T) {c : Nat × Nat} (cu : cuM I J tok T c) (hc : c.2 = 0) {most fld k : Nat} {x0 : Int32} (hx0 : x0 = nI most) (hk : (tok c.1).1 = k) (hf : fld = 214 ∧ k = 264 ∧ most = 9999 ∨ fld = 215 ∧ k = 265 ∧ most = 100 ∨ fld = 216 ∧ k = 266 ∧ most = 9999) {v : Nat} (hv : v < 2) {Y : DY} (hY : RdM I J v c.1 Y) (hP : PY tok c.1 Y) :
    tmR I J tok T v (cu_num tok c) (y_num tok (tok c.1).1 (c.1 + 1) Y) (p_ci (EV d T0 187 [.ref 192, .int 0, .int x0] (I, J)) (fun v21 z20 => p_chk (p_in (I 192 19) 2) (rtV none ((p_wr z20.1 fld ((I 192 19).toNatClampNeg) v21), z20.2)))) := by
  obtain ⟨s, ⟨m, nm, tw⟩, ⟨N, S, W, C⟩, ⟨Q, th, fr, sd⟩, ⟨f, g, l, w⟩, ⟨a, b, ld⟩, lw⟩ := Y
  obtain ⟨h1, h2, h3, h4, h5, ⟨h6, h7, h8, h9⟩, h10⟩ := hP
  obtain ⟨⟨sf, nmm⟩, cn, vl, seca, tl⟩ := hY
  have h19 := tl.1.1
  dsimp only at sf nmm
  have hfld : fld = 214 ∨ fld = 215 ∨ fld = 216 := by omega
  have hmo : most < 20000 := by omega
  obtain ⟨I1, x, t1, t2, t3, t4, t5⟩ := ev_toldInt (d := d) (I := I) (J := J) (by omega) hT hV cu hc (by omega) (by omega) sf h1 hmo
  have t1' : EV d T0 187 [.ref 192, .int 0, .int x0] (I, J) = some (some (.int x), (I1, J)) := by rw [hx0]; exact t1
  have x2 : kp [214, 215, 216] I1 (p_wr I1 fld v x) := kp.rf.wr (by simp only [List.mem_cons, List.not_mem_nil, or_false]; exact hfld)
  have c2 : p_wr I1 fld v x 192 = I1 192 := wr_ne (by omega)
  have hsd : sdN fld = 1 := by rcases hfld with rfl | rfl | rfl <;> rfl
  rw [t1', p_ci_s, h19, chk_in (by omega) (by omega), nI_clamp (by omega)]
  refine ⟨p_wr I1 fld v x, J, rfl, (rmF_cw t2 t3).tr (rmF_w (by rcases hfld with rfl | rfl | rfl <;> decide) (by omega) (by rw [hsd]; omega)), kpJ.rf, t4.go x2 (by decide) (by rw [c2]) (by rw [c2]) (by rw [c2]), fun z => ?_⟩
  obtain ⟨y1, y2⟩ := t5 z
  have hle : c.1 ≤ (cu_num tok c).1 := by unfold cu_num; exact Nat.le_trans tf_le (Nat.le_trans tk_le tk_le)
  have kk : kp [192, 214, 215, 216] I (p_wr I1 fld v x) := (t2.up (by decide)).tr (x2.up (by decide))
  have fs : p_wr I1 fld v x fld v = nI (tok (c.1 + 1)).2.2.1 := by rw [wr_eq, pk_us, y1]
  have fo : ∀ q, q ≠ fld → q ≠ 192 → p_wr I1 fld v x q v = I q v := fun q hq hq2 => by rw [wr_ne hq, t2 q (fun h9 => hq2 (List.mem_singleton.mp h9))]
  refine ⟨⟨?_, nmm.go (by rw [c2, t3 20 (by decide)]) (by rw [kk 201 (by decide)])⟩, ?_, ?_, fun z9 => ?_, tlM_go tl kk (by decide) (fun j hj => by rw [c2]; exact t3 j ((by decide : ∀ j ∈ [12, 19, 40, 46], j ∉ [11, 13, 14, 15, 16]) j hj)) hle⟩
  · have em : (if (tok c.1).1 = 265 then 100 else 9999) = most := by
      rcases hf with ⟨-, e, e2⟩ | ⟨-, e, e2⟩ | ⟨-, e, e2⟩ <;> rw [hk, e, e2] <;> rfl
    show sfM _ (nbS 0 (if (tok c.1).1 = 265 then 100 else 9999) (tok (c.1 + 1)).2.2.1 (tok (c.1 + 1)).2.1 s)
    rw [em]; exact y2.go (by rw [c2]) (by rw [c2])
  · show cnM _ v (N, S, W, C)
    exact cnM_go cn (by rw [kk 202 (by decide)]) (by rw [kk 203 (by decide)]) (by rw [kk 208 (by decide)]) (by rw [kk 210 (by decide)])
  · refine ⟨?_, ?_, ?_, ?_⟩
    · rw [kk 209 (by decide)]; exact vl.1
    · show p_wr I1 fld v x 214 v = nI (if (tok c.1).1 = 264 then (tok (c.1 + 1)).2.2.1 else th)
      by_cases e : (tok c.1).1 = 264
      · rw [if_pos e, ← fs, show fld = 214 by omega]
      · rw [if_neg e, fo 214 (by omega) (by omega)]; exact vl.2.1
    · show p_wr I1 fld v x 215 v = nI (if (tok c.1).1 = 265 then (tok (c.1 + 1)).2.2.1 else fr)
      by_cases e : (tok c.1).1 = 265
      · rw [if_pos e, ← fs, show fld = 215 by omega]
      · rw [if_neg e, fo 215 (by omega) (by omega)]; exact vl.2.2.1
    · show p_wr I1 fld v x 216 v = nI (if (tok c.1).1 = 266 then (tok (c.1 + 1)).2.2.1 else sd)
      by_cases e : (tok c.1).1 = 266
      · rw [if_pos e, ← fs, show fld = 216 by omega]
      · rw [if_neg e, fo 216 (by omega) (by omega)]; exact vl.2.2.2
  · obtain ⟨q1, q2⟩ := seca (nb_z (show (nbS 0 (if (tok c.1).1 = 265 then 100 else 9999) (tok (c.1 + 1)).2.2.1 (tok (c.1 + 1)).2.1 s).1 = 0 from z9)).1
    exact ⟨seM_go q1 kk (by decide), caM_go q2 kk (by decide)⟩
theorem atV_up {lo hi hi' : Nat} (hh : hi ≤ hi') : ∀ (r : List Br) (q : Nat) (e : List Op), atV lo hi I q r e → atV lo hi' I q r e := by
  intro r
  induction r with
  | nil =>
    intro q e h
    obtain ⟨h1, c, h2, h3, h4, h5⟩ := h
    exact ⟨h1, c, h2, h3, by omega, h5⟩
  | cons b r ih =>
    intro q e h
    obtain ⟨h1, ⟨c, h2, h3, h4, h5, h6, h7⟩, h8⟩ := h
    exact ⟨h1, ⟨c, h2, h3, h4, h5, by omega, h7⟩, ih _ _ h8⟩
theorem m_law (hd : 8 ≤ d) (hT : TKS tok T) (hV : TKV tok T) {c : Nat × Nat} (cu : cuM I J tok T c) (hc : c.2 = 0) (hk : 260 ≤ (tok c.1).1 ∧ (tok c.1).1 ≤ 263) {v : Nat} (hv : v < 2) {Y : DY} (hY : RdM I J v c.1 Y) :
    tmR I J tok T v (lawT tok c).2 (y_law ((tok c.1).1 - 260) (lawT tok c).1 Y) (runS (EV d) none 2 T0 C_X12_tellOne k_X12_tellOne rtV f_X12_tellOne 999999 358 [.ref 192, .int (nI ((tok c.1).1 - 260))] [] (I, J)) := by
  obtain ⟨s, ⟨m, nm, tw⟩, ⟨N, S, W, C⟩, ⟨Q, th, fr, sd⟩, ⟨f, g, l, w⟩, ⟨a, b, ld⟩, lw⟩ := Y
  obtain ⟨⟨sf, nmm⟩, cn, vl, seca, tl⟩ := hY
  obtain ⟨⟨h19, h12⟩, br, cd, ⟨b1, b2, b3⟩, ⟨c1, c2, c3⟩, hl⟩ := tl
  have hl : lwM I v br cd lw := hl
  have hTT := hT.2.1
  have cT' := cu.2.2.2.1
  obtain ⟨I1, t1, t2, t3, t4⟩ := ev_goesOn (d := d) (I := I) (J := J) (by omega) hT cu (by omega) (by omega) hc
  rw [← go_tk (tok := tok) hc rfl (by omega)] at t4
  have T1 := tkS_lt hT (k := (tok c.1).1) (by omega) (by omega) cT' cu.2.2.2.2.1
  have hz1 := tk_z (tok := tok) (k := (tok c.1).1) (c := c)
  have gs : gS I1 J tok T (420 * v) cd (tkS tok (tok c.1).1 c) := ⟨t4.g, fun z => ⟨(t3 12 (by decide) (by decide) (by decide)).trans h12, by have : c.1 ≤ (tkS tok (tok c.1).1 c).1 := tk_le; omega⟩, (t3 46 (by decide) (by decide) (by decide)).trans c1, by omega⟩
  obtain ⟨I2, u1, u2, u3, u4⟩ := ev_tellLaw (d := d) (I := I1) (J := J) (by omega) hT hV hv (l := (tok c.1).1 - 260) (by omega) ((t3 19 (by decide) (by decide) (by decide)).trans h19) gs c2 (br := br) ((t3 40 (by decide) (by decide) (by decide)).trans b1) (fun z => by
    rw [(hz1 z).2.2.2]; show 4 * br + 1 ≤ 4 * (130 * v) + (c.1 + 1); omega) T1 (by omega)
  obtain ⟨k1, k2, k3, k4, k5⟩ := u2
  have kk : kp [192, 217, 218, 219, 220, 221, 222, 223, 224, 225, 226] I I2 := (t2.up (by decide)).tr k1
  have ff : ∀ j, j ∉ [11, 12, 13, 14, 40, 46, 50] → I2 192 j = I 192 j := fun j hj => (k2 j hj).trans (t3 j (fun e => hj (by rw [e]; decide)) (fun e => hj (by rw [e]; decide)) (fun e => hj (by rw [e]; decide)))
  have rf : rmF I I2 v := (rmF_cu t2 t3).tr ⟨k1.up (by decide), fun j hj => k2 j (fun h9 => hj ((by decide : ∀ j ∈ [11, 12, 13, 14, 40, 46, 50], j ∈ [11, 12, 13, 14, 15, 16, 20, 40, 46, 50]) j h9)), fun k p q j hj => by
    by_cases e1 : k = 217 ∨ k = 218
    · have hs : sdN k = 4 := (if_neg (by omega)).trans (if_pos (Or.inr e1))
      rw [hs] at hj
      have := k5 j (by omega)
      rcases e1 with rfl | rfl
      · exact this.1
      · exact this.2
    · by_cases e2 : 219 ≤ k ∧ k ≤ 223
      · have hs : sdN k = 130 := (if_neg (by omega)).trans ((if_neg (by omega)).trans (if_pos e2))
        rw [hs] at hj
        exact k3 k e2.1 e2.2 j (by omega)
      · by_cases e3 : k = 224 ∨ k = 225
        · have hs : sdN k = 420 := (if_neg (by omega)).trans ((if_neg (by omega)).trans ((if_neg e2).trans (if_pos e3)))
          rw [hs] at hj
          have := k4 j (by omega)
          rcases e3 with rfl | rfl
          · exact this.1
          · exact this.2
        · rw [k1 k (fun h9 => by simp only [List.mem_cons, List.not_mem_nil, or_false] at h9; omega)]⟩
  refine ⟨I2, J, ?_, rf, kpJ.rf, ⟨fun z => (u3 z).choose_spec.1, fun z => u4 z⟩, fun z => ?_⟩
  · rw [show (999999 : Nat) = 999998 + 1 from rfl, runS_s, s_X12_tellOne_358, if_pos (show I 192 13 ≤ 0 by rw [cu.2.1, hc]; decide), t1, p_cv_s, u1, p_cv_s]; rfl
  · obtain ⟨cd', y1, y2, y3, y4, y5, y6, y7, y8, y9⟩ := u3 z
    have lp := lw_p hT hV 5 (tkS tok 61 (tkS tok (tok c.1).1 c)) (tkS_lt hT (k := 61) (by omega) (by omega) T1.1 T1.2).1 (tkS_lt hT (k := 61) (by omega) (by omega) T1.1 T1.2).2
    obtain ⟨v1, v2, v3, v4⟩ := lp.2 z
    obtain ⟨w1, -, -, w4⟩ := tk_z v1
    have x4 := (hz1 w1).2.2.2
    have ew : (tkS tok 61 (tkS tok (tok c.1).1 c)).1 = c.1 + 1 + 1 := by rw [w4, x4]
    have v4' : (tkS tok 61 (tkS tok (tok c.1).1 c)).1 + 4 * (lawT tok c).1.1.length + 2 ≤ (lawT tok c).2.1 := v4
    refine ⟨⟨sf.go (ff 15 (by decide)) (ff 16 (by decide)), nmm.go (ff 20 (by decide)) (kk 201 (by decide))⟩, cnM_go cn (by rw [kk 202 (by decide)]) (by rw [kk 203 (by decide)]) (by rw [kk 208 (by decide)]) (by rw [kk 210 (by decide)]), ?_, fun z9 => ⟨seM_go (seca z9).1 kk (by decide), caM_go (seca z9).2 kk (by decide)⟩, ⟨(ff 19 (by decide)).trans h19, y2⟩, br + (lawT tok c).1.1.length + 1, cd', ⟨y6, by omega, by omega⟩, ⟨y3, by omega, y4⟩, fun k hk4 => ?_⟩
    · unfold vlM at *; rw [kk 209 (by decide), kk 214 (by decide), kk 215 (by decide), kk 216 (by decide)]; exact vl
    · show (updA lw ((tok c.1).1 - 260) (lawT tok c).1 k = ([], [lawD k]) ∧ _) ∨ ∃ q, I2 217 (4 * v + k) = nI q ∧ I2 218 (4 * v + k) = nI (q + (updA lw ((tok c.1).1 - 260) (lawT tok c).1 k).1.length + 1) ∧ 130 * v ≤ q ∧ q + (updA lw ((tok c.1).1 - 260) (lawT tok c).1 k).1.length + 1 ≤ br + (lawT tok c).1.1.length + 1 ∧ atV (420 * v) cd' I2 q (updA lw ((tok c.1).1 - 260) (lawT tok c).1 k).1 (updA lw ((tok c.1).1 - 260) (lawT tok c).1 k).2
      by_cases e : k = (tok c.1).1 - 260
      · rw [e, uA_s]
        exact Or.inr ⟨br, y8, y9, b3, Nat.le_refl _, y7⟩
      · rw [uA_n e]
        have e7 := k5 (4 * v + k) (by omega)
        rw [e7.1, e7.2, t2 217 (by decide), t2 218 (by decide)]
        refine (hl k hk4).imp id (fun ⟨q, q1, q2, q3, q4, q5⟩ => ⟨q, q1, q2, q3, by omega, atV_up y5 _ _ _ (atV_kp _ _ _ (fun k' p s j p1 p2 => ?_) (fun j p1 p2 => ?_) q5)⟩)
        · rw [k3 k' p s j (by omega), t2 k' (fun h9 => by rw [List.mem_singleton] at h9; omega)]
        · have := k4 j (Or.inl p2)
          rw [t2 224 (by decide), t2 225 (by decide)] at this; exact this
end SV
