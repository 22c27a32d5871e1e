/-! ===== read: expressions (reference): brackets ===== -/
section SF
variable {J : Nat → Nat → Int64} {d : Nat} {tok : Nat → TK} {T : Nat}
theorem kM_w {I I' : Nat → Nat → Int32} {cd hi : Nat} {X : List Nat} (hk : kp X I I') (hX : ∀ k ∈ X, k = 192 ∨ k = 226) (hf : ∀ j, j ∉ [11, 12, 13, 14, 46, 50] → I' 192 j = I 192 j) : kM I I' cd hi :=
  ⟨hk.up (fun k h9 => by rcases hX k h9 with e | e <;> rw [e] <;> decide), hf, fun j _ => ⟨by rw [hk 224 (fun h9 => by have := hX 224 h9; omega)], by rw [hk 225 (fun h9 => by have := hX 225 h9; omega)]⟩⟩
theorem kM_o {I I' : Nat → Nat → Int32} {cd hi : Nat} (hk : kp [192] I I') (hf : ∀ j, j ∉ [11, 12, 13, 14, 46, 50] → I' 192 j = I 192 j) : kM I I' cd hi := kM_w hk (fun k h9 => by rw [List.mem_singleton] at h9; exact Or.inl h9) hf
/-- no sign -/
theorem ns_step (hd : 3 ≤ d) (hT : TKS tok T) {I : Nat → Nat → Int32} {o n : Nat} {c : Nat × Nat} (cu : cuM I J tok T c) (e12 : I 192 12 = nI o) (ho : o ≤ 7) (h4 : ¬ is4 (tok c.1).1) (h3 : ¬ is3 (tok c.1).1) (h41 : (tok c.1).1 ≠ 41 ∨ o = 0) : exP d (n + 1 + 1 + 1) 96 I J = runS (EV d) none 3 T0 C_X12_expression k_X12_expression rtV f_X12_expression n 186 [.ref 192, .int (nI 0), un] [.int 0] (I, J) := by
  have q7 := q_is' (d := d) (J := J) (by omega) hT cu 7 41 (by decide) (by decide) (by decide)
  have q8 := q_is' (d := d) (J := J) (by omega) hT cu 8 43 (by decide) (by decide) (by decide)
  have q9 := q_is' (d := d) (J := J) (by omega) hT cu 9 45 (by decide) (by decide) (by decide)
  have q10 := q_is' (d := d) (J := J) (by omega) hT cu 10 42 (by decide) (by decide) (by decide)
  have q15 := q_is' (d := d) (J := J) (by omega) hT cu 15 47 (by decide) (by decide) (by decide)
  have no : ∀ q : Nat, (tok c.1).1 ≠ q → zI (c.2 = 0 ∧ (tok c.1).1 = q) = 0 := fun q e => zI_f (fun h9 => e h9.2)
  unfold is4 at h4
  unfold is3 at h3
  have hrest : runS (EV d) none 3 T0 C_X12_expression k_X12_expression rtV f_X12_expression (n + 1 + 1) 154 [.ref 192, .int (nI 0), un] [] (I, J) = runS (EV d) none 3 T0 C_X12_expression k_X12_expression rtV f_X12_expression n 186 [.ref 192, .int (nI 0), un] [.int 0] (I, J) := by
    rw [runS_s, s_X12_expression_154, q9, p_ci_s, no 45 (by omega), if_pos rfl]
    try dsimp only
    rw [q10, p_ci_s, no 42 (by omega), if_pos rfl, runS_s, s_X12_expression_172, q15, p_ci_s, no 47 (by omega), if_pos rfl]
  unfold exP
  rw [runS_s, s_X12_expression_96, q7, p_ci_s]
  by_cases c7 : zI (c.2 = 0 ∧ (tok c.1).1 = 41) = 0
  · rw [if_pos c7]
    try dsimp only
    rw [q8, p_ci_s, no 43 (by omega), if_pos rfl]; exact hrest
  · have h9 : (tok c.1).1 = 41 := by
      by_cases h8 : (tok c.1).1 = 41
      · exact h8
      · exact absurd (no 41 h8) c7
    have ho0 : o = 0 := by omega
    rw [if_neg c7]
    try dsimp only
    rw [if_pos (show I 192 12 ≤ nI 0 by rw [e12, ho0]; decide), q8, p_ci_s, no 43 (by omega), if_pos rfl]; exact hrest
theorem close_step (hd : 3 ≤ d) (hT : TKS tok T) {I : Nat → Nat → Int32} {pd ws : List Nat} {o cd hi n : Nat} {c : Nat × Nat} (hh : hi ≤ 840) (h : mxS I J tok T (pd ++ 40 :: ws) (o + 1) cd c) (ho : o < 6) (hc : c.2 = 0) (h4 : ¬ is4 (tok c.1).1) (h3 : ¬ is3 (tok c.1).1) (hg : goL 0 pd) (hl : pd.length + ws.length ≤ 60) (hcd : cd + pd.length + nsg ws ≤ hi) (hn : 8 ≤ n) :
    ((tkS tok 41 c).2 = 0 → ∃ I' n', exP d n 96 I J = exP d n' 96 I' J ∧ n ≤ n' + 2 ∧ kM I I' cd hi ∧ mxS I' J tok T ws o (cd + pd.length) (tkS tok 41 c) ∧ atR (I' 224) (I' 225) cd (pd.map sgO)) ∧
    ((tkS tok 41 c).2 ≠ 0 → ∃ I', exP d n 96 I J = some (none, (I', J)) ∧ edM I I' tok cd hi (tkS tok 41 c)) := by
  have hTT := hT.2.1
  obtain ⟨cu, e12, e46, e50, hw⟩ := h
  have h1 := cu.2.2.2.1
  have hl2 : (pd ++ 40 :: ws).length ≤ 63 := by rw [List.length_append, List.length_cons]; omega
  have hg40 : nsg (40 :: ws) = nsg ws := by show (if (40 : Nat) = 40 then 0 else 1) + nsg ws = nsg ws; rw [if_pos rfl]; omega
  by_cases k : (tok c.1).1 = 41
  · obtain ⟨n, rfl⟩ : ∃ z, n = z + 1 + 1 := ⟨n - 2, by omega⟩
    obtain ⟨I2, u1, u2, u3, u4, u5, u6, u7⟩ := ev_out (d := d) (I := I) (J := J) (by omega) hh hg (show stL 0 (40 :: ws) from Or.inl rfl) e46 (by omega) e50 hw hl2
    have cu2 : cuM I2 J tok T c := cu.go u2 (by decide) (u4 11 (by decide) (by decide)) (u4 13 (by decide) (by decide)) (u4 14 (by decide) (by decide))
    have w2 : wst (I2 226) ws := by rw [u2 226 (by decide)]; exact (wst_app pd (40 :: ws) hw).2
    let I3 := p_wr (p_wr I2 192 50 (nI ws.length)) 192 12 (nI o)
    have k3 : kp [192] I2 I3 := (kp.rf.wr (by decide)).wr (by decide)
    have f3 : ∀ j, j ≠ 50 → j ≠ 12 → I3 192 j = I2 192 j := fun j a b => by show p_wr (p_wr I2 192 50 _) 192 12 _ 192 j = _; rw [wr_eq, pk_un b, wr_eq, pk_un a]
    have cu3 : cuM I3 J tok T c := cu2.go k3 (by decide) (f3 11 (by decide) (by decide)) (f3 13 (by decide) (by decide)) (f3 14 (by decide) (by decide))
    obtain ⟨I4, t1, t2, t3, t4⟩ := ev_goesOn (d := d) (J := J) (by omega) hT cu3 (by omega) (by omega) hc
    rw [← go_tk (tok := tok) hc k (by omega)] at t4
    have t3' : ∀ j, j ∉ [11, 13, 14, 50, 12] → I4 192 j = I2 192 j := fun j hj => (t3 j (fun e => hj (by rw [e]; decide)) (fun e => hj (by rw [e]; decide)) (fun e => hj (by rw [e]; decide))).trans (f3 j (fun e => hj (by rw [e]; decide)) (fun e => hj (by rw [e]; decide)))
    have km4 : kM I I4 cd hi := u3.tr (cd' := cd) (kM_o (k3.tr t2) (fun j hj => t3' j (fun h9 => hj ((by decide : ∀ j ∈ [11, 13, 14, 50, 12], j ∈ [11, 12, 13, 14, 46, 50]) j h9)))) (Nat.le_refl _)
    have e46' : I4 192 46 = nI (cd + pd.length) := by rw [t3' 46 (by decide)]; exact u5
    have e50' : I4 192 50 = nI ws.length := by
      rw [t3 50 (by decide) (by decide) (by decide)]
      show p_wr (p_wr I2 192 50 _) 192 12 _ 192 50 = _
      rw [wr_eq, pk_un (by decide), wr_eq, pk_us]
    have e12' : I4 192 12 = nI o := by
      rw [t3 12 (by decide) (by decide) (by decide)]
      show p_wr (p_wr I2 192 50 _) 192 12 _ 192 12 = _
      rw [wr_eq, pk_us]
    have w4 : wst (I4 226) ws := by rw [t2 226 (by decide), k3 226 (by decide)]; exact w2
    have h96 : exP d (n + 1 + 1) 96 I J = exP d n 96 I4 J := by
      have q7 := q_is' (d := d) (J := J) (by omega) hT cu 7 41 (by decide) (by decide) (by decide)
      unfold exP
      rw [runS_s, s_X12_expression_96, q7, p_ci_s, if_neg (by rw [zI_t ⟨hc, k⟩]; decide)]
      try dsimp only
      rw [if_neg (show ¬ I 192 12 ≤ nI 0 by rw [e12]; exact nI_ge (a := 0) (b := o + 1) (by omega) (by omega)), u1, p_cv_s, runS_s, s_X12_expression_118, u6, u4 12 (by decide) (by decide), e12, List.length_cons, nI_pred, nI_pred, t1, p_cv_s]
    rw [h96]
    constructor
    · intro hz
      exact ⟨I4, n, rfl, by omega, km4, ⟨t4, e12', e46', e50', w4⟩, by rw [t2 224 (by decide), t2 225 (by decide), k3 224 (by decide), k3 225 (by decide)]; exact u7⟩
    · intro hz
      obtain ⟨I5, v1, v2⟩ := fE96 (d := d) (J := J) hd (t4.f hz) (ws := ws) (n := n) hh e46' e50' w4 (by omega) hcd (by omega)
      exact ⟨I5, v1, edM.tr km4 v2 (by omega)⟩
  · have et : tkS tok 41 c = (c.1, 1) := by unfold tkS; rw [if_pos hc, if_neg k]
    rw [et]
    refine ⟨fun h9 => absurd (show 1 = 0 from h9) (by omega), fun _ => ?_⟩
    obtain ⟨n, rfl⟩ : ∃ z, n = z + 1 + 1 + 1 + 1 := ⟨n - 4, by omega⟩
    rw [ns_step (n := n + 1) hd hT cu e12 (by omega) h4 h3 (Or.inl k)]
    obtain ⟨I1, t1, t2, t3, t4⟩ := ev_fail (d := d) (I := I) (J := J) (by omega) hT cu (k := 1) (by omega)
    have t1' : EV d T0 179 [.ref 192, .int 1] (I, J) = _ := t1
    have e9 : flS 1 c = (c.1, 1) := if_pos hc
    rw [e9] at t4
    have cf := t4.f (show (1 : Nat) ≠ 0 by omega)
    have f1 : ∀ j, j ∉ [11, 13, 14] → I1 192 j = I 192 j := fun j hj => t3 j (fun e => hj (by rw [e]; decide)) (fun e => hj (by rw [e]; decide)) (fun e => hj (by rw [e]; decide))
    obtain ⟨I2, u1, u2⟩ := ev_outF (d := d) (J := J) (by omega) cf (ws := pd ++ 40 :: ws) (cd := cd) (hi := hi) hh ((f1 46 (by decide)).trans e46) ((f1 50 (by decide)).trans e50) (by rw [t2 226 (by decide)]; exact hw) hl2 (by rw [nsg_app, nsg_go hg, hg40]; omega)
    refine ⟨I2, ?_, edM.tr (cd' := cd) (kM_o t2 (fun j hj => f1 j (fun h9 => hj ((by decide : ∀ j ∈ [11, 13, 14], j ∈ [11, 12, 13, 14, 46, 50]) j h9)))) u2 (Nat.le_refl _)⟩
    rw [runS_s, s_X12_expression_186, if_pos rfl, e12, if_neg (nI_ge (a := 0) (b := o + 1) (by omega) (by omega)), t1', p_cv_s, u1, p_cv_s]; rfl
/-- at a bracket that opens -/
theorem open_46 {I0 I2 : Nat → Nat → Int32} {ws : List Nat} {o n : Nat} (hl : ws.length ≤ 60) (a1 : I0 192 12 = nI o) (a2 : EV d T0 181 [.ref 192] (p_wr I0 192 12 (nI (o + 1)), J) = some (none, (I2, J))) (a3 : I2 192 50 = nI ws.length) : runS (EV d) none 3 T0 C_X12_expression k_X12_expression rtV f_X12_expression (n + 1) 46 [.ref 192, .int (nI 0), un] [] (I0, J) = exP d n 23 (p_wr (p_wr I2 226 ws.length 6) 192 50 (nI (ws.length + 1))) J := by
  rw [runS_s, s_X12_expression_46, a1, nI_1, a2, p_cv_s]
  try dsimp only
  rw [a3, chk_in (by omega) (by omega), nI_clamp (by omega), nI_1]; rfl
theorem open_kp {I2 : Nat → Nat → Int32} {q : Nat} : kp [192, 226] I2 (p_wr (p_wr I2 226 q 6) 192 50 (nI (q + 1))) := (kp.rf.wr (by decide)).wr (by decide)
theorem open_f {I2 : Nat → Nat → Int32} {q j : Nat} (hj : j ≠ 50) : p_wr (p_wr I2 226 q 6) 192 50 (nI (q + 1)) 192 j = I2 192 j := by rw [wr_eq, pk_un hj, wr_ne (by decide)]
theorem open_step (hd : 3 ≤ d) (hT : TKS tok T) {I : Nat → Nat → Int32} {ws : List Nat} {o cd hi n : Nat} {c : Nat × Nat} (h : mxS I J tok T ws o cd c) (hc : c.2 = 0) (k : (tok c.1).1 = 40) (hl : ws.length ≤ 60) (hcd : cd ≤ hi) (ho : o < 6) (hn : 8 ≤ n) :
    ((tkS tok 40 c).2 = 0 → ∃ I' n', exP d n 23 I J = exP d n' 23 I' J ∧ n ≤ n' + 2 ∧ kM I I' cd hi ∧ mxS I' J tok T (40 :: ws) (o + 1) cd (tkS tok 40 c)) ∧
    ((tkS tok 40 c).2 ≠ 0 → ∃ I', exP d n 23 I J = some (none, (I', J)) ∧ edM I I' tok cd hi (tkS tok 40 c)) := by
  have hTT := hT.2.1
  obtain ⟨cu, e12, e46, e50, hw⟩ := h
  have h1 := cu.2.2.2.1
  obtain ⟨n, rfl⟩ : ∃ z, n = z + 1 + 1 := ⟨n - 2, by omega⟩
  have q6 := q_is' (d := d) (J := J) (by omega) hT cu 6 40 (by decide) (by decide) (by decide)
  have x1 : kp [192] I (p_wr I 192 12 (nI (o + 1))) := kp.rf.wr (by decide)
  have f1 : ∀ j, j ≠ 12 → p_wr I 192 12 (nI (o + 1)) 192 j = I 192 j := fun j hj => by rw [wr_eq, pk_un hj]
  have cu1 : cuM (p_wr I 192 12 (nI (o + 1))) J tok T c := cu.go x1 (by decide) (f1 11 (by decide)) (f1 13 (by decide)) (f1 14 (by decide))
  obtain ⟨I2, t1, t2, t3, t4⟩ := ev_goesOn (d := d) (J := J) (by omega) hT cu1 (by omega) (by omega) hc
  rw [← go_tk (tok := tok) hc k (by omega)] at t4
  have t3' : ∀ j, j ∉ [11, 13, 14, 12] → I2 192 j = I 192 j := fun j hj => (t3 j (fun e => hj (by rw [e]; decide)) (fun e => hj (by rw [e]; decide)) (fun e => hj (by rw [e]; decide))).trans (f1 j (fun e => hj (by rw [e]; decide)))
  have e50' : I2 192 50 = nI ws.length := (t3' 50 (by decide)).trans e50
  have h23 : exP d (n + 1 + 1) 23 I J = exP d n 23 (p_wr (p_wr I2 226 ws.length 6) 192 50 (nI (ws.length + 1))) J := by
    unfold exP
    rw [runS_s, s_X12_expression_23, q6, p_ci_s, if_neg (by rw [zI_t ⟨hc, k⟩]; decide)]
    try dsimp only
    rw [if_neg (by rw [e12, show (6 : Int32) = nI 6 from rfl, nI_eq (by omega) (by omega)]; omega)]
    exact open_46 hl e12 t1 e50'
  have kp3 : kp [192, 226] I (p_wr (p_wr I2 226 ws.length 6) 192 50 (nI (ws.length + 1))) := ((x1.tr t2).up (by decide)).tr open_kp
  have cu3 : cuM (p_wr (p_wr I2 226 ws.length 6) 192 50 (nI (ws.length + 1))) J tok T (tkS tok 40 c) := t4.go open_kp (by decide) (open_f (by decide)) (open_f (by decide)) (open_f (by decide))
  have km : kM I (p_wr (p_wr I2 226 ws.length 6) 192 50 (nI (ws.length + 1))) cd hi := kM_w kp3 (by decide) (fun j hj => by rw [open_f (fun e => hj (by rw [e]; decide)), t3' j (fun h9 => hj ((by decide : ∀ j ∈ [11, 13, 14, 12], j ∈ [11, 12, 13, 14, 46, 50]) j h9))])
  have e46' : p_wr (p_wr I2 226 ws.length 6) 192 50 (nI (ws.length + 1)) 192 46 = nI cd := by rw [open_f (by decide), t3' 46 (by decide)]; exact e46
  rw [h23]
  constructor
  · intro hz
    refine ⟨_, n, rfl, by omega, km, cu3, ?_, e46', ?_, ?_⟩
    · rw [open_f (by decide), t3 12 (by decide) (by decide) (by decide), wr_eq, pk_us]
    · rw [wr_eq, pk_us]; rfl
    · rw [wr_ne (by decide), wr_eq, t2 226 (by decide), x1 226 (by decide)]
      exact wst_push hw (Or.inl rfl)
  · intro hz
    exact ⟨_, fE23 hd (cu3.f hz) (by omega), km, cu3.f hz, cd, e46', hcd⟩
theorem open_deep (hd : 3 ≤ d) (hT : TKS tok T) {I : Nat → Nat → Int32} {ws : List Nat} {cd hi n : Nat} {c : Nat × Nat} (h : mxS I J tok T ws 6 cd c) (hc : c.2 = 0) (k : (tok c.1).1 = 40) (hl : ws.length ≤ 60) (hcd : cd ≤ hi) (hn : 8 ≤ n) : ∃ I', exP d n 23 I J = some (none, (I', J)) ∧ edM I I' tok cd hi (c.1, 2) := by
  have hTT := hT.2.1
  obtain ⟨cu, e12, e46, e50, hw⟩ := h
  have h1 := cu.2.2.2.1
  obtain ⟨n, rfl⟩ : ∃ z, n = z + 1 + 1 := ⟨n - 2, by omega⟩
  have q6 := q_is' (d := d) (J := J) (by omega) hT cu 6 40 (by decide) (by decide) (by decide)
  obtain ⟨I1, t1, t2, t3, t4⟩ := ev_fail (d := d) (I := I) (J := J) (by omega) hT cu (k := 2) (by omega)
  have t1' : EV d T0 179 [.ref 192, .int 2] (I, J) = _ := t1
  have e9 : flS 2 c = (c.1, 2) := if_pos hc
  rw [e9] at t4
  have f1 : ∀ j, j ∉ [11, 13, 14] → I1 192 j = I 192 j := fun j hj => t3 j (fun e => hj (by rw [e]; decide)) (fun e => hj (by rw [e]; decide)) (fun e => hj (by rw [e]; decide))
  have e12' : I1 192 12 = nI 6 := (f1 12 (by decide)).trans e12
  have x2 : kp [192] I1 (p_wr I1 192 12 (nI (6 + 1))) := kp.rf.wr (by decide)
  have f2 : ∀ j, j ≠ 12 → p_wr I1 192 12 (nI (6 + 1)) 192 j = I1 192 j := fun j hj => by rw [wr_eq, pk_un hj]
  have cu2 : cuM (p_wr I1 192 12 (nI (6 + 1))) J tok T (c.1, 2) := t4.go x2 (by decide) (f2 11 (by decide)) (f2 13 (by decide)) (f2 14 (by decide))
  obtain ⟨I2, u1, u2, u3⟩ := ev_goF (d := d) (J := J) (by omega) (cu2.f (show (2 : Nat) ≠ 0 by omega)) cu2.1 (show c.1 ≤ 400 by omega)
  have u3' : ∀ j, j ∉ [11, 13, 14, 12] → I2 192 j = I 192 j := fun j hj => (u3 j (fun e => hj (by rw [e]; decide))).trans ((f2 j (fun e => hj (by rw [e]; decide))).trans (f1 j (fun h9 => hj ((by decide : ∀ j ∈ [11, 13, 14], j ∈ [11, 13, 14, 12]) j h9))))
  have cf2 : cuF I2 tok (c.1, 2) := (cu2.f (show (2 : Nat) ≠ 0 by omega)).go (u3 13 (by decide)) (u3 14 (by decide))
  have cf3 : cuF (p_wr (p_wr I2 226 ws.length 6) 192 50 (nI (ws.length + 1))) tok (c.1, 2) := cf2.go (open_f (by decide)) (open_f (by decide))
  refine ⟨p_wr (p_wr I2 226 ws.length 6) 192 50 (nI (ws.length + 1)), ?_, ?_, cf3, cd, ?_, hcd⟩
  · unfold exP
    rw [runS_s, s_X12_expression_23, q6, p_ci_s, if_neg (by rw [zI_t ⟨hc, k⟩]; decide)]
    try dsimp only
    rw [if_pos (by rw [e12]; rfl), t1', p_cv_s, open_46 (d := d) hl e12' u1 ((u3' 50 (by decide)).trans e50)]
    exact fE23 hd cf3 (by omega)
  · exact kM_w (((t2.tr (x2.tr u2)).up (by decide)).tr open_kp) (by decide) (fun j hj => by rw [open_f (fun e => hj (by rw [e]; decide)), u3' j (fun h9 => hj ((by decide : ∀ j ∈ [11, 13, 14, 12], j ∈ [11, 12, 13, 14, 46, 50]) j h9))])
  · rw [open_f (by decide), u3' 46 (by decide)]; exact e46
end SF
