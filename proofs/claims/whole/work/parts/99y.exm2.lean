/-! ===== read: expressions (reference): its steps ===== -/
section SD
variable {I : Nat → Nat → Int32} {J : Nat → Nat → Int64} {d : Nat} {tok : Nat → TK} {T : Nat}
def cuF (I : Nat → Nat → Int32) (tok : Nat → TK) (c : Nat × Nat) : Prop := I 192 13 = nI c.2 ∧ I 192 14 = nI (tok c.1).2.1 ∧ c.2 ≠ 0 ∧ c.2 < 3
theorem cuM.f {c : Nat × Nat} (h : cuM I J tok T c) (hc : c.2 ≠ 0) : cuF I tok c := ⟨h.2.1, h.2.2.1 hc, hc, h.2.2.2.2.1⟩
theorem cuF.nz {c : Nat × Nat} (h : cuF I tok c) : ¬ I 192 13 = 0 := by rw [h.1, eq0_nI (by have := h.2.2.2; omega)]; exact h.2.2.1
theorem cuF.nl {c : Nat × Nat} (h : cuF I tok c) : ¬ I 192 13 ≤ 0 := by rw [h.1, le0_nI (by have := h.2.2.2; omega)]; exact h.2.2.1
theorem cuF.go {I' : Nat → Nat → Int32} {c : Nat × Nat} (h : cuF I tok c) (h3 : I' 192 13 = I 192 13) (h4 : I' 192 14 = I 192 14) : cuF I' tok c := ⟨h3.trans h.1, h4.trans h.2.1, h.2.2⟩
theorem cuM.go {I' : Nat → Nat → Int32} {c : Nat × Nat} {X : List Nat} (h : cuM I J tok T c) (hk : kp X I I') (hX : 195 ∉ X ∧ 196 ∉ X ∧ 197 ∉ X) (h1 : I' 192 11 = I 192 11) (h3 : I' 192 13 = I 192 13) (h4 : I' 192 14 = I 192 14) : cuM I' J tok T c :=
  ⟨h1.trans h.1, h3.trans h.2.1, fun h9 => h4.trans (h.2.2.1 h9), h.2.2.2.1, h.2.2.2.2.1, fun j hj => (h.2.2.2.2.2 j hj).kp hk hX⟩
theorem q_is' (hd : 1 ≤ d) (hT : TKS tok T) {c : Nat × Nat} (h : cuM I J tok T c) (x : Int32) (k : Nat) (hx : x = nI (kap k)) (hk : k < 300) (hv : vK k = true) : EV d T0 178 [.ref 192, .int x] (I, J) = some (some (.int (zI (c.2 = 0 ∧ (tok c.1).1 = k))), (I, J)) := by
  subst hx; exact q_is hd hT h hk hv
theorem q_isF (hd : 1 ≤ d) {c : Nat × Nat} (h : cuF I tok c) (x : Int32) : EV d T0 178 [.ref 192, .int x] (I, J) = some (some (.int 0), (I, J)) := by
  obtain ⟨d, rfl⟩ : ∃ z, d = z + 1 := ⟨d - 1, by omega⟩
  rw [e_X12_is, runS_M, s_X12_is_0, if_neg h.nz]; rfl
theorem ev_failF (hd : 1 ≤ d) {c : Nat × Nat} (h : cuF I tok c) (x : Int32) : EV d T0 179 [.ref 192, .int x] (I, J) = some (none, (I, J)) := by
  obtain ⟨d, rfl⟩ : ∃ z, d = z + 1 := ⟨d - 1, by omega⟩
  rw [e_X12_fail, runS_M, s_X12_fail_0, if_neg h.nl]; rfl
theorem ev_goF (hd : 2 ≤ d) {c : Nat × Nat} (h : cuF I tok c) {t : Nat} (h11 : I 192 11 = nI t) (ht : t ≤ 400) : ∃ I', EV d T0 181 [.ref 192] (I, J) = some (none, (I', J)) ∧ kp [192] I I' ∧ ∀ j, j ≠ 11 → I' 192 j = I 192 j := by
  obtain ⟨d, rfl⟩ : ∃ z, d = z + 1 := ⟨d - 1, by omega⟩
  rw [e_X12_goesOn, runS_M, s_X12_goesOn_0, h11]
  simp only [show (nI t = (400 : Int32)) = (t = 400) from eq_nI (b := 400) (by omega) (by omega)]
  by_cases e : t = 400
  · rw [if_pos e, ev_failF (by omega) h, p_cv_s]; exact ⟨I, rfl, kp.rf, fun _ _ => rfl⟩
  · rw [if_neg e]; exact ⟨_, rfl, kp.rf.wr (by decide), fun j hj => by rw [wr_eq, pk_un hj]⟩
theorem ev_unitF (hd : 2 ≤ d) {c : Nat × Nat} (h : cuF I tok c) : EV d T0 201 [.ref 192] (I, J) = some (none, (I, J)) := by
  obtain ⟨d, rfl⟩ : ∃ z, d = z + 1 := ⟨d - 1, by omega⟩
  rw [e_X12_unit, runS_M, s_X12_unit_0, q_isF (by omega) h, p_ci_s, if_pos rfl]
  try dsimp only
  rw [if_neg h.nz, ev_failF (by omega) h, p_cv_s]; rfl
/-- the reference at a place of an expression -/
def exP (d n pc : Nat) (I : Nat → Nat → Int32) (J : Nat → Nat → Int64) : Option Rs := runS (EV d) none 3 T0 C_X12_expression k_X12_expression rtV f_X12_expression n pc [.ref 192, .int (nI 0), un] [] (I, J)
theorem fE23 (hd : 3 ≤ d) {c : Nat × Nat} (h : cuF I tok c) {n : Nat} (hn : 2 ≤ n) : exP d n 23 I J = some (none, (I, J)) := by
  obtain ⟨n, rfl⟩ : ∃ z, n = z + 1 + 1 := ⟨n - 2, by omega⟩
  unfold exP
  rw [runS_s, s_X12_expression_23, q_isF (by omega) h, p_ci_s, if_pos rfl, ev_unitF (by omega) h, p_cv_s, runS_s, s_X12_expression_88, if_neg h.nl]; rfl
def edM (I I' : Nat → Nat → Int32) (tok : Nat → TK) (cd hi : Nat) (c : Nat × Nat) : Prop := kM I I' cd hi ∧ cuF I' tok c ∧ ∃ cd', I' 192 46 = nI cd' ∧ cd' ≤ hi
theorem edM.tr {I' I'' : Nat → Nat → Int32} {cd cd' hi : Nat} {c : Nat × Nat} (h : kM I I' cd hi) (h' : edM I' I'' tok cd' hi c) (hl : cd ≤ cd') : edM I I'' tok cd hi c := ⟨h.tr h'.1 hl, h'.2⟩
/-- comes out, with a fault -/
theorem ev_outF (hd : 2 ≤ d) {c : Nat × Nat} (h : cuF I tok c) {ws : List Nat} {cd hi : Nat} (hh : hi ≤ 840) (h46 : I 192 46 = nI cd) (h50 : I 192 50 = nI ws.length) (hw : wst (I 226) ws) (hl : ws.length ≤ 63) (hcd : cd + nsg ws ≤ hi) : ∃ I', EV d T0 199 [.ref 192, .int 0] (I, J) = some (none, (I', J)) ∧ edM I I' tok cd hi c := by
  obtain ⟨sg, w2, q1, q2, q3, q4⟩ := w_split ws hw
  subst q1
  obtain ⟨I', u1, u2, u3, u4, u5, u6, u7⟩ := ev_out (d := d) (I := I) (J := J) hd hh q2 q3 h46 (by omega) h50 hw hl
  exact ⟨I', u1, u3, h.go (u4 13 (by decide) (by decide)) (u4 14 (by decide) (by decide)), _, u5, by omega⟩
theorem fE96 (hd : 3 ≤ d) {c : Nat × Nat} (h : cuF I tok c) {ws : List Nat} {cd hi n : Nat} (hh : hi ≤ 840) (h46 : I 192 46 = nI cd) (h50 : I 192 50 = nI ws.length) (hw : wst (I 226) ws) (hl : ws.length ≤ 63) (hcd : cd + nsg ws ≤ hi) (hn : 4 ≤ n) : ∃ I', exP d n 96 I J = some (none, (I', J)) ∧ edM I I' tok cd hi c := by
  obtain ⟨n, rfl⟩ : ∃ z, n = z + 1 + 1 + 1 + 1 := ⟨n - 4, by omega⟩
  obtain ⟨I', u1, u2⟩ := ev_outF (d := d) (J := J) (by omega) h hh h46 h50 hw hl hcd
  refine ⟨I', ?_, u2⟩
  unfold exP
  rw [runS_s, s_X12_expression_96, q_isF (by omega) h, p_ci_s, if_pos rfl]
  try dsimp only
  rw [q_isF (by omega) h, p_ci_s, if_pos rfl, runS_s, s_X12_expression_154, q_isF (by omega) h, p_ci_s, if_pos rfl]
  try dsimp only
  rw [q_isF (by omega) h, p_ci_s, if_pos rfl, runS_s, s_X12_expression_172, q_isF (by omega) h, p_ci_s, if_pos rfl, runS_s, s_X12_expression_186, if_pos rfl, ev_failF (by omega) h, p_cv_s, u1, p_cv_s]
  split <;> rfl
/-- the reference's state in an expression -/
def mxS (I : Nat → Nat → Int32) (J : Nat → Nat → Int64) (tok : Nat → TK) (T : Nat) (ws : List Nat) (o cd : Nat) (c : Nat × Nat) : Prop := cuM I J tok T c ∧ I 192 12 = nI o ∧ I 192 46 = nI cd ∧ I 192 50 = nI ws.length ∧ wst (I 226) ws
theorem kap_v : ∀ k, k < 300 → vK k = true → ((270 ≤ k ∧ k ≤ 278) ↔ (34 ≤ kap k ∧ kap k ≤ 42)) := by decide +kernel
theorem kap_w (k : Nat) (h : 270 ≤ k) (h' : k ≤ 278) : kap k = k - 236 := (by decide +kernel : ∀ k, k < 300 → 270 ≤ k → k ≤ 278 → kap k = k - 236) k (by omega) h h'
theorem ev_unit (hd : 3 ≤ d) (hT : TKS tok T) (hV : TKV tok T) {c : Nat × Nat} (h : cuM I J tok T c) (hc : c.2 = 0) (h40 : (tok c.1).1 ≠ 40) {cd hi m o : Nat} (hh : hi ≤ 840) (h46 : I 192 46 = nI cd) (hcd : cd < hi) :
    ∃ I', EV d T0 201 [.ref 192] (I, J) = some (none, (I', J)) ∧ kM I I' cd hi ∧ I' 226 = I 226 ∧ (∀ j, j ∉ [11, 13, 14, 46] → I' 192 j = I 192 j) ∧ cuM I' J tok T (gr tok (m + 1) 0 o c).2 ∧ (∃ cd', I' 192 46 = nI cd' ∧ cd' ≤ hi) ∧ ((gr tok (m + 1) 0 o c).2.2 = 0 → I' 192 46 = nI (cd + (gr tok (m + 1) 0 o c).1.length) ∧ atR (I' 224) (I' 225) cd (gr tok (m + 1) 0 o c).1) := by
  obtain ⟨d, rfl⟩ : ∃ z, d = z + 1 := ⟨d - 1, by omega⟩
  have hTT := hT.2.1
  have h1 := h.2.2.2.1
  have hkd := hT.2.2.1 c.1 h1
  have ekd : I 195 c.1 = nI (kap (tok c.1).1) := (h.2.2.2.2.2 c.1 h1).1
  have e11 : I 192 11 = nI c.1 := h.1
  have e13 : I 192 13 = 0 := by rw [h.2.1, hc]; rfl
  have hp : ∀ z : Option Rs, p_chk (p_in (nI c.1) 403) z = z := fun z => chk_in (by omega) (by omega)
  have hgo : ∀ (x y : Int32) (op : Op) (k n pc : Nat), x = nI op.1 → y = nI op.2 → (tok c.1).1 = k → k ≠ 0 → k ≠ 1 → (pc = 22 ∨ pc = 81) → gr tok (m + 1) 0 o c = ([op], tkS tok k c) → ∃ I', p_cv (EV d T0 198 [.ref 192, .int x, .int y] (I, J)) (fun z7 => runS (EV d) none 1 T0 C_X12_unit k_X12_unit rtV f_X12_unit (n + 1) pc [.ref 192] [] z7) = some (none, (I', J)) ∧ kM I I' cd hi ∧ I' 226 = I 226 ∧ (∀ j, j ∉ [11, 13, 14, 46] → I' 192 j = I 192 j) ∧ cuM I' J tok T (gr tok (m + 1) 0 o c).2 ∧ (∃ cd', I' 192 46 = nI cd' ∧ cd' ≤ hi) ∧ ((gr tok (m + 1) 0 o c).2.2 = 0 → I' 192 46 = nI (cd + (gr tok (m + 1) 0 o c).1.length) ∧ atR (I' 224) (I' 225) cd (gr tok (m + 1) 0 o c).1) := by
    intro x y op k n pc hx hy hk hk0 hk1 hpc hg
    rw [ev_emit (by omega) h46 (by omega), p_cv_s, hx, hy, hg]
    have km := em_K (I := I) (x := nI op.1) (y := nI op.2) hcd
    have cu1 : cuM (emI I cd (nI op.1) (nI op.2)) J tok T c := h.go km.1 (by decide) (em_f (by decide)) (em_f (by decide)) (em_f (by decide))
    obtain ⟨I2, t1, t2, t3, t4⟩ := ev_goesOn (d := d) (J := J) (by omega) hT cu1 (by rw [hk]; exact hk0) (by rw [hk]; exact hk1) hc
    have e224 : I2 224 = emI I cd (nI op.1) (nI op.2) 224 := t2 224 (by decide)
    have e225 : I2 225 = emI I cd (nI op.1) (nI op.2) 225 := t2 225 (by decide)
    have e46 : I2 192 46 = nI (cd + 1) := by rw [t3 46 (by decide) (by decide) (by decide)]; exact em_46
    refine ⟨I2, ?_, ?_, ?_, fun j hj => ?_, ?_, ⟨cd + 1, e46, by omega⟩, fun _ => ⟨e46, ?_⟩⟩
    · rcases hpc with rfl | rfl
      · rw [runS_s, s_X12_unit_22, t1, p_cv_s]; rfl
      · rw [runS_s, s_X12_unit_81, t1, p_cv_s]; rfl
    · refine km.tr (cd' := cd) ⟨t2.up (by decide), fun j hj => t3 j (fun e => hj (by rw [e]; decide)) (fun e => hj (by rw [e]; decide)) (fun e => hj (by rw [e]; decide)), fun j _ => ⟨by rw [e224], by rw [e225]⟩⟩ (Nat.le_refl _)
    · rw [t2 226 (by decide), em_c (by decide)]
    · rw [t3 j (fun e => hj (by rw [e]; decide)) (fun e => hj (by rw [e]; decide)) (fun e => hj (by rw [e]; decide)), em_f (fun e => hj (by rw [e]; decide))]
    · rw [go_tk (tok := tok) hc hk (by omega)]; exact t4
    · rw [e224, e225]; exact em_at op
  have hbad : (tok c.1).1 ≠ 3 → ¬ (270 ≤ (tok c.1).1 ∧ (tok c.1).1 ≤ 278) → ∃ I', p_cv (EV d T0 179 [.ref 192, .int 1] (I, J)) (fun z4 => rtV none z4) = some (none, (I', J)) ∧ kM I I' cd hi ∧ I' 226 = I 226 ∧ (∀ j, j ∉ [11, 13, 14, 46] → I' 192 j = I 192 j) ∧ cuM I' J tok T (gr tok (m + 1) 0 o c).2 ∧ (∃ cd', I' 192 46 = nI cd' ∧ cd' ≤ hi) ∧ ((gr tok (m + 1) 0 o c).2.2 = 0 → I' 192 46 = nI (cd + (gr tok (m + 1) 0 o c).1.length) ∧ atR (I' 224) (I' 225) cd (gr tok (m + 1) 0 o c).1) := by
    intro k3 kv
    rw [gr_bad hc k3 kv h40]
    obtain ⟨I1, t1, t2, t3, t4⟩ := ev_fail (d := d) (I := I) (J := J) (by omega) hT h (k := 1) (by omega)
    have t1' : EV d T0 179 [.ref 192, .int 1] (I, J) = _ := t1
    have e9 : flS 1 c = (c.1, 1) := if_pos hc
    rw [e9] at t4
    rw [t1', p_cv_s]
    refine ⟨I1, rfl, ⟨t2.up (by decide), fun j hj => t3 j (fun e => hj (by rw [e]; decide)) (fun e => hj (by rw [e]; decide)) (fun e => hj (by rw [e]; decide)), fun j _ => ⟨by rw [t2 224 (by decide)], by rw [t2 225 (by decide)]⟩⟩, t2 226 (by decide), fun j hj => t3 j (fun e => hj (by rw [e]; decide)) (fun e => hj (by rw [e]; decide)) (fun e => hj (by rw [e]; decide)), t4, ⟨cd, by rw [t3 46 (by decide) (by decide) (by decide)]; exact h46, by omega⟩, fun h9 => absurd (show 1 = 0 from h9) (by omega)⟩
  rw [e_X12_unit, runS_M, s_X12_unit_0, q_is' (by omega) hT h 2 3 (by decide) (by decide) (by decide), p_ci_s]
  by_cases k3 : (tok c.1).1 = 3
  · rw [if_neg (by rw [zI_t ⟨hc, k3⟩]; decide)]
    try dsimp only
    rw [e11, hp, nI_clamp (by omega), (h.2.2.2.2.2 c.1 h1).2.2.1 k3]
    exact hgo 0 (nI (tok c.1).2.2.1) (0, (tok c.1).2.2.1) 3 999998 22 rfl rfl k3 (by omega) (by omega) (Or.inl rfl) (gr_int hc k3)
  · rw [if_pos (zI_f (fun h9 => k3 h9.2))]
    try dsimp only
    rw [if_pos e13]
    simp only [e11, hp, nI_clamp (show c.1 < 2 ^ 31 by omega), ekd]
    have kb : kap (tok c.1).1 < 300 := kap_b _ hkd.1 hkd.2.1
    simp only [show (nI (kap (tok c.1).1) < (34 : Int32)) = (kap (tok c.1).1 < 34) from lt_nI (b := 34) (by omega) (by omega), show ((42 : Int32) < nI (kap (tok c.1).1)) = (42 < kap (tok c.1).1) from lt_nI (a := 42) (by omega) (by omega)]
    have hkv := kap_v (tok c.1).1 hkd.1 hkd.2.1
    by_cases kv : 270 ≤ (tok c.1).1 ∧ (tok c.1).1 ≤ 278
    · obtain ⟨w1, w2⟩ := hkv.mp kv
      have w3 := kap_w (tok c.1).1 kv.1 kv.2
      rw [if_neg (by omega), if_neg (by omega), w3, show (34 : Int32) = nI 34 from rfl, pk_sub (by omega), show (tok c.1).1 - 236 - 34 = (tok c.1).1 - 270 by omega]
      exact hgo 1 (nI ((tok c.1).1 - 270)) (1, (tok c.1).1 - 270) (tok c.1).1 999998 81 rfl rfl rfl (by omega) (by omega) (Or.inr rfl) (gr_var hc kv)
    · by_cases c34 : kap (tok c.1).1 < 34
      · rw [if_pos c34]; exact hbad k3 kv
      · rw [if_neg c34, if_pos (by
          rcases Nat.lt_or_ge 42 (kap (tok c.1).1) with h9 | h9
          · exact h9
          · exact absurd (hkv.mpr ⟨by omega, h9⟩) kv)]; exact hbad k3 kv
end SD
