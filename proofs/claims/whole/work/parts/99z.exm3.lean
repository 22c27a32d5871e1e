/-! ===== read: expressions (reference), by the tokens ===== -/
section SE
variable {J : Nat → Nat → Int64} {d : Nat} {tok : Nat → TK} {T : Nat}
/-- what may wait besides: nothing; a sign of a product; that and a sign of a sum -/
def isPd (md : Nat) (pd : List Nat) : Prop := if md = 0 then pd = [] else if md = 1 ∨ md = 3 then goL 1 pd ∧ pd.length ≤ 1 else goL 0 pd ∧ pd.length ≤ 2
def hdW (md : Nat) (ws : List Nat) : Prop := if md = 0 then True else if md = 1 ∨ md = 3 then stL 1 ws else stL 0 ws
theorem pd_0 {pd : List Nat} : isPd 0 pd ↔ pd = [] := by unfold isPd; rw [if_pos rfl]
theorem pd_1 {md : Nat} (h : md = 1 ∨ md = 3) {pd : List Nat} : isPd md pd ↔ (goL 1 pd ∧ pd.length ≤ 1) := by unfold isPd; rw [if_neg (by omega), if_pos h]
theorem pd_2 {md : Nat} (h : md = 2 ∨ md = 4) {pd : List Nat} : isPd md pd ↔ (goL 0 pd ∧ pd.length ≤ 2) := by unfold isPd; rw [if_neg (by omega), if_neg (by omega)]
theorem hd_1 {md : Nat} (h : md = 1 ∨ md = 3) {ws : List Nat} : hdW md ws ↔ stL 1 ws := by unfold hdW; rw [if_neg (by omega), if_pos h]
theorem hd_2 {md : Nat} (h : md = 2 ∨ md = 4) {ws : List Nat} : hdW md ws ↔ stL 0 ws := by unfold hdW; rw [if_neg (by omega), if_neg (by omega)]
theorem go_10 : ∀ {pd : List Nat}, goL 1 pd → goL 0 pd := by
  intro pd
  induction pd with
  | nil => intro _; trivial
  | cons w l ih => intro h; exact ⟨⟨h.1.1, fun h9 => h.1.2 (h9.elim Or.inl (fun h8 => absurd rfl h8.1))⟩, ih h.2⟩
theorem st_01 {ws : List Nat} (h : stL 0 ws) : stL 1 ws := by
  cases ws with
  | nil => trivial
  | cons w l => exact (show stW 0 w from h).elim Or.inl (fun h8 => absurd rfl h8.1)
theorem go_app {a : Int32} : ∀ {l m : List Nat}, goL a l → goL a m → goL a (l ++ m) := by
  intro l
  induction l with
  | nil => intro m _ h; exact h
  | cons w l ih => intro m h h'; exact ⟨h.1, ih h.2 h'⟩
theorem nsg_go : ∀ {pd : List Nat}, goL 0 pd → nsg pd = pd.length := by
  intro pd
  induction pd with
  | nil => intro _; rfl
  | cons w l ih =>
    intro h
    show (if w = 40 then 0 else 1) + nsg l = l.length + 1
    rw [if_neg (fun e => h.1.2 (Or.inl e)), ih h.2]; omega
theorem pd_go {md : Nat} (hm : md ≤ 4) {pd : List Nat} (h : isPd md pd) : goL 0 pd ∧ pd.length ≤ 2 := by
  have hmd : md = 0 ∨ (md = 1 ∨ md = 3) ∨ (md = 2 ∨ md = 4) := by omega
  rcases hmd with rfl | e | e
  · rw [pd_0] at h; subst h; exact ⟨trivial, Nat.zero_le _⟩
  · rw [pd_1 e] at h; exact ⟨go_10 h.1, by omega⟩
  · rw [pd_2 e] at h; exact h
/-- a sign -/
theorem sgn_step (hd : 3 ≤ d) (hT : TKS tok T) {I : Nat → Nat → Int32} {pd ws : List Nat} {o cd hi n k : Nat} {c : Nat × Nat} {a : Int32} (hh : hi ≤ 840) (h : mxS I J tok T (pd ++ ws) o cd c) (hc : c.2 = 0) (hk : (tok c.1).1 = k) (hk4 : (is4 k ∧ a = 1) ∨ (is3 k ∧ a = 0)) (hg : goL a pd) (hs : stL a ws) (hl : (pd ++ ws).length ≤ 60) (hcd : cd + pd.length ≤ hi) (hcd2 : cd + nsg (pd ++ ws) + 1 ≤ hi) (hn : 8 ≤ n) :
    ((tkS tok k c).2 = 0 → ∃ I' n', exP d n 96 I J = exP d n' 23 I' J ∧ n ≤ n' + 7 ∧ kM I I' cd hi ∧ mxS I' J tok T (k :: ws) o (cd + pd.length) (tkS tok k c) ∧ atR (I' 224) (I' 225) cd (pd.map sgO)) ∧
    ((tkS tok k c).2 ≠ 0 → ∃ I', exP d n 96 I J = some (none, (I', J)) ∧ edM I I' tok cd hi (tkS tok k c)) := by
  have hTT := hT.2.1
  obtain ⟨cu, e12, e46, e50, hw⟩ := h
  have h1 := cu.2.2.2.1
  have hkk : k = 42 ∨ k = 47 ∨ k = 43 ∨ k = 45 := by unfold is4 is3 at hk4; omega
  obtain ⟨n, rfl⟩ : ∃ z, n = z + 1 + 1 + 1 + 1 + 1 + 1 + 1 := ⟨n - 7, by omega⟩
  /- behind the questions -/
  obtain ⟨I2, u1, u2, u3, u4, u5, u6, u7⟩ := ev_out (d := d) (I := I) (J := J) (by omega) hh hg hs e46 hcd e50 hw (by omega)
  have cu2 : cuM I2 J tok T c := cu.go u2 (by decide) (u4 11 (by decide) (by decide)) (u4 13 (by decide) (by decide)) (u4 14 (by decide) (by decide))
  have w2 : wst (I2 226) ws := by rw [u2 226 (by decide)]; exact wst_app pd ws hw
  rw [List.length_append] at hl
  have iw : isW k := by unfold isW; omega
  let I3 := p_wr (p_wr I2 226 ws.length (nI (kap k))) 192 50 (nI (ws.length + 1))
  have k3 : kp [192, 226] I2 I3 := (kp.rf.wr (by decide)).wr (by decide)
  have f3 : ∀ j, j ≠ 50 → I3 192 j = I2 192 j := fun j hj => by show p_wr (p_wr I2 226 _ _) 192 50 _ 192 j = _; rw [wr_eq, pk_un hj, wr_ne (by decide)]
  have cu3 : cuM I3 J tok T c := cu2.go k3 (by decide) (f3 11 (by decide)) (f3 13 (by decide)) (f3 14 (by decide))
  obtain ⟨I4, t1, t2, t3, t4⟩ := ev_goesOn (d := d) (J := J) (by omega) hT cu3 (by omega) (by omega) hc
  rw [← go_tk (tok := tok) hc hk (by omega)] at t4
  have km4 : kM I I4 cd hi := u3.tr (cd' := cd) ⟨(k3.up (by decide)).tr (t2.up (by decide)), fun j hj => (t3 j (fun e => hj (by rw [e]; decide)) (fun e => hj (by rw [e]; decide)) (fun e => hj (by rw [e]; decide))).trans (f3 j (fun e => hj (by rw [e]; decide))), fun j _ => ⟨by rw [t2 224 (by decide), k3 224 (by decide)], by rw [t2 225 (by decide), k3 225 (by decide)]⟩⟩ (Nat.le_refl _)
  have e46' : I4 192 46 = nI (cd + pd.length) := by rw [t3 46 (by decide) (by decide) (by decide), f3 46 (by decide)]; exact u5
  have h237 : ∀ (q : Nat), runS (EV d) none 3 T0 C_X12_expression k_X12_expression rtV f_X12_expression (q + 1) 237 [.ref 192, .int (nI 0), .int 1] [] (I2, J) = runS (EV d) none 3 T0 C_X12_expression k_X12_expression rtV f_X12_expression q 12 [.ref 192, .int (nI 0), .int 1] [] (I4, J) := by
    intro q
    rw [runS_s, s_X12_expression_237, cu2.1, chk_in (by omega) (by omega), u6, chk_in (by omega) (by omega), nI_clamp (by omega), nI_clamp (by omega), (cu2.2.2.2.2.2 c.1 h1).1, hk, nI_1, t1, p_cv_s]
  have z7 : zI (c.2 = 0 ∧ (tok c.1).1 = 41) = 0 := zI_f (fun h9 => by omega)
  have q7 := q_is' (d := d) (J := J) (by omega) hT cu 7 41 (by decide) (by decide) (by decide)
  have q8 := q_is' (d := d) (J := J) (by omega) hT cu 8 43 (by decide) (by decide) (by decide)
  have q9 := q_is' (d := d) (J := J) (by omega) hT cu 9 45 (by decide) (by decide) (by decide)
  have q10 := q_is' (d := d) (J := J) (by omega) hT cu 10 42 (by decide) (by decide) (by decide)
  have q15 := q_is' (d := d) (J := J) (by omega) hT cu 15 47 (by decide) (by decide) (by decide)
  have y : ∀ q : Nat, k = q → zI (c.2 = 0 ∧ (tok c.1).1 = q) = 1 := fun q e => zI_t ⟨hc, by omega⟩
  have no : ∀ q : Nat, k ≠ q → zI (c.2 = 0 ∧ (tok c.1).1 = q) = 0 := fun q e => zI_f (fun h9 => by omega)
  have h96 : ∃ q, n + 3 ≤ q ∧ exP d (n + 1 + 1 + 1 + 1 + 1 + 1 + 1) 96 I J = runS (EV d) none 3 T0 C_X12_expression k_X12_expression rtV f_X12_expression (q + 1) 181 [.ref 192, .int (nI 0), un] [] (I, J) := by
    unfold exP
    rw [runS_s, s_X12_expression_96, q7, z7, p_ci_s, if_pos rfl]
    try dsimp only
    rw [q8, p_ci_s]
    by_cases c43 : k = 43
    · exact ⟨n + 5, by omega, by rw [y 43 c43, if_neg (by decide)]⟩
    · rw [no 43 c43, if_pos rfl, runS_s, s_X12_expression_154, q9, p_ci_s]
      by_cases c45 : k = 45
      · exact ⟨n + 4, by omega, by rw [y 45 c45, if_neg (by decide)]⟩
      · rw [no 45 c45, if_pos rfl]
        try dsimp only
        rw [q10, p_ci_s]
        by_cases c42 : k = 42
        · exact ⟨n + 4, by omega, by rw [y 42 c42, if_neg (by decide)]⟩
        · rw [no 42 c42, if_pos rfl, runS_s, s_X12_expression_172, q15, p_ci_s, y 47 (by omega), if_neg (by decide)]
          exact ⟨n + 3, by omega, rfl⟩
  obtain ⟨q, hq, e96⟩ := h96
  obtain ⟨q, rfl⟩ : ∃ z, q = z + 1 + 1 + 1 := ⟨q - 3, by omega⟩
  have h186 : exP d (n + 1 + 1 + 1 + 1 + 1 + 1 + 1) 96 I J = runS (EV d) none 3 T0 C_X12_expression k_X12_expression rtV f_X12_expression (q + 1) 12 [.ref 192, .int (nI 0), .int 1] [] (I4, J) := by
    rw [e96, runS_s, s_X12_expression_181, runS_s, s_X12_expression_186, if_neg (by decide), q10, p_ci_s]
    rcases hk4 with ⟨k4, rfl⟩ | ⟨k4, rfl⟩
    · by_cases c42 : k = 42
      · rw [y 42 c42, if_neg (by decide)]
        try dsimp only
        rw [u1, p_cv_s, h237]
      · rw [no 42 c42, if_pos rfl]
        try dsimp only
        rw [q15, p_ci_s, y 47 (by unfold is4 at k4; omega), if_neg (by decide)]
        try dsimp only
        rw [u1, p_cv_s, h237]
    · unfold is3 at k4
      rw [no 42 (by omega), if_pos rfl]
      try dsimp only
      rw [q15, p_ci_s, no 47 (by omega), if_pos rfl]
      try dsimp only
      rw [u1, p_cv_s, h237]
  rw [h186]
  constructor
  · intro hz
    refine ⟨I4, q, ?_, by omega, km4, ⟨t4, ?_, e46', ?_, ?_⟩, ?_⟩
    · rw [runS_s, s_X12_expression_12, if_neg (by decide), if_pos (by rw [t4.2.1, hz]; rfl)]; rfl
    · rw [t3 12 (by decide) (by decide) (by decide), f3 12 (by decide), u4 12 (by decide) (by decide)]; exact e12
    · rw [t3 50 (by decide) (by decide) (by decide)]
      show p_wr (p_wr I2 226 _ _) 192 50 _ 192 50 = _
      rw [wr_eq, pk_us]; rfl
    · rw [t2 226 (by decide)]
      show wst (p_wr (p_wr I2 226 ws.length (nI (kap k))) 192 50 _ 226) _
      rw [wr_ne (by decide), wr_eq]
      exact wst_push w2 iw
    · rw [t2 224 (by decide), t2 225 (by decide), k3 224 (by decide), k3 225 (by decide)]; exact u7
  · intro hz
    refine ⟨I4, ?_, km4, t4.f hz, _, e46', hcd⟩
    rw [runS_s, s_X12_expression_12, if_neg (by decide), if_neg (t4.f hz).nz]; rfl
/-- what an expression comes to -/
def mxR (d n pc : Nat) (I : Nat → Nat → Int32) (J : Nat → Nat → Int64) (tok : Nat → TK) (T : Nat) (ws : List Nat) (o cd hi : Nat) (c : Nat × Nat) (md : Nat) (pd : List Nat) (r : List Op × (Nat × Nat)) : Prop :=
  (r.2.2 = 0 → ∃ I' n' pd' es, exP d n pc I J = exP d n' 96 I' J ∧ n ≤ n' + 8 * (r.2.1 - c.1) ∧ kM I I' cd hi ∧ isPd md pd' ∧ mxS I' J tok T (pd' ++ ws) o (cd + es.length) r.2 ∧ atR (I' 224) (I' 225) cd es ∧ es ++ pd'.map sgO = pd.map sgO ++ r.1) ∧
  (r.2.2 ≠ 0 → ∃ I', exP d n pc I J = some (none, (I', J)) ∧ edM I I' tok cd hi r.2)
theorem fu_add {n n1 n2 a b e : Nat} (h : n ≤ n1 + 8 * (b - a)) (h' : n1 ≤ n2 + 8 * (e - b)) (h1 : a ≤ b) (h2 : b ≤ e) : n ≤ n2 + 8 * (e - a) := by omega
theorem mxR_go {I I1 : Nat → Nat → Int32} {n n1 pc o cd hi md md2 : Nat} {c c1 : Nat × Nat} {ws pd pd1 : List Nat} {es1 l : List Op} {r r2 : List Op × (Nat × Nat)} (h1 : exP d n pc I J = exP d n1 96 I1 J) (hc : c.1 ≤ c1.1) (h2 : n ≤ n1 + 8 * (c1.1 - c.1)) (h3 : kM I I1 cd hi) (h4 : atR (I1 224) (I1 225) cd es1) (h5 : es1 ++ pd1.map sgO = l) (hR : mxR d n1 96 I1 J tok T ws o (cd + es1.length) hi c1 md2 pd1 r2) (hcr : c1.1 ≤ r2.2.1) (hfin : l ++ r2.1 = pd.map sgO ++ r.1) (hr : r.2 = r2.2) (hp : ∀ p, isPd md2 p → isPd md p) : mxR d n pc I J tok T ws o cd hi c md pd r := by
  obtain ⟨a, b⟩ := hR
  constructor
  · intro hz
    rw [hr] at hz
    obtain ⟨I2, n2, pd2, es2, q1, q2, q3, q4, q5, q6, q7⟩ := a hz
    refine ⟨I2, n2, pd2, es1 ++ es2, h1.trans q1, by rw [hr]; exact fu_add h2 q2 hc hcr, h3.tr q3 (by omega), hp _ q4, ?_, ?_, ?_⟩
    · rw [hr, List.length_append, ← Nat.add_assoc]; exact q5
    · exact atR_app _ _ _ (atR_cg _ _ (fun j _ hj => q3.2.2 j (Or.inl hj)) h4) q6
    · rw [List.append_assoc, q7, ← List.append_assoc, h5]; exact hfin
  · intro hz
    rw [hr] at hz
    obtain ⟨I2, q1, q2⟩ := b hz
    exact ⟨I2, h1.trans q1, by rw [hr]; exact edM.tr h3 q2 (by omega)⟩
end SE
