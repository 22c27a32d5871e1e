/-! ===== read: laws, as the tokens tell them; the class's ===== -/
section SH
variable {I : Nat → Nat → Int32} {J : Nat → Nat → Int64} {d : Nat} {tok : Nat → TK} {T : Nat}
theorem sum_f {c : Nat × Nat} (h : c.2 ≠ 0) : sumG tok c = ([], c) := gr_f (m := 2099) h
theorem sum_p (hT : TKS tok T) (hV : TKV tok T) {c : Nat × Nat} (h1 : c.1 < T) (h2 : c.2 < 3) : GP tok T 2 0 c (sumG tok c) := gr_p hT hV fuG 2 0 c (by omega) h1 h2
theorem sum_ok (hT : TKS tok T) (hV : TKV tok T) {c : Nat × Nat} (h1 : c.1 < T) (h2 : c.2 < 3) (hz : (sumG tok c).2.2 = 0) : wfE (sumG tok c).1 := by
  obtain ⟨-, -, -, q, -⟩ := (sum_p hT hV h1 h2).2.2 hz
  have a0 := q 0 ⟨by omega, by show 0 + 2 * (6 - 0) + 3 ≤ 30; omega⟩
  have a1 := q 1 ⟨by omega, by show 1 + 2 * (6 - 0) + 3 ≤ 30; omega⟩
  exact ⟨a0, a1⟩
def iE1 (tok : Nat → TK) (k : Nat) (c : Nat × Nat) : List Op × (Nat × Nat) := sumG tok (tfS (decide (k ≠ 0)) c)
def iE2 (tok : Nat → TK) (k : Nat) (c : Nat × Nat) : List Op × (Nat × Nat) := sumG tok (tkS tok 60 (iE1 tok k c).2)
def iE3 (tok : Nat → TK) (k : Nat) (c : Nat × Nat) : List Op × (Nat × Nat) := sumG tok (tkS tok 268 (iE2 tok k c).2)
def iC4 (tok : Nat → TK) (k : Nat) (c : Nat × Nat) : Nat × Nat := tkS tok 269 (iE3 tok k c).2
def iBr (tok : Nat → TK) (k : Nat) (c : Nat × Nat) : Br := ((iE1 tok k c).1, (iE2 tok k c).1, (iE3 tok k c).1)
/-- a law from its = on: k ifs may come -/
def lwG (tok : Nat → TK) : Nat → Nat × Nat → (List Br × List Op) × (Nat × Nat)
  | 0, c => (([], (sumG tok c).1), tkS tok 59 (sumG tok c).2)
  | k + 1, c => if c.2 = 0 ∧ (tok c.1).1 = 267 then ((iBr tok k c :: (lwG tok k (iC4 tok k c)).1.1, (lwG tok k (iC4 tok k c)).1.2), (lwG tok k (iC4 tok k c)).2) else (([], (sumG tok c).1), tkS tok 59 (sumG tok c).2)
theorem lw_n {k : Nat} {c : Nat × Nat} (h : ¬ (c.2 = 0 ∧ (tok c.1).1 = 267)) : lwG tok k c = (([], (sumG tok c).1), tkS tok 59 (sumG tok c).2) := by
  cases k with
  | zero => rfl
  | succ k => exact if_neg h
theorem lw_y {k : Nat} {c : Nat × Nat} (h : c.2 = 0 ∧ (tok c.1).1 = 267) : lwG tok (k + 1) c = ((iBr tok k c :: (lwG tok k (iC4 tok k c)).1.1, (lwG tok k (iC4 tok k c)).1.2), (lwG tok k (iC4 tok k c)).2) := if_pos h
theorem tf_lt (hT : TKS tok T) {room : Bool} {c : Nat × Nat} (h1 : c.1 < T) (h2 : c.2 < 3) (k0 : (tok c.1).1 ≠ 0) (k1 : (tok c.1).1 ≠ 1) : (tfS room c).1 < T ∧ (tfS room c).2 < 3 := by
  have hTT := hT.2.1
  unfold tfS
  by_cases e : c.2 = 0
  · rw [if_pos e]
    by_cases r : room = true
    · rw [if_pos r, ← go_tk (tok := tok) e rfl (by omega)]; exact tkS_lt hT k0 k1 h1 h2
    · rw [if_neg r]; exact ⟨h1, by show 2 < 3; omega⟩
  · rw [if_neg e]; exact ⟨h1, h2⟩
theorem tf_z {room : Bool} {c : Nat × Nat} (h : (tfS room c).2 = 0) : c.2 = 0 ∧ room = true ∧ c.1 ≠ 400 ∧ tfS room c = (c.1 + 1, 0) := by
  unfold tfS at h ⊢
  by_cases e : c.2 = 0
  · rw [if_pos e] at h ⊢
    by_cases r : room = true
    · rw [if_pos r] at h ⊢
      unfold goS at h ⊢
      by_cases e4 : c.1 = 400
      · rw [if_pos e4] at h; exact absurd (show 2 = 0 from h) (by omega)
      · rw [if_neg e4]; exact ⟨e, r, e4, rfl⟩
    · rw [if_neg r] at h; exact absurd (show 2 = 0 from h) (by omega)
  · rw [if_neg e] at h; exact absurd h e
theorem tf_le {room : Bool} {c : Nat × Nat} : c.1 ≤ (tfS room c).1 := by
  unfold tfS goS
  repeat' split
  all_goals first | exact Nat.le_refl _ | exact Nat.le_succ _
/-- all of an if -/
theorem if_p (hT : TKS tok T) (hV : TKV tok T) {k : Nat} {c : Nat × Nat} (h1 : c.1 < T) (h2 : c.2 < 3) (hk : (tok c.1).1 = 267) :
    ((tfS (decide (k ≠ 0)) c).1 < T ∧ (tfS (decide (k ≠ 0)) c).2 < 3) ∧ GP tok T 2 0 (tfS (decide (k ≠ 0)) c) (iE1 tok k c) ∧ ((tkS tok 60 (iE1 tok k c).2).1 < T ∧ (tkS tok 60 (iE1 tok k c).2).2 < 3) ∧ GP tok T 2 0 (tkS tok 60 (iE1 tok k c).2) (iE2 tok k c) ∧ ((tkS tok 268 (iE2 tok k c).2).1 < T ∧ (tkS tok 268 (iE2 tok k c).2).2 < 3) ∧ GP tok T 2 0 (tkS tok 268 (iE2 tok k c).2) (iE3 tok k c) ∧ ((iC4 tok k c).1 < T ∧ (iC4 tok k c).2 < 3) := by
  have a1 := tf_lt hT (room := decide (k ≠ 0)) h1 h2 (by omega) (by omega)
  have a2 := sum_p hT hV a1.1 a1.2
  have a3 := tkS_lt hT (k := 60) (by omega) (by omega) a2.1.1 a2.1.2
  have a4 := sum_p hT hV a3.1 a3.2
  have a5 := tkS_lt hT (k := 268) (by omega) (by omega) a4.1.1 a4.1.2
  have a6 := sum_p hT hV a5.1 a5.2
  have a7 := tkS_lt hT (k := 269) (by omega) (by omega) a6.1.1 a6.1.2
  exact ⟨a1, a2, a3, a4, a5, a6, a7⟩
/-- an if without a fault -/
theorem if_z (hT : TKS tok T) (hV : TKV tok T) {k : Nat} {c : Nat × Nat} (h1 : c.1 < T) (h2 : c.2 < 3) (hk : (tok c.1).1 = 267) (hz : (iC4 tok k c).2 = 0) :
    c.2 = 0 ∧ tfS (decide (k ≠ 0)) c = (c.1 + 1, 0) ∧ k ≠ 0 ∧ (iE1 tok k c).2.2 = 0 ∧ tkS tok 60 (iE1 tok k c).2 = ((iE1 tok k c).2.1 + 1, 0) ∧ (iE2 tok k c).2.2 = 0 ∧ tkS tok 268 (iE2 tok k c).2 = ((iE2 tok k c).2.1 + 1, 0) ∧ (iE3 tok k c).2.2 = 0 ∧ iC4 tok k c = ((iE3 tok k c).2.1 + 1, 0) ∧
    (c.1 + 1 + (iE1 tok k c).1.length ≤ (iE1 tok k c).2.1 ∧ (iE1 tok k c).2.1 + 1 + (iE2 tok k c).1.length ≤ (iE2 tok k c).2.1 ∧ (iE2 tok k c).2.1 + 1 + (iE3 tok k c).1.length ≤ (iE3 tok k c).2.1) ∧ (iE1 tok k c).2.1 ≤ 400 ∧ (iE2 tok k c).2.1 ≤ 400 ∧ (iE3 tok k c).2.1 ≤ 400 := by
  have hTT := hT.2.1
  obtain ⟨a1, a2, a3, a4, a5, a6, a7⟩ := if_p hT hV (k := k) h1 h2 hk
  obtain ⟨z1, -, -, z4⟩ := tk_z hz
  obtain ⟨y1, -, y3, -⟩ := a6.2.2 z1
  obtain ⟨x1, -, -, x4⟩ := tk_z y1
  obtain ⟨w1, -, w3, -⟩ := a4.2.2 x1
  obtain ⟨v1, -, -, v4⟩ := tk_z w1
  obtain ⟨u1, -, u3, -⟩ := a2.2.2 v1
  obtain ⟨t1, t2, t3, t4⟩ := tf_z u1
  rw [x4] at y3
  rw [v4] at w3
  rw [t4] at u3
  have := a2.1.1
  have := a4.1.1
  have := a6.1.1
  exact ⟨t1, t4, of_decide_eq_true t2, v1, v4, x1, x4, z1, z4, ⟨u3, w3, y3⟩, by omega, by omega, by omega⟩
theorem lw_p (hT : TKS tok T) (hV : TKV tok T) : ∀ (k : Nat) (c : Nat × Nat), c.1 < T → c.2 < 3 → ((lwG tok k c).2.1 < T ∧ (lwG tok k c).2.2 < 3) ∧ ((lwG tok k c).2.2 = 0 → c.2 = 0 ∧ okL (lwG tok k c).1.1 (lwG tok k c).1.2 ∧ c.1 + lnL (lwG tok k c).1.1 (lwG tok k c).1.2 ≤ (lwG tok k c).2.1 ∧ c.1 + 4 * (lwG tok k c).1.1.length + 2 ≤ (lwG tok k c).2.1) := by
  intro k
  have base : ∀ (c : Nat × Nat), c.1 < T → c.2 < 3 → ((tkS tok 59 (sumG tok c).2).1 < T ∧ (tkS tok 59 (sumG tok c).2).2 < 3) ∧ ((tkS tok 59 (sumG tok c).2).2 = 0 → c.2 = 0 ∧ okL [] (sumG tok c).1 ∧ c.1 + lnL [] (sumG tok c).1 ≤ (tkS tok 59 (sumG tok c).2).1 ∧ c.1 + 4 * ([] : List Br).length + 2 ≤ (tkS tok 59 (sumG tok c).2).1) := by
    intro c h1 h2
    have g := sum_p hT hV h1 h2
    refine ⟨tkS_lt hT (by omega) (by omega) g.1.1 g.1.2, fun hz => ?_⟩
    obtain ⟨z1, -, -, z4⟩ := tk_z hz
    obtain ⟨y1, y2, y3, -⟩ := g.2.2 z1
    have y2' := y2 (by omega)
    rw [z4]
    refine ⟨y1, sum_ok hT hV h1 h2 z1, ?_, ?_⟩
    · show c.1 + ((sumG tok c).1.length + 1) ≤ (sumG tok c).2.1 + 1; omega
    · show c.1 + 4 * 0 + 2 ≤ (sumG tok c).2.1 + 1; omega
  induction k with
  | zero => intro c h1 h2; exact base c h1 h2
  | succ k ih =>
    intro c h1 h2
    by_cases hk : c.2 = 0 ∧ (tok c.1).1 = 267
    · obtain ⟨a1, a2, a3, a4, a5, a6, a7⟩ := if_p hT hV (k := k) h1 h2 hk.2
      obtain ⟨i1, i2⟩ := ih (iC4 tok k c) a7.1 a7.2
      rw [lw_y hk]
      refine ⟨i1, fun hz => ?_⟩
      obtain ⟨j1, j2, j3, j4⟩ := i2 hz
      obtain ⟨b1, b2, b3, b4, b5, b6, b7, b8, b9, b10, -⟩ := if_z hT hV (k := k) h1 h2 hk.2 j1
      have o1 := sum_ok hT hV a1.1 a1.2 b4
      have o2 := sum_ok hT hV a3.1 a3.2 b6
      have o3 := sum_ok hT hV a5.1 a5.2 b8
      rw [b9] at j3 j4
      refine ⟨b1, ⟨o1, o2, o3, j2⟩, ?_, ?_⟩
      · show c.1 + ((iE1 tok k c).1.length + (iE2 tok k c).1.length + (iE3 tok k c).1.length + 2 + lnL (lwG tok k (iC4 tok k c)).1.1 (lwG tok k (iC4 tok k c)).1.2) ≤ (lwG tok k (iC4 tok k c)).2.1
        rw [b9]
        have j3' : (iE3 tok k c).2.1 + 1 + _ ≤ _ := j3
        omega
      · show c.1 + 4 * ((lwG tok k (iC4 tok k c)).1.1.length + 1) + 2 ≤ (lwG tok k (iC4 tok k c)).2.1
        rw [b9]
        have j4' : (iE3 tok k c).2.1 + 1 + _ + 2 ≤ _ := j4
        omega
    · rw [lw_n hk]; exact base c h1 h2
/-! the class -/
theorem ad_r {sz : Nat} (h14 : I 14 3 = nI sz) (hz : sz ≤ 408) {v : Int32} : ∃ sz1, adS I sz v 14 3 = nI sz1 ∧ sz1 ≤ 408 ∧ (sz < 408 → sz1 = sz + 1 ∧ adS I sz v 15 sz = v ∧ ∀ j, j < sz → adS I sz v 15 j = I 15 j) := by
  unfold adS
  by_cases e : sz < 408
  · rw [if_pos e]
    refine ⟨sz + 1, by rw [wr_eq, pk_us], by omega, fun _ => ⟨rfl, ?_, fun j hj => ?_⟩⟩
    · rw [wr_ne (by decide), wr_eq, pk_us]
    · rw [wr_ne (by decide), wr_eq, pk_un (by omega)]
  · rw [if_neg e]; exact ⟨sz, h14, hz, fun h => absurd h e⟩
theorem ev_sumC (hd : 22 ≤ d) (hT : TKS tok T) (hV : TKV tok T) {c : Nat × Nat} {sz : Nat} (h : cuC I J tok T c) (h14 : I 14 3 = nI sz) (hz : sz ≤ 408) (hs : c.2 = 0 → sz ≤ 8 + c.1) : ∃ I', EV d T0 43 [.ref 3, .int 0] (I, J) = some (none, (I', J)) ∧ exR I I' J tok T sz (sumG tok c) := by
  obtain ⟨I', u1, u2⟩ := ex_all hT hV fuG 2 0 d sz 0 999999 c I (by omega) (by omega) ⟨by show 1 ≤ 2100; omega, fun _ => by show 5 * (401 - c.1) + 3 ≤ 2100; omega⟩ (by show 4 + 3 * (6 - 0) ≤ d; omega) h h14 hz hs (fun h9 => absurd h9 (by omega)) ⟨by omega, fun _ => by omega⟩
  rw [exE_2] at u1
  exact ⟨I', u1, u2⟩
def ldS (I : Nat → Nat → Int32) (u sz : Nat) : Nat → Nat → Int32 := if u < sz then p_wr I 15 u (nI sz * 64 + 3) else I
theorem ev_leadHere (hd : 1 ≤ d) {u sz : Nat} (h14 : I 14 3 = nI sz) (hz : sz ≤ 408) (hu : u ≤ 408) : EV d T0 6 [.ref 14, .int (nI u)] (I, J) = some (none, (ldS I u sz, J)) := by
  obtain ⟨d, rfl⟩ : ∃ z, d = z + 1 := ⟨d - 1, by omega⟩
  rw [e_X0_leadHere, runS_M, s_X0_leadHere_0, if_neg (show ¬ nI u < (0 : Int32) from nI_nlt (b := 0) (by omega) (by omega)), h14]
  unfold ldS
  by_cases c : u < sz
  · rw [if_pos c, if_neg (nI_ge c (by omega)), chk_in (by omega) (by omega), nI_clamp (by omega)]; rfl
  · rw [if_neg c, if_pos (nI_le (by omega) (by omega))]; rfl
theorem q_nextStep (hd : 1 ≤ d) : EV d T0 3 [.ref 14] (I, J) = some (some (.int (I 14 3)), (I, J)) := by
  obtain ⟨d, rfl⟩ : ∃ z, d = z + 1 := ⟨d - 1, by omega⟩
  rw [e_X0_nextStep, runS_M, s_X0_nextStep_0]; rfl
theorem ev_beginLaw (hd : 2 ≤ d) {l : Nat} (hl : l < 4) (x : Int32) : EV d T0 4 [.ref 14, .int (nI l), .int x] (I, J) = some (none, (p_wr I 17 l x, J)) := by
  obtain ⟨d, rfl⟩ : ∃ z, d = z + 1 := ⟨d - 1, by omega⟩
  have hw : zI (¬ nI l < 0 ∧ ¬ (3 : Int32) < nI l) = 1 := zI_t ⟨nI_nlt (b := 0) (by omega) (by omega), nI_nlt (a := 3) (by omega) (by omega)⟩
  rw [e_X0_beginLaw, runS_M, s_X0_beginLaw_0, q_within (by omega), p_ci_s, hw, if_neg (by decide), chk_in hl (by omega), nI_clamp (by omega)]; rfl
/-- what a law leaves alone in the class -/
def lwK (I I' : Nat → Nat → Int32) : Prop := kp [3, 14, 15, 17] I I' ∧ k678 I I' ∧ ∀ j, j ≠ 3 → I' 14 j = I 14 j
theorem exK.lw {I' : Nat → Nat → Int32} (h : exK I I') : lwK I I' := ⟨h.1.up (by decide), h.2⟩
theorem lwK.tr {I' I'' : Nat → Nat → Int32} (h : lwK I I') (h' : lwK I' I'') : lwK I I'' := ⟨h.1.tr h'.1, fun j p q r => (h'.2.1 j p q r).trans (h.2.1 j p q r), fun j p => (h'.2.2 j p).trans (h.2.2 j p)⟩
def lwR (I I' : Nat → Nat → Int32) (J : Nat → Nat → Int64) (tok : Nat → TK) (T sz l : Nat) (x : Int32) (r : (List Br × List Op) × (Nat × Nat)) : Prop := lwK I I' ∧ cuC I' J tok T r.2 ∧ I' 17 = upd (I 17) l x ∧ (r.2.2 = 0 → I' 14 3 = nI (sz + lnL r.1.1 r.1.2) ∧ atL (I' 15) sz r.1.1 r.1.2 ∧ ∀ j, j < sz → I' 15 j = I 15 j)
theorem base_C (hd : 22 ≤ d) (hT : TKS tok T) (hV : TKV tok T) {c : Nat × Nat} {sz n l : Nat} (h : cuC I J tok T c) (h14 : I 14 3 = nI sz) (hz : sz ≤ 408) (hs : c.2 = 0 → sz + 1 ≤ 8 + c.1) (hl : l < 4) (x : Int32) :
    ∃ I', p_cv (EV d T0 43 [.ref 3, .int 0] (I, J)) (fun z1 => p_cv (EV d T0 5 [.ref 14, .int 4, .int 0] z1) (fun z2 => runS (EV d) none 6 T0 C_X4_readLaw k_X4_readLaw rtV f_X4_readLaw (n + 1) 170 [.ref 3, .int (nI (260 + l)), .ref 14, .int x, un, un] [] z2)) = some (none, (I', J)) ∧ lwR I I' J tok T sz l x (([], (sumG tok c).1), tkS tok 59 (sumG tok c).2) := by
  have hTT := hT.2.1
  have g := sum_p hT hV h.2.2.2.1 h.2.2.2.2.1
  obtain ⟨I1, u1, k1, k2, sz1, k3, k4, k5⟩ := ev_sumC (d := d) hd hT hV h h14 hz (fun hz9 => by have := hs hz9; omega)
  obtain ⟨sz2, b1, b2, b3⟩ := ad_r (v := 0 * 64 + 4) k3 k4
  have hk := ad_K (I := I1) (sz := sz1) (v := 0 * 64 + 4)
  obtain ⟨I3, t1, t2, t3, t4⟩ := ev_take (d := d) (J := J) (by omega) hT (k2.kx hk.1 (by decide)) (k := 59) (by omega) (by omega) (by omega)
  have t1' : EV d T0 47 [.ref 3, .int 59] (adS I1 sz1 (0 * 64 + 4), J) = _ := t1
  have x4 : kp [17] I3 (p_wr I3 17 l x) := kp.rf.wr (by decide)
  refine ⟨p_wr I3 17 l x, ?_, ?_, ?_, ?_, fun hz9 => ?_⟩
  · rw [u1, p_cv_s, ev_addStep (by omega) k3 k4, p_cv_s, runS_s, s_X4_readLaw_170, t1', p_ci_s, show (260 : Int32) = nI 260 from rfl, pk_sub (by omega), show 260 + l - 260 = l by omega, ev_beginLaw (by omega) hl, p_cv_s]; rfl
  · exact (k1.lw.tr (hk.2.lw.tr (mv_K t2 t3).lw)).tr ⟨x4.up (by decide), fun j _ _ _ => by rw [x4 3 (by decide)], fun j _ => by rw [x4 14 (by decide)]⟩
  · exact t4.kx x4 (by decide)
  · rw [wr_eq, t2 17 (by decide), hk.1 17 (by decide), k1.1 17 (by decide)]
  · obtain ⟨z1, -, -, z4⟩ := tk_z hz9
    obtain ⟨y1, -, y3, -⟩ := g.2.2 z1
    have hs' := hs y1
    have hg1 := g.1.1
    obtain ⟨q1, q2, q3⟩ := k5 z1
    obtain ⟨p1, p2, p3⟩ := b3 (by omega)
    have e15 : p_wr I3 17 l x 15 = adS I1 sz1 (0 * 64 + 4) 15 := by rw [x4 15 (by decide), t2 15 (by decide)]
    refine ⟨?_, ⟨?_, ?_⟩, fun j hj => ?_⟩
    · rw [x4 14 (by decide), t2 14 (by decide), b1]
      show nI sz2 = nI (sz + ((sumG tok c).1.length + 1))
      congr 1; omega
    · rw [e15]; exact atC_cg (sumG tok c).1 sz (fun j _ hj => p3 j (by omega)) q2
    · rw [e15]
      show adS I1 sz1 (0 * 64 + 4) 15 (sz + (sumG tok c).1.length) = nI 4
      rw [← q1, p2]; rfl
    · rw [e15, p3 j (by omega)]; exact q3 j hj
end SH
