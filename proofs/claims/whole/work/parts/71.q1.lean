/-! ===== questions: seam, toll, far, hops, joined ===== -/
/-- the rows that a question may change -/
def scC : List Nat := [37, 170, 171, 173, 175, 176, 177, 182, 42, 43, 44]
def scM : List Nat := [227, 228, 230, 231, 232, 233, 234, 236, 240, 192]
def CQ (d y : Nat) (as : List Value) (I : Nat → Nat → Int32) (J : Nat → Nat → Int64) (v : Int32) : Prop := ∃ I', EV d T0 y as (I, J) = some (some (.int v), (I', J)) ∧ kp scC I I'
def MQq (d y : Nat) (as : List Value) (I : Nat → Nat → Int32) (J : Nat → Nat → Int64) (v : Int32) : Prop := ∃ I', EV d T0 y as (I, J) = some (some (.int v), (I', J)) ∧ kp scM I I' ∧ k567 I I'
def CS (P : PP) (I : Nat → Nat → Int32) (s : Nat → Nat) (wk : Int32) : Prop := PlR P I ∧ swR P (I 40) s ∧ I 39 0 = wk
def MS (P : PP) (I : Nat → Nat → Int32) (s : Nat → Nat) (wk : Int32) : Prop := PlR P I ∧ swR P (I 229) s ∧ I 229 31 = wk
/-- the reference's row stands as told -/
def RS (P : PP) (I : Nat → Nat → Int32) (s : Nat → Nat) (wk : Int32) : Prop := PlR P I ∧ swR P (I 230) s ∧ I 230 31 = wk
section QA
variable {P : PP} {I : Nat → Nat → Int32} {J : Nat → Nat → Int64} {d : Nat} {s : Nat → Nat} {wk : Int32}
theorem q_town (hd : 1 ≤ d) (h : PlR P I) (a : Int32) : EV d T0 160 [.ref 0, .int a] (I, J) = some (some (.int (oneOf a (xN P))), (I, J)) := by
  obtain ⟨d, rfl⟩ : ∃ z, d = z + 1 := ⟨d - 1, by omega⟩
  exact ev_isTown d h.N a
theorem q_seam (hd : 1 ≤ d) (h : PlR P I) (a : Int32) : EV d T0 162 [.ref 0, .int a] (I, J) = some (some (.int (oneOf a (xS P))), (I, J)) := by
  obtain ⟨d, rfl⟩ : ∃ z, d = z + 1 := ⟨d - 1, by omega⟩
  exact ev_isSeam d h.S a
theorem q_cart (hd : 1 ≤ d) (h : PlR P I) (a : Int32) : EV d T0 163 [.ref 0, .int a] (I, J) = some (some (.int (oneOf a (xC P))), (I, J)) := by
  obtain ⟨d, rfl⟩ : ∃ z, d = z + 1 := ⟨d - 1, by omega⟩
  exact ev_isCart d h.C a
theorem q_townR (hd : 2 ≤ d) (h : PlR P I) (a : Int32) : EV d T0 205 [.ref 192, .int a] (I, J) = some (some (.int (oneOf a (xN P))), (I, J)) := by
  obtain ⟨d, rfl⟩ : ∃ z, d = z + 2 := ⟨d - 2, by omega⟩
  exact ev_isTownR d h.v h.v2 h.Nm (by have := h.N7; omega) a
theorem q_seamR (hd : 2 ≤ d) (h : PlR P I) (a : Int32) : EV d T0 206 [.ref 192, .int a] (I, J) = some (some (.int (oneOf a (xS P))), (I, J)) := by
  obtain ⟨d, rfl⟩ : ∃ z, d = z + 2 := ⟨d - 2, by omega⟩
  exact ev_isSeamR d h.v h.v2 h.Sm (by have := h.S10; omega) a
theorem q_cartR (hd : 2 ≤ d) (h : PlR P I) (a : Int32) : EV d T0 207 [.ref 192, .int a] (I, J) = some (some (.int (oneOf a (xC P))), (I, J)) := by
  obtain ⟨d, rfl⟩ : ∃ z, d = z + 2 := ⟨d - 2, by omega⟩
  exact ev_isCartR d h.v h.v2 h.Cm (by have := h.C4; omega) a
theorem q_within (hd : 1 ≤ d) (n lo hi : Int32) (ij : IJ) : EV d T0 164 [.int n, .int lo, .int hi] ij = some (some (.int (zI (¬ n < lo ∧ ¬ hi < n))), ij) := by
  obtain ⟨d, rfl⟩ : ∃ z, d = z + 1 := ⟨d - 1, by omega⟩
  exact ev_within d n lo hi ij
theorem q_in (hd : 1 ≤ d) (n lo hi : Int32) (ij : IJ) : EV d T0 203 [.int n, .int lo, .int hi] ij = some (some (.int (zI (¬ n < lo ∧ ¬ hi < n))), ij) := by
  obtain ⟨d, rfl⟩ : ∃ z, d = z + 1 := ⟨d - 1, by omega⟩
  exact ev_in d n lo hi ij
theorem q_bit (hd : 1 ≤ d) (w : Int32) {i : Nat} (hi : i < 32) (ij : IJ) : EV d T0 165 [.int w, .int (nI i)] ij = some (some (.int (zI (bt w i = true))), ij) := by
  obtain ⟨d, rfl⟩ : ∃ z, d = z + 1 := ⟨d - 1, by omega⟩
  rw [ev_hasBit]
  have e : (¬ bitOf w (nI i) = 0) ↔ bt w i = true := bitOf_t hi
  unfold zI
  simp only [e]
theorem z0 {b : Prop} [Decidable b] : (zI b = 0) ↔ ¬ b := by
  by_cases h : b
  · rw [zI_t h]; exact ⟨fun e => absurd e (by decide), fun e => absurd h e⟩
  · rw [zI_f h]; exact ⟨fun _ => h, fun _ => rfl⟩
theorem MS.row (hd : 1 ≤ d) (h : MS P I s wk) : ∃ I', EV d T0 210 [.ref 192] (I, J) = some (none, (I', J)) ∧ kp [230, 192] I I' ∧ k567 I I' ∧ (∀ j, j < 32 → I' 230 j = I 229 j) ∧ I' 192 56 = xe P ∧ I' 192 57 = 0 ∧ RS P I' s wk := by
  obtain ⟨h1, h2, h3⟩ := h
  obtain ⟨I1, t1, t2, t3, t4, t5, t6⟩ := ev_copiesP (d := d) (J := J) hd h1
  have h10 := h1.S10
  exact ⟨I1, t1, t2, t3, t4, t5, t6, plr_kx h1 t2 (by decide) (t3 18 (by decide) (by decide) (by decide)), h2.cg (fun i hi => t4 i (by omega)), by rw [t4 31 (by decide)]; exact h3⟩
theorem RS.go {I' : Nat → Nat → Int32} {X : List Nat} (h : RS P I s wk) (hk : kp X I I') (hX : ∀ k ∈ X, k ∉ plC ∧ k ≠ 230) (hf : I' 192 18 = I 192 18) : RS P I' s wk :=
  ⟨plr_kx h.1 hk (fun k hx => (hX k hx).1) hf, h.2.1.cg (fun i _ => by rw [hk 230 (fun hx => (hX 230 hx).2 rfl)]), by rw [hk 230 (fun hx => (hX 230 hx).2 rfl)]; exact h.2.2⟩
/-! seam -/
def seamQ (P : PP) (s : Nat → Nat) (wk a w : Int32) : Int32 := if oneOf a (xS P) = 0 then -1 else if w = nI 0 then nI (xf P a.toNatClampNeg) else if w = nI 1 then nI (xg P a.toNatClampNeg) else if w = nI 2 then nI (xl P a.toNatClampNeg) else if w = nI 3 then nI (s a.toNatClampNeg) else if w = nI 4 then costF P a.toNatClampNeg (nI (s a.toNatClampNeg)) wk else if w = nI 5 then wearF P a.toNatClampNeg (nI (s a.toNatClampNeg)) wk 0 0 else if w = nI 6 then wayF P a.toNatClampNeg (nI (s a.toNatClampNeg)) wk else -1
theorem c_seam (hd : 4 ≤ d) (h : CS P I s wk) (a w : Int32) : CQ d 124 [.ref 0, .int a, .int w] I J (seamQ P s wk a w) := by
  obtain ⟨d, rfl⟩ : ∃ z, d = z + 1 := ⟨d - 1, by omega⟩
  obtain ⟨h1, h2, h3⟩ := h
  have h10 := h1.S10
  unfold CQ seamQ
  rw [e_X11_seam, runS_M, s_X11_seam_0, q_seam (by omega) h1, p_ci_s]
  rcases oneOf_c (a := a) (N := xS P) (by omega) with e | ⟨e, i, hi, rfl⟩
  · rw [if_pos e, if_pos e]; exact ⟨I, rfl, kp.rf⟩
  · obtain ⟨⟨f1, f2⟩, -, -, ⟨f4, -⟩, -⟩ := h1.sm hi
    have hne : ¬ oneOf (nI i) (xS P) = 0 := by rw [e]; decide
    have hp : ∀ x : Option Rs, p_chk (p_in (nI i) 10) x = x := fun x => chk_in (by omega) (by omega)
    simp only [if_neg hne, hp, nI_clamp (show i < 2 ^ 31 by omega), f1, f2, f4, (h2 i hi).1, h3]
    by_cases w0 : w = nI 0
    · rw [if_pos w0, if_pos w0]; exact ⟨I, rfl, kp.rf⟩
    rw [if_neg w0, if_neg w0]
    by_cases w1 : w = nI 1
    · rw [if_pos w1, if_pos w1]; exact ⟨I, rfl, kp.rf⟩
    rw [if_neg w1, if_neg w1]
    by_cases w2 : w = nI 2
    · rw [if_pos w2, if_pos w2]; exact ⟨I, rfl, kp.rf⟩
    rw [if_neg w2, if_neg w2]
    by_cases w3 : w = nI 3
    · rw [if_pos w3, if_pos w3]; exact ⟨I, rfl, kp.rf⟩
    rw [if_neg w3, if_neg w3]
    by_cases w4 : w = nI 4
    · rw [if_pos w4, if_pos w4]
      obtain ⟨I1, t1, t2⟩ := ev_stitchCost (d := d) (J := J) (by omega) h1 hi (nI (s i)) wk
      rw [t1, p_ci_s]; exact ⟨I1, rfl, t2.up (by decide)⟩
    rw [if_neg w4, if_neg w4]
    by_cases w5 : w = nI 5
    · rw [if_pos w5, if_pos w5]
      obtain ⟨I1, t1, t2⟩ := ev_wear (d := d) (J := J) (by omega) h1 hi (nI (s i)) wk 0 0
      rw [t1, p_ci_s]; exact ⟨I1, rfl, t2.up (by decide)⟩
    rw [if_neg w5, if_neg w5]
    by_cases w6 : w = nI 6
    · rw [if_pos w6, if_pos w6]
      obtain ⟨I1, t1, t2⟩ := ev_wayLong (d := d) (J := J) (by omega) h1 hi (nI (s i)) wk
      rw [t1, p_ci_s]; exact ⟨I1, rfl, t2.up (by decide)⟩
    rw [if_neg w6, if_neg w6]
    exact ⟨I, rfl, kp.rf⟩
theorem m_seam (hd : 5 ≤ d) (h : MS P I s wk) (a w : Int32) : MQq d 229 [.ref 192, .int a, .int w] I J (seamQ P s wk a w) := by
  obtain ⟨d, rfl⟩ : ∃ z, d = z + 1 := ⟨d - 1, by omega⟩
  have h1 := h.1
  have h10 := h1.S10
  have hv := h1.v2
  unfold MQq seamQ
  rw [e_X12_seam, runS_M, s_X12_seam_0, q_seamR (by omega) h1, p_ci_s]
  rcases oneOf_c (a := a) (N := xS P) (by omega) with e | ⟨e, i, hi, rfl⟩
  · rw [if_pos e, if_pos e]; exact ⟨I, rfl, kp.rf, k567.rf⟩
  · obtain ⟨I1, t1, t2, t3, -, -, -, r1, r2, r3⟩ := h.row (d := d) (J := J) (by omega)
    obtain ⟨-, -, -, -, -, f6, f7, f8⟩ := r1.sm hi
    have hne : ¬ oneOf (nI i) (xS P) = 0 := by rw [e]; decide
    have k1 : kp scM I I1 := t2.up (by decide)
    have hp : ∀ x : Option Rs, p_chk (p_in (nI (10 * xv P + i)) 20) x = x := fun x => chk_in (by omega) (by omega)
    have hp2 : ∀ x : Option Rs, p_chk (p_in (nI i) 32) x = x := fun x => chk_in (by omega) (by omega)
    rw [if_neg hne, if_neg hne, t1, p_cv_s, show (999999 : Nat) = 999998 + 1 from rfl, runS_s, s_X12_seam_14]
    simp only [r1.v, ten_nI, hp, hp2, nI_clamp (show i < 2 ^ 31 by omega), nI_clamp (show 10 * xv P + i < 2 ^ 31 by omega), f6, f7, f8, (r2 i hi).1]
    by_cases w0 : w = nI 0
    · rw [if_pos w0, if_pos w0]; exact ⟨I1, rfl, k1, t3⟩
    rw [if_neg w0, if_neg w0]
    by_cases w1 : w = nI 1
    · rw [if_pos w1, if_pos w1]; exact ⟨I1, rfl, k1, t3⟩
    rw [if_neg w1, if_neg w1]
    by_cases w2 : w = nI 2
    · rw [if_pos w2, if_pos w2]; exact ⟨I1, rfl, k1, t3⟩
    rw [if_neg w2, if_neg w2]
    by_cases w3 : w = nI 3
    · rw [if_pos w3, if_pos w3]; exact ⟨I1, rfl, k1, t3⟩
    rw [if_neg w3, if_neg w3]
    by_cases w4 : w = nI 4
    · rw [if_pos w4, if_pos w4]
      obtain ⟨I2, u1, u2, u3⟩ := ev_costsNow (d := d) (J := J) (by omega) r1 hi
      rw [u1, p_ci_s, (r2 i hi).1, r3]; exact ⟨I2, rfl, k1.tr (u2.up (by decide)), t3.tr (k567.of u3)⟩
    rw [if_neg w4, if_neg w4]
    by_cases w5 : w = nI 5
    · rw [if_pos w5, if_pos w5]
      obtain ⟨I2, u1, u2, u3⟩ := ev_wearsNow (d := d) (J := J) (by omega) r1 hi False 0
      have e0 : zI False = 0 := rfl
      rw [e0] at u1
      rw [u1, p_ci_s, (r2 i hi).1, r3]; exact ⟨I2, rfl, k1.tr (u2.up (by decide)), t3.tr (k567.of u3)⟩
    rw [if_neg w5, if_neg w5]
    by_cases w6 : w = nI 6
    · rw [if_pos w6, if_pos w6]
      obtain ⟨I2, u1, u2, u3⟩ := ev_wayOf (d := d) (J := J) (by omega) r1 hi
      rw [u1, p_ci_s, (r2 i hi).1, r3]; exact ⟨I2, rfl, k1.tr (u2.up (by decide)), t3.tr (k567.of u3)⟩
    rw [if_neg w6, if_neg w6]
    exact ⟨I1, rfl, k1, t3⟩
/-! toll -/
def tollQ (P : PP) (s : Nat → Nat) (wk a ld : Int32) : Int32 := if oneOf a (xS P) = 0 then -1 else if zI (¬ ld < 0 ∧ ¬ 99 < ld) = 0 then -1 else tollF P a.toNatClampNeg (nI (s a.toNatClampNeg)) wk ld
theorem c_toll (hd : 4 ≤ d) (h : CS P I s wk) (a w : Int32) : CQ d 126 [.ref 0, .int a, .int w] I J (tollQ P s wk a w) := by
  obtain ⟨d, rfl⟩ : ∃ z, d = z + 1 := ⟨d - 1, by omega⟩
  obtain ⟨h1, h2, h3⟩ := h
  have h10 := h1.S10
  unfold CQ tollQ
  rw [e_X11_toll, runS_M, s_X11_toll_0, q_seam (by omega) h1, p_ci_s]
  rcases oneOf_c (a := a) (N := xS P) (by omega) with e | ⟨e, i, hi, rfl⟩
  · rw [if_pos e, if_pos e]; exact ⟨I, rfl, kp.rf⟩
  · have hne : ¬ oneOf (nI i) (xS P) = 0 := by rw [e]; decide
    rw [if_neg hne, if_neg hne, q_within (by omega), p_ci_s]
    by_cases hw : zI (¬ w < 0 ∧ ¬ 99 < w) = 0
    · rw [if_pos hw, if_pos hw]; exact ⟨I, rfl, kp.rf⟩
    · obtain ⟨I1, t1, t2⟩ := ev_tollFor (d := d) (J := J) (by omega) h1 hi (nI (s i)) wk w
      rw [if_neg hw, if_neg hw, show (999999 : Nat) = 999998 + 1 from rfl, runS_s, s_X11_toll_20, chk_in (by omega) (by omega), nI_clamp (by omega), (h2 i hi).1, h3, t1, p_ci_s]
      exact ⟨I1, rfl, t2.up (by decide)⟩
theorem m_toll (hd : 5 ≤ d) (h : MS P I s wk) (a w : Int32) : MQq d 231 [.ref 192, .int a, .int w] I J (tollQ P s wk a w) := by
  obtain ⟨d, rfl⟩ : ∃ z, d = z + 1 := ⟨d - 1, by omega⟩
  have h1 := h.1
  have h10 := h1.S10
  unfold MQq tollQ
  rw [e_X12_toll, runS_M, s_X12_toll_0, q_seamR (by omega) h1, p_ci_s]
  rcases oneOf_c (a := a) (N := xS P) (by omega) with e | ⟨e, i, hi, rfl⟩
  · rw [if_pos e, if_pos e]; exact ⟨I, rfl, kp.rf, k567.rf⟩
  · have hne : ¬ oneOf (nI i) (xS P) = 0 := by rw [e]; decide
    rw [if_neg hne, if_neg hne, q_in (by omega), p_ci_s]
    by_cases hw : zI (¬ w < 0 ∧ ¬ 99 < w) = 0
    · rw [if_pos hw, if_pos hw]; exact ⟨I, rfl, kp.rf, k567.rf⟩
    · obtain ⟨I1, t1, t2, t3, -, -, -, r1, r2, r3⟩ := h.row (d := d) (J := J) (by omega)
      obtain ⟨I2, u1, u2, u3⟩ := ev_tollOf (d := d) (J := J) (by omega) r1 hi w
      rw [if_neg hw, if_neg hw, show (999999 : Nat) = 999998 + 1 from rfl, runS_s, s_X12_toll_20, t1, p_cv_s, u1, p_ci_s, (r2 i hi).1, r3, nI_clamp (by omega)]
      exact ⟨I2, rfl, (t2.up (by decide)).tr (u2.up (by decide)), t3.tr (k567.of u3)⟩
/-! far -/
def farQ (P : PP) (s : Nat → Nat) (wk a b : Int32) : Int32 := if oneOf a (xN P) = 0 then -1 else if oneOf b (xN P) = 0 then -1 else if dsP P (wyW P s wk) a.toNatClampNeg b.toNatClampNeg < 99999 then nI (dsP P (wyW P s wk) a.toNatClampNeg b.toNatClampNeg) else -2
theorem lt_99999 {m : Nat} (h : m ≤ 99999) : (nI m < (99999 : Int32)) = (m < 99999) := lt_nI (b := 99999) (by omega) (by omega)
theorem dI_reach {m : Nat} (h : m ≤ 99999) : ((1000000 : Int32) ≤ dI m) = (¬ m < 99999) := by
  unfold dI
  by_cases hm : m < 99999
  · rw [if_pos hm]
    have : ((1000000 : Int32) ≤ nI m) = (1000000 ≤ m) := le_nI (a := 1000000) (by omega) (by omega)
    rw [this]
    simp only [hm, not_true]
    exact eq_false (by omega)
  · rw [if_neg hm]
    exact (eq_true (Int32.le_refl _)).trans (eq_true hm).symm
theorem c_far (hd : 6 ≤ d) (h : CS P I s wk) (a b : Int32) : CQ d 133 [.ref 0, .int a, .int b] I J (farQ P s wk a b) := by
  obtain ⟨d, rfl⟩ : ∃ z, d = z + 1 := ⟨d - 1, by omega⟩
  obtain ⟨h1, h2, h3⟩ := h
  have h7 := h1.N7
  have h10 := h1.S10
  unfold CQ farQ
  rw [e_X11_far, runS_M, s_X11_far_0, q_town (by omega) h1, p_ci_s]
  rcases oneOf_c (a := a) (N := xN P) (by omega) with e | ⟨e, t, ht, rfl⟩
  · rw [if_pos e, if_pos e]; exact ⟨I, rfl, kp.rf⟩
  have hne : ¬ oneOf (nI t) (xN P) = 0 := by rw [e]; decide
  rw [if_neg hne, if_neg hne, q_town (by omega) h1, p_ci_s]
  rcases oneOf_c (a := b) (N := xN P) (by omega) with e2 | ⟨e2, u, hu, rfl⟩
  · rw [if_pos e2, if_pos e2]; exact ⟨I, rfl, kp.rf⟩
  have hne2 : ¬ oneOf (nI u) (xN P) = 0 := by rw [e2]; decide
  rw [if_neg hne2, if_neg hne2]
  obtain ⟨I1, t1, t2, t3⟩ := ev_fillWays_39 (d := d) (J := J) (by omega) h1 h2
  have p1 : PlR P I1 := plr_kx h1 t2 (by decide) (by rw [t2 192 (by decide)])
  obtain ⟨m, w1, w2⟩ := ev_whole_39 (d := d) (J := J) (by omega) p1 (h2.cg (g := I1 40) (fun i _ => by rw [t2 40 (by decide)]))
  obtain ⟨f, v1, v2⟩ := ev_measP (d := d) (J := J) (by omega) p1 (a := m) (w := wyW P s wk) (fun i hi => by
    rw [w2 i]
    by_cases hs : 0 < s i
    · refine Or.inr ⟨decide_eq_true ⟨hi, hs⟩, ?_⟩
      have h8 := wyW_nI h1 hi (s := s) (wk := wk) hs
      have h9 := wyW_ok h1 s wk i hi
      rw [t3 i hi, h3, h8]
      have h6 : wyW P s wk i ≠ 99999 := by
        obtain ⟨m, m1, m2, e⟩ := wayF_nI h1 hi (nI (s i)) wk
        unfold wyW
        rw [if_pos hs, e, nI_clamp (by omega)]; omega
      rcases h9 with h9 | h9
      · exact absurd h9 h6
      · exact ⟨h9.1, h9.2, rfl⟩
    · exact Or.inl ⟨decide_eq_false (fun h => hs h.2), by unfold wyW; rw [if_neg hs]⟩) ht
  have hle : dsP P (wyW P s wk) t u ≤ 99999 := ds_le
  obtain ⟨d, rfl⟩ : ∃ z, d = z + 1 := ⟨d - 1, by omega⟩
  refine ⟨cs I1 173 f, ?_, (t2.up (by decide)).cs (by decide)⟩
  rw [show (999999 : Nat) = 999997 + 1 + 1 from rfl, runS_s, s_X11_far_18, t1, p_cv_s, w1, p_ci_s, v1, p_cv_s, runS_s, s_X11_far_55, ev_isReached d _ _ (show u < 7 by omega), p_ci_s, chk_in (by omega) (by omega), nI_clamp (by omega), nI_clamp (by omega)]
  dsimp only
  rw [cs_eq, v2 u (by omega)]
  by_cases hr : dsP P (wyW P s wk) t u < 99999
  · have hz : ¬ zI (¬ (1000000 : Int32) ≤ dI (dsP P (wyW P s wk) t u)) = 0 := by
      rw [z0]; simp only [dI_reach hle, hr, not_true, not_false_iff, Classical.not_not]
    rw [if_neg hz, if_pos hr]
    unfold dI
    rw [if_pos hr]; rfl
  · have hz : zI (¬ (1000000 : Int32) ≤ dI (dsP P (wyW P s wk) t u)) = 0 := by
      rw [z0]; simp only [dI_reach hle, hr, not_true, not_false_iff, Classical.not_not]
    rw [if_pos hz, if_neg hr]; rfl
theorem m_far (hd : 6 ≤ d) (h : MS P I s wk) (a b : Int32) : MQq d 239 [.ref 192, .int a, .int b] I J (farQ P s wk a b) := by
  obtain ⟨d, rfl⟩ : ∃ z, d = z + 1 := ⟨d - 1, by omega⟩
  have h1 := h.1
  have h7 := h1.N7
  have h10 := h1.S10
  unfold MQq farQ
  rw [e_X12_far, runS_M, s_X12_far_0, q_townR (by omega) h1, p_ci_s]
  rcases oneOf_c (a := a) (N := xN P) (by omega) with e | ⟨e, t, ht, rfl⟩
  · rw [if_pos e, if_pos e]; exact ⟨I, rfl, kp.rf, k567.rf⟩
  have hne : ¬ oneOf (nI t) (xN P) = 0 := by rw [e]; decide
  rw [if_neg hne, if_neg hne, q_townR (by omega) h1, p_ci_s]
  rcases oneOf_c (a := b) (N := xN P) (by omega) with e2 | ⟨e2, u, hu, rfl⟩
  · rw [if_pos e2, if_pos e2]; exact ⟨I, rfl, kp.rf, k567.rf⟩
  have hne2 : ¬ oneOf (nI u) (xN P) = 0 := by rw [e2]; decide
  rw [if_neg hne2, if_neg hne2]
  obtain ⟨I1, t1, t2, t3, -, -, -, r1, r2, r3⟩ := h.row (d := d) (J := J) (by omega)
  obtain ⟨I2, u1, u2, u3, u4⟩ := ev_fillsWays (d := d) (J := J) (by omega) r1 r2
  rw [r3] at u4
  have p2 : PlR P I2 := plr_kx r1 u2 (by decide) (u3 18 (by decide))
  obtain ⟨f, v1, v2⟩ := ev_farR (d := d) (J := J) (by omega) p2 (wyW_ok h1 s wk) u4 ht
  have hle : dsP P (wyW P s wk) t u ≤ 99999 := ds_le
  refine ⟨cs I2 231 f, ?_, ((t2.up (by decide)).tr (u2.up (by decide))).cs (by decide), (t3.tr (k567.of u3)).tr (k567.kp (X := [231]) (kp.rf.cs (by decide)) (by decide))⟩
  rw [show (999999 : Nat) = 999997 + 1 + 1 from rfl, runS_s, s_X12_far_18, t1, p_cv_s, u1, p_cv_s, runS_s, s_X12_far_26, v1, p_cv_s, chk_in (by omega) (by omega), chk_in (by omega) (by omega), nI_clamp (by omega), nI_clamp (by omega)]
  simp only [cs_eq, v2 u (show u < 7 by omega), lt_99999 hle]
  by_cases hr : dsP P (wyW P s wk) t u < 99999
  · rw [if_pos hr, if_pos hr]; rfl
  · rw [if_neg hr, if_neg hr]; rfl
end QA
