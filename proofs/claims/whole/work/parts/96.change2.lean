/-! ===== send, weeks, sew ===== -/
section RB
variable {P : PP} {I : Nat → Nat → Int32} {J : Nat → Nat → Int64} {d : Nat} {A : AS} {E : ES}
def sendY (P : PP) (A : AS) (c : Nat) : YS := (A.1.1, A.1.2.1, A.1.2.2.1, qU (qU A.1.2.2.2 c 0 (nI (xa P c))) c 1 1)
def sendV (P : PP) (A : AS) (a : Int32) : Int32 := if oneOf a (xC P) = 0 then 0 else if A.1.2.2.2 a.toNatClampNeg 1 = 1 then 0 else 1
def sendA (P : PP) (A : AS) (a : Int32) : AS := if oneOf a (xC P) = 0 then A else if A.1.2.2.2 a.toNatClampNeg 1 = 1 then A else pushA A (sendY P A a.toNatClampNeg)
theorem send_ok (hp : PlR P I) (h : okY P A.1) {c : Nat} (hc : c < xC P) : okY P (sendY P A c) := by
  obtain ⟨-, ⟨g1, -⟩, -⟩ := hp.ct hc
  refine ⟨fun c' hc' => ?_, h.2⟩
  obtain ⟨⟨t, ht, e⟩, h2⟩ := h.1 c' hc'
  show (∃ t, t < xN P ∧ qU (qU A.1.2.2.2 c 0 (nI (xa P c))) c 1 1 c' 0 = nI t) ∧ (qU (qU A.1.2.2.2 c 0 (nI (xa P c))) c 1 1 c' 1 = 0 ∨ qU (qU A.1.2.2.2 c 0 (nI (xa P c))) c 1 1 c' 1 = 1)
  by_cases cc : c' = c
  · subst cc
    rw [qU_ne (by omega), qU_eq, qU_eq]
    exact ⟨⟨xa P c', g1, rfl⟩, Or.inr rfl⟩
  · rw [qU_ne (by omega), qU_ne (by omega), qU_ne (by omega), qU_ne (by omega)]
    exact ⟨⟨t, ht, e⟩, h2⟩
theorem c_send (hd : 3 ≤ d) (h : SC P I A E) (a : Int32) : cKK d 130 [.ref 0, .int a] P I J (sendV P A a) (sendA P A a) E := by
  obtain ⟨d, rfl⟩ : ∃ z, d = z + 1 := ⟨d - 1, by omega⟩
  have hC := h.1.C4
  unfold cKK sendV sendA
  rw [e_X11_send, runS_M, s_X11_send_0, q_cart (by omega) h.1, p_ci_s]
  rcases oneOf_c (a := a) (N := xC P) (by omega) with e | ⟨e, c, hc, rfl⟩
  · simp only [if_pos e]; exact ⟨I, rfl, FC.rf, h⟩
  have hne : ¬ oneOf (nI c) (xC P) = 0 := by rw [e]; decide
  have q1 : I 41 (5 * c + 1) = A.1.2.2.2 c 1 := h.2.1.1.2.2.1 c hc 1 (by omega)
  simp only [if_neg hne, nI_clamp (show c < 2 ^ 31 by omega)]
  rw [q_on_39 (by omega) (by omega), p_ci_s, q1]
  rcases (h.2.1.2.1.1 c hc).2 with e1 | e1
  · rw [if_pos (zI_f (fun h9 => h9 e1)), if_neg (by rw [e1]; decide), if_neg (by rw [e1]; decide)]
    obtain ⟨I1, t1, t2, t3, -, -, -⟩ := h.keep (d := d) (J := J) (by omega)
    obtain ⟨⟨g1, -, -⟩, -⟩ := t3.1.ct hc
    let I2 := p_wr (p_wr I1 41 (5 * c + 0) (nI (xa P c))) 41 (5 * c + 1) 1
    have k1 : kp nowL I1 I2 := (kp.rf.wr (by decide)).wr (by decide)
    have hst : stC P I2 39 (sendY P A c) := by
      have h0 := t3.2.1.1
      refine ⟨?_, ?_, ?_, ?_⟩
      · show swR P (p_wr (p_wr I1 41 _ _) 41 _ _ 40) _; rw [wr_ne (by decide), wr_ne (by decide)]; exact h0.1
      · show p_wr (p_wr I1 41 _ _) 41 _ _ 39 0 = _; rw [wr_ne (by decide), wr_ne (by decide)]; exact h0.2.1
      · show ctC P (p_wr (p_wr I1 41 _ _) 41 _ _ 41) _; rw [wr_eq, wr_eq]
        exact (h0.2.2.1.set (by omega) _).set (by omega) _
      · show p_wr (p_wr I1 41 _ _) 41 _ _ 39 1 = _; rw [wr_ne (by decide), wr_ne (by decide)]; exact h0.2.2.2
    have h3 := t3.now (y := sendY P A c) k1 hst (send_ok h.1 h.2.1.2.1 hc)
    refine ⟨I2, ?_, t2.tr h3.1, h3.2⟩
    rw [show (999999 : Nat) = 999997 + 1 + 1 from rfl, runS_s, s_X11_send_21, t1, p_cv_s, chk_in (by omega) (by omega), nI_clamp (by omega)]
    dsimp only
    rw [g1, q_sf_39 (x := 0) (by omega) (f := 0) (by omega) (by omega) rfl, p_cv_s, runS_s, s_X11_send_50, q_sf_39 (x := 1) (by omega) (f := 1) (by omega) (by omega) rfl, p_cv_s]
    rfl
  · rw [if_neg (by rw [zI_t (show ¬ A.1.2.2.2 c 1 = 0 by rw [e1]; decide)]; decide), if_pos e1, if_pos e1]
    exact ⟨I, rfl, FC.rf, h⟩
theorem m_send (hd : 3 ≤ d) (h : SM P I A E) (a : Int32) : mKK d 236 [.ref 192, .int a] P I J (sendV P A a) (sendA P A a) E := by
  obtain ⟨d, rfl⟩ : ∃ z, d = z + 1 := ⟨d - 1, by omega⟩
  have hC := h.1.C4
  have hv := h.1.v2
  unfold mKK sendV sendA
  rw [e_X12_send, runS_M, s_X12_send_0, q_cartR (by omega) h.1, p_ci_s]
  rcases oneOf_c (a := a) (N := xC P) (by omega) with e | ⟨e, c, hc, rfl⟩
  · simp only [if_pos e]; exact ⟨I, rfl, FM.rf, h⟩
  have hne : ¬ oneOf (nI c) (xC P) = 0 := by rw [e]; decide
  have q1 : I 229 (14 + c) = A.1.2.2.2 c 1 := h.2.1.1.2.2.1 c hc 1 (by omega)
  have e14 : (14 : Int32) + nI c = nI (14 + c) := nI_add 14 c
  have e10 : (10 : Int32) + nI c = nI (10 + c) := nI_add 10 c
  have e4 : (4 : Int32) * nI (xv P) + nI c = nI (4 * xv P + c) := by rw [show (4 : Int32) * nI (xv P) = nI (4 * xv P) from pk_mul 4 (xv P), nI_add]
  simp only [if_neg hne, nI_clamp (show c < 2 ^ 31 by omega)]
  rw [e14, chk_in (by omega) (by omega), nI_clamp (by omega)]
  simp only [q1]
  by_cases e1 : A.1.2.2.2 c 1 = 1
  · rw [if_pos e1, if_pos e1, if_pos e1]; exact ⟨I, rfl, FM.rf, h⟩
  rw [if_neg e1, if_neg e1, if_neg e1]
  obtain ⟨I1, t1, t2, t3, t4, -, -, -⟩ := h.row (d := d) (J := J) (by omega)
  obtain ⟨-, -, g1, -, -⟩ := t3.1.ct hc
  let I2 := p_wr (p_wr I1 230 (10 + c) (nI (xa P c))) 230 (14 + c) 1
  have k1 : kp [230] I1 I2 := (kp.rf.wr (by decide)).wr (by decide)
  have h2 := t3.sc (k1.up (by decide)) (k567.kp k1 (by decide))
  have h10 := h.1.S10
  obtain ⟨I3, u1, u2, u3, u4⟩ := h2.2.rec (d := d) (J := J) (by omega) (y := sendY P A c) (by
    show stM P (p_wr (p_wr I1 230 _ _) 230 _ _ 230) _
    rw [wr_eq, wr_eq]
    refine ⟨fun i hi => ?_, ?_, ?_, ?_⟩
    · rw [pk_un (by omega), pk_un (by omega)]; exact t4.1 i hi
    · rw [pk_un (by omega), pk_un (by omega)]; exact t4.2.1
    · exact (t4.2.2.1.set (f := 0) hC (by omega) (nI (xa P c))).set (f := 1) hC (by omega) 1
    · rw [pk_un (by omega), pk_un (by omega)]; exact t4.2.2.2) (send_ok h.1 h.2.1.2.1 hc)
  refine ⟨I3, ?_, (t2.tr h2.1).tr u2, u3⟩
  rw [t1, p_cv_s, show (999999 : Nat) = 999998 + 1 from rfl, runS_s, s_X12_send_27, t3.1.v, e4, e10, e14, chk_in (by omega) (by omega), chk_in (by omega) (by omega), chk_in (by omega) (by omega), nI_clamp (by omega), nI_clamp (by omega), nI_clamp (by omega), g1]
  have u1' : EV d T0 232 [.ref 192] (p_wr (p_wr I1 230 (10 + c) (nI (xa P c))) 230 (14 + c) 1, J) = _ := u1
  rw [u1', p_cv_s]
  rfl
/-! weeks -/
def wksV (P : PP) (A : AS) (a : Int32) : Int32 := if zI (¬ a < 0 ∧ ¬ 60 < a) = 0 then -1 else if a = 0 then A.1.2.2.1 else (wkI P (xe P) a.toNatClampNeg A.1.2).2.1
def wksA (P : PP) (A : AS) (a : Int32) : AS := if zI (¬ a < 0 ∧ ¬ 60 < a) = 0 then A else if a = 0 then A else pushA A (A.1.1, wkI P (xe P) a.toNatClampNeg A.1.2)
theorem c_weeks (hd : 10 ≤ d) (h : SC P I A E) (a : Int32) : cKK d 131 [.ref 0, .int a] P I J (wksV P A a) (wksA P A a) E := by
  obtain ⟨d, rfl⟩ : ∃ z, d = z + 1 := ⟨d - 1, by omega⟩
  unfold cKK wksV wksA
  rw [e_X11_weeks, runS_M, s_X11_weeks_0, q_within (by omega), p_ci_s]
  rcases in_c (n := a) (lo := 0) (hi := 60) (l := 0) (h := 60) rfl rfl (by omega) (by omega) with e2 | ⟨e2, k, k1, k2, rfl⟩
  · simp only [if_pos e2]; exact ⟨I, rfl, FC.rf, h⟩
  have hne2 : ¬ zI (¬ nI k < (0 : Int32) ∧ ¬ (60 : Int32) < nI k) = 0 := by rw [e2]; decide
  simp only [if_neg hne2, le0_nI (show k < 2 ^ 31 by omega), eq0_nI (show k < 2 ^ 31 by omega), nI_clamp (show k < 2 ^ 31 by omega)]
  by_cases c : k = 0
  · simp only [if_pos c]
    rw [h.2.1.1.2.1]
    exact ⟨I, rfl, FC.rf, h⟩
  simp only [if_neg c]
  obtain ⟨I1, t1, t2, t3, -, -, -⟩ := h.keep (d := d) (J := J) (by omega)
  obtain ⟨I2, u1, u2, u3, u4⟩ := ev_pass_39 (d := d) (J := J) (by omega) t3.cx (k := k) (by omega) (xe P)
  have h3 := t3.now (y := (A.1.1, wkI P (xe P) k A.1.2)) (u2.up (by decide)) ⟨u3.2.1, u3.2.2.1, u3.2.2.2.1, by rw [u4]; exact t3.2.1.1.2.2.2⟩ ⟨u3.2.2.2.2, h.2.1.2.1.2⟩
  refine ⟨I2, ?_, t2.tr h3.1, h3.2⟩
  rw [t1, p_cv_s, show (999999 : Nat) = 999998 + 1 from rfl, runS_s, s_X11_weeks_27, t3.1.sd.1, u1, p_cv_s]
  dsimp only
  rw [u3.2.2.1]
  rfl
theorem m_weeks (hd : 8 ≤ d) (h : SM P I A E) (a : Int32) : mKK d 237 [.ref 192, .int a] P I J (wksV P A a) (wksA P A a) E := by
  obtain ⟨d, rfl⟩ : ∃ z, d = z + 1 := ⟨d - 1, by omega⟩
  unfold mKK wksV wksA
  rw [e_X12_weeks, runS_M, s_X12_weeks_0, q_in (by omega), p_ci_s]
  rcases in_c (n := a) (lo := 0) (hi := 60) (l := 0) (h := 60) rfl rfl (by omega) (by omega) with e2 | ⟨e2, k, k1, k2, rfl⟩
  · simp only [if_pos e2]; exact ⟨I, rfl, FM.rf, h⟩
  have hne2 : ¬ zI (¬ nI k < (0 : Int32) ∧ ¬ (60 : Int32) < nI k) = 0 := by rw [e2]; decide
  simp only [if_neg hne2, eq0_nI (show k < 2 ^ 31 by omega), nI_clamp (show k < 2 ^ 31 by omega)]
  by_cases c : k = 0
  · simp only [if_pos c]
    rw [h.2.1.1.2.1]
    exact ⟨I, rfl, FM.rf, h⟩
  simp only [if_neg c]
  obtain ⟨I1, t1, t2, t3, t4, t5, t6, -⟩ := h.row (d := d) (J := J) (by omega)
  have m1 : MX P I1 A.1.2 := ⟨t3.1, t4.1, t4.2.1, t4.2.2.1, h.2.1.2.1.1⟩
  obtain ⟨I2, u1, u2, u3, u4, u5⟩ := ev_goes (d := d) (J := J) (by omega) m1 t6 (k := k) (by omega)
  rw [t5] at u4
  have h2 := t3.sc (u2.up (by decide)) (k567.of u3)
  obtain ⟨I3, v1, v2, v3, v4⟩ := h2.2.rec (d := d) (J := J) (by omega) (y := (A.1.1, wkI P (xe P) k A.1.2)) ⟨u4.2.1, u4.2.2.1, u4.2.2.2.1, by rw [u5]; exact t4.2.2.2⟩ ⟨u4.2.2.2.2, h.2.1.2.1.2⟩
  refine ⟨I3, ?_, (t2.tr h2.1).tr v2, v3⟩
  rw [t1, p_cv_s, show (999999 : Nat) = 999997 + 1 + 1 from rfl, runS_s, s_X12_weeks_28, u1, p_cv_s, v1, p_cv_s, runS_s, s_X12_weeks_37, v3.2.1.1.2.1]
  rfl
/-! sew -/
def canP (P : PP) (y : YS) (e : Nat) : Prop := ¬ 99 ≤ y.2.1 e ∧ ¬ y.1 < costF P e (nI (y.2.1 e)) y.2.2.1
def sew1 (P : PP) (y : YS) (e : Nat) : YS := setT (setS y e (y.2.1 e + 1)) (y.1 - costF P e (nI (y.2.1 e)) y.2.2.1)
def canB (P : PP) (y : YS) (e : Nat) : Bool := decide (¬ 99 ≤ y.2.1 e ∧ ¬ y.1 < costF P e (nI (y.2.1 e)) y.2.2.1)
def sewF (P : PP) (e : Nat) : Nat → Nat → YS → Nat × YS
  | 0, c, y => (c, y)
  | k + 1, c, y => if canB P y e = true then sewF P e k (c + 1) (sew1 P y e) else (c, y)
theorem sew1_ok {y : YS} (h : okY P y) {e : Nat} (hc : canB P y e = true) : okY P (sew1 P y e) := by
  obtain ⟨m, hm, em⟩ := h.2
  have h2 := (of_decide_eq_true hc).2
  obtain ⟨c, hc1, ec⟩ := lawF_nI P 0 e (nI (y.2.1 e)) y.2.2.1 0 0 0 (if nI (y.2.1 e) = 0 then 1 else 0)
  have ec' : costF P e (nI (y.2.1 e)) y.2.2.1 = nI c := ec
  refine ⟨h.1, m - c, by omega, ?_⟩
  show y.1 - costF P e (nI (y.2.1 e)) y.2.2.1 = _
  rw [em, ec', lt_nI (by omega) (by omega)] at h2
  rw [em, ec', pk_sub (by omega)]
theorem ev_can (hd : 4 ≤ d) {y : YS} (hp : PlR P I) (h : stC P I 39 y) {e : Nat} (he : e < xS P) : ∃ I', EV d T0 58 [.ref 169, .int (nI e), .ref 39] (I, J) = some (some (.int (zI (canB P y e = true))), (I', J)) ∧ kp [37, 170] I I' := by
  obtain ⟨d, rfl⟩ : ∃ z, d = z + 1 := ⟨d - 1, by omega⟩
  have h10 := hp.S10
  have hs := h.1 e he
  have hs1 : I 40 e = nI (y.2.1 e) := hs.1
  have hle := hs.2
  rw [e_X5_canStitch, runS_M, s_X5_canStitch_0, chk_in (by omega) (by omega), nI_clamp (by omega)]
  simp only [hs1, show ((99 : Int32) ≤ nI (y.2.1 e)) = (99 ≤ y.2.1 e) from le_nI (a := 99) (by omega) (by omega)]
  by_cases c : 99 ≤ y.2.1 e
  · rw [if_pos c, zI_f (fun h9 => (of_decide_eq_true h9).1 c)]
    exact ⟨I, rfl, kp.rf⟩
  · obtain ⟨I1, t1, t2⟩ := ev_stitchCost (d := d) (J := J) (by omega) hp he (nI (y.2.1 e)) y.2.2.1
    have w : I 39 0 = y.2.2.1 := h.2.1
    have w2 : I1 39 1 = y.1 := by rw [t2 39 (by decide)]; exact h.2.2.2
    refine ⟨I1, ?_, t2⟩
    rw [if_neg c, w, t1, p_ci_s]
    simp only [w2]
    by_cases c2 : y.1 < costF P e (nI (y.2.1 e)) y.2.2.1
    · rw [if_pos c2, zI_f (fun h9 => (of_decide_eq_true h9).2 c2)]; rfl
    · rw [if_neg c2, zI_t (show canB P y e = true from decide_eq_true ⟨c, c2⟩)]; rfl
theorem lp_sew (hd : 4 ≤ d) {e N : Nat} (he : e < xS P) (hN : N ≤ 99) : ∀ (k i n : Nat) (A : AS) (I : Nat → Nat → Int32), SC P I A E → i + k = N → 2 * k < n →
    ∃ I', runS (EV d) none 4 T0 C_X11_sew k_X11_sew rtI f_X11_sew n 51 [.ref 0, .int (nI e), .int (nI N), .int (nI i)] [] (I, J) = some (some (.int (nI (sewF P e k i A.1).1)), (I', J)) ∧ FC I I' ∧ SC P I' ((sewF P e k i A.1).2, A.2) E := by
  intro k
  induction k with
  | zero =>
    intro i n A I h hi hn
    obtain ⟨n, rfl⟩ : ∃ z, n = z + 1 := ⟨n - 1, by omega⟩
    rw [runS_s, s_X11_sew_51, if_pos (nI_le (by omega) (by omega))]
    exact ⟨I, rfl, FC.rf, h⟩
  | succ k ih =>
    intro i n A I h hi hn
    obtain ⟨n, rfl⟩ : ∃ z, n = z + 1 + 1 := ⟨n - 2, by omega⟩
    have h10 := h.1.S10
    obtain ⟨I1, t1, t2⟩ := ev_can (d := d) (J := J) hd h.1 h.2.1.1 he
    have h1 := h.sc (t2.up (by decide))
    rw [runS_s, s_X11_sew_51, if_neg (nI_ge (by omega) (by omega)), t1, p_ci_s]
    unfold sewF
    by_cases c : canB P A.1 e = true
    · have s1 := h1.2.2.1.1
      have hs := s1.1 e he
      have hs1 : I1 40 e = nI (A.1.2.1 e) := hs.1
      have w : I1 39 0 = A.1.2.2.1 := s1.2.1
      have w2 : I1 39 1 = A.1.1 := s1.2.2.2
      have h99 := (of_decide_eq_true c).1
      obtain ⟨I2, u1, u2⟩ := ev_stitchCost (d := d) (J := J) (by omega) h1.2.1 he (nI (A.1.2.1 e)) A.1.2.2.1
      have h2 := h1.2.sc (u2.up (by decide))
      let I3 := p_wr (p_wr I2 39 1 (A.1.1 - costF P e (nI (A.1.2.1 e)) A.1.2.2.1)) 40 e (nI (A.1.2.1 e + 1))
      have k3 : kp nowL I2 I3 := (kp.rf.wr (by decide)).wr (by decide)
      have hst : stC P I3 39 (sew1 P A.1 e) := (h2.2.2.1.1.setT (A.1.1 - costF P e (nI (A.1.2.1 e)) A.1.2.2.1)).setS (e := e) (m := A.1.2.1 e + 1) (by omega)
      have h3 := h2.2.now (y := sew1 P A.1 e) k3 hst (sew1_ok h.2.1.2.1 c)
      obtain ⟨I4, v1, v2, v3⟩ := ih (i + 1) n (sew1 P A.1 e, A.2) I3 h3.2 (by omega) (by omega)
      refine ⟨I4, ?_, ((h1.1.tr h2.1).tr h3.1).tr v2, ?_⟩
      · rw [if_neg (by rw [zI_t c]; decide), if_pos c, chk_in (by omega) (by omega), nI_clamp (by omega)]
        dsimp only
        rw [hs1, w, u1, p_ci_s, w2, runS_s, s_X11_sew_107, chk_in (by omega) (by omega), chk_in (by omega) (by omega), nI_clamp (by omega)]
        dsimp only
        have e40 : p_wr I2 39 1 (A.1.1 - costF P e (nI (A.1.2.1 e)) A.1.2.2.1) 40 e = nI (A.1.2.1 e) := by rw [wr_ne (by decide), u2 40 (by decide)]; exact hs1
        rw [e40, nI_1, nI_1]
        exact v1
      · rw [if_pos c]; exact v3
    · rw [if_pos (zI_f c), if_neg c]
      exact ⟨I1, rfl, h1.1, h1.2⟩
def sewV (P : PP) (A : AS) (a b : Int32) : Int32 := if oneOf a (xS P) = 0 then -1 else if zI (¬ b < 1 ∧ ¬ 99 < b) = 0 then -1 else if canB P A.1 a.toNatClampNeg = true then nI (sewF P a.toNatClampNeg b.toNatClampNeg 0 A.1).1 else -2
def sewAA (P : PP) (A : AS) (a b : Int32) : AS := if oneOf a (xS P) = 0 then A else if zI (¬ b < 1 ∧ ¬ 99 < b) = 0 then A else if canB P A.1 a.toNatClampNeg = true then pushA A (sewF P a.toNatClampNeg b.toNatClampNeg 0 A.1).2 else A
theorem c_sew (hd : 5 ≤ d) (h : SC P I A E) (a b : Int32) : cKK d 127 [.ref 0, .int a, .int b] P I J (sewV P A a b) (sewAA P A a b) E := by
  obtain ⟨d, rfl⟩ : ∃ z, d = z + 1 := ⟨d - 1, by omega⟩
  have h10 := h.1.S10
  unfold cKK sewV sewAA
  rw [e_X11_sew, runS_M, s_X11_sew_0, q_seam (by omega) h.1, p_ci_s]
  rcases oneOf_c (a := a) (N := xS P) (by omega) with e | ⟨e, i, hi, rfl⟩
  · simp only [if_pos e]; exact ⟨I, rfl, FC.rf, h⟩
  have hne : ¬ oneOf (nI i) (xS P) = 0 := by rw [e]; decide
  simp only [if_neg hne]
  rw [q_within (by omega), p_ci_s]
  rcases in_c (n := b) (lo := 1) (hi := 99) (l := 1) (h := 99) rfl rfl (by omega) (by omega) with e2 | ⟨e2, n, n1, n2, rfl⟩
  · simp only [if_pos e2]; exact ⟨I, rfl, FC.rf, h⟩
  have hne2 : ¬ zI (¬ nI n < (1 : Int32) ∧ ¬ (99 : Int32) < nI n) = 0 := by rw [e2]; decide
  simp only [if_neg hne2, nI_clamp (show i < 2 ^ 31 by omega), nI_clamp (show n < 2 ^ 31 by omega)]
  obtain ⟨I1, t1, t2⟩ := ev_can (d := d) (J := J) (by omega) h.1 h.2.1.1 hi
  have h1 := h.sc (t2.up (by decide))
  rw [show (999999 : Nat) = 999997 + 1 + 1 from rfl, runS_s, s_X11_sew_20, t1, p_ci_s]
  by_cases c : canB P A.1 i = true
  · obtain ⟨I2, u1, u2, u3, -, -, -⟩ := h1.2.keep (d := d) (J := J) (by omega)
    obtain ⟨I3, v1, v2, v3⟩ := lp_sew (d := d) (J := J) (E := E) (by omega) hi n2 n 0 999997 _ I2 u3 (by omega) (by omega)
    refine ⟨I3, ?_, (h1.1.tr u2).tr v2, ?_⟩
    · rw [if_neg (by rw [zI_t c]; decide), if_pos c, u1, p_cv_s, runS_s, s_X11_sew_49]
      exact v1
    · rw [if_pos c]; exact v3
  · rw [if_pos (zI_f c), if_neg c, if_neg c]
    exact ⟨I1, rfl, h1.1, h1.2⟩
end RB
