/-! ===== sew (reference), undo, hold, restore ===== -/
section RC1
variable {P : PP} {I : Nat → Nat → Int32} {J : Nat → Nat → Int64} {d : Nat} {A : AS} {E : ES}
/-- the end of the reference's sew: c stitches were made -/
theorem sew_end (hd : 3 ≤ d) {y : YS} (h : SM P I A E) (hy : stM P (I 230) y) (ho : okY P y) {c : Nat} (hc : c ≤ 99) : ∃ I', (if nI c = (0 : Int32) then rtI (some (.int (-2))) (I, J) else p_cv (EV d T0 232 [.ref 192] (I, J)) (fun z => rtI (some (.int (nI c))) z)) = some (some (.int (if c = 0 then -2 else nI c)), (I', J)) ∧ FM I I' ∧ SM P I' (if c = 0 then A else pushA A y) E := by
  simp only [eq0_nI (show c < 2 ^ 31 by omega)]
  by_cases e : c = 0
  · simp only [if_pos e]; exact ⟨I, rfl, FM.rf, h⟩
  · simp only [if_neg e]
    obtain ⟨I1, t1, t2, t3, -⟩ := h.rec (d := d) (J := J) (by omega) hy ho
    refine ⟨I1, ?_, t2, t3⟩
    rw [t1, p_cv_s]
    rfl
theorem lp_sewR (hd : 5 ≤ d) {e N : Nat} (he : e < xS P) (hN : N ≤ 99) : ∀ (k i n : Nat) (y : YS) (I : Nat → Nat → Int32), SM P I A E → stM P (I 230) y → okY P y → i + k = N → 2 * k < n →
    ∃ I', runS (EV d) none 5 T0 C_X12_sew k_X12_sew rtI f_X12_sew n 26 [.ref 192, .int (nI e), .int (nI N), .int (nI i), un] [] (I, J) = some (some (.int (if (sewF P e k i y).1 = 0 then -2 else nI (sewF P e k i y).1)), (I', J)) ∧ FM I I' ∧ SM P I' (if (sewF P e k i y).1 = 0 then A else pushA A (sewF P e k i y).2) E := by
  intro k
  induction k with
  | zero =>
    intro i n y I h hy ho hi hn
    obtain ⟨n, rfl⟩ : ∃ z, n = z + 1 := ⟨n - 1, by omega⟩
    rw [runS_s, s_X12_sew_26, if_pos (nI_le (by omega) (by omega))]
    exact sew_end (d := d) (J := J) (by omega) h hy ho (c := i) (by omega)
  | succ k ih =>
    intro i n y I h hy ho hi hn
    obtain ⟨n, rfl⟩ : ∃ z, n = z + 1 + 1 := ⟨n - 2, by omega⟩
    have h10 := h.1.S10
    have hs := hy.1 e he
    have hle := hs.2
    have hend := sew_end (d := d) (J := J) (by omega) h hy ho (c := i) (by omega)
    rw [runS_s, s_X12_sew_26, if_neg (nI_ge (by omega) (by omega)), chk_in (by omega) (by omega), nI_clamp (by omega)]
    simp only [hs.1, show ((99 : Int32) ≤ nI (y.2.1 e)) = (99 ≤ y.2.1 e) from le_nI (a := 99) (by omega) (by omega)]
    unfold sewF
    by_cases c1 : 99 ≤ y.2.1 e
    · rw [if_pos c1, if_neg (show ¬ canB P y e = true from fun h9 => (of_decide_eq_true h9).1 c1)]
      exact hend
    · obtain ⟨I1, t1, t2, t3⟩ := ev_costsNow (d := d) (J := J) (by omega) h.1 he
      rw [hs.1, hy.2.1] at t1
      have h1 := h.sc (t2.up (by decide)) (k567.of t3)
      have e230 : I1 230 = I 230 := t2 230 (by decide)
      rw [if_neg c1, t1, p_ci_s]
      dsimp only
      have w2 : I1 230 30 = y.1 := by rw [e230]; exact hy.2.2.2
      simp only [w2]
      by_cases c2 : y.1 < costF P e (nI (y.2.1 e)) y.2.2.1
      · rw [if_neg (Int32.not_le.mpr c2), if_neg (show ¬ canB P y e = true from fun h9 => (of_decide_eq_true h9).2 c2)]
        obtain ⟨I2, u1, u2, u3⟩ := sew_end (d := d) (J := J) (by omega) h1.2 (y := y) (by rw [e230]; exact hy) ho (c := i) (by omega)
        exact ⟨I2, u1, h1.1.tr u2, u3⟩
      · have hc : canB P y e = true := decide_eq_true ⟨c1, c2⟩
        rw [if_pos (Int32.not_lt.mp c2), if_pos hc]
        let I3 := p_wr (p_wr I1 230 30 (y.1 - costF P e (nI (y.2.1 e)) y.2.2.1)) 230 e (nI (y.2.1 e + 1))
        have k3 : kp [230] I1 I3 := (kp.rf.wr (by decide)).wr (by decide)
        have h3 := h1.2.sc (k3.up (by decide)) (k567.kp k3 (by decide))
        have hst : stM P (I3 230) (sew1 P y e) := by
          show stM P (p_wr (p_wr I1 230 30 _) 230 e _ 230) _
          rw [wr_eq, wr_eq, e230]
          exact (hy.setT h.1 (y.1 - costF P e (nI (y.2.1 e)) y.2.2.1)).setS h.1 he (m := y.2.1 e + 1) (by omega)
        obtain ⟨I4, v1, v2, v3⟩ := ih (i + 1) n (sew1 P y e) I3 h3.2 hst (sew1_ok ho hc) (by omega) (by omega)
        refine ⟨I4, ?_, (h1.1.tr h3.1).tr v2, v3⟩
        have e4 : p_wr I1 230 30 (y.1 - costF P e (nI (y.2.1 e)) y.2.2.1) 230 e = nI (y.2.1 e) := by rw [wr_eq, pk_un (by omega), e230]; exact hs.1
        rw [runS_s, s_X12_sew_76, chk_in (by omega) (by omega), chk_in (by omega) (by omega), nI_clamp (by omega), e4, nI_1, nI_1]
        exact v1
theorem sewF_ge (P : PP) (e : Nat) : ∀ (k c : Nat) (y : YS), c ≤ (sewF P e k c y).1 := by
  intro k
  induction k with
  | zero => intro c y; exact Nat.le_refl _
  | succ k ih =>
    intro c y
    unfold sewF
    split
    · have := ih (c + 1) (sew1 P y e); omega
    · exact Nat.le_refl _
theorem m_sew (hd : 6 ≤ d) (h : SM P I A E) (a b : Int32) : mKK d 233 [.ref 192, .int a, .int b] P I J (sewV P A a b) (sewAA P A a b) E := by
  obtain ⟨d, rfl⟩ : ∃ z, d = z + 1 := ⟨d - 1, by omega⟩
  have h10 := h.1.S10
  unfold mKK sewV sewAA
  rw [e_X12_sew, runS_M, s_X12_sew_0, q_seamR (by omega) h.1, p_ci_s]
  rcases oneOf_c (a := a) (N := xS P) (by omega) with e | ⟨e, i, hi, rfl⟩
  · simp only [if_pos e]; exact ⟨I, rfl, FM.rf, h⟩
  have hne : ¬ oneOf (nI i) (xS P) = 0 := by rw [e]; decide
  simp only [if_neg hne]
  rw [q_in (by omega), p_ci_s]
  rcases in_c (n := b) (lo := 1) (hi := 99) (l := 1) (h := 99) rfl rfl (by omega) (by omega) with e2 | ⟨e2, n, n1, n2, rfl⟩
  · simp only [if_pos e2]; exact ⟨I, rfl, FM.rf, h⟩
  have hne2 : ¬ zI (¬ nI n < (1 : Int32) ∧ ¬ (99 : Int32) < nI n) = 0 := by rw [e2]; decide
  simp only [if_neg hne2, nI_clamp (show i < 2 ^ 31 by omega), nI_clamp (show n < 2 ^ 31 by omega)]
  obtain ⟨I1, t1, t2, t3, t4, -, -, -⟩ := h.row (d := d) (J := J) (by omega)
  obtain ⟨I2, u1, u2, u3⟩ := lp_sewR (d := d) (J := J) (A := A) (E := E) (by omega) hi n2 n 0 999998 A.1 I1 t3 t4 h.2.1.2.1 (by omega) (by omega)
  have hr : runS (EV d) none 5 T0 C_X12_sew k_X12_sew rtI f_X12_sew 999999 20 [.ref 192, .int (nI i), .int (nI n), un, un] [] (I, J) = some (some (.int (if (sewF P i n 0 A.1).1 = 0 then -2 else nI (sewF P i n 0 A.1).1)), (I2, J)) := by
    rw [show (999999 : Nat) = 999998 + 1 from rfl, runS_s, s_X12_sew_20, t1, p_cv_s]
    exact u1
  obtain ⟨n, rfl⟩ : ∃ z, n = z + 1 := ⟨n - 1, by omega⟩
  by_cases c : canB P A.1 i = true
  · have hne3 : ¬ (sewF P i (n + 1) 0 A.1).1 = 0 := by
      have := sewF_ge P i n (0 + 1) (sew1 P A.1 i)
      unfold sewF; rw [if_pos c]; omega
    rw [if_neg hne3] at hr u3
    simp only [if_pos c]
    exact ⟨I2, hr, t2.tr u2, u3⟩
  · have h0 : (sewF P i (n + 1) 0 A.1).1 = 0 := by unfold sewF; rw [if_neg c]
    rw [if_pos h0] at hr u3
    simp only [if_neg c]
    exact ⟨I2, hr, t2.tr u2, u3⟩
/-! undo -/
def undoV (A : AS) : Int32 := if A.2.1.1 = 0 then 0 else 1
def undoA (A : AS) : AS := if A.2.1.1 = 0 then A else (A.2.1.2 (A.2.1.1 - 1), (A.2.1.1 - 1, A.2.1.2), A.2.2)
theorem c_undo (hd : 3 ≤ d) (h : SC P I A E) : cKK d 132 [.ref 0] P I J (undoV A) (undoA A) E := by
  obtain ⟨d, rfl⟩ : ∃ z, d = z + 1 := ⟨d - 1, by omega⟩
  unfold cKK undoV undoA
  rw [e_X11_undo, runS_M, s_X11_undo_0]
  by_cases c : A.2.1.1 = 0
  · have h3 := h.2.1.2.2.1
    rw [c] at h3
    simp only [if_pos c]
    rw [ev_takeBack0 (by omega) h3, p_ci_s]
    exact ⟨I, rfl, FC.rf, h⟩
  · simp only [if_neg c]
    obtain ⟨I1, t1, t2, t3, t4⟩ := ev_takeBack (d := d) (J := J) (by omega) h.1 h.2.1.2.2.1 c
    have hf : FC I I1 := FC.of t2 (by decide)
    obtain ⟨o, o1, o2, o3, o4, o5⟩ := h.2.1.2.2.1
    rw [t1, p_ci_s]
    refine ⟨I1, rfl, hf, h.1.FC hf, ⟨t4, (o5 _ (by omega)).1, t3, fun s hs => ?_, ?_⟩, ?_⟩
    · have := h.2.1.2.2.2.1 s hs
      have e : ∀ k, 167 ≤ k → I1 k = I k := fun k hk => t2 k (by simp only [List.mem_cons, List.not_mem_nil, or_false]; omega)
      unfold slC at *
      dsimp only
      cases c : A.2.2.1 s with
      | none => rw [c] at this; dsimp only at *; rw [e 168 (by omega)]; exact this
      | some y => rw [c] at this; dsimp only at *; rw [e 168 (by omega)]; exact ⟨this.1, this.2.1, this.2.2.cg (e _ (by omega)) (e _ (by omega)) (e _ (by omega))⟩
    · have := h.2.1.2.2.2.2
      unfold TDC at *
      rw [t2 178 (by decide), t2 179 (by decide), t2 180 (by decide), t2 181 (by decide)]; exact this
    · have := h.2.2
      unfold TC at *
      rw [t2 0 (by decide), t2 1 (by decide), t2 2 (by decide), t2 25 (by decide)]; exact this
theorem lp_undo {O : Ora} {U : Nat} (hU : U < 40) {g : Nat → Int32} (h62 : I 192 62 = nI U) : ∀ (k i n : Nat), i + k = 32 → k < n →
    runS O none 2 T0 C_X12_undo k_X12_undo rtZ f_X12_undo n 21 [.ref 192, .int (nI i)] [] (cs I 229 (cpF (fun j => I 235 (32 * U + j)) g i), J) = some (some (.int 1), (cs I 229 (cpF (fun j => I 235 (32 * U + j)) g 32), J)) := by
  intro k
  induction k with
  | zero =>
    intro i n hi hn
    obtain ⟨n, rfl⟩ : ∃ z, n = z + 1 := ⟨n - 1, by omega⟩
    have e : i = 32 := by omega
    subst e
    rw [runS_s, s_X12_undo_21, if_pos (by decide)]
    rfl
  | succ k ih =>
    intro i n hi hn
    obtain ⟨n, rfl⟩ : ∃ z, n = z + 1 := ⟨n - 1, by omega⟩
    have e1 : (32 : Int32) * nI U + nI i = nI (32 * U + i) := by rw [show (32 : Int32) * nI U = nI (32 * U) from pk_mul 32 U, nI_add]
    rw [runS_s, s_X12_undo_21, if_neg (show ¬ (32 : Int32) ≤ nI (i) from nI_ge (a := i) (b := 32) (by omega) (by omega)), cs_ne (show (192 : Nat) ≠ 229 by decide), h62, e1, chk_in (by omega) (by omega), chk_in (by omega) (by omega), nI_clamp (by omega), nI_clamp (by omega), nI_1, cs_ne (show (235 : Nat) ≠ 229 by decide), wr_cs2]
    have e2 : upd (cpF (fun j => I 235 (32 * U + j)) g i) i (I 235 (32 * U + i)) = cpF (fun j => I 235 (32 * U + j)) g (i + 1) := cpF_s
    rw [e2]
    exact ih (i + 1) n (by omega) (by omega)
theorem m_undo (hd : 1 ≤ d) (h : SM P I A E) : mKK d 238 [.ref 192] P I J (undoV A) (undoA A) E := by
  obtain ⟨d, rfl⟩ : ∃ z, d = z + 1 := ⟨d - 1, by omega⟩
  obtain ⟨u1, u2, u3⟩ := h.2.1.2.2.1
  unfold mKK undoV undoA
  rw [e_X12_undo, runS_M, s_X12_undo_0, u1]
  simp only [eq0_nI (show A.2.1.1 < 2 ^ 31 by omega)]
  by_cases c : A.2.1.1 = 0
  · simp only [if_pos c]; exact ⟨I, rfl, FM.rf, h⟩
  · simp only [if_neg c]
    have e1 : nI A.2.1.1 - 1 = nI (A.2.1.1 - 1) := pk_sub (b := 1) (by omega)
    rw [e1]
    let I0 := p_wr I 192 62 (nI (A.2.1.1 - 1))
    have e62 : I0 192 62 = nI (A.2.1.1 - 1) := by show p_wr I 192 62 _ 192 62 = _; rw [wr_eq, pk_us]
    have hz := lp_undo (O := EV d) (I := I0) (J := J) (U := A.2.1.1 - 1) (by omega) (g := I0 229) e62 32 0 999999 (by omega) (by omega)
    rw [cpF_0, cs_self] at hz
    have k1 : kp [192, 229] I (cs I0 229 (cpF (fun j => I0 235 (32 * (A.2.1.1 - 1) + j)) (I0 229) 32)) := (kp.rf.wr (by decide)).cs (by decide)
    have f1 : k62 I (cs I0 229 (cpF (fun j => I0 235 (32 * (A.2.1.1 - 1) + j)) (I0 229) 32)) := fun j hj => by rw [cs_ne (by decide)]; show p_wr I 192 62 _ 192 j = _; rw [wr_eq, pk_un hj]
    have hf : FM I (cs I0 229 (cpF (fun j => I0 235 (32 * (A.2.1.1 - 1) + j)) (I0 229) 32)) := FM.of k1 (by decide) (fun j hj => f1 j (fun c => hj (by rw [c]; decide)))
    obtain ⟨w1, w2⟩ := u3 (A.2.1.1 - 1) (by omega)
    refine ⟨_, hz, hf, h.1.FM hf, ⟨?_, w1, ⟨?_, by dsimp only; omega, fun k hk => ?_⟩, fun s hs => ?_, ?_⟩, ?_⟩
    · rw [cs_eq]
      refine w2.cg h.1 (fun j hj => ?_)
      exact if_pos hj
    · rw [cs_ne (by decide)]; exact e62
    · have := u3 k (by dsimp only at hk; omega)
      rw [k1 235 (by decide)]; exact this
    · have := h.2.1.2.2.2.1 s hs
      unfold slM at *
      rw [k1 241 (by decide), k1 242 (by decide)]; exact this
    · have := h.2.1.2.2.2.2
      unfold TDM at *
      rw [f1 65 (by decide), k1 237 (by decide), k1 238 (by decide), k1 239 (by decide)]; exact this
    · have := h.2.2
      unfold TM at *
      rw [f1 2 (by decide), k1 193 (by decide), f1 17 (by decide), k1 208 (by decide), k1 209 (by decide)]; exact this
end RC1
