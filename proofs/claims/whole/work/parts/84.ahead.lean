/-! ===== weeks that are looked at: then, cartIn, year ===== -/
/-- all that goes on, in the reference's now -/
def NX (P : PP) (I : Nat → Nat → Int32) (x : XS) : Prop := PlR P I ∧ swR P (I 229) x.1 ∧ I 229 31 = x.2.1 ∧ ctM P (I 229) x.2.2 ∧ ctV P x.2.2
section QN
variable {P : PP} {I : Nat → Nat → Int32} {J : Nat → Nat → Int64} {d : Nat} {x : XS}
theorem NX.row (hd : 1 ≤ d) (h : NX P I x) : ∃ I', EV d T0 210 [.ref 192] (I, J) = some (none, (I', J)) ∧ kp [230, 192] I I' ∧ k567 I I' ∧ I' 192 56 = xe P ∧ I' 192 57 = 0 ∧ MX P I' x ∧ (∀ j, j < 32 → I' 230 j = I 229 j) := by
  obtain ⟨h1, h2, h3, h4, h5⟩ := h
  obtain ⟨I1, t1, t2, t3, t4, t5, t6⟩ := ev_copiesP (d := d) (J := J) hd h1
  have h10 := h1.S10
  have hC := h1.C4
  exact ⟨I1, t1, t2, t3, t5, t6, ⟨plr_kx h1 t2 (by decide) (t3 18 (by decide) (by decide) (by decide)), h2.cg (fun i hi => t4 i (by omega)), by rw [t4 31 (by decide)]; exact h3, fun c hc f hf => (t4 _ (by omega)).trans (h4 c hc f hf), h5⟩, t4⟩
theorem lp_goes (hd : 6 ≤ d) {N : Nat} (hN : N ≤ 1000) {sd : Int32} : ∀ (k i n : Nat) (x : XS) (I : Nat → Nat → Int32), MX P I x → I 192 57 = 0 → I 192 56 = sd → i + k = N → k < n →
    ∃ I', runS (EV d) none 3 T0 C_X12_goes k_X12_goes rtV f_X12_goes n 2 [.ref 192, .int (nI N), .int (nI i)] [] (I, J) = some (none, (I', J)) ∧ kp wkX I I' ∧ k53 I I' ∧ MX P I' (wkI P sd k x) ∧ I' 230 30 = I 230 30 := by
  intro k
  induction k with
  | zero =>
    intro i n x I h h57 h56 hi hn
    obtain ⟨n, rfl⟩ : ∃ z, n = z + 1 := ⟨n - 1, by omega⟩
    rw [runS_s, s_X12_goes_2, if_pos (nI_le (by omega) (by omega))]
    exact ⟨I, rfl, kp.rf, k53.rf, h, rfl⟩
  | succ k ih =>
    intro i n x I h h57 h56 hi hn
    obtain ⟨n, rfl⟩ : ∃ z, n = z + 1 := ⟨n - 1, by omega⟩
    obtain ⟨I1, t1, t2, t3, t4, t5⟩ := ev_week (d := d) (J := J) hd h h57
    rw [h56] at t4
    obtain ⟨I2, u1, u2, u3, u4, u5⟩ := ih (i + 1) n _ I1 t4 (by rw [t3 57 (by decide)]; exact h57) (by rw [t3 56 (by decide)]; exact h56) (by omega) (by omega)
    refine ⟨I2, ?_, t2.tr u2, t3.tr u3, u4, u5.trans t5⟩
    rw [runS_s, s_X12_goes_2, if_neg (nI_ge (by omega) (by omega)), t1, p_cv_s, nI_1]
    exact u1
theorem ev_goes (hd : 7 ≤ d) (h : MX P I x) (h57 : I 192 57 = 0) {k : Nat} (hk : k ≤ 1000) : ∃ I', EV d T0 228 [.ref 192, .int (nI k)] (I, J) = some (none, (I', J)) ∧ kp wkX I I' ∧ k53 I I' ∧ MX P I' (wkI P (I 192 56) k x) ∧ I' 230 30 = I 230 30 := by
  obtain ⟨d, rfl⟩ : ∃ z, d = z + 1 := ⟨d - 1, by omega⟩
  rw [e_X12_goes, runS_M, s_X12_goes_0]
  exact lp_goes (d := d) (J := J) (by omega) hk k 0 999999 x I h h57 rfl (by omega) (by omega)
theorem cpy_at {f g : Nat → Int32} {n j : Nat} (h : j < n) : va_cpy f g 0 0 n j = f j := by rw [pk_cpy_in (by omega) (by omega)]; congr 1; omega
theorem cp_eq {I0 : Nat → Nat → Int32} {k0 k1 sp dp n : Nat} : p_cp I0 k0 k1 sp dp n k1 = va_cpy (I0 k0) (I0 k1) sp dp n := if_pos rfl
theorem cp_ne {I0 : Nat → Nat → Int32} {k0 k1 sp dp n a : Nat} (h : a ≠ k1) : p_cp I0 k0 k1 sp dp n a = I0 a := if_neg h
theorem kp.cp {X : List Nat} {I0 I' : Nat → Nat → Int32} {k0 k1 sp dp n : Nat} (h : kp X I0 I') (hk : k1 ∈ X) : kp X I0 (p_cp I' k0 k1 sp dp n) := fun a ha => (cp_ne (fun e : a = k1 => ha (by rw [e]; exact hk))).trans (h a ha)
theorem ev_later (hd : 1 ≤ d) (h : CX_39 P I x) : ∃ I', EV d T0 91 [.ref 42, .ref 39] (I, J) = some (none, (I', J)) ∧ kp [42, 43, 44] I I' ∧ CX_42 P I' x ∧ I' 42 1 = I 39 1 := by
  obtain ⟨d, rfl⟩ : ∃ z, d = z + 1 := ⟨d - 1, by omega⟩
  obtain ⟨h1, h2, h3, h4, h5⟩ := h
  have h10 := h1.S10
  have hC := h1.C4
  have k1 : kp [42, 43, 44] I (p_cp (p_cp (p_wr (p_wr I 42 0 (I 39 0)) 42 1 (I 39 1)) 40 43 0 0 10) 41 44 0 0 20) := (((kp.rf.wr (by decide)).wr (by decide)).cp (by decide)).cp (by decide)
  refine ⟨_, by rw [e_X8_copyFrom_42_39, runS_M, s_X8_copyFrom_42_39_0]; rfl, k1, ⟨plr_kx h1 k1 (by decide) (by rw [k1 192 (by decide)]), fun i hi => ?_, ?_, fun c hc f hf => ?_, h5⟩, ?_⟩
  · rw [cp_ne (by decide), cp_eq, cpy_at (by omega), wr_ne (by decide), wr_ne (by decide)]; exact h2 i hi
  · rw [cp_ne (by decide), cp_ne (by decide), wr_eq, pk_un (by decide), wr_eq, pk_us]; exact h3
  · rw [cp_eq, cpy_at (by omega), cp_ne (by decide), wr_ne (by decide), wr_ne (by decide)]; exact h4 c hc f hf
  · rw [cp_ne (by decide), cp_ne (by decide), wr_eq, pk_us]
theorem ev_lookAhead (hd : 10 ≤ d) (h : CX_39 P I x) {k : Nat} (hk : k ≤ 1000) : ∃ I', EV d T0 157 [.ref 0, .int (nI k)] (I, J) = some (none, (I', J)) ∧ kp scC I I' ∧ CX_42 P I' (wkI P (xe P) k x) := by
  obtain ⟨d, rfl⟩ : ∃ z, d = z + 1 := ⟨d - 1, by omega⟩
  obtain ⟨I1, t1, t2, t3, -⟩ := ev_later (d := d) (J := J) (by omega) h
  obtain ⟨I2, u1, u2, u3, -⟩ := ev_pass_42 (d := d) (J := J) (by omega) t3 hk (xe P)
  refine ⟨I2, ?_, (t2.up (by decide)).tr (u2.up (by decide)), u3⟩
  rw [e_X11_lookAhead, runS_M, s_X11_lookAhead_0, t1, p_cv_s]
  dsimp only
  rw [t2 25 (by decide), h.1.sd.1, u1, p_cv_s]
  rfl
/-! then -/
def thenQ (P : PP) (x : XS) (a b : Int32) : Int32 := if oneOf a (xS P) = 0 then -1 else if zI (¬ b < 0 ∧ ¬ 60 < b) = 0 then -1 else nI ((wkI P (xe P) b.toNatClampNeg x).1 a.toNatClampNeg)
theorem c_then (hd : 11 ≤ d) (h : CX_39 P I x) (a b : Int32) : CQ d 145 [.ref 0, .int a, .int b] I J (thenQ P x a b) := by
  obtain ⟨d, rfl⟩ : ∃ z, d = z + 1 := ⟨d - 1, by omega⟩
  have h1 := h.1
  have h10 := h1.S10
  unfold CQ thenQ
  rw [e_X11_then, runS_M, s_X11_then_0, q_seam (by omega) h1, p_ci_s]
  rcases oneOf_c (a := a) (N := xS P) (by omega) with e | ⟨e, i, hi, rfl⟩
  · rw [if_pos e, if_pos e]; exact ⟨I, rfl, kp.rf⟩
  have hne : ¬ oneOf (nI i) (xS P) = 0 := by rw [e]; decide
  rw [if_neg hne, if_neg hne, q_within (by omega), p_ci_s]
  rcases in_c (n := b) (lo := 0) (hi := 60) (l := 0) (h := 60) rfl rfl (by omega) (by omega) with e2 | ⟨e2, k, k1, k2, rfl⟩
  · rw [if_pos e2, if_pos e2]; exact ⟨I, rfl, kp.rf⟩
  have hne2 : ¬ zI (¬ nI k < (0 : Int32) ∧ ¬ (60 : Int32) < nI k) = 0 := by rw [e2]; decide
  obtain ⟨I1, t1, t2, t3⟩ := ev_lookAhead (d := d) (J := J) (by omega) h (k := k) (by omega)
  refine ⟨I1, ?_, t2⟩
  rw [if_neg hne2, if_neg hne2, show (999999 : Nat) = 999998 + 1 from rfl, runS_s, s_X11_then_20, t1, p_cv_s, chk_in (by omega) (by omega), nI_clamp (by omega), nI_clamp (by omega)]
  dsimp only
  rw [(t3.2.1 i hi).1]
  rfl
theorem m_then (hd : 8 ≤ d) (h : NX P I x) (a b : Int32) : MQq d 258 [.ref 192, .int a, .int b] I J (thenQ P x a b) := by
  obtain ⟨d, rfl⟩ : ∃ z, d = z + 1 := ⟨d - 1, by omega⟩
  have h1 := h.1
  have h10 := h1.S10
  unfold MQq thenQ
  rw [e_X12_then, runS_M, s_X12_then_0, q_seamR (by omega) h1, p_ci_s]
  rcases oneOf_c (a := a) (N := xS P) (by omega) with e | ⟨e, i, hi, rfl⟩
  · rw [if_pos e, if_pos e]; exact ⟨I, rfl, kp.rf, k567.rf⟩
  have hne : ¬ oneOf (nI i) (xS P) = 0 := by rw [e]; decide
  rw [if_neg hne, if_neg hne, q_isLong (by omega), p_ci_s]
  rcases in_c (n := b) (lo := 0) (hi := 60) (l := 0) (h := 60) rfl rfl (by omega) (by omega) with e2 | ⟨e2, k, k1, k2, rfl⟩
  · rw [if_pos e2, if_pos e2]; exact ⟨I, rfl, kp.rf, k567.rf⟩
  have hne2 : ¬ zI (¬ nI k < (0 : Int32) ∧ ¬ (60 : Int32) < nI k) = 0 := by rw [e2]; decide
  obtain ⟨I1, t1, t2, t3, t4, t5, t6, -⟩ := h.row (d := d) (J := J) (by omega)
  obtain ⟨I2, u1, u2, u3, u4, -⟩ := ev_goes (d := d) (J := J) (by omega) t6 t5 (k := k) (by omega)
  rw [t4] at u4
  refine ⟨I2, ?_, (t2.up (by decide)).tr (u2.up (by decide)), t3.tr (k567.of u3)⟩
  rw [if_neg hne2, if_neg hne2, show (999999 : Nat) = 999997 + 1 + 1 from rfl, runS_s, s_X12_then_17, t1, p_cv_s, u1, p_cv_s, runS_s, s_X12_then_26, chk_in (by omega) (by omega), nI_clamp (by omega), nI_clamp (by omega), (u4.2.1 i hi).1]
  rfl
end QN
