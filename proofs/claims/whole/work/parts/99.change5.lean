/-! ===== restore, tell, forget, feed, back, place ===== -/
section RE
variable {P : PP} {I : Nat → Nat → Int32} {J : Nat → Nat → Int64} {d : Nat} {A : AS} {E : ES}
theorem c_restore (hd : 3 ≤ d) (h : SC P I A E) (a : Int32) : cKK d 153 [.ref 0, .int a] P I J (restV A a) (restA A a) E := by
  obtain ⟨d, rfl⟩ : ∃ z, d = z + 2 := ⟨d - 2, by omega⟩
  unfold cKK restV restA
  rw [e_X11_restore, runS_M, s_X11_restore_0, q_within (by omega), p_ci_s]
  rcases in_c (n := a) (lo := 0) (hi := 2) (l := 0) (h := 2) rfl rfl (by omega) (by omega) with e2 | ⟨e2, k, k1, k2, rfl⟩
  · simp only [if_pos e2]; exact ⟨I, rfl, FC.rf, h⟩
  have hne2 : ¬ zI (¬ nI k < (0 : Int32) ∧ ¬ (2 : Int32) < nI k) = 0 := by rw [e2]; decide
  have hk : k < 3 := by omega
  have hs := h.2.1.2.2.2.1 k hk
  simp only [if_neg hne2, nI_clamp (show k < 2 ^ 31 by omega)]
  rw [chk_in hk (by omega)]
  cases c : A.2.2.1 k with
  | none =>
    rw [c] at hs
    have hs' : I 168 k = 0 := hs
    rw [if_pos hs', if_pos rfl]
    exact ⟨I, rfl, FC.rf, h⟩
  | some y =>
    rw [c] at hs
    obtain ⟨s1, s2, s3⟩ := (hs : I 168 k = 1 ∧ okY P y ∧ stC P I (183 + 3 * k) y)
    rw [if_neg (show ¬ I 168 k = 0 by rw [s1]; decide), chk_in hk (by omega), rf167 k hk, rf_s, cpFromS d k hk, p_cv_s, show (999999 : Nat) = 999998 + 1 from rfl, runS_s, s_X11_restore_33, e_X2_clear, runS_M, s_X2_clear_0]
    let I1 := p_wr (p_wr (cpS I (183 + 3 * k) 39) 45 1 0) 45 2 0
    have a1 : ∀ j, j ≠ 45 → j ≠ 39 → j ≠ 40 → j ≠ 41 → I1 j = I j := fun j b1 b2 b3 b4 => by
      show p_wr (p_wr (cpS I (183 + 3 * k) 39) 45 1 0) 45 2 0 j = I j
      rw [wr_ne b1, wr_ne b1, cpS_ne ⟨b2, b3, b4⟩]
    have hf : FC I I1 := fun j hj => a1 j (by omega) (by omega) (by omega) (by omega)
    have t1 := cpS_st h.1 (c := 39) (Or.inr (by omega)) s3
    refine ⟨I1, rfl, hf, h.1.FC hf, ⟨t1.cg (by show p_wr (p_wr _ 45 1 0) 45 2 0 39 = _; rw [wr_ne (by decide), wr_ne (by decide)]) (by show p_wr (p_wr _ 45 1 0) 45 2 0 40 = _; rw [wr_ne (by decide), wr_ne (by decide)]) (by show p_wr (p_wr _ 45 1 0) 45 2 0 41 = _; rw [wr_ne (by decide), wr_ne (by decide)]), s2, ⟨0, by omega, ?_, ?_, by dsimp only; omega, fun j hj => by dsimp only at hj; omega⟩, fun s hs => ?_, ?_⟩, ?_⟩
    · show p_wr (p_wr (cpS I (183 + 3 * k) 39) 45 1 0) 45 2 0 45 1 = _
      rw [wr_eq, pk_un (by decide), wr_eq, pk_us]; rfl
    · show p_wr (p_wr (cpS I (183 + 3 * k) 39) 45 1 0) 45 2 0 45 2 = _
      rw [wr_eq, pk_us]; rfl
    · have := h.2.1.2.2.2.1 s hs
      unfold slC at *
      dsimp only
      cases c2 : A.2.2.1 s with
      | none => rw [c2] at this; dsimp only at *; rw [a1 168 (by omega) (by omega) (by omega) (by omega)]; exact this
      | some y => rw [c2] at this; dsimp only at *; rw [a1 168 (by omega) (by omega) (by omega) (by omega)]; exact ⟨this.1, this.2.1, this.2.2.cg (a1 _ (by omega) (by omega) (by omega) (by omega)) (a1 _ (by omega) (by omega) (by omega) (by omega)) (a1 _ (by omega) (by omega) (by omega) (by omega))⟩
    · have := h.2.1.2.2.2.2
      unfold TDC at *
      rw [a1 178 (by omega) (by omega) (by omega) (by omega), a1 179 (by omega) (by omega) (by omega) (by omega), a1 180 (by omega) (by omega) (by omega) (by omega), a1 181 (by omega) (by omega) (by omega) (by omega)]; exact this
    · have := h.2.2
      unfold TC at *
      rw [a1 0 (by omega) (by omega) (by omega) (by omega), a1 1 (by omega) (by omega) (by omega) (by omega), a1 2 (by omega) (by omega) (by omega) (by omega), a1 25 (by omega) (by omega) (by omega) (by omega)]; exact this
theorem lp_rest {O : Ora} {s : Nat} (hs : s < 3) {g : Nat → Int32} : ∀ (k i n : Nat), i + k = 32 → k < n →
    runS O none 3 T0 C_X12_restore k_X12_restore rtZ f_X12_restore n 22 [.ref 192, .int (nI s), .int (nI i)] [] (cs I 229 (cpF (fun j => I 242 (32 * s + j)) g i), J) = some (some (.int 1), (p_wr (cs I 229 (cpF (fun j => I 242 (32 * s + j)) g 32)) 192 62 0, J)) := by
  intro k
  induction k with
  | zero =>
    intro i n hi hn
    obtain ⟨n, rfl⟩ : ∃ z, n = z + 1 := ⟨n - 1, by omega⟩
    have e : i = 32 := by omega
    subst e
    rw [runS_s, s_X12_restore_22, if_pos (by decide)]
    rfl
  | succ k ih =>
    intro i n hi hn
    obtain ⟨n, rfl⟩ : ∃ z, n = z + 1 := ⟨n - 1, by omega⟩
    have e1 : (32 : Int32) * nI s + nI i = nI (32 * s + i) := by rw [show (32 : Int32) * nI s = nI (32 * s) from pk_mul 32 s, nI_add]
    rw [runS_s, s_X12_restore_22, if_neg (show ¬ (32 : Int32) ≤ nI (i) from nI_ge (a := i) (b := 32) (by omega) (by omega)), e1, chk_in (by omega) (by omega), chk_in (by omega) (by omega), nI_clamp (by omega), nI_clamp (by omega), nI_1, cs_ne (show (242 : Nat) ≠ 229 by decide), wr_cs2]
    have e2 : upd (cpF (fun j => I 242 (32 * s + j)) g i) i (I 242 (32 * s + i)) = cpF (fun j => I 242 (32 * s + j)) g (i + 1) := cpF_s
    rw [e2]
    exact ih (i + 1) n (by omega) (by omega)
theorem m_restore (hd : 2 ≤ d) (h : SM P I A E) (a : Int32) : mKK d 271 [.ref 192, .int a] P I J (restV A a) (restA A a) E := by
  obtain ⟨d, rfl⟩ : ∃ z, d = z + 1 := ⟨d - 1, by omega⟩
  unfold mKK restV restA
  rw [e_X12_restore, runS_M, s_X12_restore_0, q_in (by omega), p_ci_s]
  rcases in_c (n := a) (lo := 0) (hi := 2) (l := 0) (h := 2) rfl rfl (by omega) (by omega) with e2 | ⟨e2, k, k1, k2, rfl⟩
  · simp only [if_pos e2]; exact ⟨I, rfl, FM.rf, h⟩
  have hne2 : ¬ zI (¬ nI k < (0 : Int32) ∧ ¬ (2 : Int32) < nI k) = 0 := by rw [e2]; decide
  have hk : k < 3 := by omega
  have hs := h.2.1.2.2.2.1 k hk
  simp only [if_neg hne2, nI_clamp (show k < 2 ^ 31 by omega)]
  rw [chk_in hk (by omega)]
  cases c : A.2.2.1 k with
  | none =>
    rw [c] at hs
    have hs' : I 241 k = 0 := hs
    rw [if_pos hs', if_pos rfl]
    exact ⟨I, rfl, FM.rf, h⟩
  | some y =>
    rw [c] at hs
    obtain ⟨s1, s2, s3⟩ := (hs : I 241 k = 1 ∧ okY P y ∧ stM P (fun j => I 242 (32 * k + j)) y)
    rw [if_neg (show ¬ I 241 k = 0 by rw [s1]; decide)]
    have hz := lp_rest (O := EV d) (I := I) (J := J) hk (g := I 229) 32 0 999999 (by omega) (by omega)
    rw [cpF_0, cs_self] at hz
    have x1 : kp [192, 229] I (p_wr (cs I 229 (cpF (fun j => I 242 (32 * k + j)) (I 229) 32)) 192 62 0) := (kp.rf.cs (by decide)).wr (by decide)
    have f1 : k62 I (p_wr (cs I 229 (cpF (fun j => I 242 (32 * k + j)) (I 229) 32)) 192 62 0) := fun j hj => by rw [wr_eq, pk_un hj, cs_ne (by decide)]
    have hf := FM.of x1 (by decide) (fun j hj => f1 j (fun c => hj (by rw [c]; decide)))
    refine ⟨_, hz, hf, h.1.FM hf, ⟨?_, s2, ⟨by rw [wr_eq, pk_us]; rfl, by dsimp only; omega, fun j hj => by dsimp only at hj; omega⟩, fun s hs => ?_, ?_⟩, ?_⟩
    · rw [wr_ne (by decide), cs_eq]
      exact s3.cg h.1 (fun j hj => if_pos hj)
    · have := h.2.1.2.2.2.1 s hs
      unfold slM at *
      rw [x1 241 (by decide), x1 242 (by decide)]; exact this
    · have := h.2.1.2.2.2.2
      unfold TDM at *
      rw [f1 65 (by decide), x1 237 (by decide), x1 238 (by decide), x1 239 (by decide)]; exact this
    · have := h.2.2
      unfold TM at *
      rw [f1 2 (by decide), x1 193 (by decide), f1 17 (by decide), x1 208 (by decide), x1 209 (by decide)]; exact this
/-! tell, forget -/
def tdA (A : AS) (t : Nat × (Nat → Nat × Nat × Nat)) : AS := (A.1, A.2.1, A.2.2.1, t)
theorem SC.told {I' : Nat → Nat → Int32} {t : Nat × (Nat → Nat × Nat × Nat)} (h : SC P I A E) (hk : kp [178, 179, 180, 181] I I') (ht : TDC P I' t.1 t.2) : FC I I' ∧ SC P I' (tdA A t) E := by
  have hf : FC I I' := FC.of hk (by decide)
  have e : ∀ k, ¬ (178 ≤ k ∧ k < 182) → I' k = I k := fun k hc => hk k (by simp only [List.mem_cons, List.not_mem_nil, or_false]; omega)
  obtain ⟨hp, ⟨h1, h2, ⟨o, o1, o2, o3, o4, o5⟩, h4, h5⟩, h6⟩ := h
  refine ⟨hf, hp.FC hf, ⟨h1.cg (e _ (by omega)) (e _ (by omega)) (e _ (by omega)), h2, ⟨o, o1, by rw [e 45 (by omega)]; exact o2, by rw [e 45 (by omega)]; exact o3, o4, fun k hk => ⟨(o5 k hk).1, (o5 k hk).2.cg (e _ (by omega)) (e _ (by omega)) (e _ (by omega))⟩⟩, fun s hs => ?_, ht⟩, ?_⟩
  · have := h4 s hs
    unfold slC at *
    show match A.2.2.1 s with
      | none => I' 168 s = 0
      | some y => I' 168 s = 1 ∧ okY P y ∧ stC P I' (183 + 3 * s) y
    cases c : A.2.2.1 s with
    | none => rw [c] at this; dsimp only at *; rw [e 168 (by omega)]; exact this
    | some y => rw [c] at this; dsimp only at *; rw [e 168 (by omega)]; exact ⟨this.1, this.2.1, this.2.2.cg (e _ (by omega)) (e _ (by omega)) (e _ (by omega))⟩
  · unfold TC at *
    rw [e 0 (by omega), e 1 (by omega), e 2 (by omega), hf 25 (by omega)]; exact h6
theorem SM.told {I' : Nat → Nat → Int32} {t : Nat × (Nat → Nat × Nat × Nat)} (h : SM P I A E) (hk : kp [192, 237, 238, 239] I I') (h5 : ∀ j, j ≠ 65 → I' 192 j = I 192 j) (ht : TDM P I' t.1 t.2) : FM I I' ∧ SM P I' (tdA A t) E := by
  have hf : FM I I' := FM.of hk (by decide) (fun j hj => h5 j (fun c => hj (by rw [c]; decide)))
  refine ⟨hf, h.1.FM hf, ⟨by rw [hk 229 (by decide)]; exact h.2.1.1, h.2.1.2.1, ?_, fun s hs => ?_, ht⟩, ?_⟩
  · have := h.2.1.2.2.1
    unfold hiM at *
    rw [h5 62 (by decide), hk 235 (by decide)]; exact this
  · have := h.2.1.2.2.2.1 s hs
    unfold slM at *
    rw [hk 241 (by decide), hk 242 (by decide)]; exact this
  · have := h.2.2
    unfold TM at *
    rw [h5 2 (by decide), hk 193 (by decide), h5 17 (by decide), hk 208 (by decide), hk 209 (by decide)]; exact this
theorem c_forget (hd : 2 ≤ d) (h : SC P I A E) : cKK d 149 [.ref 0] P I J (nI A.2.2.2.1) (tdA A (0, A.2.2.2.2)) E := by
  obtain ⟨d, rfl⟩ : ∃ z, d = z + 2 := ⟨d - 2, by omega⟩
  obtain ⟨u1, u2, u3⟩ := h.2.1.2.2.2.2
  have k1 : kp [178, 179, 180, 181] I (p_wr I 178 6 0) := kp.rf.wr (by decide)
  have h1 := h.told (t := (0, A.2.2.2.2)) k1 ⟨by rw [wr_eq, pk_us]; rfl, by dsimp only; omega, fun j hj => by dsimp only at hj; omega⟩
  refine ⟨_, ?_, h1.1, h1.2⟩
  rw [e_X11_forget, runS_M, s_X11_forget_0, e_X6_clear, runS_M, s_X6_clear_0, u1]
  rfl
theorem m_forget (hd : 1 ≤ d) (h : SM P I A E) : mKK d 262 [.ref 192] P I J (nI A.2.2.2.1) (tdA A (0, A.2.2.2.2)) E := by
  obtain ⟨d, rfl⟩ : ∃ z, d = z + 1 := ⟨d - 1, by omega⟩
  obtain ⟨u1, u2, u3⟩ := h.2.1.2.2.2.2
  have k1 : kp [192, 237, 238, 239] I (p_wr I 192 65 0) := kp.rf.wr (by decide)
  have h1 := h.told (t := (0, A.2.2.2.2)) k1 (fun j hj => by rw [wr_eq, pk_un hj]) ⟨by rw [wr_eq, pk_us]; rfl, by dsimp only; omega, fun j hj => by dsimp only at hj; omega⟩
  refine ⟨_, ?_, h1.1, h1.2⟩
  rw [e_X12_forget, runS_M, s_X12_forget_0, u1]
  rfl
def tellT (A : AS) (a b w : Nat) : Nat × (Nat → Nat × Nat × Nat) := (A.2.2.2.1 + 1, fun j => if j = A.2.2.2.1 then (a, b, w) else A.2.2.2.2 j)
def tellV (P : PP) (A : AS) (a b w : Int32) : Int32 := if two P a b = 0 then -1 else if zI (¬ w < 0 ∧ ¬ 999 < w) = 0 then -1 else if A.2.2.2.1 = 20 then -1 else nI A.2.2.2.1
def tellA (P : PP) (A : AS) (a b w : Int32) : AS := if two P a b = 0 then A else if zI (¬ w < 0 ∧ ¬ 999 < w) = 0 then A else if A.2.2.2.1 = 20 then A else tdA A (tellT A a.toNatClampNeg b.toNatClampNeg w.toNatClampNeg)
theorem c_tell (hd : 3 ≤ d) (h : SC P I A E) (a b w : Int32) : cKK d 148 [.ref 0, .int a, .int b, .int w] P I J (tellV P A a b w) (tellA P A a b w) E := by
  obtain ⟨d, rfl⟩ : ∃ z, d = z + 2 := ⟨d - 2, by omega⟩
  have h7 := h.1.N7
  obtain ⟨u1, u2, u3⟩ := h.2.1.2.2.2.2
  unfold cKK tellV tellA
  rw [e_X11_tell, runS_M, s_X11_tell_0, q_two (by omega) h.1, p_ci_s]
  rcases two_c h.1 (a := a) (b := b) with e | ⟨e, -, -, t, u, ht, hu, htu, rfl, rfl⟩
  · simp only [if_pos e]; exact ⟨I, rfl, FC.rf, h⟩
  have hne : ¬ two P (nI t) (nI u) = 0 := by rw [e]; decide
  simp only [if_neg hne]
  rw [q_within (by omega), p_ci_s]
  rcases in_c (n := w) (lo := 0) (hi := 999) (l := 0) (h := 999) rfl rfl (by omega) (by omega) with e2 | ⟨e2, m, m1, m2, rfl⟩
  · simp only [if_pos e2]; exact ⟨I, rfl, FC.rf, h⟩
  have hne2 : ¬ zI (¬ nI m < (0 : Int32) ∧ ¬ (999 : Int32) < nI m) = 0 := by rw [e2]; decide
  simp only [if_neg hne2, nI_clamp (show t < 2 ^ 31 by omega), nI_clamp (show u < 2 ^ 31 by omega), nI_clamp (show m < 2 ^ 31 by omega)]
  rw [show (999999 : Nat) = 999998 + 1 from rfl, runS_s, s_X11_tell_22, e_X6_addTold, runS_M, s_X6_addTold_0, u1]
  simp only [show (nI A.2.2.2.1 < (20 : Int32)) = (A.2.2.2.1 < 20) from lt_nI (b := 20) (by omega) (by omega)]
  by_cases c : A.2.2.2.1 = 20
  · simp only [if_pos c]
    rw [if_neg (by omega)]
    exact ⟨I, rfl, FC.rf, h⟩
  simp only [if_neg c]
  let I1 := p_wr (p_wr (p_wr (p_wr I 179 A.2.2.2.1 (nI t)) 180 A.2.2.2.1 (nI u)) 181 A.2.2.2.1 (nI m)) 178 6 (nI (A.2.2.2.1 + 1))
  have k1 : kp [178, 179, 180, 181] I I1 := (((kp.rf.wr (by decide)).wr (by decide)).wr (by decide)).wr (by decide)
  have e79 : I1 179 = upd (I 179) A.2.2.2.1 (nI t) := by show p_wr (p_wr (p_wr (p_wr I 179 _ _) 180 _ _) 181 _ _) 178 _ _ 179 = _; rw [wr_ne (by decide), wr_ne (by decide), wr_ne (by decide), wr_eq]
  have e80 : I1 180 = upd (I 180) A.2.2.2.1 (nI u) := by show p_wr (p_wr (p_wr (p_wr I 179 _ _) 180 _ _) 181 _ _) 178 _ _ 180 = _; rw [wr_ne (by decide), wr_ne (by decide), wr_eq, wr_ne (by decide)]
  have e81 : I1 181 = upd (I 181) A.2.2.2.1 (nI m) := by show p_wr (p_wr (p_wr (p_wr I 179 _ _) 180 _ _) 181 _ _) 178 _ _ 181 = _; rw [wr_ne (by decide), wr_eq, wr_ne (by decide), wr_ne (by decide)]
  have h1 := h.told (t := tellT A t u m) k1 ⟨by show p_wr _ 178 6 _ 178 6 = _; rw [wr_eq, pk_us]; rfl, by unfold tellT; dsimp only; omega, fun j hj => by
    unfold tellT at hj ⊢
    dsimp only at hj ⊢
    by_cases cj : j = A.2.2.2.1
    · rw [if_pos cj, e79, e80, e81, cj, pk_us, pk_us, pk_us]
      exact ⟨⟨rfl, rfl, rfl⟩, ht, hu, m2⟩
    · rw [if_neg cj, e79, e80, e81, pk_un cj, pk_un cj, pk_un cj]
      exact u3 j (by omega)⟩
  refine ⟨I1, ?_, h1.1, h1.2⟩
  have hp : ∀ z : Option Rs, p_chk (p_in (nI A.2.2.2.1) 20) z = z := fun z => chk_in (by omega) (by omega)
  rw [if_pos (by omega), hp, hp, hp, nI_clamp (by omega), nI_1, show nI (A.2.2.2.1 + 1) - 1 = nI A.2.2.2.1 from by rw [show (1 : Int32) = nI 1 from rfl, pk_sub (by omega)]; rfl]
  rfl
theorem m_tell (hd : 3 ≤ d) (h : SM P I A E) (a b w : Int32) : mKK d 261 [.ref 192, .int a, .int b, .int w] P I J (tellV P A a b w) (tellA P A a b w) E := by
  obtain ⟨d, rfl⟩ : ∃ z, d = z + 1 := ⟨d - 1, by omega⟩
  have h7 := h.1.N7
  obtain ⟨u1, u2, u3⟩ := h.2.1.2.2.2.2
  unfold mKK tellV tellA
  rw [e_X12_tell, runS_M, s_X12_tell_0, u1]
  simp only [show (nI A.2.2.2.1 = (20 : Int32)) = (A.2.2.2.1 = 20) from eq_nI (b := 20) (by omega) (by omega)]
  by_cases c : A.2.2.2.1 = 20
  · simp only [if_pos c, ite_self]
    exact ⟨I, rfl, FM.rf, h⟩
  simp only [if_neg c]
  rw [q_townR (by omega) h.1, p_ci_s]
  rcases oneOf_c (a := a) (N := xN P) (by omega) with e | ⟨e, t, ht, rfl⟩
  · simp only [if_pos e, if_pos (two_1 (b := b) e)]; exact ⟨I, rfl, FM.rf, h⟩
  rw [if_neg (by rw [e]; decide), q_townR (by omega) h.1, p_ci_s]
  rcases oneOf_c (a := b) (N := xN P) (by omega) with e' | ⟨e', u, hu, rfl⟩
  · simp only [if_pos e', if_pos (two_2 (a := nI t) e')]; exact ⟨I, rfl, FM.rf, h⟩
  rw [if_neg (by rw [e']; decide), show (999999 : Nat) = 999997 + 1 + 1 from rfl, runS_s, s_X12_tell_25]
  by_cases htu : nI t = nI u
  · simp only [if_pos (two_3 (P := P) htu)]; rw [if_pos htu]; exact ⟨I, rfl, FM.rf, h⟩
  have hne : ¬ two P (nI t) (nI u) = 0 := by rw [two_4 e e' htu]; decide
  simp only [if_neg hne]
  rw [if_neg htu, q_in (by omega), p_ci_s]
  rcases in_c (n := w) (lo := 0) (hi := 999) (l := 0) (h := 999) rfl rfl (by omega) (by omega) with e2 | ⟨e2, m, m1, m2, rfl⟩
  · simp only [if_pos e2]; exact ⟨I, rfl, FM.rf, h⟩
  have hne2 : ¬ zI (¬ nI m < (0 : Int32) ∧ ¬ (999 : Int32) < nI m) = 0 := by rw [e2]; decide
  simp only [if_neg hne2, nI_clamp (show t < 2 ^ 31 by omega), nI_clamp (show u < 2 ^ 31 by omega), nI_clamp (show m < 2 ^ 31 by omega)]
  let I0 := p_wr (p_wr (p_wr I 237 A.2.2.2.1 (nI t)) 238 A.2.2.2.1 (nI u)) 239 A.2.2.2.1 (nI m)
  let I1 := p_wr I0 192 65 (nI (A.2.2.2.1 + 1))
  have k1 : kp [192, 237, 238, 239] I I1 := (((kp.rf.wr (by decide)).wr (by decide)).wr (by decide)).wr (by decide)
  have e79 : I1 237 = upd (I 237) A.2.2.2.1 (nI t) := by show p_wr (p_wr (p_wr (p_wr I 237 _ _) 238 _ _) 239 _ _) 192 _ _ 237 = _; rw [wr_ne (by decide), wr_ne (by decide), wr_ne (by decide), wr_eq]
  have e80 : I1 238 = upd (I 238) A.2.2.2.1 (nI u) := by show p_wr (p_wr (p_wr (p_wr I 237 _ _) 238 _ _) 239 _ _) 192 _ _ 238 = _; rw [wr_ne (by decide), wr_ne (by decide), wr_eq, wr_ne (by decide)]
  have e81 : I1 239 = upd (I 239) A.2.2.2.1 (nI m) := by show p_wr (p_wr (p_wr (p_wr I 237 _ _) 238 _ _) 239 _ _) 192 _ _ 239 = _; rw [wr_ne (by decide), wr_eq, wr_ne (by decide), wr_ne (by decide)]
  have e192 : I0 192 = I 192 := by show p_wr (p_wr (p_wr I 237 _ _) 238 _ _) 239 _ _ 192 = _; rw [wr_ne (by decide), wr_ne (by decide), wr_ne (by decide)]
  have h1 := h.told (t := tellT A t u m) k1 (fun j hj => by show p_wr I0 192 65 _ 192 j = _; rw [wr_eq, pk_un hj, e192]) ⟨by show p_wr _ 192 65 _ 192 65 = _; rw [wr_eq, pk_us]; rfl, by unfold tellT; dsimp only; omega, fun j hj => by
    unfold tellT at hj ⊢
    dsimp only at hj ⊢
    by_cases cj : j = A.2.2.2.1
    · rw [if_pos cj, e79, e80, e81, cj, pk_us, pk_us, pk_us]
      exact ⟨⟨rfl, rfl, rfl⟩, ht, hu, m2⟩
    · rw [if_neg cj, e79, e80, e81, pk_un cj, pk_un cj, pk_un cj]
      exact u3 j (by omega)⟩
  refine ⟨I1, ?_, h1.1, h1.2⟩
  have hp : ∀ z : Option Rs, p_chk (p_in (nI A.2.2.2.1) 20) z = z := fun z => chk_in (by omega) (by omega)
  rw [u1, hp, hp, hp, nI_clamp (by omega), runS_s, s_X12_tell_73]
  show rtI (some (.int ((I0 192 65 + 1) - 1))) (p_wr I0 192 65 (I0 192 65 + 1), J) = _
  rw [e192, u1, nI_1, show nI (A.2.2.2.1 + 1) - 1 = nI A.2.2.2.1 from by rw [show (1 : Int32) = nI 1 from rfl, pk_sub (by omega)]; rfl]
  rfl
end RE
