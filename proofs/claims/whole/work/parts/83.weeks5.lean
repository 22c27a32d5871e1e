section QM
variable {P : PP} {I : Nat → Nat → Int32} {J : Nat → Nat → Int64} {d : Nat} {s : Nat → Nat} {wk : Int32}
theorem h99_sub (P : PP) {i m : Nat} (hm : m ≤ 99) (wk fz ca : Int32) : h99 (nI m - wearF P i (nI m) wk fz ca) = nI (m - (wearF P i (nI m) wk fz ca).toNatClampNeg) := by
  obtain ⟨x, hx, e⟩ := wearF_nI P i (nI m) wk fz ca
  rw [e, nI_clamp (by omega)]
  unfold h99
  by_cases hc : x < m
  · rw [pk_sub (by omega)]
    by_cases h9 : m - x < 99
    · rw [if_pos (show nI (m - x) < (99 : Int32) from nI_lt (b := 99) h9 (by omega)), if_pos (show (0 : Int32) < nI (m - x) from nI_lt (a := 0) (by omega) (by omega))]
    · rw [if_neg (show ¬ nI (m - x) < (99 : Int32) from nI_nlt (b := 99) (by omega) (by omega)), if_pos (by decide), show m - x = 99 by omega]; rfl
  · have hle : (nI m - nI x).toInt = (m : Int) - x := pk_sub_toInt (by omega) (by omega)
    have e99 : (99 : Int32).toInt = 99 := by decide
    have e0 : (0 : Int32).toInt = 0 := by decide
    rw [if_pos (show nI m - nI x < 99 by rw [Int32.lt_iff_toInt_lt, hle]; omega), if_neg (show ¬ (0 : Int32) < nI m - nI x by rw [Int32.lt_iff_toInt_lt, hle]; omega), show m - x = 0 by omega]
    rfl
/-- the fields that a week changes: 53 alone -/
theorem lp_wk0 : ∀ (k i n : Nat) (f : Nat → Int32), i + k = 10 →
    runS (EV d) none 3 T0 C_X12_weekGoes k_X12_weekGoes rtV f_X12_weekGoes (n + k) 2 [.ref 192, .int (nI i), un] [] (cs I 233 (fillF f 0 i), J) = runS (EV d) none 3 T0 C_X12_weekGoes k_X12_weekGoes rtV f_X12_weekGoes n 2 [.ref 192, .int (nI 10), un] [] (cs I 233 (fillF f 0 10), J) := by
  intro k
  induction k with
  | zero =>
    intro i n f hi
    have e : i = 10 := by omega
    subst e
    rfl
  | succ k ih =>
    intro i n f hi
    rw [show n + (k + 1) = (n + k) + 1 by omega, runS_s, s_X12_weekGoes_2, if_neg (show ¬ (10 : Int32) ≤ nI (i) from nI_ge (a := i) (b := 10) (by omega) (by omega)), chk_in (by omega) (by omega), nI_clamp (by omega), nI_1, wr_cs2, fillF_s]
    exact ih (i + 1) n f (by omega)
theorem lp_wk1 (hd : 5 ≤ d) : ∀ (k i n : Nat) (x : (Nat → Nat → Int32) × (Nat → Int32)) (I : Nat → Nat → Int32), MX P I (s, wk, x.1) → (∀ i, i < xS P → I 232 i = nI (wyW P s wk i)) → (∀ i, i < xS P → I 233 i = x.2 i) → I 192 57 = 0 → i + k = xC P →
    ∃ I', kp [227, 228, 230, 231, 233, 192] I I' ∧ k53 I I' ∧ rwK I I' ∧ MX P I' (s, wk, ((List.range' i k).foldl (mvC P s wk) x).1) ∧ (∀ j, j < xS P → I' 233 j = ((List.range' i k).foldl (mvC P s wk) x).2 j) ∧
      runS (EV d) none 3 T0 C_X12_weekGoes k_X12_weekGoes rtV f_X12_weekGoes (n + k + 1) 27 [.ref 192, .int (nI i), un] [] (I, J) = runS (EV d) none 3 T0 C_X12_weekGoes k_X12_weekGoes rtV f_X12_weekGoes n 93 [.ref 192, .int (zI (¬ xz P ≤ lotF (I' 192 56) wk)), .int 0] [] (I', J) := by
  intro k
  induction k with
  | zero =>
    intro i n x I h hwy hr h57 hi
    have h4 := h.1.C4
    have hv := h.1.v2
    refine ⟨I, kp.rf, k53.rf, fun _ _ => rfl, h, hr, ?_⟩
    have hw : I 230 31 = wk := h.2.2.1
    rw [runS_s, s_X12_weekGoes_27, h.1.v, chk_in hv (by omega), nI_clamp (by omega), h.1.Cm, if_pos (nI_le (by omega) (by omega)), if_pos h57, ev_isFrostR (by omega) h.1, p_ci_s, hw]
    by_cases hf : ¬ xz P ≤ lotF (I 192 56) wk
    · rw [zI_t hf, if_neg (by decide)]
    · rw [zI_f hf, if_pos rfl]
  | succ k ih =>
    intro i n x I h hwy hr h57 hi
    have h4 := h.1.C4
    have hv := h.1.v2
    have hi' : i < xC P := by omega
    have e14 : (14 : Int32) + nI i = nI (14 + i) := nI_add 14 i
    have a14 : I 230 (14 + i) = x.1 i 1 := h.2.2.2.1 i hi' 1 (by omega)
    by_cases ho : x.1 i 1 = 1
    · obtain ⟨I1, t1, t2, t3, t4, t5, t6⟩ := ev_cartGoes (d := d) (J := J) hd h hwy hr hi' ho
      have p1 : PlR P I1 := plr_kx h.1 t2 (by decide) (t3 18 (by decide))
      have h10 := h.1.S10
      have m1 : MX P I1 (s, wk, (mvC P s wk x i).1) := ⟨p1, h.2.1.cg (fun j hj => t4 j (Or.inl (by omega))), (t4 31 (by omega)).trans h.2.2.1, t5, mvC_V h.1 h.2.2.2.2 hi'⟩
      obtain ⟨I2, u1, u2, u3, u4, u5, u6⟩ := ih (i + 1) n (mvC P s wk x i) I1 m1 (fun j hj => by rw [t2 232 (by decide)]; exact hwy j hj) t6 (by rw [t3 57 (by decide)]; exact h57) (by omega)
      refine ⟨I2, t2.tr u1, t3.tr u2, fun j hj => (u3 j hj).trans (t4 j hj), u4, u5, ?_⟩
      rw [show n + (k + 1) + 1 = (n + k + 1) + 1 by omega, runS_s, s_X12_weekGoes_27, h.1.v, chk_in hv (by omega), nI_clamp (by omega), h.1.Cm, if_neg (nI_ge (by omega) (by omega)), if_pos h57, e14, chk_in (by omega) (by omega), nI_clamp (by omega), a14, if_pos ho, t1, p_cv_s, nI_1]
      exact u6
    · have hst : mvC P s wk x i = x := if_neg ho
      obtain ⟨I2, u1, u2, u3, u4, u5, u6⟩ := ih (i + 1) n x I h hwy hr h57 (by omega)
      refine ⟨I2, u1, u2, u3, ?_, ?_, ?_⟩
      · show MX P I2 (s, wk, ((List.range' (i + 1) k).foldl (mvC P s wk) (mvC P s wk x i)).1)
        rw [hst]; exact u4
      · show ∀ j, j < xS P → I2 233 j = ((List.range' (i + 1) k).foldl (mvC P s wk) (mvC P s wk x i)).2 j
        rw [hst]; exact u5
      · rw [show n + (k + 1) + 1 = (n + k + 1) + 1 by omega, runS_s, s_X12_weekGoes_27, h.1.v, chk_in hv (by omega), nI_clamp (by omega), h.1.Cm, if_neg (nI_ge (by omega) (by omega)), if_pos h57, e14, chk_in (by omega) (by omega), nI_clamp (by omega), a14, if_neg ho, nI_1]
        exact u6
theorem lp_wk2 (hd : 4 ≤ d) {fz : Prop} [Decidable fz] {r : Nat → Int32} {q : Nat → Nat → Int32} : ∀ (k i n : Nat) (I : Nat → Nat → Int32), MX P I (s, wk, q) → (∀ j, j < xS P → I 233 j = r j) → (∀ j, j < i → I 234 j = nI (wrN P s wk (zI fz) r j)) → i + k = xS P →
    ∃ I', kp [227, 228, 234, 192] I I' ∧ k53 I I' ∧ (∀ j, j < xS P → I' 234 j = nI (wrN P s wk (zI fz) r j)) ∧
      runS (EV d) none 3 T0 C_X12_weekGoes k_X12_weekGoes rtV f_X12_weekGoes (n + 2 * k + 1) 93 [.ref 192, .int (zI fz), .int (nI i)] [] (I, J) = runS (EV d) none 3 T0 C_X12_weekGoes k_X12_weekGoes rtV f_X12_weekGoes n 145 [.ref 192, un, .int 0] [] (I', J) := by
  intro k
  induction k with
  | zero =>
    intro i n I h hr hj hi
    have h10 := h.1.S10
    have hv := h.1.v2
    have e : i = xS P := by omega
    subst e
    refine ⟨I, kp.rf, k53.rf, hj, ?_⟩
    rw [Nat.mul_zero, Nat.add_zero, runS_s, s_X12_weekGoes_93, h.1.v, chk_in hv (by omega), nI_clamp (by omega), h.1.Sm, if_pos (Int32.le_refl _)]
  | succ k ih =>
    intro i n I h hr hj hi
    have h10 := h.1.S10
    have hv := h.1.v2
    have hi' : i < xS P := by omega
    have hs := h.2.1 i hi'
    obtain ⟨I1, t1, t2, t3⟩ := ev_wearsNow (d := d) (J := J) hd h.1 hi' fz (r i)
    have hw : I 230 31 = wk := h.2.2.1
    have hsi : I 230 i = nI (s i) := hs.1
    rw [hsi, hw] at t1
    have k1 : kp [227, 228, 234, 192] I (p_wr I1 234 i (nI (wrN P s wk (zI fz) r i))) := (t2.up (by decide)).wr (by decide)
    have f1 : k53 I (p_wr I1 234 i (nI (wrN P s wk (zI fz) r i))) := fun j hj => by rw [wr_ne (by decide)]; exact t3 j hj
    have m1 : MX P (p_wr I1 234 i (nI (wrN P s wk (zI fz) r i))) (s, wk, q) := ⟨plr_kx h.1 k1 (by decide) (f1 18 (by decide)), by rw [k1 230 (by decide)]; exact h.2.1, by rw [k1 230 (by decide)]; exact h.2.2.1, by rw [k1 230 (by decide)]; exact h.2.2.2.1, h.2.2.2.2⟩
    obtain ⟨I2, u1, u2, u3, u4⟩ := ih (i + 1) n _ m1 (fun j hj => by rw [k1 233 (by decide)]; exact hr j hj) (fun j hj2 => by
      rw [wr_eq]
      by_cases e : j = i
      · subst e; rw [pk_us]
      · rw [pk_un e, t2 234 (by decide)]; exact hj j (by omega)) (by omega)
    refine ⟨I2, k1.tr u1, f1.tr u2, u3, ?_⟩
    rw [show n + 2 * (k + 1) + 1 = (n + 2 * k + 1) + 1 + 1 by omega, runS_s, s_X12_weekGoes_93, h.1.v, chk_in hv (by omega), nI_clamp (by omega), h.1.Sm, if_neg (nI_ge (by omega) (by omega)), chk_in (by omega) (by omega), chk_in (by omega) (by omega), nI_clamp (by omega), hr i hi', t1, p_ci_s, hsi, ev_heldR (by omega), p_ci_s, h99_sub P hs.2, chk_in (by omega) (by omega), runS_s, s_X12_weekGoes_137, nI_1]
    exact u4
theorem lp_wk3 {g : Nat → Nat} : ∀ (k i n : Nat) (I : Nat → Nat → Int32), PlR P I → (∀ j, j < xS P → I 234 j = nI (g j)) → (∀ j, j < i → I 230 j = nI (g j)) → i + k = xS P → k < n →
    ∃ I', runS (EV d) none 3 T0 C_X12_weekGoes k_X12_weekGoes rtV f_X12_weekGoes n 145 [.ref 192, un, .int (nI i)] [] (I, J) = some (none, (I', J)) ∧ kp [230] I I' ∧ (∀ j, j < xS P → I' 230 j = nI (g j)) ∧ I' 230 31 = I 230 31 + 1 ∧ ∀ j, 10 ≤ j → j ≠ 31 → I' 230 j = I 230 j := by
  intro k
  induction k with
  | zero =>
    intro i n I h hg hj hi hn
    have h10 := h.S10
    have hv := h.v2
    obtain ⟨n, rfl⟩ : ∃ z, n = z + 1 := ⟨n - 1, by omega⟩
    have e : i = xS P := by omega
    subst e
    rw [runS_s, s_X12_weekGoes_145, h.v, chk_in hv (by omega), nI_clamp (by omega), h.Sm, if_pos (Int32.le_refl _)]
    refine ⟨_, rfl, kp.rf.wr (by decide), fun j hj2 => ?_, ?_, fun j h1 h2 => ?_⟩
    · rw [wr_eq, pk_un (by omega)]; exact hj j hj2
    · rw [wr_eq, pk_us]
    · rw [wr_eq, pk_un h2]
  | succ k ih =>
    intro i n I h hg hj hi hn
    have h10 := h.S10
    have hv := h.v2
    obtain ⟨n, rfl⟩ : ∃ z, n = z + 1 := ⟨n - 1, by omega⟩
    have hi' : i < xS P := by omega
    have k1 : kp [230] I (p_wr I 230 i (nI (g i))) := kp.rf.wr (by decide)
    obtain ⟨I2, u1, u2, u3, u4, u5⟩ := ih (i + 1) n (p_wr I 230 i (nI (g i))) (plr_kx h k1 (by decide) (by rw [k1 192 (by decide)])) (fun j hj => by rw [k1 234 (by decide)]; exact hg j hj) (fun j hj2 => by
      rw [wr_eq]
      by_cases e : j = i
      · subst e; rw [pk_us]
      · rw [pk_un e]; exact hj j (by omega)) (by omega) (by omega)
    refine ⟨I2, ?_, k1.tr u2, u3, by rw [u4, wr_eq, pk_un (by omega)], fun j h1 h2 => by rw [u5 j h1 h2, wr_eq, pk_un (by omega)]⟩
    rw [runS_s, s_X12_weekGoes_145, h.v, chk_in hv (by omega), nI_clamp (by omega), h.Sm, if_neg (nI_ge (by omega) (by omega)), chk_in (by omega) (by omega), chk_in (by omega) (by omega), nI_clamp (by omega), hg i hi', nI_1]
    exact u1
def wkX : List Nat := [227, 228, 230, 231, 232, 233, 234, 192]
/-- a week when carts go and frosts come -/
theorem ev_week (hd : 6 ≤ d) {x : XS} (h : MX P I x) (h57 : I 192 57 = 0) : ∃ I', EV d T0 227 [.ref 192] (I, J) = some (none, (I', J)) ∧ kp wkX I I' ∧ k53 I I' ∧ MX P I' (wk1 P (I 192 56) x) ∧ I' 230 30 = I 230 30 := by
  obtain ⟨d, rfl⟩ : ∃ z, d = z + 1 := ⟨d - 1, by omega⟩
  obtain ⟨s, wk, q⟩ := x
  obtain ⟨h1, h2, h3, h4, h5⟩ := h
  have h10 := h1.S10
  have hC := h1.C4
  obtain ⟨F, hF, hF2⟩ : ∃ F, 999988 = F + 2 * xS P + 1 + xC P + 1 ∧ 100 < F := ⟨999988 - (2 * xS P + 1 + xC P + 1), by omega, by omega⟩
  have kA : kp wkX I (cs I 233 (fillF (I 233) 0 10)) := kp.rf.cs (by decide)
  have aA : ∀ k, k ≠ 233 → cs I 233 (fillF (I 233) 0 10) k = I k := fun k hk => cs_ne hk
  obtain ⟨I1, t1, t2, t3, t4⟩ := ev_fillsWays (d := d) (J := J) (s := s) (by omega) (plr_kx h1 kA (by decide) (by rw [aA 192 (by decide)])) (by rw [aA 230 (by decide)]; exact h2)
  have kB : kp wkX I I1 := kA.tr (t2.up (by decide))
  have fB : k53 I I1 := fun j hj => by rw [t3 j hj, aA 192 (by decide)]
  have e230 : I1 230 = I 230 := by rw [t2 230 (by decide), aA 230 (by decide)]
  rw [aA 230 (by decide), show I 230 31 = wk from h3] at t4
  have mB : MX P I1 (s, wk, q) := ⟨plr_kx h1 kB (by decide) (fB 18 (by decide)), by rw [e230]; exact h2, by rw [e230]; exact h3, by rw [e230]; exact h4, h5⟩
  have rB : ∀ j, j < xS P → I1 233 j = 0 := fun j hj => by rw [t2 233 (by decide), cs_eq]; exact if_pos (by omega)
  obtain ⟨I2, u1, u2, u3, u4, u5, u6⟩ := lp_wk1 (d := d) (J := J) (s := s) (wk := wk) (by omega) (xC P) 0 (F + 2 * xS P + 1) (q, fun _ => 0) I1 mB t4 rB (by rw [fB 57 (by decide)]; exact h57) (by omega)
  obtain ⟨I3, v1, v2, v3, v4⟩ := lp_wk2 (d := d) (J := J) (s := s) (wk := wk) (by omega) (fz := ¬ xz P ≤ lotF (I 192 56) wk) (xS P) 0 F I2 u4 u5 (fun j hj => by omega) (by omega)
  have kC : kp wkX I I3 := (kB.tr (u1.up (by decide))).tr (v1.up (by decide))
  have fC : k53 I I3 := (fB.tr u2).tr v2
  have g230 : I3 230 = I2 230 := v1 230 (by decide)
  obtain ⟨I4, w1, w2, w3, w4, w5⟩ := lp_wk3 (d := d) (J := J) (P := P) (xS P) 0 F I3 (plr_kx h1 kC (by decide) (fC 18 (by decide))) v3 (fun j hj => by omega) (by omega) (by omega)
  have kD : kp wkX I I4 := kC.tr (w2.up (by decide))
  have fD : k53 I I4 := fun j hj => by rw [w2 192 (by decide)]; exact fC j hj
  have h56 : I2 192 56 = I 192 56 := (u2 56 (by decide)).trans (fB 56 (by decide))
  rw [h56] at u6
  refine ⟨I4, ?_, kD, fD, ⟨plr_kx h1 kD (by decide) (fD 18 (by decide)), fun j hj => ?_, ?_, ?_, ?_⟩, ?_⟩
  · rw [e_X12_weekGoes, runS_M, s_X12_weekGoes_0]
    have hz := lp_wk0 (d := d) (I := I) (J := J) 10 0 999989 (I 233) (by omega)
    rw [fillF_0, cs_self] at hz
    refine hz.trans ?_
    rw [show (999989 : Nat) = 999988 + 1 from rfl, runS_s, s_X12_weekGoes_2, if_pos (by decide), t1, p_cv_s, hF]
    exact u6.trans (v4.trans w1)
  · exact ⟨w3 j hj, by show wrN P s wk _ _ j ≤ 99; unfold wrN; have := (h2 j hj).2; dsimp only at this; omega⟩
  · rw [w4, g230, (u3 31 (by omega)), e230, show I 230 31 = wk from h3]; rfl
  · intro c hc f hf
    rw [w5 (10 + 4 * f + c) (by omega) (by omega), g230]
    exact u4.2.2.2.1 c hc f hf
  · exact u4.2.2.2.2
  · rw [w5 30 (by omega) (by omega), g230, u3 30 (by omega), e230]
end QM
