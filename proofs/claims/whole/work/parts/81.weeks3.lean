section QK
variable {P : PP} {I : Nat → Nat → Int32} {J : Nat → Nat → Int64} {d : Nat} {s : Nat → Nat} {wk : Int32}
theorem mvA_off {q : Nat → Nat → Int32} (h : ∀ c, c < xC P → ¬ q c 1 = 1) : mvA P s wk q = (q, fun _ => 0) := by
  have hg : ∀ (k i : Nat), i + k = xC P → (List.range' i k).foldl (mvC P s wk) (q, fun _ => 0) = (q, fun _ => 0) := by
    intro k
    induction k with
    | zero => intro i _; rfl
    | succ k ih =>
      intro i hi
      show (List.range' (i + 1) k).foldl (mvC P s wk) (mvC P s wk (q, fun _ => 0) i) = _
      rw [show mvC P s wk (q, fun _ => 0) i = (q, fun _ => 0) from if_neg (h i (by omega))]
      exact ih (i + 1) (by omega)
  exact hg (xC P) 0 (by omega)
theorem wr_nat (P : PP) {i m : Nat} (hm : m ≤ 99) (wk fz ca : Int32) : (if (0 : Int32) < nI m - wearF P i (nI m) wk fz ca then nI m - wearF P i (nI m) wk fz ca else 0) = nI (m - (wearF P i (nI m) wk fz ca).toNatClampNeg) := by
  obtain ⟨x, hx, e⟩ := wearF_nI P i (nI m) wk fz ca
  rw [e, nI_clamp (by omega)]
  by_cases hc : x < m
  · rw [pk_sub (by omega), if_pos (show (0 : Int32) < nI (m - x) from nI_lt (a := 0) (by omega) (by omega))]
  · have hle : (nI m - nI x).toInt = (m : Int) - x := pk_sub_toInt (by omega) (by omega)
    rw [if_neg (by rw [Int32.lt_iff_toInt_lt, hle]; have e0 : (0 : Int32).toInt = 0 := by decide
                   omega), show m - x = 0 by omega]
    rfl
theorem lp_mvs_39 (hd : 6 ≤ d) {m on : Int32} (hm : ∀ i, bt m i = decide (i < xS P ∧ 0 < s i)) : ∀ (k i n : Nat) (x : (Nat → Nat → Int32) × (Nat → Int32)) (I : Nat → Nat → Int32), PlR P I → swR P (I 40) s → I 39 0 = wk → ctC P (I 41) x.1 → ctV P x.1 → (∀ i, i < xS P → I 175 i = x.2 i) → (∀ j, j < xS P → I 176 j = wayF P j (nI (s j)) wk) → (∀ c, i ≤ c → c < xC P → (bt on c = true ↔ x.1 c 1 = 1)) → i + k = xC P → k < n →
    ∃ I', runS (EV d) none 5 T0 C_X7_moveCarts k_X7_moveCarts rtV f_X7_moveCarts n 31 [.ref 174, .ref 39, .int on, .int m, .int (nI i)] [] (I, J) = some (none, (I', J)) ∧ kp [37, 170, 173, 175, 41] I I' ∧ ctC P (I' 41) ((List.range' i k).foldl (mvC P s wk) x).1 ∧ ctV P ((List.range' i k).foldl (mvC P s wk) x).1 ∧ ∀ j, j < xS P → I' 175 j = ((List.range' i k).foldl (mvC P s wk) x).2 j := by
  intro k
  induction k with
  | zero =>
    intro i n x I h hs hk hc hV hr hwy hon hi hn
    have h4 := h.C4
    obtain ⟨n, rfl⟩ : ∃ z, n = z + 1 := ⟨n - 1, by omega⟩
    rw [runS_s, s_X7_moveCarts_39_31, h.C, if_pos (nI_le (by omega) (by omega))]
    exact ⟨I, rfl, kp.rf, hc, hV, hr⟩
  | succ k ih =>
    intro i n x I h hs hk hc hV hr hwy hon hi hn
    have h4 := h.C4
    obtain ⟨n, rfl⟩ : ∃ z, n = z + 1 := ⟨n - 1, by omega⟩
    have hi' : i < xC P := by omega
    rw [runS_s, s_X7_moveCarts_39_31, h.C, if_neg (nI_ge (by omega) (by omega)), q_bit (by omega) _ (by omega), p_ci_s, nI_1]
    by_cases ho : x.1 i 1 = 1
    · obtain ⟨I1, t1, t2, t3, t4⟩ := ev_moveCart_39 (d := d) (J := J) hd h hs hk hc hV hr hm hwy hi' ho
      obtain ⟨I2, u1, u2, u3, u4, u5⟩ := ih (i + 1) n (mvC P s wk x i) I1 (plr_kx h t2 (by decide) (by rw [t2 192 (by decide)])) (hs.cg (fun j _ => by rw [t2 40 (by decide)])) (by rw [t2 39 (by decide)]; exact hk) t3 (mvC_V h hV hi') t4 (fun j hj => by rw [t2 176 (by decide)]; exact hwy j hj) (fun c h1 h2 => by rw [mvC_1 (by omega)]; exact hon c (by omega) h2) (by omega) (by omega)
      rw [zI_t ((hon i (Nat.le_refl _) hi').mpr ho), if_neg (by decide), t1, p_cv_s]
      exact ⟨I2, u1, t2.tr u2, u3, u4, u5⟩
    · have hst : (List.range' i (k + 1)).foldl (mvC P s wk) x = (List.range' (i + 1) k).foldl (mvC P s wk) x := by
        show (List.range' (i + 1) k).foldl (mvC P s wk) (mvC P s wk x i) = _
        rw [show mvC P s wk x i = x from if_neg ho]
      rw [zI_f (fun q => ho ((hon i (Nat.le_refl _) hi').mp q)), if_pos rfl, hst]
      exact ih (i + 1) n x I h hs hk hc hV hr hwy (fun c h1 h2 => hon c (by omega) h2) (by omega) (by omega)
theorem ev_mvs_39 (hd : 7 ≤ d) (h : PlR P I) (hs : swR P (I 40) s) (hk : I 39 0 = wk) {q : Nat → Nat → Int32} (hc : ctC P (I 41) q) (hV : ctV P q) (hr : ∀ i, i < xS P → I 175 i = 0) : ∃ I', EV d T0 82 [.ref 174, .ref 39] (I, J) = some (none, (I', J)) ∧ kp [37, 170, 173, 175, 176, 41] I I' ∧ ctC P (I' 41) (mvA P s wk q).1 ∧ ctV P (mvA P s wk q).1 ∧ ∀ j, j < xS P → I' 175 j = (mvA P s wk q).2 j := by
  obtain ⟨d, rfl⟩ : ∃ z, d = z + 1 := ⟨d - 1, by omega⟩
  have h4 := h.C4
  obtain ⟨on, o1, -, o2⟩ := ev_onR_39 (d := d) (J := J) (by omega) h
  have hob : ∀ c, c < xC P → (bt on c = true ↔ q c 1 = 1) := by
    intro c hc'
    rw [o2 c, hc c hc' 1 (by omega), decide_eq_true_eq]
    rcases (hV c hc').2 with e | e
    · rw [e]; exact ⟨fun q => absurd rfl q.2, fun q => absurd q (by decide)⟩
    · rw [e]; exact ⟨fun _ => rfl, fun _ => ⟨hc', by decide⟩⟩
  rw [e_X7_moveCarts_39, runS_M, s_X7_moveCarts_39_0, o1, p_ci_s]
  by_cases h0 : on = 0
  · rw [if_pos h0, mvA_off (fun c hc' ho => by
      have := (hob c hc').mpr ho
      rw [h0, b_0] at this
      cases this)]
    exact ⟨I, rfl, kp.rf, hc, hV, hr⟩
  · obtain ⟨m, w1, w2⟩ := ev_whole_39 (d := d) (J := J) (by omega) h hs
    obtain ⟨I1, t1, t2, t3⟩ := ev_fillWays_39 (d := d) (J := J) (by omega) h hs
    rw [hk] at t3
    obtain ⟨I2, u1, u2, u3, u4, u5⟩ := lp_mvs_39 (d := d) (J := J) (s := s) (wk := wk) (by omega) w2 (on := on) (xC P) 0 999999 (q, fun _ => 0) I1 (plr_kx h t2 (by decide) (by rw [t2 192 (by decide)])) (hs.cg (fun j _ => by rw [t2 40 (by decide)])) (by rw [t2 39 (by decide)]; exact hk) (by rw [t2 41 (by decide)]; exact hc) hV (fun i hi => by rw [t2 175 (by decide)]; exact hr i hi) t3 (fun c _ h2 => hob c h2) (by omega) (by omega)
    rw [if_neg h0, w1, p_ci_s, t1, p_cv_s]
    exact ⟨I2, u1, (t2.up (by decide)).tr (u2.up (by decide)), u3, u4, u5⟩
theorem lp_wear_39 (hd : 4 ≤ d) {fz : Int32} {r : Nat → Int32} : ∀ (k i n : Nat) (I : Nat → Nat → Int32), PlR P I → (∀ j, j < xS P → s j ≤ 99 ∧ I 40 j = nI (if j < i then wrN P s wk fz r j else s j)) → I 39 0 = wk → (∀ j, j < xS P → I 175 j = r j) → i + k = xS P → k < n →
    ∃ I', runS (EV d) none 5 T0 C_X7_wearSeams k_X7_wearSeams rtV f_X7_wearSeams n 2 [.ref 174, .ref 39, .int fz, .int (nI i), un] [] (I, J) = some (none, (I', J)) ∧ kp [37, 170, 40] I I' ∧ swR P (I' 40) (wrN P s wk fz r) := by
  intro k
  induction k with
  | zero =>
    intro i n I h hs hk hr hi hn
    have h10 := h.S10
    obtain ⟨n, rfl⟩ : ∃ z, n = z + 1 := ⟨n - 1, by omega⟩
    rw [runS_s, s_X7_wearSeams_39_2, h.S, if_pos (nI_le (by omega) (by omega))]
    refine ⟨I, rfl, kp.rf, fun j hj => ?_⟩
    have h9 := hs j hj
    rw [if_pos (by omega)] at h9
    exact ⟨h9.2, by unfold wrN; omega⟩
  | succ k ih =>
    intro i n I h hs hk hr hi hn
    have h10 := h.S10
    obtain ⟨n, rfl⟩ : ∃ z, n = z + 1 := ⟨n - 1, by omega⟩
    have hi' : i < xS P := by omega
    have h9 := hs i hi'
    rw [if_neg (by omega)] at h9
    have hp : ∀ z : Option Rs, p_chk (p_in (nI i) 10) z = z := fun z => chk_in (by omega) (by omega)
    rw [runS_s, s_X7_wearSeams_39_2, h.S, if_neg (nI_ge (by omega) (by omega)), nI_1]
    simp only [hp, nI_clamp (show i < 2 ^ 31 by omega), h9.2, le0_nI (show s i < 2 ^ 31 by omega), hk, hr i hi']
    by_cases h0 : s i = 0
    · rw [if_pos h0]
      refine ih (i + 1) n I h (fun j hj => ?_) hk hr (by omega) (by omega)
      refine ⟨(hs j hj).1, ?_⟩
      by_cases e : j = i
      · subst e; rw [if_pos (by omega), h9.2]; congr 1; unfold wrN; omega
      · have := (hs j hj).2
        by_cases e2 : j < i
        · rw [if_pos e2] at this; rw [if_pos (by omega)]; exact this
        · rw [if_neg e2] at this; rw [if_neg (by omega)]; exact this
    · obtain ⟨I1, t1, t2⟩ := ev_wear (d := d) (J := J) (by omega) h hi' (nI (s i)) wk fz (r i)
      rw [if_neg h0, t1, p_ci_s]
      have e1 : I1 40 i = nI (s i) := by rw [t2 40 (by decide)]; exact h9.2
      simp only [hp, e1, wr_nat P h9.1]
      have k1 : kp [37, 170, 40] I (p_wr I1 40 i (nI (wrN P s wk fz r i))) := (t2.up (by decide)).wr (by decide)
      obtain ⟨I2, u1, u2, u3⟩ := ih (i + 1) n (p_wr I1 40 i (nI (wrN P s wk fz r i))) (plr_kx h k1 (by decide) (by rw [k1 192 (by decide)])) (fun j hj => by
        refine ⟨(hs j hj).1, ?_⟩
        rw [wr_eq]
        by_cases e : j = i
        · subst e; rw [if_pos (by omega), pk_us]
        · rw [pk_un e, t2 40 (by decide)]
          have := (hs j hj).2
          by_cases e2 : j < i
          · rw [if_pos e2] at this; rw [if_pos (by omega)]; exact this
          · rw [if_neg e2] at this; rw [if_neg (by omega)]; exact this) (by rw [k1 39 (by decide)]; exact hk) (fun j hj => by rw [k1 175 (by decide)]; exact hr j hj) (by omega) (by omega)
      exact ⟨I2, u1, k1.tr u2, u3⟩
theorem ev_wear_39 (hd : 5 ≤ d) (h : PlR P I) (hs : swR P (I 40) s) (hk : I 39 0 = wk) (fz : Int32) {r : Nat → Int32} (hr : ∀ j, j < xS P → I 175 j = r j) : ∃ I', EV d T0 86 [.ref 174, .ref 39, .int fz] (I, J) = some (none, (I', J)) ∧ kp [37, 170, 40] I I' ∧ swR P (I' 40) (wrN P s wk fz r) := by
  obtain ⟨d, rfl⟩ : ∃ z, d = z + 1 := ⟨d - 1, by omega⟩
  have h10 := h.S10
  rw [e_X7_wearSeams_39, runS_M, s_X7_wearSeams_39_0]
  exact lp_wear_39 (d := d) (J := J) (by omega) (xS P) 0 999999 I h (fun j hj => ⟨(hs j hj).2, by rw [if_neg (by omega)]; exact (hs j hj).1⟩) hk hr (by omega) (by omega)
/-- a state of the class stands as told -/
def CX_39 (P : PP) (I : Nat → Nat → Int32) (x : XS) : Prop := PlR P I ∧ swR P (I 40) x.1 ∧ I 39 0 = x.2.1 ∧ ctC P (I 41) x.2.2 ∧ ctV P x.2.2
theorem lp_pass_39 (hd : 8 ≤ d) {sd : Int32} {N : Nat} (hN : N ≤ 1000) : ∀ (k i n : Nat) (x : XS) (I : Nat → Nat → Int32), CX_39 P I x → i + k = N → k < n →
    ∃ I', runS (EV d) none 5 T0 C_X7_passWeeks k_X7_passWeeks rtV f_X7_passWeeks n 3 [.ref 174, .ref 39, .int (nI N), .int sd, .int (nI i)] [] (I, J) = some (none, (I', J)) ∧ kp [37, 170, 173, 175, 176, 39, 40, 41] I I' ∧ CX_39 P I' (wkI P sd k x) ∧ I' 39 1 = I 39 1 := by
  intro k
  induction k with
  | zero =>
    intro i n x I h hi hn
    obtain ⟨n, rfl⟩ : ∃ z, n = z + 1 := ⟨n - 1, by omega⟩
    rw [runS_s, s_X7_passWeeks_39_3, if_pos (nI_le (by omega) (by omega))]
    exact ⟨I, rfl, kp.rf, h, rfl⟩
  | succ k ih =>
    intro i n x I h hi hn
    obtain ⟨n, rfl⟩ : ∃ z, n = z + 1 := ⟨n - 1, by omega⟩
    obtain ⟨h1, h2, h3, h4, h5⟩ := h
    have h10 := h1.S10
    have kA : kp [37, 170, 173, 175, 176, 39, 40, 41] I (cs I 175 (fillF (I 175) 0 10)) := kp.rf.cs (by decide)
    have pA : PlR P (cs I 175 (fillF (I 175) 0 10)) := plr_kx h1 kA (by decide) (by rw [kA 192 (by decide)])
    obtain ⟨I2, t1, t2, t3, t4, t5⟩ := ev_mvs_39 (d := d) (J := J) (s := x.1) (wk := x.2.1) (by omega) pA (h2.cg (fun j _ => by rw [cs_ne (by decide)])) (by rw [cs_ne (by decide)]; exact h3) (by rw [cs_ne (by decide)]; exact h4) h5 (fun i hi => by rw [cs_eq]; exact if_pos (by omega))
    have kB := kA.tr (t2.up (Y := [37, 170, 173, 175, 176, 39, 40, 41]) (by decide))
    have pB : PlR P I2 := plr_kx h1 kB (by decide) (by rw [kB 192 (by decide)])
    have sB : swR P (I2 40) x.1 := h2.cg (fun j _ => by rw [t2 40 (by decide), cs_ne (by decide)])
    have wB : I2 39 = I 39 := by rw [t2 39 (by decide), cs_ne (by decide)]
    obtain ⟨I3, u1, u2, u3⟩ := ev_wear_39 (d := d) (J := J) (wk := x.2.1) (by omega) pB sB (by rw [wB]; exact h3) (zI (¬ xz P ≤ lotF sd x.2.1)) t5
    have wC : I3 39 = I 39 := by rw [u2 39 (by decide)]; exact wB
    have kD : kp [37, 170, 173, 175, 176, 39, 40, 41] I (p_wr I3 39 0 (x.2.1 + 1)) := (kB.tr (u2.up (by decide))).wr (by decide)
    have hX : CX_39 P (p_wr I3 39 0 (x.2.1 + 1)) (wk1 P sd x) := by
      refine ⟨plr_kx h1 kD (by decide) (by rw [kD 192 (by decide)]), ?_, ?_, ?_, t4⟩
      · rw [wr_ne (by decide)]; exact u3
      · rw [wr_eq, pk_us]; rfl
      · rw [wr_ne (by decide), u2 41 (by decide)]; exact t3
    obtain ⟨I4, v1, v2, v3, v4⟩ := ih (i + 1) n (wk1 P sd x) _ hX (by omega) (by omega)
    refine ⟨I4, ?_, kD.tr v2, v3, by rw [v4, wr_eq, pk_un (by decide), wC]⟩
    rw [runS_s, s_X7_passWeeks_39_3, if_neg (nI_ge (by omega) (by omega)), ev_fill175 (by omega), p_cv_s, t1, p_cv_s]
    dsimp only
    rw [wB, h3, ev_isFrost (by omega) pB, p_ci_s, nI_1]
    by_cases hf : ¬ xz P ≤ lotF sd x.2.1
    · rw [zI_t hf] at u1 ⊢
      rw [if_neg (by decide), u1, p_cv_s]
      dsimp only
      rw [wC, h3]
      exact v1
    · rw [zI_f hf] at u1 ⊢
      rw [if_pos rfl, u1, p_cv_s]
      dsimp only
      rw [wC, h3]
      exact v1
theorem ev_pass_39 (hd : 9 ≤ d) {x : XS} (h : CX_39 P I x) {k : Nat} (hk : k ≤ 1000) (sd : Int32) : ∃ I', EV d T0 75 [.ref 174, .ref 39, .int (nI k), .int sd] (I, J) = some (none, (I', J)) ∧ kp [37, 170, 173, 175, 176, 39, 40, 41] I I' ∧ CX_39 P I' (wkI P sd k x) ∧ I' 39 1 = I 39 1 := by
  obtain ⟨d, rfl⟩ : ∃ z, d = z + 1 := ⟨d - 1, by omega⟩
  rw [e_X7_passWeeks_39, runS_M, s_X7_passWeeks_39_0]
  exact lp_pass_39 (d := d) (J := J) (by omega) hk k 0 999999 x I h (by omega) (by omega)
theorem lp_mvs_42 (hd : 6 ≤ d) {m on : Int32} (hm : ∀ i, bt m i = decide (i < xS P ∧ 0 < s i)) : ∀ (k i n : Nat) (x : (Nat → Nat → Int32) × (Nat → Int32)) (I : Nat → Nat → Int32), PlR P I → swR P (I 43) s → I 42 0 = wk → ctC P (I 44) x.1 → ctV P x.1 → (∀ i, i < xS P → I 175 i = x.2 i) → (∀ j, j < xS P → I 176 j = wayF P j (nI (s j)) wk) → (∀ c, i ≤ c → c < xC P → (bt on c = true ↔ x.1 c 1 = 1)) → i + k = xC P → k < n →
    ∃ I', runS (EV d) none 5 T0 C_X7_moveCarts k_X7_moveCarts rtV f_X7_moveCarts n 31 [.ref 174, .ref 42, .int on, .int m, .int (nI i)] [] (I, J) = some (none, (I', J)) ∧ kp [37, 170, 173, 175, 44] I I' ∧ ctC P (I' 44) ((List.range' i k).foldl (mvC P s wk) x).1 ∧ ctV P ((List.range' i k).foldl (mvC P s wk) x).1 ∧ ∀ j, j < xS P → I' 175 j = ((List.range' i k).foldl (mvC P s wk) x).2 j := by
  intro k
  induction k with
  | zero =>
    intro i n x I h hs hk hc hV hr hwy hon hi hn
    have h4 := h.C4
    obtain ⟨n, rfl⟩ : ∃ z, n = z + 1 := ⟨n - 1, by omega⟩
    rw [runS_s, s_X7_moveCarts_42_31, h.C, if_pos (nI_le (by omega) (by omega))]
    exact ⟨I, rfl, kp.rf, hc, hV, hr⟩
  | succ k ih =>
    intro i n x I h hs hk hc hV hr hwy hon hi hn
    have h4 := h.C4
    obtain ⟨n, rfl⟩ : ∃ z, n = z + 1 := ⟨n - 1, by omega⟩
    have hi' : i < xC P := by omega
    rw [runS_s, s_X7_moveCarts_42_31, h.C, if_neg (nI_ge (by omega) (by omega)), q_bit (by omega) _ (by omega), p_ci_s, nI_1]
    by_cases ho : x.1 i 1 = 1
    · obtain ⟨I1, t1, t2, t3, t4⟩ := ev_moveCart_42 (d := d) (J := J) hd h hs hk hc hV hr hm hwy hi' ho
      obtain ⟨I2, u1, u2, u3, u4, u5⟩ := ih (i + 1) n (mvC P s wk x i) I1 (plr_kx h t2 (by decide) (by rw [t2 192 (by decide)])) (hs.cg (fun j _ => by rw [t2 43 (by decide)])) (by rw [t2 42 (by decide)]; exact hk) t3 (mvC_V h hV hi') t4 (fun j hj => by rw [t2 176 (by decide)]; exact hwy j hj) (fun c h1 h2 => by rw [mvC_1 (by omega)]; exact hon c (by omega) h2) (by omega) (by omega)
      rw [zI_t ((hon i (Nat.le_refl _) hi').mpr ho), if_neg (by decide), t1, p_cv_s]
      exact ⟨I2, u1, t2.tr u2, u3, u4, u5⟩
    · have hst : (List.range' i (k + 1)).foldl (mvC P s wk) x = (List.range' (i + 1) k).foldl (mvC P s wk) x := by
        show (List.range' (i + 1) k).foldl (mvC P s wk) (mvC P s wk x i) = _
        rw [show mvC P s wk x i = x from if_neg ho]
      rw [zI_f (fun q => ho ((hon i (Nat.le_refl _) hi').mp q)), if_pos rfl, hst]
      exact ih (i + 1) n x I h hs hk hc hV hr hwy (fun c h1 h2 => hon c (by omega) h2) (by omega) (by omega)
theorem ev_mvs_42 (hd : 7 ≤ d) (h : PlR P I) (hs : swR P (I 43) s) (hk : I 42 0 = wk) {q : Nat → Nat → Int32} (hc : ctC P (I 44) q) (hV : ctV P q) (hr : ∀ i, i < xS P → I 175 i = 0) : ∃ I', EV d T0 82 [.ref 174, .ref 42] (I, J) = some (none, (I', J)) ∧ kp [37, 170, 173, 175, 176, 44] I I' ∧ ctC P (I' 44) (mvA P s wk q).1 ∧ ctV P (mvA P s wk q).1 ∧ ∀ j, j < xS P → I' 175 j = (mvA P s wk q).2 j := by
  obtain ⟨d, rfl⟩ : ∃ z, d = z + 1 := ⟨d - 1, by omega⟩
  have h4 := h.C4
  obtain ⟨on, o1, -, o2⟩ := ev_onR_42 (d := d) (J := J) (by omega) h
  have hob : ∀ c, c < xC P → (bt on c = true ↔ q c 1 = 1) := by
    intro c hc'
    rw [o2 c, hc c hc' 1 (by omega), decide_eq_true_eq]
    rcases (hV c hc').2 with e | e
    · rw [e]; exact ⟨fun q => absurd rfl q.2, fun q => absurd q (by decide)⟩
    · rw [e]; exact ⟨fun _ => rfl, fun _ => ⟨hc', by decide⟩⟩
  rw [e_X7_moveCarts_42, runS_M, s_X7_moveCarts_42_0, o1, p_ci_s]
  by_cases h0 : on = 0
  · rw [if_pos h0, mvA_off (fun c hc' ho => by
      have := (hob c hc').mpr ho
      rw [h0, b_0] at this
      cases this)]
    exact ⟨I, rfl, kp.rf, hc, hV, hr⟩
  · obtain ⟨m, w1, w2⟩ := ev_whole_42 (d := d) (J := J) (by omega) h hs
    obtain ⟨I1, t1, t2, t3⟩ := ev_fillWays_42 (d := d) (J := J) (by omega) h hs
    rw [hk] at t3
    obtain ⟨I2, u1, u2, u3, u4, u5⟩ := lp_mvs_42 (d := d) (J := J) (s := s) (wk := wk) (by omega) w2 (on := on) (xC P) 0 999999 (q, fun _ => 0) I1 (plr_kx h t2 (by decide) (by rw [t2 192 (by decide)])) (hs.cg (fun j _ => by rw [t2 43 (by decide)])) (by rw [t2 42 (by decide)]; exact hk) (by rw [t2 44 (by decide)]; exact hc) hV (fun i hi => by rw [t2 175 (by decide)]; exact hr i hi) t3 (fun c _ h2 => hob c h2) (by omega) (by omega)
    rw [if_neg h0, w1, p_ci_s, t1, p_cv_s]
    exact ⟨I2, u1, (t2.up (by decide)).tr (u2.up (by decide)), u3, u4, u5⟩
theorem lp_wear_42 (hd : 4 ≤ d) {fz : Int32} {r : Nat → Int32} : ∀ (k i n : Nat) (I : Nat → Nat → Int32), PlR P I → (∀ j, j < xS P → s j ≤ 99 ∧ I 43 j = nI (if j < i then wrN P s wk fz r j else s j)) → I 42 0 = wk → (∀ j, j < xS P → I 175 j = r j) → i + k = xS P → k < n →
    ∃ I', runS (EV d) none 5 T0 C_X7_wearSeams k_X7_wearSeams rtV f_X7_wearSeams n 2 [.ref 174, .ref 42, .int fz, .int (nI i), un] [] (I, J) = some (none, (I', J)) ∧ kp [37, 170, 43] I I' ∧ swR P (I' 43) (wrN P s wk fz r) := by
  intro k
  induction k with
  | zero =>
    intro i n I h hs hk hr hi hn
    have h10 := h.S10
    obtain ⟨n, rfl⟩ : ∃ z, n = z + 1 := ⟨n - 1, by omega⟩
    rw [runS_s, s_X7_wearSeams_42_2, h.S, if_pos (nI_le (by omega) (by omega))]
    refine ⟨I, rfl, kp.rf, fun j hj => ?_⟩
    have h9 := hs j hj
    rw [if_pos (by omega)] at h9
    exact ⟨h9.2, by unfold wrN; omega⟩
  | succ k ih =>
    intro i n I h hs hk hr hi hn
    have h10 := h.S10
    obtain ⟨n, rfl⟩ : ∃ z, n = z + 1 := ⟨n - 1, by omega⟩
    have hi' : i < xS P := by omega
    have h9 := hs i hi'
    rw [if_neg (by omega)] at h9
    have hp : ∀ z : Option Rs, p_chk (p_in (nI i) 10) z = z := fun z => chk_in (by omega) (by omega)
    rw [runS_s, s_X7_wearSeams_42_2, h.S, if_neg (nI_ge (by omega) (by omega)), nI_1]
    simp only [hp, nI_clamp (show i < 2 ^ 31 by omega), h9.2, le0_nI (show s i < 2 ^ 31 by omega), hk, hr i hi']
    by_cases h0 : s i = 0
    · rw [if_pos h0]
      refine ih (i + 1) n I h (fun j hj => ?_) hk hr (by omega) (by omega)
      refine ⟨(hs j hj).1, ?_⟩
      by_cases e : j = i
      · subst e; rw [if_pos (by omega), h9.2]; congr 1; unfold wrN; omega
      · have := (hs j hj).2
        by_cases e2 : j < i
        · rw [if_pos e2] at this; rw [if_pos (by omega)]; exact this
        · rw [if_neg e2] at this; rw [if_neg (by omega)]; exact this
    · obtain ⟨I1, t1, t2⟩ := ev_wear (d := d) (J := J) (by omega) h hi' (nI (s i)) wk fz (r i)
      rw [if_neg h0, t1, p_ci_s]
      have e1 : I1 43 i = nI (s i) := by rw [t2 43 (by decide)]; exact h9.2
      simp only [hp, e1, wr_nat P h9.1]
      have k1 : kp [37, 170, 43] I (p_wr I1 43 i (nI (wrN P s wk fz r i))) := (t2.up (by decide)).wr (by decide)
      obtain ⟨I2, u1, u2, u3⟩ := ih (i + 1) n (p_wr I1 43 i (nI (wrN P s wk fz r i))) (plr_kx h k1 (by decide) (by rw [k1 192 (by decide)])) (fun j hj => by
        refine ⟨(hs j hj).1, ?_⟩
        rw [wr_eq]
        by_cases e : j = i
        · subst e; rw [if_pos (by omega), pk_us]
        · rw [pk_un e, t2 43 (by decide)]
          have := (hs j hj).2
          by_cases e2 : j < i
          · rw [if_pos e2] at this; rw [if_pos (by omega)]; exact this
          · rw [if_neg e2] at this; rw [if_neg (by omega)]; exact this) (by rw [k1 42 (by decide)]; exact hk) (fun j hj => by rw [k1 175 (by decide)]; exact hr j hj) (by omega) (by omega)
      exact ⟨I2, u1, k1.tr u2, u3⟩
theorem ev_wear_42 (hd : 5 ≤ d) (h : PlR P I) (hs : swR P (I 43) s) (hk : I 42 0 = wk) (fz : Int32) {r : Nat → Int32} (hr : ∀ j, j < xS P → I 175 j = r j) : ∃ I', EV d T0 86 [.ref 174, .ref 42, .int fz] (I, J) = some (none, (I', J)) ∧ kp [37, 170, 43] I I' ∧ swR P (I' 43) (wrN P s wk fz r) := by
  obtain ⟨d, rfl⟩ : ∃ z, d = z + 1 := ⟨d - 1, by omega⟩
  have h10 := h.S10
  rw [e_X7_wearSeams_42, runS_M, s_X7_wearSeams_42_0]
  exact lp_wear_42 (d := d) (J := J) (by omega) (xS P) 0 999999 I h (fun j hj => ⟨(hs j hj).2, by rw [if_neg (by omega)]; exact (hs j hj).1⟩) hk hr (by omega) (by omega)
/-- a state of the class stands as told -/
def CX_42 (P : PP) (I : Nat → Nat → Int32) (x : XS) : Prop := PlR P I ∧ swR P (I 43) x.1 ∧ I 42 0 = x.2.1 ∧ ctC P (I 44) x.2.2 ∧ ctV P x.2.2
theorem lp_pass_42 (hd : 8 ≤ d) {sd : Int32} {N : Nat} (hN : N ≤ 1000) : ∀ (k i n : Nat) (x : XS) (I : Nat → Nat → Int32), CX_42 P I x → i + k = N → k < n →
    ∃ I', runS (EV d) none 5 T0 C_X7_passWeeks k_X7_passWeeks rtV f_X7_passWeeks n 3 [.ref 174, .ref 42, .int (nI N), .int sd, .int (nI i)] [] (I, J) = some (none, (I', J)) ∧ kp [37, 170, 173, 175, 176, 42, 43, 44] I I' ∧ CX_42 P I' (wkI P sd k x) ∧ I' 42 1 = I 42 1 := by
  intro k
  induction k with
  | zero =>
    intro i n x I h hi hn
    obtain ⟨n, rfl⟩ : ∃ z, n = z + 1 := ⟨n - 1, by omega⟩
    rw [runS_s, s_X7_passWeeks_42_3, if_pos (nI_le (by omega) (by omega))]
    exact ⟨I, rfl, kp.rf, h, rfl⟩
  | succ k ih =>
    intro i n x I h hi hn
    obtain ⟨n, rfl⟩ : ∃ z, n = z + 1 := ⟨n - 1, by omega⟩
    obtain ⟨h1, h2, h3, h4, h5⟩ := h
    have h10 := h1.S10
    have kA : kp [37, 170, 173, 175, 176, 42, 43, 44] I (cs I 175 (fillF (I 175) 0 10)) := kp.rf.cs (by decide)
    have pA : PlR P (cs I 175 (fillF (I 175) 0 10)) := plr_kx h1 kA (by decide) (by rw [kA 192 (by decide)])
    obtain ⟨I2, t1, t2, t3, t4, t5⟩ := ev_mvs_42 (d := d) (J := J) (s := x.1) (wk := x.2.1) (by omega) pA (h2.cg (fun j _ => by rw [cs_ne (by decide)])) (by rw [cs_ne (by decide)]; exact h3) (by rw [cs_ne (by decide)]; exact h4) h5 (fun i hi => by rw [cs_eq]; exact if_pos (by omega))
    have kB := kA.tr (t2.up (Y := [37, 170, 173, 175, 176, 42, 43, 44]) (by decide))
    have pB : PlR P I2 := plr_kx h1 kB (by decide) (by rw [kB 192 (by decide)])
    have sB : swR P (I2 43) x.1 := h2.cg (fun j _ => by rw [t2 43 (by decide), cs_ne (by decide)])
    have wB : I2 42 = I 42 := by rw [t2 42 (by decide), cs_ne (by decide)]
    obtain ⟨I3, u1, u2, u3⟩ := ev_wear_42 (d := d) (J := J) (wk := x.2.1) (by omega) pB sB (by rw [wB]; exact h3) (zI (¬ xz P ≤ lotF sd x.2.1)) t5
    have wC : I3 42 = I 42 := by rw [u2 42 (by decide)]; exact wB
    have kD : kp [37, 170, 173, 175, 176, 42, 43, 44] I (p_wr I3 42 0 (x.2.1 + 1)) := (kB.tr (u2.up (by decide))).wr (by decide)
    have hX : CX_42 P (p_wr I3 42 0 (x.2.1 + 1)) (wk1 P sd x) := by
      refine ⟨plr_kx h1 kD (by decide) (by rw [kD 192 (by decide)]), ?_, ?_, ?_, t4⟩
      · rw [wr_ne (by decide)]; exact u3
      · rw [wr_eq, pk_us]; rfl
      · rw [wr_ne (by decide), u2 44 (by decide)]; exact t3
    obtain ⟨I4, v1, v2, v3, v4⟩ := ih (i + 1) n (wk1 P sd x) _ hX (by omega) (by omega)
    refine ⟨I4, ?_, kD.tr v2, v3, by rw [v4, wr_eq, pk_un (by decide), wC]⟩
    rw [runS_s, s_X7_passWeeks_42_3, if_neg (nI_ge (by omega) (by omega)), ev_fill175 (by omega), p_cv_s, t1, p_cv_s]
    dsimp only
    rw [wB, h3, ev_isFrost (by omega) pB, p_ci_s, nI_1]
    by_cases hf : ¬ xz P ≤ lotF sd x.2.1
    · rw [zI_t hf] at u1 ⊢
      rw [if_neg (by decide), u1, p_cv_s]
      dsimp only
      rw [wC, h3]
      exact v1
    · rw [zI_f hf] at u1 ⊢
      rw [if_pos rfl, u1, p_cv_s]
      dsimp only
      rw [wC, h3]
      exact v1
theorem ev_pass_42 (hd : 9 ≤ d) {x : XS} (h : CX_42 P I x) {k : Nat} (hk : k ≤ 1000) (sd : Int32) : ∃ I', EV d T0 75 [.ref 174, .ref 42, .int (nI k), .int sd] (I, J) = some (none, (I', J)) ∧ kp [37, 170, 173, 175, 176, 42, 43, 44] I I' ∧ CX_42 P I' (wkI P sd k x) ∧ I' 42 1 = I 42 1 := by
  obtain ⟨d, rfl⟩ : ∃ z, d = z + 1 := ⟨d - 1, by omega⟩
  rw [e_X7_passWeeks_42, runS_M, s_X7_passWeeks_42_0]
  exact lp_pass_42 (d := d) (J := J) (by omega) hk k 0 999999 x I h (by omega) (by omega)
end QK
