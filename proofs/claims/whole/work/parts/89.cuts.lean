/-! ===== what was told: cuts (class) ===== -/
section QU
variable {P : PP} {I : Nat → Nat → Int32} {J : Nat → Nat → Int64} {d : Nat} {s : Nat → Nat} {wk : Int32}
/-- the ways when seam e is cut -/
def cuW (P : PP) (s : Nat → Nat) (wk : Int32) (e i : Nat) : Nat := if i = e then 99999 else wyW P s wk i
theorem cuW_ok (h : PlR P I) (e : Nat) : wOK P (cuW P s wk e) := fun i hi => by
  unfold cuW
  by_cases c : i = e
  · rw [if_pos c]; exact Or.inl rfl
  · rw [if_neg c]; exact wyW_ok h s wk i hi
def gpN (P : PP) (s : Nat → Nat) (wk : Int32) (e a b : Nat) : Nat := if dsP P (cuW P s wk e) a b < 99999 then dsP P (cuW P s wk e) a b else 0
theorem gp_le (h : PlR P I) {e a b : Nat} (ha : a < xN P) : gpN P s wk e a b ≤ 693 := by
  unfold gpN
  by_cases c : dsP P (cuW P s wk e) a b < 99999
  · rw [if_pos c]; exact dsP_bnd h (cuW_ok h e) ha c
  · rw [if_neg c]; omega
theorem gp_dI {P : PP} {s : Nat → Nat} {wk : Int32} {e a b : Nat} : (if zI (¬ (1000000 : Int32) ≤ dI (dsP P (cuW P s wk e) a b)) = 0 then (0 : Int32) else dI (dsP P (cuW P s wk e) a b)) = nI (gpN P s wk e a b) := by
  have hle : dsP P (cuW P s wk e) a b ≤ 99999 := ds_le
  unfold gpN
  by_cases hr : dsP P (cuW P s wk e) a b < 99999
  · have hz : ¬ zI (¬ (1000000 : Int32) ≤ dI (dsP P (cuW P s wk e) a b)) = 0 := by
      rw [z0]; simp only [dI_reach hle, hr, not_true, not_false_iff, Classical.not_not]
    rw [if_neg hz, if_pos hr]
    unfold dI
    rw [if_pos hr]
  · have hz : zI (¬ (1000000 : Int32) ≤ dI (dsP P (cuW P s wk e) a b)) = 0 := by
      rw [z0]; simp only [dI_reach hle, hr, not_true, not_false_iff, Classical.not_not]
    rw [if_pos hz, if_neg hr]; rfl
/-- the gaps below place m are there -/
def gpD (P : PP) (s : Nat → Nat) (wk : Int32) (I : Nat → Nat → Int32) (m : Nat) : Prop := ∀ e a b, e < xS P → 0 < s e → a < xN P → b < xN P → 49 * e + 7 * a + b < m → I 182 (49 * e + 7 * a + b) = nI (gpN P s wk e a b)
/-- seams, whole ones and ways in the class -/
def wyC (P : PP) (I : Nat → Nat → Int32) (s : Nat → Nat) (wk : Int32) : Prop := PlR P I ∧ ∀ i, i < xS P → 0 < s i → I 176 i = nI (wyW P s wk i) ∧ 1 ≤ wyW P s wk i ∧ wyW P s wk i ≤ 99
theorem wyC.go {I' : Nat → Nat → Int32} {X : List Nat} (h : wyC P I s wk) (hk : kp X I I') (hX : ∀ k ∈ X, k ∉ plC ∧ k ≠ 176 ∧ k ≠ 192) : wyC P I' s wk :=
  ⟨plr_kx h.1 hk (fun k hx => (hX k hx).1) (by rw [hk 192 (fun hx => (hX 192 hx).2.2 rfl)]), fun i hi hs => by rw [hk 176 (fun hx => (hX 176 hx).2.1 rfl)]; exact h.2 i hi hs⟩
theorem q_pair (hd : 1 ≤ d) {e a b : Nat} (ij : IJ) : EV d T0 72 [.int (nI e), .int (nI a), .int (nI b)] ij = some (some (.int (nI (49 * e + 7 * a + b))), ij) := by
  obtain ⟨d, rfl⟩ : ∃ z, d = z + 1 := ⟨d - 1, by omega⟩
  rw [e_X6_pairOf, runS_M, s_X6_pairOf_0, show nI e * 49 = nI (e * 49) from pk_mul e 49, show nI a * 7 = nI (a * 7) from pk_mul a 7, nI_add, nI_add, Nat.mul_comm e, Nat.mul_comm a]
  rfl
theorem gp_step {e a b : Nat} (he : e < xS P) (ha : a < 7) (hb : b < 7) (hN : xN P ≤ 7) (h : gpD P s wk I (49 * e + 7 * a + b)) : gpD P s wk (p_wr I 182 (49 * e + 7 * a + b) (nI (gpN P s wk e a b))) (49 * e + 7 * a + b + 1) := by
  intro e' a' b' h1 h2 h3 h4 h5
  rw [wr_eq]
  by_cases c : 49 * e' + 7 * a' + b' = 49 * e + 7 * a + b
  · have c1 : e' = e := by omega
    have c2 : a' = a := by omega
    have c3 : b' = b := by omega
    subst c1; subst c2; subst c3
    rw [pk_us]
  · rw [pk_un c]; exact h e' a' b' h1 h2 h3 h4 (by omega)
theorem lp_mc3 (hd : 1 ≤ d) {m : Int32} {e a : Nat} (he : e < xS P) (ha : a < xN P) : ∀ (k b n : Nat) (I : Nat → Nat → Int32), wyC P I s wk → (∀ j, j < 7 → I 173 j = dI (dsP P (cuW P s wk e) a j)) → gpD P s wk I (49 * e + 7 * a + b) → b + k = xN P → k < n →
    ∃ I' n', n ≤ n' + k + 1 ∧ kp [182] I I' ∧ gpD P s wk I' (49 * e + 7 * (a + 1)) ∧ runS (EV d) none 6 T0 C_X6_measureCuts k_X6_measureCuts rtV f_X6_measureCuts n 56 [.ref 178, .int m, .ref 176, .int (nI e), .int (nI a), .int (nI b)] [] (I, J) = runS (EV d) none 6 T0 C_X6_measureCuts k_X6_measureCuts rtV f_X6_measureCuts n' 24 [.ref 178, .int m, .ref 176, .int (nI e), .int (nI (a + 1)), un] [] (I', J) := by
  intro k
  induction k with
  | zero =>
    intro b n I h hf hg hi hn
    have h7 := h.1.N7
    obtain ⟨n, rfl⟩ : ∃ z, n = z + 1 := ⟨n - 1, by omega⟩
    refine ⟨I, n, by omega, kp.rf, fun e' a' b' h1 h2 h3 h4 h5 => hg e' a' b' h1 h2 h3 h4 (by omega), ?_⟩
    rw [runS_s, s_X6_measureCuts_56, h.1.N, if_pos (nI_le (by omega) (by omega)), nI_1]
  | succ k ih =>
    intro b n I h hf hg hi hn
    have h7 := h.1.N7
    have h10 := h.1.S10
    obtain ⟨n, rfl⟩ : ∃ z, n = z + 1 := ⟨n - 1, by omega⟩
    have k1 : kp [182] I (p_wr I 182 (49 * e + 7 * a + b) (nI (gpN P s wk e a b))) := kp.rf.wr (by decide)
    obtain ⟨I2, n', u1, u2, u3, u4⟩ := ih (b + 1) n _ (h.go k1 (by decide)) (fun j hj => by rw [k1 173 (by decide)]; exact hf j hj) (gp_step he (by omega) (by omega) h7 hg) (by omega) (by omega)
    refine ⟨I2, n', by omega, k1.tr u2, u3, ?_⟩
    obtain ⟨d, rfl⟩ : ∃ z, d = z + 1 := ⟨d - 1, by omega⟩
    rw [runS_s, s_X6_measureCuts_56, h.1.N, if_neg (nI_ge (by omega) (by omega)), q_pair (by omega), p_ci_s, ev_isReached d _ _ (show b < 7 by omega), p_ci_s, chk_in (by omega) (by omega), chk_in (by omega) (by omega), chk_in (by omega) (by omega), nI_clamp (by omega), nI_clamp (by omega), nI_1]
    dsimp only
    have hd2 := gp_dI (P := P) (s := s) (wk := wk) (e := e) (a := a) (b := b)
    rw [hf b (by omega)]
    by_cases c : zI (¬ (1000000 : Int32) ≤ dI (dsP P (cuW P s wk e) a b)) = 0
    · rw [if_pos c] at hd2
      rw [if_pos c, hd2]; exact u4
    · rw [if_neg c] at hd2
      rw [if_neg c, hd2]; exact u4
theorem lp_mc2 (hd : 4 ≤ d) {m : Int32} (hm : ∀ i, bt m i = decide (i < xS P ∧ 0 < s i)) {e : Nat} (he : e < xS P) : ∀ (k a n : Nat) (I : Nat → Nat → Int32), wyC P I s wk → gpD P s wk I (49 * e + 7 * a) → a + k = xN P → 10 * k < n →
    ∃ I' n', n ≤ n' + 10 * k + 1 ∧ kp [173, 182] I I' ∧ gpD P s wk I' (49 * (e + 1)) ∧ runS (EV d) none 6 T0 C_X6_measureCuts k_X6_measureCuts rtV f_X6_measureCuts n 24 [.ref 178, .int m, .ref 176, .int (nI e), .int (nI a), un] [] (I, J) = runS (EV d) none 6 T0 C_X6_measureCuts k_X6_measureCuts rtV f_X6_measureCuts n' 2 [.ref 178, .int m, .ref 176, .int (nI (e + 1)), un, un] [] (I', J) := by
  intro k
  induction k with
  | zero =>
    intro a n I h hg hi hn
    have h7 := h.1.N7
    obtain ⟨n, rfl⟩ : ∃ z, n = z + 1 := ⟨n - 1, by omega⟩
    refine ⟨I, n, by omega, kp.rf, fun e' a' b' h1 h2 h3 h4 h5 => hg e' a' b' h1 h2 h3 h4 (by omega), ?_⟩
    rw [runS_s, s_X6_measureCuts_24, h.1.N, if_pos (nI_le (by omega) (by omega)), nI_1]
  | succ k ih =>
    intro a n I h hg hi hn
    have h7 := h.1.N7
    have h10 := h.1.S10
    obtain ⟨n, rfl⟩ : ∃ z, n = z + 1 := ⟨n - 1, by omega⟩
    obtain ⟨f, v1, v2⟩ := ev_measP (d := d) (J := J) (by omega) h.1 (a := m &&& ((1 <<< (nI e &&& 31)) ^^^ (-1))) (w := cuW P s wk e) (fun i hi => by
      rw [b_and, b_not _ (by omega), b_one (by omega), hm i]
      unfold cuW
      by_cases c : i = e
      · subst c; refine Or.inl ⟨?_, if_pos rfl⟩
        rw [decide_eq_true (rfl : i = i), Bool.not_true, Bool.and_false]
      · rw [if_neg c, decide_eq_false (fun h9 : e = i => c h9.symm), Bool.not_false, Bool.and_true]
        by_cases hs : 0 < s i
        · obtain ⟨g1, g2, g3⟩ := h.2 i hi hs
          exact Or.inr ⟨decide_eq_true ⟨hi, hs⟩, g2, g3, g1⟩
        · exact Or.inl ⟨decide_eq_false (fun h9 => hs h9.2), by unfold wyW; rw [if_neg hs]⟩) (t := a) (by omega)
    have k1 : kp [173, 182] I (cs I 173 f) := kp.rf.cs (by decide)
    obtain ⟨I1, n1, t1, t2, t3, t4⟩ := lp_mc3 (d := d) (J := J) (s := s) (wk := wk) (m := m) (by omega) he (show a < xN P by omega) (xN P) 0 n (cs I 173 f) (h.go k1 (by decide)) (fun j hj => by rw [cs_eq]; exact v2 j hj) (fun e' a' b' h1 h2 h3 h4 h5 => by rw [cs_ne (by decide)]; exact hg e' a' b' h1 h2 h3 h4 (by omega)) (by omega) (by omega)
    have k2 : kp [173, 182] I I1 := k1.tr (t2.up (by decide))
    obtain ⟨I2, n2, u1, u2, u3, u4⟩ := ih (a + 1) n1 I1 (h.go k2 (by decide)) t3 (by omega) (by omega)
    refine ⟨I2, n2, by omega, k2.tr u2, u3, ?_⟩
    rw [runS_s, s_X6_measureCuts_24, h.1.N, if_neg (nI_ge (by omega) (by omega)), v1, p_cv_s]
    exact t4.trans u4
theorem lp_mc1 (hd : 4 ≤ d) {m : Int32} (hm : ∀ i, bt m i = decide (i < xS P ∧ 0 < s i)) : ∀ (k e n : Nat) (I : Nat → Nat → Int32), wyC P I s wk → gpD P s wk I (49 * e) → e + k = xS P → 100 * k < n →
    ∃ I', runS (EV d) none 6 T0 C_X6_measureCuts k_X6_measureCuts rtV f_X6_measureCuts n 2 [.ref 178, .int m, .ref 176, .int (nI e), un, un] [] (I, J) = some (none, (I', J)) ∧ kp [173, 182] I I' ∧ gpD P s wk I' (49 * xS P) := by
  intro k
  induction k with
  | zero =>
    intro e n I h hg hi hn
    have h10 := h.1.S10
    obtain ⟨n, rfl⟩ : ∃ z, n = z + 1 := ⟨n - 1, by omega⟩
    rw [runS_s, s_X6_measureCuts_2, h.1.S, if_pos (nI_le (by omega) (by omega))]
    have c : e = xS P := by omega
    subst c
    exact ⟨I, rfl, kp.rf, hg⟩
  | succ k ih =>
    intro e n I h hg hi hn
    have h7 := h.1.N7
    have h10 := h.1.S10
    obtain ⟨n, rfl⟩ : ∃ z, n = z + 1 := ⟨n - 1, by omega⟩
    rw [runS_s, s_X6_measureCuts_2, h.1.S, if_neg (nI_ge (by omega) (by omega)), q_bit (by omega) m (by omega), p_ci_s]
    by_cases hs : 0 < s e
    · obtain ⟨I1, n1, t1, t2, t3, t4⟩ := lp_mc2 (d := d) (J := J) hd hm (show e < xS P by omega) (xN P) 0 n I h (fun e' a' b' h1 h2 h3 h4 h5 => hg e' a' b' h1 h2 h3 h4 (by omega)) (by omega) (by omega)
      obtain ⟨I2, u1, u2, u3⟩ := ih (e + 1) n1 I1 (h.go t2 (by decide)) t3 (by omega) (by omega)
      refine ⟨I2, ?_, t2.tr u2, u3⟩
      rw [if_neg (by rw [zI_t (by rw [hm e]; exact decide_eq_true ⟨by omega, hs⟩)]; decide)]
      exact t4.trans u1
    · obtain ⟨I2, u1, u2, u3⟩ := ih (e + 1) n I h (fun e' a' b' h1 h2 h3 h4 h5 => hg e' a' b' h1 h2 h3 h4 (by
        by_cases c : e' = e
        · subst c; omega
        · omega)) (by omega) (by omega)
      refine ⟨I2, ?_, u2, u3⟩
      rw [if_pos (zI_f (by rw [hm e]; intro h9; exact hs (of_decide_eq_true h9).2)), nI_1]
      exact u1
/-! what was told -/
def TDC (P : PP) (I : Nat → Nat → Int32) (n : Nat) (τ : Nat → Nat × Nat × Nat) : Prop := I 178 6 = nI n ∧ n ≤ 20 ∧ ∀ j, j < n → (I 179 j = nI (τ j).1 ∧ I 180 j = nI (τ j).2.1 ∧ I 181 j = nI (τ j).2.2) ∧ (τ j).1 < xN P ∧ (τ j).2.1 < xN P ∧ (τ j).2.2 ≤ 999
def ftB (P : PP) (s : Nat → Nat) (wk : Int32) (τ : Nat → Nat × Nat × Nat) (k e : Nat) : Bool := decide (∀ j, j < k → gpN P s wk e (τ j).1 (τ j).2.1 = (τ j).2.2)
abbrev ftP (P : PP) (s : Nat → Nat) (wk : Int32) (τ : Nat → Nat × Nat × Nat) (k e : Nat) : Prop := ftB P s wk τ k e = true
theorem ft_i {τ : Nat → Nat × Nat × Nat} {k e : Nat} : ftP P s wk τ k e ↔ ∀ j, j < k → gpN P s wk e (τ j).1 (τ j).2.1 = (τ j).2.2 := decide_eq_true_iff
def cutM (P : PP) (s : Nat → Nat) (wk : Int32) (τ : Nat → Nat × Nat × Nat) (k : Nat) : Int32 := (List.range' 0 (xS P)).foldl (setF (fun e => 0 < s e ∧ ftP P s wk τ k e)) 0
theorem cutM_bt (h : PlR P I) {τ : Nat → Nat × Nat × Nat} {k : Nat} (i : Nat) : bt (cutM P s wk τ k) i = decide (i < xS P ∧ 0 < s i ∧ ftP P s wk τ k i) := by
  have h10 := h.S10
  unfold cutM
  rw [bt_set _ _ _ (by omega), b_0, Bool.false_or]
  apply decide_eq_decide.mpr
  constructor
  · rintro ⟨_, h2, h3⟩; exact ⟨by omega, h3⟩
  · rintro ⟨h2, h3⟩; exact ⟨by omega, by omega, h3⟩
theorem lp_fits (hd : 1 ≤ d) (h : PlR P I) (hg : gpD P s wk I (49 * xS P)) {n0 : Nat} {τ : Nat → Nat × Nat × Nat} (hT : TDC P I n0 τ) {K e : Nat} (hK : K ≤ n0) (he : e < xS P) (hs : 0 < s e) : ∀ (k i n : Nat), i + k = K → (∀ j, j < i → gpN P s wk e (τ j).1 (τ j).2.1 = (τ j).2.2) → k < n →
    runS (EV d) none 4 T0 C_X6_fits k_X6_fits rtZ f_X6_fits n 2 [.ref 178, .int (nI e), .int (nI K), .int (nI i)] [] (I, J) = some (some (.int (zI (ftP P s wk τ K e))), (I, J)) := by
  have h7 := h.N7
  have h10 := h.S10
  obtain ⟨T1, T2, T3⟩ := hT
  intro k
  induction k with
  | zero =>
    intro i n hi hj hn
    obtain ⟨n, rfl⟩ : ∃ z, n = z + 1 := ⟨n - 1, by omega⟩
    rw [runS_s, s_X6_fits_2, if_pos (nI_le (by omega) (by omega)), zI_t (show ftP P s wk τ K e from ft_i.mpr (fun j h9 => hj j (by omega)))]
    rfl
  | succ k ih =>
    intro i n hi hj hn
    obtain ⟨n, rfl⟩ : ∃ z, n = z + 1 := ⟨n - 1, by omega⟩
    obtain ⟨⟨q1, q2, q3⟩, q4, q5, q6⟩ := T3 i (by omega)
    have hle := gp_le (s := s) (wk := wk) (e := e) (b := (τ i).2.1) h q4
    rw [runS_s, s_X6_fits_2, if_neg (nI_ge (by omega) (by omega)), chk_in (by omega) (by omega), chk_in (by omega) (by omega), nI_clamp (by omega), q1, q2, q_pair hd, p_ci_s, chk_in (by omega) (by omega), chk_in (by omega) (by omega), nI_clamp (by omega)]
    dsimp only
    simp only [hg e _ _ he hs q4 q5 (show 49 * e + 7 * (τ i).1 + (τ i).2.1 < 49 * xS P by omega), q3, eq_nI (show gpN P s wk e (τ i).1 (τ i).2.1 < 2 ^ 31 by omega) (show (τ i).2.2 < 2 ^ 31 by omega)]
    by_cases c : gpN P s wk e (τ i).1 (τ i).2.1 = (τ i).2.2
    · rw [if_pos c, nI_1]
      exact ih (i + 1) n (by omega) (fun j h9 => by
        by_cases c2 : j = i
        · subst c2; exact c
        · exact hj j (by omega)) (by omega)
    · rw [if_neg c, zI_f (fun h9 : ftP P s wk τ K e => c (ft_i.mp h9 i (by omega)))]; rfl
theorem lp_known (hd : 2 ≤ d) (h : PlR P I) (hg : gpD P s wk I (49 * xS P)) {n0 : Nat} {τ : Nat → Nat × Nat × Nat} (hT : TDC P I n0 τ) {K : Nat} (hK : K ≤ n0) {m : Int32} (hm : ∀ i, bt m i = decide (i < xS P ∧ 0 < s i)) : ∀ (k i n : Nat) (w : Int32), i + k = xS P → k < n →
    runS (EV d) none 5 T0 C_X6_cutsKnownBy k_X6_cutsKnownBy rtI f_X6_cutsKnownBy n 5 [.ref 178, .int m, .int (nI K), .int w, .int (nI i)] [] (I, J) = some (some (.int ((List.range' i k).foldl (setF (fun e => 0 < s e ∧ ftP P s wk τ K e)) w)), (I, J)) := by
  have h10 := h.S10
  intro k
  induction k with
  | zero =>
    intro i n w hi hn
    obtain ⟨n, rfl⟩ : ∃ z, n = z + 1 := ⟨n - 1, by omega⟩
    rw [runS_s, s_X6_cutsKnownBy_5, h.S, if_pos (nI_le (by omega) (by omega))]
    rfl
  | succ k ih =>
    intro i n w hi hn
    obtain ⟨n, rfl⟩ : ∃ z, n = z + 1 := ⟨n - 1, by omega⟩
    rw [runS_s, s_X6_cutsKnownBy_5, h.S, if_neg (nI_ge (by omega) (by omega)), q_bit (by omega) m (by omega), p_ci_s, nI_1, List.range'_succ, List.foldl_cons]
    by_cases hs : 0 < s i
    · have hfit : EV d T0 69 [.ref 178, .int (nI i), .int (nI K)] (I, J) = some (some (.int (zI (ftP P s wk τ K i))), (I, J)) := by
        obtain ⟨d, rfl⟩ : ∃ z, d = z + 1 := ⟨d - 1, by omega⟩
        rw [e_X6_fits, runS_M, s_X6_fits_0]
        have := hT.2.1
        exact lp_fits (d := d) (J := J) (by omega) h hg hT hK (by omega) hs K 0 999999 (by omega) (fun j h9 => by omega) (by omega)
      rw [if_neg (by rw [zI_t (by rw [hm i]; exact decide_eq_true ⟨by omega, hs⟩)]; decide), hfit, p_ci_s]
      by_cases c : ftP P s wk τ K i
      · rw [if_neg (by rw [zI_t c]; decide), show setF (fun e => 0 < s e ∧ ftP P s wk τ K e) w i = w ||| (1 <<< (nI i &&& 31)) from if_pos ⟨hs, c⟩]
        exact ih (i + 1) n _ (by omega) (by omega)
      · rw [if_pos (zI_f c), show setF (fun e => 0 < s e ∧ ftP P s wk τ K e) w i = w from if_neg (fun h9 => c h9.2)]
        exact ih (i + 1) n _ (by omega) (by omega)
    · rw [if_pos (zI_f (by rw [hm i]; intro h9; exact hs (of_decide_eq_true h9).2)), show setF (fun e => 0 < s e ∧ ftP P s wk τ K e) w i = w from if_neg (fun h9 => hs h9.1)]
      exact ih (i + 1) n _ (by omega) (by omega)
theorem ev_possible (hd : 6 ≤ d) {x : XS} (h : CX_39 P I x) {n0 : Nat} {τ : Nat → Nat × Nat × Nat} (hT : TDC P I n0 τ) {K : Nat} (hK : K ≤ n0) : ∃ I', EV d T0 159 [.ref 0, .int (nI K)] (I, J) = some (some (.int (cutM P x.1 x.2.1 τ K)), (I', J)) ∧ kp [37, 170, 176, 173, 182] I I' ∧ wyC P I' x.1 x.2.1 ∧ gpD P x.1 x.2.1 I' (49 * xS P) := by
  obtain ⟨d, rfl⟩ : ∃ z, d = z + 2 := ⟨d - 2, by omega⟩
  have h1 := h.1
  have h10 := h1.S10
  obtain ⟨I1, t1, t2, t3⟩ := ev_fillWays_39 (d := d + 1) (J := J) (by omega) h1 h.2.1
  have p1 : PlR P I1 := plr_kx h1 t2 (by decide) (by rw [t2 192 (by decide)])
  obtain ⟨m, w1, w2⟩ := ev_whole_39 (d := d + 1) (J := J) (by omega) p1 (h.2.1.cg (g := I1 40) (fun i _ => by rw [t2 40 (by decide)]))
  have hW : wyC P I1 x.1 x.2.1 := ⟨p1, fun i hi hs => by
    have h8 := wyW_nI h1 hi (s := x.1) (wk := x.2.1) hs
    have h9 := wyW_ok h1 x.1 x.2.1 i hi
    have h6 : wyW P x.1 x.2.1 i ≠ 99999 := by
      obtain ⟨m, m1, m2, e⟩ := wayF_nI h1 hi (nI (x.1 i)) x.2.1
      unfold wyW
      rw [if_pos hs, e, nI_clamp (by omega)]; omega
    rw [t3 i hi, h.2.2.1, h8]
    rcases h9 with h9 | h9
    · exact absurd h9 h6
    · exact ⟨rfl, h9.1, h9.2⟩⟩
  obtain ⟨I2, u1, u2, u3⟩ := lp_mc1 (d := d) (J := J) (by omega) w2 (xS P) 0 999999 I1 hW (fun e' a' b' h1 h2 h3 h4 h5 => by omega) (by omega) (by omega)
  have k2 : kp [37, 170, 176, 173, 182] I I2 := (t2.up (by decide)).tr (u2.up (by decide))
  have hT2 : TDC P I2 n0 τ := ⟨by rw [k2 178 (by decide)]; exact hT.1, hT.2.1, fun j hj => by rw [k2 179 (by decide), k2 180 (by decide), k2 181 (by decide)]; exact hT.2.2 j hj⟩
  have p2 := (hW.go u2 (by decide)).1
  refine ⟨I2, ?_, k2, hW.go u2 (by decide), u3⟩
  rw [e_X11_possibleCuts, runS_M, s_X11_possibleCuts_0, t1, p_cv_s, w1, p_ci_s, show (999999 : Nat) = 999998 + 1 from rfl, runS_s, s_X11_possibleCuts_23, e_X6_measureCuts, runS_M, s_X6_measureCuts_0]
  have u1' : runS (EV d) none 6 T0 C_X6_measureCuts k_X6_measureCuts rtV f_X6_measureCuts 999999 2 [.ref 178, .int m, .ref 176, .int 0, un, un] [] (I1, J) = _ := u1
  rw [u1', p_cv_s, e_X6_cutsKnownBy, runS_M, s_X6_cutsKnownBy_0]
  have hk := lp_known (d := d) (J := J) (by omega) p2 u3 hT2 hK w2 (xS P) 0 999999 0 (by omega) (by omega)
  have hk' : runS (EV d) none 5 T0 C_X6_cutsKnownBy k_X6_cutsKnownBy rtI f_X6_cutsKnownBy 999999 5 [.ref 178, .int m, .int (nI K), .int 0, .int 0] [] (I2, J) = _ := hk
  rw [hk', p_ci_s]
  rfl
def cutsQ (P : PP) (x : XS) (n0 : Nat) (τ : Nat → Nat × Nat × Nat) (a b : Int32) : Int32 := if zI (¬ a < 0 ∧ ¬ nI n0 < a) = 0 then -1 else if zI (¬ b < 0 ∧ ¬ 1 < b) = 0 then -1 else if b = 0 then nI (pcN (bt (cutM P x.1 x.2.1 τ a.toNatClampNeg)) 10) else cutM P x.1 x.2.1 τ a.toNatClampNeg
theorem cutM_nI (h : PlR P I) {τ : Nat → Nat × Nat × Nat} {k : Nat} : ∃ m, m < 1024 ∧ cutM P s wk τ k = nI m := by
  have h10 := h.S10
  obtain ⟨q, hq, e⟩ := nI_small (n := 10) (w := cutM P s wk τ k) (by omega) (fun j h1 h2 => by
    rw [cutM_bt h]; exact decide_eq_false (fun h9 => by omega))
  exact ⟨q, hq, e⟩
theorem c_cuts (hd : 7 ≤ d) {x : XS} (h : CX_39 P I x) {n0 : Nat} {τ : Nat → Nat × Nat × Nat} (hT : TDC P I n0 τ) (a b : Int32) : CQ d 150 [.ref 0, .int a, .int b] I J (cutsQ P x n0 τ a b) := by
  obtain ⟨d, rfl⟩ : ∃ z, d = z + 1 := ⟨d - 1, by omega⟩
  have h20 := hT.2.1
  unfold CQ cutsQ
  rw [e_X11_cuts, runS_M, s_X11_cuts_0, hT.1, q_within (by omega), p_ci_s]
  rcases in_c (n := a) (lo := 0) (hi := nI n0) (l := 0) (h := n0) rfl rfl (by omega) (by omega) with e | ⟨e, k, k1, k2, rfl⟩
  · rw [if_pos e, if_pos e]; exact ⟨I, rfl, kp.rf⟩
  have hne : ¬ zI (¬ nI k < (0 : Int32) ∧ ¬ nI n0 < nI k) = 0 := by rw [e]; decide
  rw [if_neg hne, if_neg hne, q_within (by omega), p_ci_s]
  by_cases e3 : zI (¬ b < (0 : Int32) ∧ ¬ (1 : Int32) < b) = 0
  · rw [if_pos e3, if_pos e3]; exact ⟨I, rfl, kp.rf⟩
  obtain ⟨I1, t1, t2, -, -⟩ := ev_possible (d := d) (J := J) (by omega) h hT k2
  refine ⟨I1, ?_, t2.up (by decide)⟩
  rw [if_neg e3, if_neg e3, show (999999 : Nat) = 999998 + 1 from rfl, runS_s, s_X11_cuts_26, t1, p_ci_s, nI_clamp (by omega)]
  by_cases b0 : b = 0
  · obtain ⟨q, hq, eq⟩ := cutM_nI (s := x.1) (wk := x.2.1) h.1 (τ := τ) (k := k)
    rw [if_pos b0, if_pos b0, eq, ev_bitCount (by omega) hq, p_ci_s]; rfl
  · rw [if_neg b0, if_neg b0]; rfl
end QU
