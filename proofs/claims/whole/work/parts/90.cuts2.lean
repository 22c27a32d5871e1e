/-! ===== cuts (reference) ===== -/
section QV
variable {P : PP} {I : Nat → Nat → Int32} {J : Nat → Nat → Int64} {d : Nat} {s : Nat → Nat} {wk : Int32}
def TDM (P : PP) (I : Nat → Nat → Int32) (n : Nat) (τ : Nat → Nat × Nat × Nat) : Prop := I 192 65 = nI n ∧ n ≤ 20 ∧ ∀ j, j < n → (I 237 j = nI (τ j).1 ∧ I 238 j = nI (τ j).2.1 ∧ I 239 j = nI (τ j).2.2) ∧ (τ j).1 < xN P ∧ (τ j).2.1 < xN P ∧ (τ j).2.2 ≤ 999
theorem TDM.go {I' : Nat → Nat → Int32} {n0 : Nat} {τ : Nat → Nat × Nat × Nat} (h : TDM P I n0 τ) (hk : kp scM I I') (h5 : k567 I I') : TDM P I' n0 τ :=
  ⟨(h5 65 (by decide) (by decide) (by decide)).trans h.1, h.2.1, fun j hj => by rw [hk 237 (by decide), hk 238 (by decide), hk 239 (by decide)]; exact h.2.2 j hj⟩
/-- the ways in the reference, seam e cut -/
def wyE (P : PP) (I : Nat → Nat → Int32) (s : Nat → Nat) (wk : Int32) (e : Nat) : Prop := PlR P I ∧ ∀ i, i < xS P → I 232 i = nI (cuW P s wk e i)
theorem ev_between (hd : 2 ≤ d) {e : Nat} (h : wyE P I s wk e) {a b : Nat} (ha : a < xN P) (hb : b < xN P) : ∃ I', EV d T0 263 [.ref 192, .int (nI a), .int (nI b)] (I, J) = some (some (.int (nI (gpN P s wk e a b))), (I', J)) ∧ kp [231] I I' ∧ wyE P I' s wk e := by
  obtain ⟨d, rfl⟩ : ∃ z, d = z + 1 := ⟨d - 1, by omega⟩
  have h7 := h.1.N7
  obtain ⟨f, v1, v2⟩ := ev_farR (d := d) (J := J) (by omega) h.1 (cuW_ok h.1 e) h.2 ha
  have hle : dsP P (cuW P s wk e) a b ≤ 99999 := ds_le
  have k1 : kp [231] I (cs I 231 f) := kp.rf.cs (by decide)
  refine ⟨cs I 231 f, ?_, k1, plr_kx h.1 k1 (by decide) (by rw [k1 192 (by decide)]), fun i hi => by rw [k1 232 (by decide)]; exact h.2 i hi⟩
  rw [e_X12_wayBetween, runS_M, s_X12_wayBetween_0, v1, p_cv_s, chk_in (by omega) (by omega), chk_in (by omega) (by omega), nI_clamp (by omega)]
  simp only [cs_eq, v2 b (show b < 7 by omega), lt_99999 hle]
  unfold gpN
  by_cases hr : dsP P (cuW P s wk e) a b < 99999
  · rw [if_pos hr, if_pos hr]; rfl
  · rw [if_neg hr, if_neg hr]; rfl
theorem ev_cutsOne (hd : 6 ≤ d) {x : XS} (h : NX P I x) {e : Nat} (he : e < xS P) : ∃ I', EV d T0 264 [.ref 192, .int (nI e)] (I, J) = some (none, (I', J)) ∧ kp scM I I' ∧ k567 I I' ∧ wyE P I' x.1 x.2.1 e ∧ ∀ k, k ≠ 227 → k ≠ 228 → k ≠ 230 → k ≠ 232 → k ≠ 192 → I' k = I k := by
  obtain ⟨d, rfl⟩ : ∃ z, d = z + 1 := ⟨d - 1, by omega⟩
  have h10 := h.1.S10
  obtain ⟨I1, t1, t2, t3, t4, t5, t6, -⟩ := h.row (d := d) (J := J) (by omega)
  obtain ⟨I2, u1, u2, u3, u4⟩ := ev_fillsWays (d := d) (J := J) (by omega) t6.1 t6.2.1
  rw [t6.2.2.1] at u4
  have k2 : kp [227, 228, 230, 232, 192] I (p_wr I2 232 e 99999) := ((t2.up (by decide)).tr (u2.up (by decide))).wr (by decide)
  have f2 : k567 I (p_wr I2 232 e 99999) := (t3.tr (k567.of u3)).tr (k567.kp (X := [232]) (kp.rf.wr (by decide)) (by decide))
  refine ⟨p_wr I2 232 e 99999, ?_, k2.up (by decide), f2, ⟨plr_kx h.1 k2 (by decide) (f2 18 (by decide) (by decide) (by decide)), fun i hi => ?_⟩, fun k a1 a2 a3 a4 a5 => k2 k (by simp only [List.mem_cons, List.not_mem_nil, or_false]; omega)⟩
  · rw [e_X12_cutsOne, runS_M, s_X12_cutsOne_0, t1, p_cv_s, u1, p_cv_s, show (999999 : Nat) = 999998 + 1 from rfl, runS_s, s_X12_cutsOne_8, chk_in (by omega) (by omega), nI_clamp (by omega)]; rfl
  · rw [wr_eq]
    unfold cuW
    by_cases c : i = e
    · subst c; rw [pk_us, if_pos rfl]; rfl
    · rw [pk_un c, if_neg c]; exact u4 i hi
theorem lp_cb2 (hd : 2 ≤ d) {n0 K e : Nat} {τ : Nat → Nat × Nat × Nat} (hK : K ≤ n0) {w : Int32} : ∀ (k i n : Nat) (I : Nat → Nat → Int32), wyE P I s wk e → TDM P I n0 τ → i + k = K → (∀ j, j < i → gpN P s wk e (τ j).1 (τ j).2.1 = (τ j).2.2) → 2 * k < n →
    ∃ I' n', n ≤ n' + 2 * k + 1 ∧ kp [231] I I' ∧ runS (EV d) none 6 T0 C_X12_cutBits k_X12_cutBits rtI f_X12_cutBits n 40 [.ref 192, .int (nI K), .int w, .int (nI e), .int 1, .int (nI i)] [] (I, J) = runS (EV d) none 6 T0 C_X12_cutBits k_X12_cutBits rtI f_X12_cutBits n' 4 [.ref 192, .int (nI K), .int (if ftP P s wk τ K e then w ||| (1 <<< (nI e &&& 31)) else w), .int (nI (e + 1)), un, un] [] (I', J) := by
  intro k
  induction k with
  | zero =>
    intro i n I h hT hi hj hn
    have h20 := hT.2.1
    obtain ⟨n, rfl⟩ : ∃ z, n = z + 1 := ⟨n - 1, by omega⟩
    refine ⟨I, n, by omega, kp.rf, ?_⟩
    rw [runS_s, s_X12_cutBits_40, if_pos (nI_le (by omega) (by omega)), if_neg (by decide), if_pos (show ftP P s wk τ K e from ft_i.mpr (fun j h9 => hj j (by omega))), nI_1]
  | succ k ih =>
    intro i n I h hT hi hj hn
    have h20 := hT.2.1
    obtain ⟨n, rfl⟩ : ∃ z, n = z + 1 + 1 := ⟨n - 2, by omega⟩
    obtain ⟨⟨q1, q2, q3⟩, q4, q5, q6⟩ := hT.2.2 i (by omega)
    have hle := gp_le (s := s) (wk := wk) (e := e) (b := (τ i).2.1) h.1 q4
    obtain ⟨I1, t1, t2, t3⟩ := ev_between (d := d) (J := J) hd h q4 q5
    have hT1 : TDM P I1 n0 τ := hT.go (t2.up (by decide)) (k567.kp t2 (by decide))
    have q3' : I1 239 i = nI (τ i).2.2 := by rw [t2 239 (by decide)]; exact q3
    have hp : ∀ y : Option Rs, p_chk (p_in (nI i) 20) y = y := fun y => chk_in (by omega) (by omega)
    rw [runS_s, s_X12_cutBits_40, if_neg (nI_ge (by omega) (by omega)), if_neg (show ¬ (1 : Int32) = 0 by decide), hp, hp, nI_clamp (by omega), q1, q2, t1, p_ci_s, hp]
    simp only [q3', eq_nI (show gpN P s wk e (τ i).1 (τ i).2.1 < 2 ^ 31 by omega) (show (τ i).2.2 < 2 ^ 31 by omega), nI_1]
    by_cases c : gpN P s wk e (τ i).1 (τ i).2.1 = (τ i).2.2
    · obtain ⟨I2, n', u1, u2, u3⟩ := ih (i + 1) n I1 t3 hT1 (by omega) (fun j h9 => by
        by_cases c2 : j = i
        · subst c2; exact c
        · exact hj j (by omega)) (by omega)
      refine ⟨I2, n', by omega, t2.tr u2, ?_⟩
      rw [if_pos c, runS_s, s_X12_cutBits_89]
      exact u3
    · obtain ⟨n, rfl⟩ : ∃ z, n = z + 1 := ⟨n - 1, by omega⟩
      refine ⟨I1, n, by omega, t2, ?_⟩
      rw [if_neg c, runS_s, s_X12_cutBits_89, runS_s, s_X12_cutBits_40, if_pos (show (0 : Int32) = 0 from rfl), if_neg (fun h9 : ftP P s wk τ K e => c (ft_i.mp h9 i (by omega))), nI_1]
      by_cases c3 : nI K ≤ nI (i + 1)
      · rw [if_pos c3]
      · rw [if_neg c3, if_pos (show (0 : Int32) = 0 from rfl)]
theorem lp_cb1 (hd : 6 ≤ d) {n0 K : Nat} {τ : Nat → Nat × Nat × Nat} (hK : K ≤ n0) {x : XS} : ∀ (k e n : Nat) (w : Int32) (I : Nat → Nat → Int32), NX P I x → TDM P I n0 τ → e + k = xS P → 50 * k < n →
    ∃ I', runS (EV d) none 6 T0 C_X12_cutBits k_X12_cutBits rtI f_X12_cutBits n 4 [.ref 192, .int (nI K), .int w, .int (nI e), un, un] [] (I, J) = some (some (.int ((List.range' e k).foldl (setF (fun e => 0 < x.1 e ∧ ftP P x.1 x.2.1 τ K e)) w)), (I', J)) ∧ kp scM I I' ∧ k567 I I' := by
  intro k
  induction k with
  | zero =>
    intro e n w I h hT hi hn
    have h10 := h.1.S10
    have hv := h.1.v2
    obtain ⟨n, rfl⟩ : ∃ z, n = z + 1 := ⟨n - 1, by omega⟩
    rw [runS_s, s_X12_cutBits_4, h.1.v, chk_in hv (by omega), nI_clamp (by omega), h.1.Sm, if_pos (nI_le (by omega) (by omega))]
    exact ⟨I, rfl, kp.rf, k567.rf⟩
  | succ k ih =>
    intro e n w I h hT hi hn
    have h10 := h.1.S10
    have hv := h.1.v2
    have h20 := hT.2.1
    obtain ⟨n, rfl⟩ : ∃ z, n = z + 1 := ⟨n - 1, by omega⟩
    have hs := h.2.1 e (by omega)
    rw [runS_s, s_X12_cutBits_4, h.1.v, chk_in hv (by omega), nI_clamp (by omega), h.1.Sm, if_neg (nI_ge (by omega) (by omega)), chk_in (by omega) (by omega), nI_clamp (by omega), List.range'_succ, List.foldl_cons]
    simp only [hs.1, eq0_nI (show x.1 e < 2 ^ 31 by have := hs.2; omega)]
    by_cases c : x.1 e = 0
    · obtain ⟨I2, u1, u2, u3⟩ := ih (e + 1) n w I h hT (by omega) (by omega)
      refine ⟨I2, ?_, u2, u3⟩
      rw [if_pos c, nI_1, show setF (fun e => 0 < x.1 e ∧ ftP P x.1 x.2.1 τ K e) w e = w from if_neg (fun h9 => by omega)]
      exact u1
    · obtain ⟨I1, t1, t2, t3, t4, -⟩ := ev_cutsOne (d := d) (J := J) hd h (show e < xS P by omega)
      obtain ⟨I2, n', u1, u2, u3⟩ := lp_cb2 (d := d) (J := J) (n0 := n0) (K := K) (τ := τ) (by omega) hK (w := w) K 0 n I1 t4 (hT.go t2 t3) (by omega) (fun j h9 => by omega) (by omega)
      have k2 : kp scM I I2 := t2.tr (u2.up (by decide))
      have f2 : k567 I I2 := t3.tr (k567.kp u2 (by decide))
      obtain ⟨I3, v1, v2, v3⟩ := ih (e + 1) n' (setF (fun e => 0 < x.1 e ∧ ftP P x.1 x.2.1 τ K e) w e) I2 (h.go k2 f2) (hT.go k2 f2) (by omega) (by omega)
      refine ⟨I3, ?_, k2.tr v2, f2.tr v3⟩
      rw [if_neg c, t1, p_cv_s]
      refine u3.trans ?_
      have e9 : (if ftP P x.1 x.2.1 τ K e then w ||| (1 <<< (nI e &&& 31)) else w) = setF (fun e => 0 < x.1 e ∧ ftP P x.1 x.2.1 τ K e) w e := by
        unfold setF
        by_cases c2 : ftP P x.1 x.2.1 τ K e
        · rw [if_pos c2, if_pos ⟨by omega, c2⟩]
        · rw [if_neg c2, if_neg (fun h9 => c2 h9.2)]
      rw [e9]
      exact v1
theorem ev_cutBits (hd : 7 ≤ d) {n0 K : Nat} {τ : Nat → Nat × Nat × Nat} (hK : K ≤ n0) {x : XS} (h : NX P I x) (hT : TDM P I n0 τ) : ∃ I', EV d T0 265 [.ref 192, .int (nI K)] (I, J) = some (some (.int (cutM P x.1 x.2.1 τ K)), (I', J)) ∧ kp scM I I' ∧ k567 I I' := by
  obtain ⟨d, rfl⟩ : ∃ z, d = z + 1 := ⟨d - 1, by omega⟩
  have h10 := h.1.S10
  rw [e_X12_cutBits, runS_M, s_X12_cutBits_0]
  exact lp_cb1 (d := d) (J := J) (by omega) hK (xS P) 0 999999 0 I h hT (by omega) (by omega)
theorem lp_bits {O : Ora} {ij : IJ} {w : Int32} : ∀ (k i n : Nat), i + k = 10 → k < n →
    runS O none 3 T0 C_X12_bits k_X12_bits rtI f_X12_bits n 4 [.int w, .int (nI (pcN (bt w) i)), .int (nI i)] [] ij = some (some (.int (nI (pcN (bt w) 10))), ij) := by
  obtain ⟨I, J⟩ := ij
  intro k
  induction k with
  | zero =>
    intro i n hi hn
    obtain ⟨n, rfl⟩ : ∃ z, n = z + 1 := ⟨n - 1, by omega⟩
    have e : i = 10 := by omega
    subst e
    rw [runS_s, s_X12_bits_4, if_pos (by decide)]
    rfl
  | succ k ih =>
    intro i n hi hn
    obtain ⟨n, rfl⟩ : ∃ z, n = z + 1 := ⟨n - 1, by omega⟩
    rw [runS_s, s_X12_bits_4, if_neg (show ¬ (10 : Int32) ≤ nI (i) from nI_ge (a := i) (b := 10) (by omega) (by omega)), shr1 w (by omega), nI_1]
    have e : nI (pcN (bt w) i) + (if bt w i = true then 1 else 0) = nI (pcN (bt w) (i + 1)) := by
      show _ = nI (pcN (bt w) i + (if bt w i = true then 1 else 0))
      by_cases c : bt w i = true
      · rw [if_pos c, if_pos c, nI_1]
      · rw [if_neg c, if_neg c, Int32.add_zero]; rfl
    rw [e]
    exact ih (i + 1) n (by omega) (by omega)
theorem ev_bits (hd : 1 ≤ d) (w : Int32) (ij : IJ) : EV d T0 266 [.int w] ij = some (some (.int (nI (pcN (bt w) 10))), ij) := by
  obtain ⟨d, rfl⟩ : ∃ z, d = z + 1 := ⟨d - 1, by omega⟩
  obtain ⟨I, J⟩ := ij
  rw [e_X12_bits, runS_M, s_X12_bits_0]
  exact lp_bits 10 0 999999 (by omega) (by omega)
theorem m_cuts (hd : 8 ≤ d) {x : XS} (h : NX P I x) {n0 : Nat} {τ : Nat → Nat × Nat × Nat} (hT : TDM P I n0 τ) (a b : Int32) : MQq d 267 [.ref 192, .int a, .int b] I J (cutsQ P x n0 τ a b) := by
  obtain ⟨d, rfl⟩ : ∃ z, d = z + 1 := ⟨d - 1, by omega⟩
  have h20 := hT.2.1
  unfold MQq cutsQ
  rw [e_X12_cuts, runS_M, s_X12_cuts_0, hT.1, q_in (by omega), p_ci_s]
  rcases in_c (n := a) (lo := 0) (hi := nI n0) (l := 0) (h := n0) rfl rfl (by omega) (by omega) with e | ⟨e, k, k1, k2, rfl⟩
  · rw [if_pos e, if_pos e]; exact ⟨I, rfl, kp.rf, k567.rf⟩
  have hne : ¬ zI (¬ nI k < (0 : Int32) ∧ ¬ nI n0 < nI k) = 0 := by rw [e]; decide
  rw [if_neg hne, if_neg hne, q_in (by omega), p_ci_s]
  by_cases e3 : zI (¬ b < (0 : Int32) ∧ ¬ (1 : Int32) < b) = 0
  · rw [if_pos e3, if_pos e3]; exact ⟨I, rfl, kp.rf, k567.rf⟩
  obtain ⟨I1, t1, t2, t3⟩ := ev_cutBits (d := d) (J := J) (by omega) k2 h hT
  refine ⟨I1, ?_, t2, t3⟩
  rw [if_neg e3, if_neg e3, show (999999 : Nat) = 999998 + 1 from rfl, runS_s, s_X12_cuts_23, t1, p_ci_s, nI_clamp (by omega)]
  by_cases b0 : b = 0
  · rw [if_pos b0, if_pos b0, ev_bits (by omega), p_ci_s]; rfl
  · rw [if_neg b0, if_neg b0]; rfl
end QV
