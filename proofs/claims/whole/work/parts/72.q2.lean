/-! ===== questions: hops, joined, hangs, takes ===== -/
theorem z_cg {a b : Prop} [Decidable a] [Decidable b] (h : a ↔ b) : zI a = zI b := by
  by_cases hb : b
  · rw [zI_t hb, zI_t (h.mpr hb)]
  · rw [zI_f hb, zI_f (fun ha => hb (h.mp ha))]
section QB
variable {P : PP} {I : Nat → Nat → Int32} {J : Nat → Nat → Int64} {d : Nat} {s : Nat → Nat} {wk : Int32}
theorem q_spread (hd : 2 ≤ d) (h : PlR P I) (a b : Int32) : EV d T0 11 [.ref 172, .int a, .int b] (I, J) = some (some (.int (sprF I (xS P) a b)), (I, J)) := by
  obtain ⟨d, rfl⟩ : ∃ z, d = z + 2 := ⟨d - 2, by omega⟩
  exact ev_spread d h.S h.S10 a b
theorem q_reach (hd : 3 ≤ d) (h : PlR P I) (a b : Int32) : EV d T0 12 [.ref 172, .int a, .int b] (I, J) = some (some (.int (rchF I (xS P) a 7 b)), (I, J)) := by
  obtain ⟨d, rfl⟩ : ∃ z, d = z + 3 := ⟨d - 3, by omega⟩
  exact ev_reach d h.S h.S10 a b
theorem q_joins (hd : 4 ≤ d) (h : PlR P I) (a : Int32) {t u : Nat} (ht : t < xN P) (hu : u < xN P) : EV d T0 13 [.ref 172, .int a, .int (nI t), .int (nI u)] (I, J) = some (some (.int (zI (dsP P (uW (bt a)) t u < 99999))), (I, J)) := by
  obtain ⟨d, rfl⟩ : ∃ z, d = z + 4 := ⟨d - 4, by omega⟩
  have h7 := h.N7
  rw [ev_joins d h.S h.S10]
  have e : (¬ bitOf (rchF I (xS P) a 7 (1 <<< (nI t &&& 31))) (nI u) = 0) ↔ dsP P (uW (bt a)) t u < 99999 := (bitOf_t (by omega)).trans (bt_rch h ht u)
  rw [z_cg e]
/-! hops -/
def hopsQ (P : PP) (s : Nat → Nat) (a b : Int32) : Int32 := if oneOf a (xN P) = 0 then -1 else if oneOf b (xN P) = 0 then -1 else if dsP P (uW (whB s)) a.toNatClampNeg b.toNatClampNeg < 99999 then nI (dsP P (uW (whB s)) a.toNatClampNeg b.toNatClampNeg) else -2
theorem lp_hops (hd : 2 ≤ d) (h : PlR P I) {m : Int32} {t u : Nat} (ht : t < xN P) (hu : u < xN P) : ∀ (k i n : Nat), i + k = 7 → 2 * k < n → (∀ j, j < i → ¬ dsP P (uW (bt m)) t u ≤ j) →
    runS (EV d) none 6 T0 C_X11_hops k_X11_hops rtI f_X11_hops n 38 [.ref 0, un, .int (nI u), .int m, .int (itS I (xS P) m i (1 <<< (nI t &&& 31))), .int (nI i)] [] (I, J) = some (some (.int (if dsP P (uW (bt m)) t u < 99999 then nI (dsP P (uW (bt m)) t u) else -2)), (I, J)) := by
  have h7 := h.N7
  intro k
  induction k with
  | zero =>
    intro i n hi hn hj
    obtain ⟨n, rfl⟩ : ∃ z, n = z + 1 := ⟨n - 1, by omega⟩
    have e : i = 7 := by omega
    subst e
    rw [runS_s, s_X11_hops_38, if_pos (by decide), if_neg (fun hf => by have := dsu_lt h (A := bt m) ht hf; exact hj 6 (by omega) (by omega))]
    rfl
  | succ k ih =>
    intro i n hi hn hj
    obtain ⟨n, rfl⟩ : ∃ z, n = z + 1 + 1 := ⟨n - 2, by omega⟩
    rw [runS_s, s_X11_hops_38, if_neg (show ¬ (7 : Int32) ≤ nI (i) from nI_ge (a := i) (b := 7) (by omega) (by omega)), q_bit (by omega) _ (by omega), p_ci_s]
    have hb := bt_itS h (a := m) ht i u (by omega)
    by_cases hc : dsP P (uW (bt m)) t u ≤ i
    · have e : dsP P (uW (bt m)) t u = i := by
        by_cases h0 : i = 0
        · omega
        · have := hj (i - 1) (by omega); omega
      rw [zI_t (hb.mpr hc), if_neg (by decide), e, if_pos (by omega)]
      rfl
    · rw [zI_f (fun q => hc (hb.mp q)), if_pos rfl, q_spread hd h, p_ci_s, runS_s, s_X11_hops_69, nI_1, ← itS_s]
      exact ih (i + 1) n (by omega) (by omega) (fun j hj2 => by
        by_cases e : j = i
        · subst e; exact hc
        · exact hj j (by omega))
theorem wh_cg {m : Int32} (hm : ∀ i, bt m i = decide (i < xS P ∧ 0 < s i)) (t : Nat) : dsP P (uW (bt m)) t = dsP P (uW (whB s)) t := by
  refine ds_cg (fun i hi => ?_) t
  unfold uW whB
  rw [hm i]
  simp only [hi, true_and]
theorem c_hops (hd : 4 ≤ d) (h : CS P I s wk) (a b : Int32) : CQ d 134 [.ref 0, .int a, .int b] I J (hopsQ P s a b) := by
  obtain ⟨d, rfl⟩ : ∃ z, d = z + 1 := ⟨d - 1, by omega⟩
  obtain ⟨h1, h2, h3⟩ := h
  have h7 := h1.N7
  unfold CQ hopsQ
  rw [e_X11_hops, runS_M, s_X11_hops_0, q_town (by omega) h1, p_ci_s]
  rcases oneOf_c (a := a) (N := xN P) (by omega) with e | ⟨e, t, ht, rfl⟩
  · rw [if_pos e, if_pos e]; exact ⟨I, rfl, kp.rf⟩
  have hne : ¬ oneOf (nI t) (xN P) = 0 := by rw [e]; decide
  rw [if_neg hne, if_neg hne, q_town (by omega) h1, p_ci_s]
  rcases oneOf_c (a := b) (N := xN P) (by omega) with e2 | ⟨e2, u, hu, rfl⟩
  · rw [if_pos e2, if_pos e2]; exact ⟨I, rfl, kp.rf⟩
  have hne2 : ¬ oneOf (nI u) (xN P) = 0 := by rw [e2]; decide
  obtain ⟨m, w1, w2⟩ := ev_whole_39 (d := d) (J := J) (by omega) h1 h2
  rw [if_neg hne2, if_neg hne2, show (999999 : Nat) = 999998 + 1 from rfl, runS_s, s_X11_hops_18, w1, p_ci_s, nI_clamp (by omega), nI_clamp (by omega), ← wh_cg w2]
  exact ⟨I, lp_hops (by omega) h1 ht hu 7 0 999998 (by omega) (by omega) (fun j hj => by omega), kp.rf⟩
theorem m_hops (hd : 3 ≤ d) (h : MS P I s wk) (a b : Int32) : MQq d 240 [.ref 192, .int a, .int b] I J (hopsQ P s a b) := by
  obtain ⟨d, rfl⟩ : ∃ z, d = z + 1 := ⟨d - 1, by omega⟩
  have h1 := h.1
  have h7 := h1.N7
  unfold MQq hopsQ
  rw [e_X12_hops, runS_M, s_X12_hops_0, q_townR (by omega) h1, p_ci_s]
  rcases oneOf_c (a := a) (N := xN P) (by omega) with e | ⟨e, t, ht, rfl⟩
  · rw [if_pos e, if_pos e]; exact ⟨I, rfl, kp.rf, k567.rf⟩
  have hne : ¬ oneOf (nI t) (xN P) = 0 := by rw [e]; decide
  rw [if_neg hne, if_neg hne, q_townR (by omega) h1, p_ci_s]
  rcases oneOf_c (a := b) (N := xN P) (by omega) with e2 | ⟨e2, u, hu, rfl⟩
  · rw [if_pos e2, if_pos e2]; exact ⟨I, rfl, kp.rf, k567.rf⟩
  have hne2 : ¬ oneOf (nI u) (xN P) = 0 := by rw [e2]; decide
  obtain ⟨I1, t1, t2, t3, -, -, -, r1, r2, r3⟩ := h.row (d := d) (J := J) (by omega)
  obtain ⟨I2, u1, u2, u3⟩ := ev_arj (d := d) (J := J) (by omega) r1 r2 ht hu
  refine ⟨I2, ?_, (t2.up (by decide)).tr (u2.up (by decide)), t3.tr (k567.kp u2 (by decide))⟩
  rw [if_neg hne2, if_neg hne2, show (999999 : Nat) = 999997 + 1 + 1 from rfl, runS_s, s_X12_hops_18, t1, p_cv_s, u1, p_ci_s, nI_clamp (by omega), nI_clamp (by omega)]
  by_cases hr : dsP P (uW (whB s)) t u < 99999
  · rw [zI_t hr, if_neg (by decide), if_pos hr, runS_s, s_X12_hops_31, chk_in (by omega) (by omega), nI_clamp (by omega), u3 u (by omega)]; rfl
  · rw [zI_f hr, if_pos rfl, if_neg hr]; rfl
/-! joined -/
def jnB (P : PP) (A : Nat → Bool) (t : Nat) : Int32 := (List.range' 0 (xN P)).foldl (setF (fun b => dsP P (uW A) t b < 99999)) 0
theorem jnB_bt (h : PlR P I) {A : Nat → Bool} {t : Nat} (ht : t < xN P) (b : Nat) : bt (jnB P A t) b = decide (dsP P (uW A) t b < 99999) := by
  have h7 := h.N7
  unfold jnB
  rw [bt_set _ _ _ (by omega), b_0, Bool.false_or]
  apply decide_eq_decide.mpr
  constructor
  · exact fun q => q.2.2
  · intro q
    refine ⟨Nat.zero_le _, ?_, q⟩
    refine Classical.byContradiction (fun hb => ?_)
    have : dsP P (uW A) t b = 99999 := ds_out (okP h uW_ok) ht (by omega)
    omega
theorem rch_jnB (h : PlR P I) {a : Int32} {t : Nat} (ht : t < xN P) : rchF I (xS P) a 7 (1 <<< (nI t &&& 31)) = jnB P (bt a) t := by
  apply b_ext
  intro b _
  rw [jnB_bt h ht]
  have this : bt (rchF I (xS P) a 7 (1 <<< (nI t &&& 31))) b = true ↔ dsP P (uW (bt a)) t b < 99999 := bt_rch h (a := a) ht b
  cases hq : bt (rchF I (xS P) a 7 (1 <<< (nI t &&& 31))) b
  · rw [hq] at this
    exact (decide_eq_false (fun hh => absurd (this.mpr hh) (by decide))).symm
  · exact (decide_eq_true (this.mp hq)).symm
theorem jnB_cg {A B : Nat → Bool} {t : Nat} (h : dsP P (uW A) t = dsP P (uW B) t) : jnB P A t = jnB P B t := by unfold jnB; rw [h]
def joinQ (P : PP) (s : Nat → Nat) (a : Int32) : Int32 := if oneOf a (xN P) = 0 then -1 else jnB P (whB s) a.toNatClampNeg
theorem c_joined (hd : 4 ≤ d) (h : CS P I s wk) (a : Int32) : CQ d 135 [.ref 0, .int a] I J (joinQ P s a) := by
  obtain ⟨d, rfl⟩ : ∃ z, d = z + 1 := ⟨d - 1, by omega⟩
  obtain ⟨h1, h2, h3⟩ := h
  have h7 := h1.N7
  unfold CQ joinQ
  rw [e_X11_joined, runS_M, s_X11_joined_0, q_town (by omega) h1, p_ci_s]
  rcases oneOf_c (a := a) (N := xN P) (by omega) with e | ⟨e, t, ht, rfl⟩
  · rw [if_pos e, if_pos e]; exact ⟨I, rfl, kp.rf⟩
  have hne : ¬ oneOf (nI t) (xN P) = 0 := by rw [e]; decide
  obtain ⟨m, w1, w2⟩ := ev_whole_39 (d := d) (J := J) (by omega) h1 h2
  rw [if_neg hne, if_neg hne, w1, p_ci_s, q_reach (by omega) h1, p_ci_s, rch_jnB h1 ht, nI_clamp (by omega), jnB_cg (wh_cg w2 t)]
  exact ⟨I, rfl, kp.rf⟩
theorem lp_joinedTo (h : PlR P I) {A : Nat → Bool} {t : Nat} (hf : ∀ j, j < 7 → I 231 j = nI (dsP P (uW A) t j)) : ∀ (k i n : Nat) (w : Int32), i + k = xN P → k < n →
    runS (EV d) none 4 T0 C_X12_joinedTo k_X12_joinedTo rtI f_X12_joinedTo n 11 [.ref 192, un, .int w, .int (nI i)] [] (I, J) = some (some (.int ((List.range' i k).foldl (setF (fun b => dsP P (uW A) t b < 99999)) w)), (I, J)) := by
  have h7 := h.N7
  have hv := h.v2
  intro k
  induction k with
  | zero =>
    intro i n w hi hn
    obtain ⟨n, rfl⟩ : ∃ z, n = z + 1 := ⟨n - 1, by omega⟩
    rw [runS_s, s_X12_joinedTo_11, h.v, chk_in hv (by omega), nI_clamp (by omega), h.Nm, if_pos (nI_le (by omega) (by omega))]
    rfl
  | succ k ih =>
    intro i n w hi hn
    obtain ⟨n, rfl⟩ : ∃ z, n = z + 1 := ⟨n - 1, by omega⟩
    have hle : dsP P (uW A) t i ≤ 99999 := ds_le
    have e3 : ((99999 : Int32) ≤ nI (dsP P (uW A) t i)) = (99999 ≤ dsP P (uW A) t i) := le_nI (a := 99999) (by omega) (by omega)
    rw [runS_s, s_X12_joinedTo_11, h.v, chk_in hv (by omega), nI_clamp (by omega), h.Nm, if_neg (nI_ge (by omega) (by omega)), chk_in (by omega) (by omega), nI_clamp (by omega), hf i (by omega), nI_1]
    simp only [e3]
    have hst : (List.range' i (k + 1)).foldl (setF (fun b => dsP P (uW A) t b < 99999)) w = (List.range' (i + 1) k).foldl (setF (fun b => dsP P (uW A) t b < 99999)) (setF (fun b => dsP P (uW A) t b < 99999) w i) := rfl
    rw [hst]
    by_cases hc : dsP P (uW A) t i < 99999
    · rw [if_neg (by omega), show setF (fun b => dsP P (uW A) t b < 99999) w i = w ||| (1 <<< (nI i &&& 31)) from if_pos hc]
      exact ih (i + 1) n _ (by omega) (by omega)
    · rw [if_pos (by omega), show setF (fun b => dsP P (uW A) t b < 99999) w i = w from if_neg hc]
      exact ih (i + 1) n w (by omega) (by omega)
theorem ev_joinedTo (hd : 3 ≤ d) (h : PlR P I) (hs : swR P (I 230) s) {t : Nat} (ht : t < xN P) : ∃ I', EV d T0 241 [.ref 192, .int (nI t)] (I, J) = some (some (.int (jnB P (whB s) t)), (I', J)) ∧ kp [231, 232] I I' := by
  obtain ⟨d, rfl⟩ : ∃ z, d = z + 1 := ⟨d - 1, by omega⟩
  have h7 := h.N7
  obtain ⟨I2, u1, u2, u3⟩ := ev_arj (d := d) (J := J) (by omega) h hs ht ht
  refine ⟨I2, ?_, u2⟩
  rw [e_X12_joinedTo, runS_M, s_X12_joinedTo_0, u1, p_ci_s]
  exact lp_joinedTo (plr_kx h u2 (by decide) (by rw [u2 192 (by decide)])) u3 (xN P) 0 999999 0 (by omega) (by omega)
theorem m_joined (hd : 4 ≤ d) (h : MS P I s wk) (a : Int32) : MQq d 242 [.ref 192, .int a] I J (joinQ P s a) := by
  obtain ⟨d, rfl⟩ : ∃ z, d = z + 1 := ⟨d - 1, by omega⟩
  have h1 := h.1
  have h7 := h1.N7
  unfold MQq joinQ
  rw [e_X12_joined, runS_M, s_X12_joined_0, q_townR (by omega) h1, p_ci_s]
  rcases oneOf_c (a := a) (N := xN P) (by omega) with e | ⟨e, t, ht, rfl⟩
  · rw [if_pos e, if_pos e]; exact ⟨I, rfl, kp.rf, k567.rf⟩
  have hne : ¬ oneOf (nI t) (xN P) = 0 := by rw [e]; decide
  obtain ⟨I1, t1, t2, t3, -, -, -, r1, r2, r3⟩ := h.row (d := d) (J := J) (by omega)
  obtain ⟨I2, u1, u2⟩ := ev_joinedTo (d := d) (J := J) (by omega) r1 r2 ht
  refine ⟨I2, ?_, (t2.up (by decide)).tr (u2.up (by decide)), t3.tr (k567.kp u2 (by decide))⟩
  rw [if_neg hne, if_neg hne, t1, p_cv_s, show (999999 : Nat) = 999998 + 1 from rfl, runS_s, s_X12_joined_14, u1, p_ci_s, nI_clamp (by omega)]
  rfl
/-! hangs -/
def zer (s : Nat → Nat) (e i : Nat) : Nat := if i = e then 0 else s i
def hangQ (P : PP) (s : Nat → Nat) : Int32 := (List.range' 0 (xS P)).foldl (setF (fun e => 0 < s e ∧ ¬ dsP P (uW (whB (zer s e))) (xf P e) (xg P e) < 99999)) 0
theorem lp_bridges (hd : 4 ≤ d) (h : PlR P I) {m : Int32} (hm : ∀ i, bt m i = decide (i < xS P ∧ 0 < s i)) : ∀ (k i n : Nat) (w : Int32), i + k = xS P → k < n →
    runS (EV d) none 5 T0 C_X1_bridges k_X1_bridges rtI f_X1_bridges n 4 [.ref 172, .int m, .int w, .int (nI i), un] [] (I, J) = some (some (.int ((List.range' i k).foldl (setF (fun e => 0 < s e ∧ ¬ dsP P (uW (whB (zer s e))) (xf P e) (xg P e) < 99999)) w)), (I, J)) := by
  have h7 := h.N7
  have h10 := h.S10
  intro k
  induction k with
  | zero =>
    intro i n w hi hn
    obtain ⟨n, rfl⟩ : ∃ z, n = z + 1 := ⟨n - 1, by omega⟩
    rw [runS_s, s_X1_bridges_4, h.S, if_pos (nI_le (by omega) (by omega))]
    rfl
  | succ k ih =>
    intro i n w hi hn
    obtain ⟨n, rfl⟩ : ∃ z, n = z + 1 := ⟨n - 1, by omega⟩
    obtain ⟨⟨f1, f2⟩, ⟨g1, g2, g3⟩, -⟩ := h.sm (i := i) (by omega)
    rw [runS_s, s_X1_bridges_4, h.S, if_neg (nI_ge (by omega) (by omega)), q_bit (by omega) _ (by omega), p_ci_s, nI_1]
    have hst : ∀ x, (List.range' i (k + 1)).foldl (setF (fun e => 0 < s e ∧ ¬ dsP P (uW (whB (zer s e))) (xf P e) (xg P e) < 99999)) x = (List.range' (i + 1) k).foldl (setF (fun e => 0 < s e ∧ ¬ dsP P (uW (whB (zer s e))) (xf P e) (xg P e) < 99999)) (setF (fun e => 0 < s e ∧ ¬ dsP P (uW (whB (zer s e))) (xf P e) (xg P e) < 99999) x i) := fun _ => rfl
    rw [hst, hm i]
    by_cases hs : 0 < s i
    · rw [zI_t (decide_eq_true ⟨by omega, hs⟩), if_neg (by decide), chk_in (by omega) (by omega), chk_in (by omega) (by omega), nI_clamp (by omega)]
      dsimp only
      rw [f1, f2, q_joins hd h _ g1 g2, p_ci_s]
      have e9 : dsP P (uW (bt (m &&& ((1 <<< (nI i &&& 31)) ^^^ (-1))))) (xf P i) = dsP P (uW (whB (zer s i))) (xf P i) := by
        refine ds_cg (fun j hj => ?_) _
        unfold uW whB zer
        rw [b_and, b_not _ (by omega), b_one (by omega), hm j]
        by_cases e : j = i
        · subst e; simp
        · have e' : ¬ i = j := fun q => e q.symm
          simp [e, e', hj]
      rw [e9]
      by_cases hc : dsP P (uW (whB (zer s i))) (xf P i) (xg P i) < 99999
      · rw [zI_t hc, if_neg (by decide), show setF (fun e => 0 < s e ∧ ¬ dsP P (uW (whB (zer s e))) (xf P e) (xg P e) < 99999) w i = w from if_neg (fun q => q.2 hc)]
        exact ih (i + 1) n w (by omega) (by omega)
      · rw [zI_f hc, if_pos rfl, show setF (fun e => 0 < s e ∧ ¬ dsP P (uW (whB (zer s e))) (xf P e) (xg P e) < 99999) w i = w ||| (1 <<< (nI i &&& 31)) from if_pos ⟨hs, hc⟩]
        exact ih (i + 1) n _ (by omega) (by omega)
    · rw [zI_f (by rw [decide_eq_true_eq]; exact fun q => hs q.2), if_pos rfl, show setF (fun e => 0 < s e ∧ ¬ dsP P (uW (whB (zer s e))) (xf P e) (xg P e) < 99999) w i = w from if_neg (fun q => hs q.1)]
      exact ih (i + 1) n w (by omega) (by omega)
theorem c_hangs (hd : 6 ≤ d) (h : CS P I s wk) : CQ d 136 [.ref 0] I J (hangQ P s) := by
  obtain ⟨d, rfl⟩ : ∃ z, d = z + 2 := ⟨d - 2, by omega⟩
  obtain ⟨h1, h2, h3⟩ := h
  have h10 := h1.S10
  obtain ⟨m, w1, w2⟩ := ev_whole_39 (d := d + 1) (J := J) (by omega) h1 h2
  refine ⟨I, ?_, kp.rf⟩
  rw [e_X11_hangs, runS_M, s_X11_hangs_0, w1, p_ci_s, e_X1_bridges, runS_M, s_X1_bridges_0]
  have h9 := lp_bridges (d := d) (J := J) (by omega) h1 w2 (xS P) 0 999999 0 (by omega) (by omega)
  rw [show (0 : Int32) = nI 0 from rfl] at h9 ⊢
  rw [h9, p_ci_s]
  rfl
theorem lp_hangs (hd : 3 ≤ d) : ∀ (k i n : Nat) (w : Int32) (I : Nat → Nat → Int32), MS P I s wk → i + k = xS P → 3 * k < n →
    ∃ I', runS (EV d) none 3 T0 C_X12_hangs k_X12_hangs rtI f_X12_hangs n 4 [.ref 192, .int w, .int (nI i)] [] (I, J) = some (some (.int ((List.range' i k).foldl (setF (fun e => 0 < s e ∧ ¬ dsP P (uW (whB (zer s e))) (xf P e) (xg P e) < 99999)) w)), (I', J)) ∧ kp scM I I' ∧ k567 I I' := by
  intro k
  induction k with
  | zero =>
    intro i n w I h hi hn
    have h1 := h.1
    have h10 := h1.S10
    have hv := h1.v2
    obtain ⟨n, rfl⟩ : ∃ z, n = z + 1 := ⟨n - 1, by omega⟩
    rw [runS_s, s_X12_hangs_4, h1.v, chk_in hv (by omega), nI_clamp (by omega), h1.Sm, if_pos (nI_le (by omega) (by omega))]
    exact ⟨I, rfl, kp.rf, k567.rf⟩
  | succ k ih =>
    intro i n w I h hi hn
    have h1 := h.1
    have h10 := h1.S10
    have h7 := h1.N7
    have hv := h1.v2
    have hi' : i < xS P := by omega
    obtain ⟨n, rfl⟩ : ∃ z, n = z + 1 + 1 + 1 := ⟨n - 3, by omega⟩
    obtain ⟨I1, t1, t2, t3, -, -, -, r1, r2, r3⟩ := h.row (d := d) (J := J) (by omega)
    obtain ⟨-, ⟨g1, g2, g3⟩, -, -, -, f6, f7, -⟩ := r1.sm hi'
    have h99 := (h.2.1 i hi').2
    have hst : ∀ x, (List.range' i (k + 1)).foldl (setF (fun e => 0 < s e ∧ ¬ dsP P (uW (whB (zer s e))) (xf P e) (xg P e) < 99999)) x = (List.range' (i + 1) k).foldl (setF (fun e => 0 < s e ∧ ¬ dsP P (uW (whB (zer s e))) (xf P e) (xg P e) < 99999)) (setF (fun e => 0 < s e ∧ ¬ dsP P (uW (whB (zer s e))) (xf P e) (xg P e) < 99999) x i) := fun _ => rfl
    have hms : ∀ I2, kp scM I I2 → k567 I I2 → MS P I2 s wk := fun I2 a b => ⟨plr_kx h1 a (by decide) (b 18 (by decide) (by decide) (by decide)), h.2.1.cg (fun j _ => by rw [a 229 (by decide)]), by rw [a 229 (by decide)]; exact h.2.2⟩
    have k1 : kp scM I I1 := t2.up (by decide)
    rw [runS_s, s_X12_hangs_4, h1.v, chk_in hv (by omega), nI_clamp (by omega), h1.Sm, if_neg (nI_ge (by omega) (by omega)), t1, p_cv_s, hst]
    have hp : ∀ x : Option Rs, p_chk (p_in (nI i) 32) x = x := fun x => chk_in (by omega) (by omega)
    have hp2 : ∀ x : Option Rs, p_chk (p_in (nI (10 * xv P + i)) 20) x = x := fun x => chk_in (by omega) (by omega)
    simp only [hp, nI_clamp (show i < 2 ^ 31 by omega), (r2 i hi').1, eq0_nI (show s i < 2 ^ 31 by omega), r1.v, ten_nI, hp2, nI_clamp (show 10 * xv P + i < 2 ^ 31 by omega), f6, f7]
    by_cases hs : s i = 0
    · rw [if_pos hs, show setF (fun e => 0 < s e ∧ ¬ dsP P (uW (whB (zer s e))) (xf P e) (xg P e) < 99999) w i = w from if_neg (fun q => by omega), runS_s, s_X12_hangs_81, nI_1]
      obtain ⟨I2, u1, u2, u3⟩ := ih (i + 1) (n + 1) w I1 (hms I1 k1 t3) (by omega) (by omega)
      exact ⟨I2, u1, k1.tr u2, t3.tr u3⟩
    · have k2 : kp scM I (p_wr I1 230 i 0) := k1.wr (by decide)
      have f2 : k567 I (p_wr I1 230 i 0) := fun j a b c => by rw [wr_ne (by decide)]; exact t3 j a b c
      have p2 : PlR P (p_wr I1 230 i 0) := plr_kx h1 k2 (by decide) (f2 18 (by decide) (by decide) (by decide))
      have s2 : swR P (p_wr I1 230 i 0 230) (zer s i) := by
        intro j hj
        rw [wr_eq]
        unfold zer
        by_cases e : j = i
        · subst e; rw [pk_us, if_pos rfl]; exact ⟨rfl, by omega⟩
        · rw [pk_un e, if_neg e]; exact r2 j hj
      obtain ⟨I3, v1, v2, -⟩ := ev_arj (d := d) (J := J) (by omega) p2 s2 g1 g2
      have k3 : kp scM I I3 := k2.tr (v2.up (by decide))
      have f3 : k567 I I3 := f2.tr (k567.kp v2 (by decide))
      rw [if_neg hs, v1, p_ci_s]
      by_cases hc : dsP P (uW (whB (zer s i))) (xf P i) (xg P i) < 99999
      · rw [zI_t hc, if_neg (by decide), show setF (fun e => 0 < s e ∧ ¬ dsP P (uW (whB (zer s e))) (xf P e) (xg P e) < 99999) w i = w from if_neg (fun q => q.2 hc), runS_s, s_X12_hangs_81, nI_1]
        obtain ⟨I4, u1, u2, u3⟩ := ih (i + 1) (n + 1) w I3 (hms I3 k3 f3) (by omega) (by omega)
        exact ⟨I4, u1, k3.tr u2, f3.tr u3⟩
      · rw [zI_f hc, if_pos rfl, show setF (fun e => 0 < s e ∧ ¬ dsP P (uW (whB (zer s e))) (xf P e) (xg P e) < 99999) w i = w ||| (1 <<< (nI i &&& 31)) from if_pos ⟨by omega, hc⟩, runS_s, s_X12_hangs_75, runS_s, s_X12_hangs_81, nI_1]
        obtain ⟨I4, u1, u2, u3⟩ := ih (i + 1) n _ I3 (hms I3 k3 f3) (by omega) (by omega)
        exact ⟨I4, u1, k3.tr u2, f3.tr u3⟩
theorem m_hangs (hd : 4 ≤ d) (h : MS P I s wk) : MQq d 243 [.ref 192] I J (hangQ P s) := by
  obtain ⟨d, rfl⟩ : ∃ z, d = z + 1 := ⟨d - 1, by omega⟩
  have h10 := h.1.S10
  unfold MQq
  rw [e_X12_hangs, runS_M, s_X12_hangs_0]
  exact lp_hangs (d := d) (J := J) (by omega) (xS P) 0 999999 0 I h (by omega) (by omega)
end QB
