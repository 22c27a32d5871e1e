/-! ===== guards, rows of ways, what is whole: both sides ===== -/
theorem foN_cg {fs sc w w' : Nat → Nat} : ∀ (l : List Nat) (g : Nat → Nat), (∀ i ∈ l, w i = w' i) → l.foldl (stN fs sc w) g = l.foldl (stN fs sc w') g := by
  intro l
  induction l with
  | nil => intro g _; rfl
  | cons x l ih =>
    intro g h
    have e : stN fs sc w g x = stN fs sc w' g x := by unfold stN; rw [h x List.mem_cons_self]
    rw [List.foldl_cons, List.foldl_cons, e]
    exact ih _ (fun i hi => h i (List.mem_cons_of_mem _ hi))
theorem itN_cg {S : Nat} {fs sc w w' : Nat → Nat} (h : ∀ i, i < S → w i = w' i) : ∀ (k : Nat) (g : Nat → Nat), itN S fs sc w k g = itN S fs sc w' k g := by
  intro k
  induction k with
  | zero => intro g; rfl
  | succ k ih =>
    intro g
    show itN S fs sc w k (roN S fs sc w g) = itN S fs sc w' k (roN S fs sc w' g)
    have e : roN S fs sc w g = roN S fs sc w' g := foN_cg _ g (fun i hi => h i (by rw [List.mem_range'_1] at hi; omega))
    rw [e]; exact ih _
theorem ds_cg {P : PP} {w w' : Nat → Nat} (h : ∀ i, i < xS P → w i = w' i) (t : Nat) : dsP P w t = dsP P w' t := itN_cg h _ _
theorem jn_cg {P : PP} {A B : Nat → Bool} (h : ∀ i, i < xS P → A i = B i) (t b : Nat) : jnP P A t b ↔ jnP P B t b := by
  unfold jnP
  rw [ds_cg (w' := uW B) (fun i hi => by unfold uW; rw [h i hi])]
theorem oneOf_c {a : Int32} {N : Nat} (hN : N < 1000) : oneOf a N = 0 ∨ (oneOf a N = 1 ∧ ∃ t, t < N ∧ a = nI t) := by
  unfold oneOf
  by_cases h : ¬ a < 0 ∧ ¬ nI N ≤ a
  · right
    refine ⟨zI_t h, ?_⟩
    rcases pk_ix a (n := N) (by omega) with h1 | h1 | h1
    · exact absurd h1 h.1
    · exact absurd h1 h.2
    · exact h1
  · exact Or.inl (zI_f h)
/-- how well seams are sewn, in plain numbers -/
def swR (P : PP) (f : Nat → Int32) (s : Nat → Nat) : Prop := ∀ i, i < xS P → f i = nI (s i) ∧ s i ≤ 99
theorem swR.cg {P : PP} {f g : Nat → Int32} {s : Nat → Nat} (h : swR P f s) (hg : ∀ i, i < xS P → g i = f i) : swR P g s := fun i hi => ⟨(hg i hi).trans (h i hi).1, (h i hi).2⟩
/-- what is whole -/
def whB (s : Nat → Nat) (i : Nat) : Bool := decide (0 < s i)
theorem le0_nI {m : Nat} (h : m < 2 ^ 31) : (nI m ≤ 0) = (m = 0) := by
  have h1 : (nI m ≤ nI 0) = (m ≤ 0) := le_nI h (by omega)
  have h2 : (nI m ≤ 0) = (nI m ≤ nI 0) := rfl
  rw [h2, h1]
  simp
theorem eq0_nI {m : Nat} (h : m < 2 ^ 31) : (nI m = 0) = (m = 0) := by
  have h1 : (nI m = nI 0) = (m = 0) := eq_nI h (by omega)
  exact h1
/-- a way, in plain numbers -/
def wyW (P : PP) (s : Nat → Nat) (wk : Int32) (i : Nat) : Nat := if 0 < s i then (wayF P i (nI (s i)) wk).toNatClampNeg else 99999
section BaA
variable {P : PP} {I : Nat → Nat → Int32} {J : Nat → Nat → Int64} {d : Nat}
theorem wayF_nI (h : PlR P I) {i : Nat} (hi : i < xS P) (sw wk : Int32) : ∃ m, 1 ≤ m ∧ m ≤ 99 ∧ wayF P i sw wk = nI m := by
  obtain ⟨x, hx, e⟩ := lawF_nI P 2 i sw wk 0 0 0 0
  obtain ⟨-, -, -, ⟨-, l1, l2⟩, -⟩ := h.sm hi
  unfold wayF
  rw [e]
  by_cases hc : x < xl P i
  · rw [pk_sub (by omega)]
    by_cases h1 : 1 < xl P i - x
    · rw [if_pos (show (1 : Int32) < nI (xl P i - x) from nI_lt (a := 1) h1 (by omega))]
      exact ⟨_, by omega, by omega, rfl⟩
    · rw [if_neg (show ¬ (1 : Int32) < nI (xl P i - x) from nI_nlt (b := xl P i - x) (a := 1) (by omega) (by omega))]
      exact ⟨1, by omega, by omega, rfl⟩
  · have hle : (nI (xl P i) - nI x).toInt = (xl P i : Int) - x := pk_sub_toInt (by omega) (by omega)
    rw [if_neg (by rw [Int32.lt_iff_toInt_lt, hle]; have e1 : (1 : Int32).toInt = 1 := by decide
                   omega)]
    exact ⟨1, by omega, by omega, rfl⟩
theorem wyW_ok (h : PlR P I) (s : Nat → Nat) (wk : Int32) : wOK P (wyW P s wk) := by
  intro i hi
  unfold wyW
  obtain ⟨m, m1, m2, e⟩ := wayF_nI h hi (nI (s i)) wk
  split
  · rw [e, nI_clamp (by omega)]; exact Or.inr ⟨m1, m2⟩
  · exact Or.inl rfl
theorem wyW_nI (h : PlR P I) {i : Nat} (hi : i < xS P) {s : Nat → Nat} {wk : Int32} (hs : 0 < s i) : wayF P i (nI (s i)) wk = nI (wyW P s wk i) := by
  obtain ⟨m, m1, m2, e⟩ := wayF_nI h hi (nI (s i)) wk
  unfold wyW
  rw [if_pos hs, e, nI_clamp (by omega)]
theorem lp_fillWays_39 (hd : 3 ≤ d) {s : Nat → Nat} {wk : Int32} : ∀ (k i n : Nat) (I : Nat → Nat → Int32), PlR P I → swR P (I 40) s → I 39 0 = wk → i + k = xS P → k < n →
    ∃ I', runS (EV d) none 3 T0 C_X7_fillWays k_X7_fillWays rtV f_X7_fillWays n 2 [.ref 174, .ref 39, .int (nI i)] [] (I, J) = some (none, (I', J)) ∧ kp [37, 170, 176] I I' ∧ (∀ j, i ≤ j → j < xS P → I' 176 j = wayF P j (nI (s j)) wk) ∧ ∀ j, j < i → I' 176 j = I 176 j := by
  intro k
  induction k with
  | zero =>
    intro i n I h hs hw hi hn
    obtain ⟨n, rfl⟩ : ∃ z, n = z + 1 := ⟨n - 1, by omega⟩
    have h10 := h.S10
    rw [runS_s, s_X7_fillWays_39_2, h.S, if_pos (nI_le (by omega) (by omega))]
    exact ⟨I, rfl, kp.rf, fun j h1 h2 => by omega, fun _ _ => rfl⟩
  | succ k ih =>
    intro i n I h hs hw hi hn
    obtain ⟨n, rfl⟩ : ∃ z, n = z + 1 := ⟨n - 1, by omega⟩
    have h10 := h.S10
    have hi' : i < xS P := by omega
    obtain ⟨I1, t1, t2⟩ := ev_wayLong (d := d) (J := J) hd h hi' (nI (s i)) wk
    have k1 : kp [37, 170, 176] I (p_wr I1 176 i (wayF P i (nI (s i)) wk)) := (t2.up (by decide)).wr (by decide)
    obtain ⟨I2, u1, u2, u3, u4⟩ := ih (i + 1) n (p_wr I1 176 i (wayF P i (nI (s i)) wk)) (plr_kx h k1 (by decide) (by rw [k1 192 (by decide)])) (hs.cg (fun j _ => by rw [k1 40 (by decide)])) (by rw [k1 39 (by decide)]; exact hw) (by omega) (by omega)
    refine ⟨I2, ?_, k1.tr u2, fun j h1 h2 => ?_, fun j hj => ?_⟩
    · rw [runS_s, s_X7_fillWays_39_2, h.S, if_neg (nI_ge (by omega) (by omega)), chk_in (by omega) (by omega), nI_clamp (by omega), (hs i hi').1, hw, t1, p_ci_s, chk_in (by omega) (by omega), nI_1]
      exact u1
    · by_cases e : j = i
      · subst e
        rw [u4 j (by omega), wr_eq, pk_us]
      · exact u3 j (by omega) h2
    · rw [u4 j (by omega), wr_eq, pk_un (by omega), t2 176 (by decide)]
theorem ev_fillWays_39 (hd : 4 ≤ d) (h : PlR P I) {s : Nat → Nat} (hs : swR P (I 40) s) : ∃ I', EV d T0 74 [.ref 174, .ref 39] (I, J) = some (none, (I', J)) ∧ kp [37, 170, 176] I I' ∧ ∀ j, j < xS P → I' 176 j = wayF P j (nI (s j)) (I 39 0) := by
  obtain ⟨d, rfl⟩ : ∃ z, d = z + 1 := ⟨d - 1, by omega⟩
  have h10 := h.S10
  obtain ⟨I', t1, t2, t3, -⟩ := lp_fillWays_39 (d := d) (J := J) (P := P) (by omega) (s := s) (wk := I 39 0) (xS P) 0 999999 I h hs rfl (by omega) (by omega)
  refine ⟨I', ?_, t2, fun j hj => t3 j (Nat.zero_le _) hj⟩
  rw [e_X7_fillWays_39, runS_M, s_X7_fillWays_39_0]
  exact t1
theorem lp_whole_39 {O : Ora} (h : PlR P I) {s : Nat → Nat} (hs : swR P (I 40) s) : ∀ (k i n : Nat) (w : Int32), i + k = xS P → k < n →
    runS O none 4 T0 C_X8_wholeSeams k_X8_wholeSeams rtI f_X8_wholeSeams n 4 [.ref 39, .ref 25, .int w, .int (nI i)] [] (I, J) = some (some (.int ((List.range' i k).foldl (setF (fun i => 0 < s i)) w)), (I, J)) := by
  have h10 := h.S10
  intro k
  induction k with
  | zero =>
    intro i n w hi hn
    obtain ⟨n, rfl⟩ : ∃ z, n = z + 1 := ⟨n - 1, by omega⟩
    rw [runS_s, s_X8_wholeSeams_39_4, h.S, if_pos (nI_le (by omega) (by omega))]
    rfl
  | succ k ih =>
    intro i n w hi hn
    obtain ⟨n, rfl⟩ : ∃ z, n = z + 1 := ⟨n - 1, by omega⟩
    have h9 := (hs i (by omega)).2
    rw [runS_s, s_X8_wholeSeams_39_4, h.S, if_neg (nI_ge (by omega) (by omega)), chk_in (by omega) (by omega), nI_clamp (by omega), nI_1, (hs i (by omega)).1]
    have hst : (List.range' i (k + 1)).foldl (setF (fun i => 0 < s i)) w = (List.range' (i + 1) k).foldl (setF (fun i => 0 < s i)) (setF (fun i => 0 < s i) w i) := rfl
    rw [hst]
    by_cases h1 : 0 < s i
    · rw [if_neg (by rw [le0_nI (by omega)]; omega), show setF (fun i => 0 < s i) w i = w ||| (1 <<< (nI i &&& 31)) from if_pos h1]
      exact ih (i + 1) n _ (by omega) (by omega)
    · rw [if_pos (by rw [le0_nI (by omega)]; omega), show setF (fun i => 0 < s i) w i = w from if_neg h1]
      exact ih (i + 1) n w (by omega) (by omega)
theorem ev_whole_39 (hd : 1 ≤ d) (h : PlR P I) {s : Nat → Nat} (hs : swR P (I 40) s) : ∃ a, EV d T0 96 [.ref 39, .ref 25] (I, J) = some (some (.int a), (I, J)) ∧ ∀ i, bt a i = decide (i < xS P ∧ 0 < s i) := by
  obtain ⟨d, rfl⟩ : ∃ z, d = z + 1 := ⟨d - 1, by omega⟩
  have h10 := h.S10
  refine ⟨(List.range' 0 (xS P)).foldl (setF (fun i => 0 < s i)) 0, ?_, fun i => ?_⟩
  · rw [e_X8_wholeSeams_39, runS_M, s_X8_wholeSeams_39_0]
    exact lp_whole_39 h hs (xS P) 0 999999 0 (by omega) (by omega)
  · rw [bt_set _ _ _ (by omega), b_0, Bool.false_or]
    apply decide_eq_decide.mpr
    constructor
    · rintro ⟨_, h2, h3⟩; exact ⟨by omega, h3⟩
    · rintro ⟨h2, h3⟩; exact ⟨by omega, by omega, h3⟩
theorem lp_fillWays_42 (hd : 3 ≤ d) {s : Nat → Nat} {wk : Int32} : ∀ (k i n : Nat) (I : Nat → Nat → Int32), PlR P I → swR P (I 43) s → I 42 0 = wk → i + k = xS P → k < n →
    ∃ I', runS (EV d) none 3 T0 C_X7_fillWays k_X7_fillWays rtV f_X7_fillWays n 2 [.ref 174, .ref 42, .int (nI i)] [] (I, J) = some (none, (I', J)) ∧ kp [37, 170, 176] I I' ∧ (∀ j, i ≤ j → j < xS P → I' 176 j = wayF P j (nI (s j)) wk) ∧ ∀ j, j < i → I' 176 j = I 176 j := by
  intro k
  induction k with
  | zero =>
    intro i n I h hs hw hi hn
    obtain ⟨n, rfl⟩ : ∃ z, n = z + 1 := ⟨n - 1, by omega⟩
    have h10 := h.S10
    rw [runS_s, s_X7_fillWays_42_2, h.S, if_pos (nI_le (by omega) (by omega))]
    exact ⟨I, rfl, kp.rf, fun j h1 h2 => by omega, fun _ _ => rfl⟩
  | succ k ih =>
    intro i n I h hs hw hi hn
    obtain ⟨n, rfl⟩ : ∃ z, n = z + 1 := ⟨n - 1, by omega⟩
    have h10 := h.S10
    have hi' : i < xS P := by omega
    obtain ⟨I1, t1, t2⟩ := ev_wayLong (d := d) (J := J) hd h hi' (nI (s i)) wk
    have k1 : kp [37, 170, 176] I (p_wr I1 176 i (wayF P i (nI (s i)) wk)) := (t2.up (by decide)).wr (by decide)
    obtain ⟨I2, u1, u2, u3, u4⟩ := ih (i + 1) n (p_wr I1 176 i (wayF P i (nI (s i)) wk)) (plr_kx h k1 (by decide) (by rw [k1 192 (by decide)])) (hs.cg (fun j _ => by rw [k1 43 (by decide)])) (by rw [k1 42 (by decide)]; exact hw) (by omega) (by omega)
    refine ⟨I2, ?_, k1.tr u2, fun j h1 h2 => ?_, fun j hj => ?_⟩
    · rw [runS_s, s_X7_fillWays_42_2, h.S, if_neg (nI_ge (by omega) (by omega)), chk_in (by omega) (by omega), nI_clamp (by omega), (hs i hi').1, hw, t1, p_ci_s, chk_in (by omega) (by omega), nI_1]
      exact u1
    · by_cases e : j = i
      · subst e
        rw [u4 j (by omega), wr_eq, pk_us]
      · exact u3 j (by omega) h2
    · rw [u4 j (by omega), wr_eq, pk_un (by omega), t2 176 (by decide)]
theorem ev_fillWays_42 (hd : 4 ≤ d) (h : PlR P I) {s : Nat → Nat} (hs : swR P (I 43) s) : ∃ I', EV d T0 74 [.ref 174, .ref 42] (I, J) = some (none, (I', J)) ∧ kp [37, 170, 176] I I' ∧ ∀ j, j < xS P → I' 176 j = wayF P j (nI (s j)) (I 42 0) := by
  obtain ⟨d, rfl⟩ : ∃ z, d = z + 1 := ⟨d - 1, by omega⟩
  have h10 := h.S10
  obtain ⟨I', t1, t2, t3, -⟩ := lp_fillWays_42 (d := d) (J := J) (P := P) (by omega) (s := s) (wk := I 42 0) (xS P) 0 999999 I h hs rfl (by omega) (by omega)
  refine ⟨I', ?_, t2, fun j hj => t3 j (Nat.zero_le _) hj⟩
  rw [e_X7_fillWays_42, runS_M, s_X7_fillWays_42_0]
  exact t1
theorem lp_whole_42 {O : Ora} (h : PlR P I) {s : Nat → Nat} (hs : swR P (I 43) s) : ∀ (k i n : Nat) (w : Int32), i + k = xS P → k < n →
    runS O none 4 T0 C_X8_wholeSeams k_X8_wholeSeams rtI f_X8_wholeSeams n 4 [.ref 42, .ref 25, .int w, .int (nI i)] [] (I, J) = some (some (.int ((List.range' i k).foldl (setF (fun i => 0 < s i)) w)), (I, J)) := by
  have h10 := h.S10
  intro k
  induction k with
  | zero =>
    intro i n w hi hn
    obtain ⟨n, rfl⟩ : ∃ z, n = z + 1 := ⟨n - 1, by omega⟩
    rw [runS_s, s_X8_wholeSeams_42_4, h.S, if_pos (nI_le (by omega) (by omega))]
    rfl
  | succ k ih =>
    intro i n w hi hn
    obtain ⟨n, rfl⟩ : ∃ z, n = z + 1 := ⟨n - 1, by omega⟩
    have h9 := (hs i (by omega)).2
    rw [runS_s, s_X8_wholeSeams_42_4, h.S, if_neg (nI_ge (by omega) (by omega)), chk_in (by omega) (by omega), nI_clamp (by omega), nI_1, (hs i (by omega)).1]
    have hst : (List.range' i (k + 1)).foldl (setF (fun i => 0 < s i)) w = (List.range' (i + 1) k).foldl (setF (fun i => 0 < s i)) (setF (fun i => 0 < s i) w i) := rfl
    rw [hst]
    by_cases h1 : 0 < s i
    · rw [if_neg (by rw [le0_nI (by omega)]; omega), show setF (fun i => 0 < s i) w i = w ||| (1 <<< (nI i &&& 31)) from if_pos h1]
      exact ih (i + 1) n _ (by omega) (by omega)
    · rw [if_pos (by rw [le0_nI (by omega)]; omega), show setF (fun i => 0 < s i) w i = w from if_neg h1]
      exact ih (i + 1) n w (by omega) (by omega)
theorem ev_whole_42 (hd : 1 ≤ d) (h : PlR P I) {s : Nat → Nat} (hs : swR P (I 43) s) : ∃ a, EV d T0 96 [.ref 42, .ref 25] (I, J) = some (some (.int a), (I, J)) ∧ ∀ i, bt a i = decide (i < xS P ∧ 0 < s i) := by
  obtain ⟨d, rfl⟩ : ∃ z, d = z + 1 := ⟨d - 1, by omega⟩
  have h10 := h.S10
  refine ⟨(List.range' 0 (xS P)).foldl (setF (fun i => 0 < s i)) 0, ?_, fun i => ?_⟩
  · rw [e_X8_wholeSeams_42, runS_M, s_X8_wholeSeams_42_0]
    exact lp_whole_42 h hs (xS P) 0 999999 0 (by omega) (by omega)
  · rw [bt_set _ _ _ (by omega), b_0, Bool.false_or]
    apply decide_eq_decide.mpr
    constructor
    · rintro ⟨_, h2, h3⟩; exact ⟨by omega, h3⟩
    · rintro ⟨h2, h3⟩; exact ⟨by omega, by omega, h3⟩
/-! the reference's row, ways, what is joined -/
def k567 (I I' : Nat → Nat → Int32) : Prop := ∀ j, j ≠ 53 → j ≠ 56 → j ≠ 57 → I' 192 j = I 192 j
theorem k567.rf : k567 I I := fun _ _ _ _ => rfl
theorem k567.tr {I' I'' : Nat → Nat → Int32} (h1 : k567 I I') (h2 : k567 I' I'') : k567 I I'' := fun j a b c => (h2 j a b c).trans (h1 j a b c)
theorem k567.of {I' : Nat → Nat → Int32} (h : k53 I I') : k567 I I' := fun j a _ _ => h j a
theorem k567.kp {I' : Nat → Nat → Int32} {X : List Nat} (h : kp X I I') (hX : 192 ∉ X) : k567 I I' := fun j _ _ _ => by rw [h 192 hX]
theorem ev_copiesP (hd : 1 ≤ d) (h : PlR P I) : ∃ I', EV d T0 210 [.ref 192] (I, J) = some (none, (I', J)) ∧ kp [230, 192] I I' ∧ k567 I I' ∧ (∀ j, j < 32 → I' 230 j = I 229 j) ∧ I' 192 56 = xe P ∧ I' 192 57 = 0 := by
  obtain ⟨d, rfl⟩ : ∃ z, d = z + 1 := ⟨d - 1, by omega⟩
  refine ⟨_, ev_copies d h.v h.v2, ?_, ?_, ?_, ?_, ?_⟩
  · unfold copI
    exact ((kp.rf.cs (by decide)).wr (by decide)).wr (by decide)
  · intro j _ h2 h3
    unfold copI
    rw [wr_eq, pk_un h3, wr_eq, pk_un h2, cs_ne (by decide)]
  · intro j hj
    unfold copI
    rw [wr_ne (by decide), wr_ne (by decide), cs_eq]
    exact if_pos hj
  · unfold copI
    rw [wr_eq, pk_un (by decide), wr_eq, pk_us]
    exact h.sd.2
  · unfold copI
    rw [wr_eq, pk_us]
theorem lp_fillsWays (hd : 4 ≤ d) {s : Nat → Nat} {wk : Int32} : ∀ (k i n : Nat) (I : Nat → Nat → Int32), PlR P I → swR P (I 230) s → I 230 31 = wk → i + k = xS P → k < n →
    ∃ I', runS (EV d) none 2 T0 C_X12_fillsWays k_X12_fillsWays rtV f_X12_fillsWays n 2 [.ref 192, .int (nI i)] [] (I, J) = some (none, (I', J)) ∧ kp [227, 228, 232, 192] I I' ∧ k53 I I' ∧ (∀ j, i ≤ j → j < xS P → I' 232 j = nI (wyW P s wk j)) ∧ ∀ j, j < i → I' 232 j = I 232 j := by
  intro k
  induction k with
  | zero =>
    intro i n I h hs hw hi hn
    obtain ⟨n, rfl⟩ : ∃ z, n = z + 1 := ⟨n - 1, by omega⟩
    have h10 := h.S10
    rw [runS_s, s_X12_fillsWays_2, h.v, chk_in h.v2 (by omega), nI_clamp (by have := h.v2; omega), h.Sm, if_pos (nI_le (by omega) (by omega))]
    exact ⟨I, rfl, kp.rf, k53.rf, fun j h1 h2 => by omega, fun _ _ => rfl⟩
  | succ k ih =>
    intro i n I h hs hw hi hn
    obtain ⟨n, rfl⟩ : ∃ z, n = z + 1 := ⟨n - 1, by omega⟩
    have h10 := h.S10
    have hi' : i < xS P := by omega
    have h9 := (hs i hi').2
    have hgo : ∀ (I1 : Nat → Nat → Int32) (x : Int32), kp [227, 228, 232, 192] I I1 → k53 I I1 → I1 232 = I 232 → x = nI (wyW P s wk i) → ∃ I', runS (EV d) none 2 T0 C_X12_fillsWays k_X12_fillsWays rtV f_X12_fillsWays n 2 [.ref 192, .int (nI (i + 1))] [] (p_wr I1 232 i x, J) = some (none, (I', J)) ∧ kp [227, 228, 232, 192] I I' ∧ k53 I I' ∧ (∀ j, i ≤ j → j < xS P → I' 232 j = nI (wyW P s wk j)) ∧ ∀ j, j < i → I' 232 j = I 232 j := by
      intro I1 x q1 q2 q3 q4
      have k1 : kp [227, 228, 232, 192] I (p_wr I1 232 i x) := q1.wr (by decide)
      have k2 : k53 I (p_wr I1 232 i x) := fun j hj => by rw [wr_ne (by decide)]; exact q2 j hj
      obtain ⟨I2, u1, u2, u3, u4, u5⟩ := ih (i + 1) n (p_wr I1 232 i x) (plr_kx h k1 (by decide) (k2 18 (by decide))) (hs.cg (fun j _ => by rw [k1 230 (by decide)])) (by rw [k1 230 (by decide)]; exact hw) (by omega) (by omega)
      refine ⟨I2, u1, k1.tr u2, k2.tr u3, fun j h1 h2 => ?_, fun j hj => ?_⟩
      · by_cases e : j = i
        · subst e
          rw [u5 j (by omega), wr_eq, pk_us, q4]
        · exact u4 j (by omega) h2
      · rw [u5 j (by omega), wr_eq, pk_un (by omega), q3]
    rw [runS_s, s_X12_fillsWays_2, h.v, chk_in h.v2 (by omega), nI_clamp (by have := h.v2; omega), h.Sm, if_neg (nI_ge (by omega) (by omega)), chk_in (by omega) (by omega), nI_clamp (by omega), (hs i hi').1]
    by_cases h1 : 0 < s i
    · obtain ⟨I1, t1, t2, t3⟩ := ev_wayOf (d := d) (J := J) hd h hi'
      rw [if_neg (by rw [le0_nI (by omega)]; omega), t1, p_ci_s, chk_in (by omega) (by omega), nI_1]
      refine hgo I1 _ (t2.up (by decide)) t3 (t2 232 (by decide)) ?_
      rw [(hs i hi').1, hw]
      exact wyW_nI h hi' h1
    · rw [if_pos (by rw [le0_nI (by omega)]; omega), chk_in (by omega) (by omega), nI_1]
      refine hgo I _ kp.rf k53.rf rfl ?_
      unfold wyW
      rw [if_neg h1]; rfl
theorem ev_fillsWays (hd : 5 ≤ d) (h : PlR P I) {s : Nat → Nat} (hs : swR P (I 230) s) : ∃ I', EV d T0 221 [.ref 192] (I, J) = some (none, (I', J)) ∧ kp [227, 228, 232, 192] I I' ∧ k53 I I' ∧ ∀ j, j < xS P → I' 232 j = nI (wyW P s (I 230 31) j) := by
  obtain ⟨d, rfl⟩ : ∃ z, d = z + 1 := ⟨d - 1, by omega⟩
  have h10 := h.S10
  obtain ⟨I', t1, t2, t3, t4, -⟩ := lp_fillsWays (d := d) (J := J) (P := P) (by omega) (s := s) (wk := I 230 31) (xS P) 0 999999 I h hs rfl (by omega) (by omega)
  refine ⟨I', ?_, t2, t3, fun j hj => t4 j (Nat.zero_le _) hj⟩
  rw [e_X12_fillsWays, runS_M, s_X12_fillsWays_0]
  exact t1
theorem ev_arj (hd : 2 ≤ d) (h : PlR P I) {s : Nat → Nat} (hs : swR P (I 230) s) {t u : Nat} (ht : t < xN P) (hu : u < xN P) : ∃ I', EV d T0 223 [.ref 192, .int (nI t), .int (nI u)] (I, J) = some (some (.int (zI (dsP P (uW (whB s)) t u < 99999))), (I', J)) ∧ kp [231, 232] I I' ∧ ∀ j, j < 7 → I' 231 j = nI (dsP P (uW (whB s)) t j) := by
  obtain ⟨d, rfl⟩ : ∃ z, d = z + 2 := ⟨d - 2, by omega⟩
  have h7 := h.N7
  have h10 := h.S10
  have e1 := ev_areJoined d (J := J) (refP_of h) (show t < 7 by omega) (show u < 7 by omega)
  have hf : ∀ j, j < 7 → arjI I (xN P) (xS P) (xf P) (xg P) t 231 j = nI (dsP P (uW (whB s)) t j) := by
    intro j hj
    unfold arjI
    rw [cs_eq]
    refine far_nat h uW_ok (fun i hi => ?_) t j hj
    have h9 := (hs i hi).2
    unfold oneF uW whB
    rw [if_pos hi, (hs i hi).1]
    by_cases h1 : 0 < s i
    · rw [if_neg (by rw [le0_nI (by omega)]; omega), if_pos (by simpa using h1)]; rfl
    · rw [if_pos (by rw [le0_nI (by omega)]; omega), if_neg (by simpa using h1)]; rfl
  refine ⟨_, ?_, ?_, hf⟩
  · rw [e1]
    have hle : dsP P (uW (whB s)) t u ≤ 99999 := ds_le
    have e2 : (¬ (99999 : Int32) ≤ arjI I (xN P) (xS P) (xf P) (xg P) t 231 u) ↔ dsP P (uW (whB s)) t u < 99999 := by
      rw [hf u (by omega)]
      have e3 : ((99999 : Int32) ≤ nI (dsP P (uW (whB s)) t u)) ↔ 99999 ≤ dsP P (uW (whB s)) t u := nI_leI (a := 99999) (by omega) (by omega)
      rw [e3]; omega
    unfold zI
    simp only [e2]
  · unfold arjI
    exact (kp.rf.cs (by decide)).cs (by decide)
end BaA
