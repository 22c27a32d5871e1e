/-! ===== the widest way; surest ===== -/
/-- the seams that are v wide or more -/
def gB (f : Nat → Nat) (v i : Nat) : Bool := decide (v ≤ f i)
def wdS (P : PP) (f : Nat → Nat) (t u b i : Nat) : Nat := if f i ≤ b then b else if dsP P (uW (gB f (f i))) t u < 99999 then f i else b
def wdF (P : PP) (f : Nat → Nat) (t u : Nat) : Nat := (List.range' 0 (xS P)).foldl (wdS P f t u) 0
/-- the greatest v up to B by which they are joined -/
def suF (P : PP) (f : Nat → Nat) (t u : Nat) : Nat → Nat
  | 0 => 0
  | v + 1 => if dsP P (uW (gB f (v + 1))) t u < 99999 then v + 1 else suF P f t u v
section QD
variable {P : PP} {I : Nat → Nat → Int32} {J : Nat → Nat → Int64} {d : Nat} {s : Nat → Nat} {wk : Int32}
theorem suF_le {f : Nat → Nat} {t u : Nat} : ∀ B, suF P f t u B ≤ B := by
  intro B
  induction B with
  | zero => exact Nat.le_refl _
  | succ B ih => unfold suF; split <;> omega
theorem suF_j {f : Nat → Nat} {t u : Nat} : ∀ B, suF P f t u B = 0 ∨ dsP P (uW (gB f (suF P f t u B))) t u < 99999 := by
  intro B
  induction B with
  | zero => exact Or.inl rfl
  | succ B ih =>
    unfold suF
    split
    · rename_i h; exact Or.inr h
    · exact ih
theorem suF_ge {f : Nat → Nat} {t u v : Nat} (h1 : 1 ≤ v) (hj : dsP P (uW (gB f v)) t u < 99999) : ∀ B, v ≤ B → v ≤ suF P f t u B := by
  intro B
  induction B with
  | zero => intro h; omega
  | succ B ih =>
    intro h
    unfold suF
    split
    · exact h
    · rename_i hn
      by_cases e : v = B + 1
      · subst e; exact absurd hj hn
      · exact ih (by omega)
theorem wdF_p {f : Nat → Nat} {t u : Nat} : ∀ (k i b : Nat), i + k = xS P → (b = 0 ∨ dsP P (uW (gB f b)) t u < 99999) → (∀ j, j < i → 0 < f j → dsP P (uW (gB f (f j))) t u < 99999 → f j ≤ b) → ((List.range' i k).foldl (wdS P f t u) b = 0 ∨ dsP P (uW (gB f ((List.range' i k).foldl (wdS P f t u) b))) t u < 99999) ∧ ∀ j, j < xS P → 0 < f j → dsP P (uW (gB f (f j))) t u < 99999 → f j ≤ (List.range' i k).foldl (wdS P f t u) b := by
  intro k
  induction k with
  | zero =>
    intro i b hi h1 h2
    have e : i = xS P := by omega
    subst e
    exact ⟨h1, h2⟩
  | succ k ih =>
    intro i b hi h1 h2
    show ((List.range' (i + 1) k).foldl (wdS P f t u) (wdS P f t u b i) = 0 ∨ _) ∧ _
    refine ih (i + 1) _ (by omega) ?_ (fun j hj h3 h4 => ?_)
    · unfold wdS
      split
      · exact h1
      · split
        · rename_i hq; exact Or.inr hq
        · exact h1
    · by_cases e : j = i
      · subst e
        unfold wdS
        split
        · assumption
        · exact Nat.le_refl _
      · have h5 := h2 j (by omega) h3 h4
        unfold wdS
        split
        · exact h5
        · split <;> omega
/-- no two towns are joined by no seam -/
theorem jn_edge (h : PlR P I) {A : Nat → Bool} {t u : Nat} (htu : t ≠ u) (hj : dsP P (uW A) t u < 99999) : ∃ i, i < xS P ∧ A i = true := by
  obtain ⟨i, x, e1, e2⟩ := ds_inv (N := xN P) (S := xS P) (fs := xf P) (sc := xg P) (w := uW A) (t := t) u hj (fun e => htu e.symm)
  refine ⟨i, e1.1, ?_⟩
  have h2 := e1.2.1
  unfold uW at h2
  split at h2
  · assumption
  · omega
theorem wd_su (h : PlR P I) {f : Nat → Nat} {t u B : Nat} (htu : t ≠ u) (hf : ∀ i, i < xS P → f i ≤ B) : wdF P f t u = suF P f t u B := by
  obtain ⟨p1, p2⟩ := wdF_p (P := P) (f := f) (t := t) (u := u) (xS P) 0 0 (by omega) (Or.inl rfl) (fun j hj => by omega)
  change (wdF P f t u = 0 ∨ dsP P (uW (gB f (wdF P f t u))) t u < 99999) at p1
  change (∀ j, j < xS P → 0 < f j → dsP P (uW (gB f (f j))) t u < 99999 → f j ≤ wdF P f t u) at p2
  apply Nat.le_antisymm
  · rcases p1 with e | e
    · omega
    · by_cases h0 : wdF P f t u = 0
      · omega
      · obtain ⟨i, hi, hg⟩ := jn_edge h htu e
        unfold gB at hg
        have := of_decide_eq_true hg
        exact suF_ge (by omega) e B (by have := hf i hi; omega)
  · by_cases h0 : suF P f t u B = 0
    · omega
    · rcases suF_j (P := P) (f := f) (t := t) (u := u) B with e | e
      · exact absurd e h0
      · obtain ⟨i, hi, hg⟩ := jn_edge h htu e
        unfold gB at hg
        have hle := of_decide_eq_true hg
        obtain ⟨m, ⟨j, hj, hj2, hj3⟩, hm⟩ := pk_least (fun m => ∃ j, j < xS P ∧ suF P f t u B ≤ f j ∧ f j = m) ⟨f i, i, hi, hle, rfl⟩
        have hsame : dsP P (uW (gB f (suF P f t u B))) t = dsP P (uW (gB f (f j))) t := by
          refine ds_cg (fun k hk => ?_) t
          unfold uW gB
          by_cases hc : suF P f t u B ≤ f k
          · have : f j ≤ f k := by
              refine Classical.byContradiction (fun hlt => hm (f k) (by omega) ⟨k, hk, hc, rfl⟩)
            simp [hc, this]
          · have : ¬ f j ≤ f k := by omega
            simp [hc, this]
        rw [hsame] at e
        have := p2 j hj (by omega) e
        omega
theorem lp_asWide_40 {O : Ora} (h : PlR P I) {f : Nat → Nat} (hf : ∀ i, i < xS P → I 40 i = nI (f i) ∧ f i ≤ 1000) {v : Nat} (hv : v ≤ 1000) : ∀ (k i n : Nat) (w : Int32), i + k = xS P → k < n →
    runS O none 5 T0 C_X1_seamsAsWide k_X1_seamsAsWide rtI f_X1_seamsAsWide n 5 [.ref 172, .ref 40, .int (nI v), .int w, .int (nI i)] [] (I, J) = some (some (.int ((List.range' i k).foldl (setF (fun i => v ≤ f i)) w)), (I, J)) := by
  have h10 := h.S10
  intro k
  induction k with
  | zero =>
    intro i n w hi hn
    obtain ⟨n, rfl⟩ : ∃ z, n = z + 1 := ⟨n - 1, by omega⟩
    rw [runS_s, s_X1_seamsAsWide_40_5, h.S, if_pos (nI_le (by omega) (by omega))]
    rfl
  | succ k ih =>
    intro i n w hi hn
    obtain ⟨n, rfl⟩ : ∃ z, n = z + 1 := ⟨n - 1, by omega⟩
    have h9 := (hf i (by omega)).2
    rw [runS_s, s_X1_seamsAsWide_40_5, h.S, if_neg (nI_ge (by omega) (by omega)), chk_in (by omega) (by omega), nI_clamp (by omega), nI_1, (hf i (by omega)).1]
    simp only [lt_nI (show f i < 2 ^ 31 by omega) (show v < 2 ^ 31 by omega)]
    have hst : ∀ x, (List.range' i (k + 1)).foldl (setF (fun i => v ≤ f i)) x = (List.range' (i + 1) k).foldl (setF (fun i => v ≤ f i)) (setF (fun i => v ≤ f i) x i) := fun _ => rfl
    rw [hst]
    by_cases h1 : v ≤ f i
    · rw [if_neg (by omega), show setF (fun i => v ≤ f i) w i = w ||| (1 <<< (nI i &&& 31)) from if_pos h1]
      exact ih (i + 1) n _ (by omega) (by omega)
    · rw [if_pos (by omega), show setF (fun i => v ≤ f i) w i = w from if_neg h1]
      exact ih (i + 1) n w (by omega) (by omega)
theorem ev_asWide_40 (hd : 1 ≤ d) (h : PlR P I) {f : Nat → Nat} (hf : ∀ i, i < xS P → I 40 i = nI (f i) ∧ f i ≤ 1000) {v : Nat} (hv : v ≤ 1000) : ∃ a, EV d T0 21 [.ref 172, .ref 40, .int (nI v)] (I, J) = some (some (.int a), (I, J)) ∧ ∀ t, dsP P (uW (bt a)) t = dsP P (uW (gB f v)) t := by
  obtain ⟨d, rfl⟩ : ∃ z, d = z + 1 := ⟨d - 1, by omega⟩
  have h10 := h.S10
  refine ⟨(List.range' 0 (xS P)).foldl (setF (fun i => v ≤ f i)) 0, ?_, fun t => ds_cg (fun i hi => ?_) t⟩
  · rw [e_X1_seamsAsWide_40, runS_M, s_X1_seamsAsWide_40_0]
    exact lp_asWide_40 h hf hv (xS P) 0 999999 0 (by omega) (by omega)
  · unfold uW gB
    rw [bt_set _ _ _ (by omega), b_0, Bool.false_or]
    have : decide (0 ≤ i ∧ i < 0 + xS P ∧ v ≤ f i) = decide (v ≤ f i) := decide_eq_decide.mpr ⟨fun q => q.2.2, fun q => ⟨by omega, by omega, q⟩⟩
    rw [this]
theorem lp_widest_40 (hd : 5 ≤ d) (h : PlR P I) {f : Nat → Nat} (hf : ∀ i, i < xS P → I 40 i = nI (f i) ∧ f i ≤ 1000) {t u : Nat} (ht : t < xN P) (hu : u < xN P) : ∀ (k i n b : Nat), i + k = xS P → k < n → b ≤ 1000 →
    runS (EV d) none 6 T0 C_X1_widest k_X1_widest rtI f_X1_widest n 6 [.ref 172, .ref 40, .int (nI t), .int (nI u), .int (nI b), .int (nI i)] [] (I, J) = some (some (.int (nI ((List.range' i k).foldl (wdS P f t u) b))), (I, J)) := by
  have h10 := h.S10
  intro k
  induction k with
  | zero =>
    intro i n b hi hn hb
    obtain ⟨n, rfl⟩ : ∃ z, n = z + 1 := ⟨n - 1, by omega⟩
    rw [runS_s, s_X1_widest_40_6, h.S, if_pos (nI_le (by omega) (by omega))]
    rfl
  | succ k ih =>
    intro i n b hi hn hb
    obtain ⟨n, rfl⟩ : ∃ z, n = z + 1 := ⟨n - 1, by omega⟩
    have h9 := (hf i (by omega)).2
    obtain ⟨a, w1, w2⟩ := ev_asWide_40 (d := d) (J := J) (by omega) h hf h9
    have hp : ∀ x : Option Rs, p_chk (p_in (nI i) 10) x = x := fun x => chk_in (by omega) (by omega)
    rw [runS_s, s_X1_widest_40_6, h.S, if_neg (nI_ge (by omega) (by omega)), nI_1]
    simp only [hp, nI_clamp (show i < 2 ^ 31 by omega), (hf i (by omega)).1, le_nI (show f i < 2 ^ 31 by omega) (show b < 2 ^ 31 by omega)]
    have hst : ∀ x, (List.range' i (k + 1)).foldl (wdS P f t u) x = (List.range' (i + 1) k).foldl (wdS P f t u) (wdS P f t u x i) := fun _ => rfl
    rw [hst]
    by_cases h1 : f i ≤ b
    · rw [if_pos h1, show wdS P f t u b i = b from if_pos h1]
      exact ih (i + 1) n b (by omega) (by omega) hb
    · rw [if_neg h1, w1, p_ci_s, q_joins (by omega) h a ht hu, p_ci_s, w2 t]
      by_cases h2 : dsP P (uW (gB f (f i))) t u < 99999
      · rw [zI_t h2, if_neg (by decide), show wdS P f t u b i = f i by unfold wdS; rw [if_neg h1, if_pos h2]]
        have e9 : (I, J).1 40 i = nI (f i) := (hf i (by omega)).1
        rw [e9]
        exact ih (i + 1) n (f i) (by omega) (by omega) h9
      · rw [zI_f h2, if_pos rfl, show wdS P f t u b i = b by unfold wdS; rw [if_neg h1, if_neg h2]]
        exact ih (i + 1) n b (by omega) (by omega) hb
theorem ev_widest_40 (hd : 6 ≤ d) (h : PlR P I) {f : Nat → Nat} (hf : ∀ i, i < xS P → I 40 i = nI (f i) ∧ f i ≤ 1000) {t u : Nat} (ht : t < xN P) (hu : u < xN P) : EV d T0 16 [.ref 172, .ref 40, .int (nI t), .int (nI u)] (I, J) = some (some (.int (nI (wdF P f t u))), (I, J)) := by
  obtain ⟨d, rfl⟩ : ∃ z, d = z + 1 := ⟨d - 1, by omega⟩
  have h10 := h.S10
  rw [e_X1_widest_40, runS_M, s_X1_widest_40_0]
  exact lp_widest_40 (by omega) h hf ht hu (xS P) 0 999999 0 (by omega) (by omega) (by omega)
theorem lp_asWide_177 {O : Ora} (h : PlR P I) {f : Nat → Nat} (hf : ∀ i, i < xS P → I 177 i = nI (f i) ∧ f i ≤ 1000) {v : Nat} (hv : v ≤ 1000) : ∀ (k i n : Nat) (w : Int32), i + k = xS P → k < n →
    runS O none 5 T0 C_X1_seamsAsWide k_X1_seamsAsWide rtI f_X1_seamsAsWide n 5 [.ref 172, .ref 177, .int (nI v), .int w, .int (nI i)] [] (I, J) = some (some (.int ((List.range' i k).foldl (setF (fun i => v ≤ f i)) w)), (I, J)) := by
  have h10 := h.S10
  intro k
  induction k with
  | zero =>
    intro i n w hi hn
    obtain ⟨n, rfl⟩ : ∃ z, n = z + 1 := ⟨n - 1, by omega⟩
    rw [runS_s, s_X1_seamsAsWide_177_5, h.S, if_pos (nI_le (by omega) (by omega))]
    rfl
  | succ k ih =>
    intro i n w hi hn
    obtain ⟨n, rfl⟩ : ∃ z, n = z + 1 := ⟨n - 1, by omega⟩
    have h9 := (hf i (by omega)).2
    rw [runS_s, s_X1_seamsAsWide_177_5, h.S, if_neg (nI_ge (by omega) (by omega)), chk_in (by omega) (by omega), nI_clamp (by omega), nI_1, (hf i (by omega)).1]
    simp only [lt_nI (show f i < 2 ^ 31 by omega) (show v < 2 ^ 31 by omega)]
    have hst : ∀ x, (List.range' i (k + 1)).foldl (setF (fun i => v ≤ f i)) x = (List.range' (i + 1) k).foldl (setF (fun i => v ≤ f i)) (setF (fun i => v ≤ f i) x i) := fun _ => rfl
    rw [hst]
    by_cases h1 : v ≤ f i
    · rw [if_neg (by omega), show setF (fun i => v ≤ f i) w i = w ||| (1 <<< (nI i &&& 31)) from if_pos h1]
      exact ih (i + 1) n _ (by omega) (by omega)
    · rw [if_pos (by omega), show setF (fun i => v ≤ f i) w i = w from if_neg h1]
      exact ih (i + 1) n w (by omega) (by omega)
theorem ev_asWide_177 (hd : 1 ≤ d) (h : PlR P I) {f : Nat → Nat} (hf : ∀ i, i < xS P → I 177 i = nI (f i) ∧ f i ≤ 1000) {v : Nat} (hv : v ≤ 1000) : ∃ a, EV d T0 21 [.ref 172, .ref 177, .int (nI v)] (I, J) = some (some (.int a), (I, J)) ∧ ∀ t, dsP P (uW (bt a)) t = dsP P (uW (gB f v)) t := by
  obtain ⟨d, rfl⟩ : ∃ z, d = z + 1 := ⟨d - 1, by omega⟩
  have h10 := h.S10
  refine ⟨(List.range' 0 (xS P)).foldl (setF (fun i => v ≤ f i)) 0, ?_, fun t => ds_cg (fun i hi => ?_) t⟩
  · rw [e_X1_seamsAsWide_177, runS_M, s_X1_seamsAsWide_177_0]
    exact lp_asWide_177 h hf hv (xS P) 0 999999 0 (by omega) (by omega)
  · unfold uW gB
    rw [bt_set _ _ _ (by omega), b_0, Bool.false_or]
    have : decide (0 ≤ i ∧ i < 0 + xS P ∧ v ≤ f i) = decide (v ≤ f i) := decide_eq_decide.mpr ⟨fun q => q.2.2, fun q => ⟨by omega, by omega, q⟩⟩
    rw [this]
theorem lp_widest_177 (hd : 5 ≤ d) (h : PlR P I) {f : Nat → Nat} (hf : ∀ i, i < xS P → I 177 i = nI (f i) ∧ f i ≤ 1000) {t u : Nat} (ht : t < xN P) (hu : u < xN P) : ∀ (k i n b : Nat), i + k = xS P → k < n → b ≤ 1000 →
    runS (EV d) none 6 T0 C_X1_widest k_X1_widest rtI f_X1_widest n 6 [.ref 172, .ref 177, .int (nI t), .int (nI u), .int (nI b), .int (nI i)] [] (I, J) = some (some (.int (nI ((List.range' i k).foldl (wdS P f t u) b))), (I, J)) := by
  have h10 := h.S10
  intro k
  induction k with
  | zero =>
    intro i n b hi hn hb
    obtain ⟨n, rfl⟩ : ∃ z, n = z + 1 := ⟨n - 1, by omega⟩
    rw [runS_s, s_X1_widest_177_6, h.S, if_pos (nI_le (by omega) (by omega))]
    rfl
  | succ k ih =>
    intro i n b hi hn hb
    obtain ⟨n, rfl⟩ : ∃ z, n = z + 1 := ⟨n - 1, by omega⟩
    have h9 := (hf i (by omega)).2
    obtain ⟨a, w1, w2⟩ := ev_asWide_177 (d := d) (J := J) (by omega) h hf h9
    have hp : ∀ x : Option Rs, p_chk (p_in (nI i) 10) x = x := fun x => chk_in (by omega) (by omega)
    rw [runS_s, s_X1_widest_177_6, h.S, if_neg (nI_ge (by omega) (by omega)), nI_1]
    simp only [hp, nI_clamp (show i < 2 ^ 31 by omega), (hf i (by omega)).1, le_nI (show f i < 2 ^ 31 by omega) (show b < 2 ^ 31 by omega)]
    have hst : ∀ x, (List.range' i (k + 1)).foldl (wdS P f t u) x = (List.range' (i + 1) k).foldl (wdS P f t u) (wdS P f t u x i) := fun _ => rfl
    rw [hst]
    by_cases h1 : f i ≤ b
    · rw [if_pos h1, show wdS P f t u b i = b from if_pos h1]
      exact ih (i + 1) n b (by omega) (by omega) hb
    · rw [if_neg h1, w1, p_ci_s, q_joins (by omega) h a ht hu, p_ci_s, w2 t]
      by_cases h2 : dsP P (uW (gB f (f i))) t u < 99999
      · rw [zI_t h2, if_neg (by decide), show wdS P f t u b i = f i by unfold wdS; rw [if_neg h1, if_pos h2]]
        have e9 : (I, J).1 177 i = nI (f i) := (hf i (by omega)).1
        rw [e9]
        exact ih (i + 1) n (f i) (by omega) (by omega) h9
      · rw [zI_f h2, if_pos rfl, show wdS P f t u b i = b by unfold wdS; rw [if_neg h1, if_neg h2]]
        exact ih (i + 1) n b (by omega) (by omega) hb
theorem ev_widest_177 (hd : 6 ≤ d) (h : PlR P I) {f : Nat → Nat} (hf : ∀ i, i < xS P → I 177 i = nI (f i) ∧ f i ≤ 1000) {t u : Nat} (ht : t < xN P) (hu : u < xN P) : EV d T0 16 [.ref 172, .ref 177, .int (nI t), .int (nI u)] (I, J) = some (some (.int (nI (wdF P f t u))), (I, J)) := by
  obtain ⟨d, rfl⟩ : ∃ z, d = z + 1 := ⟨d - 1, by omega⟩
  have h10 := h.S10
  rw [e_X1_widest_177, runS_M, s_X1_widest_177_0]
  exact lp_widest_177 (by omega) h hf ht hu (xS P) 0 999999 0 (by omega) (by omega) (by omega)
/-- two towns, not one and the same -/
def two (P : PP) (a b : Int32) : Int32 := if oneOf a (xN P) = 0 then 0 else if oneOf b (xN P) = 0 then 0 else if a = b then 0 else 1
theorem two_c (h : PlR P I) {a b : Int32} : two P a b = 0 ∨ (two P a b = 1 ∧ oneOf a (xN P) = 1 ∧ oneOf b (xN P) = 1 ∧ ∃ t u, t < xN P ∧ u < xN P ∧ t ≠ u ∧ a = nI t ∧ b = nI u) := by
  have h7 := h.N7
  unfold two
  rcases oneOf_c (a := a) (N := xN P) (by omega) with e | ⟨e, t, ht, rfl⟩
  · rw [if_pos e]; exact Or.inl rfl
  rcases oneOf_c (a := b) (N := xN P) (by omega) with e2 | ⟨e2, u, hu, rfl⟩
  · rw [if_pos e2]; split <;> exact Or.inl rfl
  rw [if_neg (by rw [e]; decide), if_neg (by rw [e2]; decide)]
  by_cases htu : t = u
  · subst htu; rw [if_pos rfl]; exact Or.inl rfl
  · rw [if_neg (by rw [nI_eq (by omega) (by omega)]; exact htu)]
    exact Or.inr ⟨rfl, e, e2, t, u, ht, hu, htu, rfl, rfl⟩
theorem q_two (hd : 2 ≤ d) (h : PlR P I) (a b : Int32) : EV d T0 161 [.ref 0, .int a, .int b] (I, J) = some (some (.int (two P a b)), (I, J)) := by
  obtain ⟨d, rfl⟩ : ∃ z, d = z + 1 := ⟨d - 1, by omega⟩
  unfold two
  rw [e_X11_areTwoTowns, runS_M, s_X11_areTwoTowns_0, q_town (by omega) h, p_ci_s]
  by_cases e : oneOf a (xN P) = 0
  · rw [if_pos e, if_pos e]; rfl
  rw [if_neg e, if_neg e, q_town (by omega) h, p_ci_s]
  by_cases e2 : oneOf b (xN P) = 0
  · rw [if_pos e2, if_pos e2]; rfl
  rw [if_neg e2, if_neg e2, show (999999 : Nat) = 999998 + 1 from rfl, runS_s, s_X11_areTwoTowns_16]
  by_cases e3 : a = b
  · rw [if_pos e3, if_pos e3]; rfl
  · rw [if_neg e3, if_neg e3]; rfl
/-! surest -/
def sureQ (P : PP) (s : Nat → Nat) (a b : Int32) : Int32 := if two P a b = 0 then -1 else if suF P s a.toNatClampNeg b.toNatClampNeg 99 = 0 then -2 else nI (suF P s a.toNatClampNeg b.toNatClampNeg 99)
theorem c_surest (hd : 7 ≤ d) (h : CS P I s wk) (a b : Int32) : CQ d 139 [.ref 0, .int a, .int b] I J (sureQ P s a b) := by
  obtain ⟨d, rfl⟩ : ∃ z, d = z + 1 := ⟨d - 1, by omega⟩
  obtain ⟨h1, h2, h3⟩ := h
  have h7 := h1.N7
  unfold CQ sureQ
  rw [e_X11_surest, runS_M, s_X11_surest_0, q_two (by omega) h1, p_ci_s]
  rcases two_c h1 (a := a) (b := b) with e | ⟨e, -, -, t, u, ht, hu, htu, rfl, rfl⟩
  · rw [if_pos e, if_pos e]; exact ⟨I, rfl, kp.rf⟩
  have hne : ¬ two P (nI t) (nI u) = 0 := by rw [e]; decide
  have hle := suF_le (P := P) (f := s) (t := t) (u := u) 99
  rw [if_neg hne, if_neg hne, ev_widest_40 (by omega) h1 (f := s) (fun i hi => ⟨(h2 i hi).1, by have := (h2 i hi).2; omega⟩) ht hu, p_ci_s, show (999999 : Nat) = 999998 + 1 from rfl, runS_s, s_X11_surest_28, wd_su h1 htu (fun i hi => (h2 i hi).2), nI_clamp (by omega), nI_clamp (by omega)]
  simp only [eq0_nI (show suF P s t u 99 < 2 ^ 31 by omega)]
  by_cases hc : suF P s t u 99 = 0
  · rw [if_pos hc, if_pos hc]; exact ⟨I, rfl, kp.rf⟩
  · rw [if_neg hc, if_neg hc]; exact ⟨I, rfl, kp.rf⟩
/-- what is sewn less than v is cut -/
def cutB (s : Nat → Nat) (v n i : Nat) : Nat := if i < n ∧ s i < v then 0 else s i
theorem lp_sure1 (hd : 3 ≤ d) {t u v : Nat} (ht : t < xN P) (hu : u < xN P) (hv1 : 1 ≤ v) (hv : v ≤ 99) : ∀ (k i n : Nat) (I : Nat → Nat → Int32), PlR P I → swR P (I 230) (cutB s v i) → i + k = xS P → (∀ i, i < xS P → s i ≤ 99) →
    ∃ I', kp [230, 231, 232] I I' ∧ runS (EV d) none 5 T0 C_X12_surest k_X12_surest rtI f_X12_surest (n + k + 1) 38 [.ref 192, .int (nI t), .int (nI u), .int (nI v), .int (nI i)] [] (I, J) =
      if dsP P (uW (gB s v)) t u < 99999 then some (some (.int (nI v)), (I', J)) else runS (EV d) none 5 T0 C_X12_surest k_X12_surest rtI f_X12_surest n 26 [.ref 192, .int (nI t), .int (nI u), .int (nI v + -1), un] [] (I', J) := by
  intro k
  induction k with
  | zero =>
    intro i n I h hs hi h99
    have h10 := h.S10
    have hv2 := h.v2
    have e : i = xS P := by omega
    subst e
    obtain ⟨I2, u1, u2, -⟩ := ev_arj (d := d) (J := J) (by omega) h hs ht hu
    refine ⟨I2, u2.up (by decide), ?_⟩
    rw [runS_s, s_X12_surest_38, h.v, chk_in hv2 (by omega), nI_clamp (by omega), h.Sm, if_pos (Int32.le_refl _), u1, p_ci_s]
    have e9 : dsP P (uW (whB (cutB s v (xS P)))) t = dsP P (uW (gB s v)) t := by
      refine ds_cg (fun j hj => ?_) t
      unfold uW whB gB cutB
      by_cases hc : s j < v
      · rw [if_pos (show j < xS P ∧ s j < v from ⟨hj, hc⟩)]; simp; omega
      · rw [if_neg (show ¬ (j < xS P ∧ s j < v) from fun q => hc q.2)]
        have h1 : 0 < s j := by omega
        have h2 : v ≤ s j := by omega
        simp [h1, h2]
    rw [e9]
    by_cases hc : dsP P (uW (gB s v)) t u < 99999
    · rw [zI_t hc, if_neg (by decide), if_pos hc]; rfl
    · rw [zI_f hc, if_pos rfl, if_neg hc]
  | succ k ih =>
    intro i n I h hs hi h99
    have h10 := h.S10
    have hv2 := h.v2
    have hi' : i < xS P := by omega
    have h9 := h99 i hi'
    have hsi : cutB s v i i = s i := by unfold cutB; rw [if_neg (fun q => by omega)]
    have hp : ∀ x : Option Rs, p_chk (p_in (nI i) 32) x = x := fun x => chk_in (by omega) (by omega)
    by_cases hc : v ≤ s i
    · obtain ⟨I', q1, q2⟩ := ih (i + 1) n I h (fun j hj => by
        have e : cutB s v (i + 1) j = cutB s v i j := by
          unfold cutB
          by_cases e1 : j = i
          · subst e1; rw [if_neg (by omega), if_neg (by omega)]
          · by_cases e2 : j < i ∧ s j < v
            · rw [if_pos ⟨by omega, e2.2⟩, if_pos e2]
            · rw [if_neg (fun q => e2 ⟨by omega, q.2⟩), if_neg e2]
        rw [e]; exact hs j hj) (by omega) h99
      refine ⟨I', q1, ?_⟩
      rw [show n + (k + 1) + 1 = (n + k + 1) + 1 by omega, runS_s, s_X12_surest_38, h.v, chk_in hv2 (by omega), nI_clamp (by omega), h.Sm, if_neg (nI_ge (by omega) (by omega)), hp, hp, nI_clamp (by omega), (hs i hi').1, hsi, nI_1, if_pos (nI_le hc (by omega))]
      exact q2
    · have k1 : kp [230, 231, 232] I (p_wr I 230 i 0) := kp.rf.wr (by decide)
      obtain ⟨I', q1, q2⟩ := ih (i + 1) n (p_wr I 230 i 0) (plr_kx h k1 (by decide) (by rw [k1 192 (by decide)])) (fun j hj => by
        rw [wr_eq]
        unfold cutB
        by_cases e1 : j = i
        · subst e1
          rw [pk_us, if_pos ⟨by omega, by omega⟩]; exact ⟨rfl, by omega⟩
        · rw [pk_un e1]
          have h8 := hs j hj
          unfold cutB at h8
          by_cases e2 : j < i ∧ s j < v
          · rw [if_pos e2] at h8; rw [if_pos ⟨by omega, e2.2⟩]; exact h8
          · rw [if_neg e2] at h8; rw [if_neg (fun q => e2 ⟨by omega, q.2⟩)]; exact h8) (by omega) h99
      refine ⟨I', k1.tr q1, ?_⟩
      rw [show n + (k + 1) + 1 = (n + k + 1) + 1 by omega, runS_s, s_X12_surest_38, h.v, chk_in hv2 (by omega), nI_clamp (by omega), h.Sm, if_neg (nI_ge (by omega) (by omega)), hp, hp, nI_clamp (by omega), (hs i hi').1, hsi, nI_1, if_neg (nI_ge (by omega) (by omega))]
      exact q2
theorem lp_sure2 (hd : 3 ≤ d) {t u : Nat} (ht : t < xN P) (hu : u < xN P) : ∀ (v n : Nat) (I : Nat → Nat → Int32), MS P I s wk → v ≤ 99 → 20 * v < n →
    ∃ I', runS (EV d) none 5 T0 C_X12_surest k_X12_surest rtI f_X12_surest n 26 [.ref 192, .int (nI t), .int (nI u), .int (nI v), un] [] (I, J) = some (some (.int (if suF P s t u v = 0 then -2 else nI (suF P s t u v))), (I', J)) ∧ kp scM I I' ∧ k567 I I' := by
  intro v
  induction v with
  | zero =>
    intro n I h hv hn
    obtain ⟨n, rfl⟩ : ∃ z, n = z + 1 := ⟨n - 1, by omega⟩
    rw [runS_s, s_X12_surest_26, if_pos (by decide)]
    exact ⟨I, rfl, kp.rf, k567.rf⟩
  | succ v ih =>
    intro n I h hv hn
    have h10 := h.1.S10
    obtain ⟨n, rfl⟩ : ∃ z, n = (z + xS P + 1) + 1 := ⟨n - xS P - 2, by omega⟩
    obtain ⟨I1, t1, t2, t3, -, -, -, r1, r2, r3⟩ := h.row (d := d) (J := J) (by omega)
    obtain ⟨I2, q1, q2⟩ := lp_sure1 (d := d) (J := J) hd (s := s) ht hu (v := v + 1) (by omega) (by omega) (xS P) 0 n I1 r1 (fun j hj => by
      have e : cutB s (v + 1) 0 j = s j := by unfold cutB; rw [if_neg (by omega)]
      rw [e]; exact r2 j hj) (by omega) (fun i hi => (r2 i hi).2)
    have k2 : kp scM I I2 := (t2.up (by decide)).tr (q1.up (by decide))
    have f2 : k567 I I2 := t3.tr (k567.kp q1 (by decide))
    rw [runS_s, s_X12_surest_26, if_neg (show ¬ nI (v + 1) < (1 : Int32) from nI_nlt (b := 1) (by omega) (by omega)), t1, p_cv_s]
    have q2' : runS (EV d) none 5 T0 C_X12_surest k_X12_surest rtI f_X12_surest (n + xS P + 1) 38 [.ref 192, .int (nI t), .int (nI u), .int (nI (v + 1)), .int 0] [] (I1, J) = _ := q2
    rw [q2']
    by_cases hc : dsP P (uW (gB s (v + 1))) t u < 99999
    · rw [if_pos hc]
      have e : suF P s t u (v + 1) = v + 1 := by unfold suF; rw [if_pos hc]
      rw [e, if_neg (by omega)]
      exact ⟨I2, rfl, k2, f2⟩
    · rw [if_neg hc]
      have e : suF P s t u (v + 1) = suF P s t u v := by
        show (if dsP P (uW (gB s (v + 1))) t u < 99999 then v + 1 else suF P s t u v) = _
        rw [if_neg hc]
      rw [e, show nI (v + 1) + -1 = nI v from pk_m1 v]
      obtain ⟨I3, u1, u2, u3⟩ := ih n I2 ⟨plr_kx h.1 k2 (by decide) (f2 18 (by decide) (by decide) (by decide)), h.2.1.cg (fun j _ => by rw [k2 229 (by decide)]), by rw [k2 229 (by decide)]; exact h.2.2⟩ (by omega) (by omega)
      exact ⟨I3, u1, k2.tr u2, f2.tr u3⟩
theorem m_surest (hd : 4 ≤ d) (h : MS P I s wk) (a b : Int32) : MQq d 249 [.ref 192, .int a, .int b] I J (sureQ P s a b) := by
  obtain ⟨d, rfl⟩ : ∃ z, d = z + 1 := ⟨d - 1, by omega⟩
  have h1 := h.1
  have h7 := h1.N7
  have h10 := h1.S10
  unfold MQq sureQ
  rw [e_X12_surest, runS_M, s_X12_surest_0, q_townR (by omega) h1, p_ci_s]
  unfold two
  by_cases e : oneOf a (xN P) = 0
  · rw [if_pos e, if_pos e, if_pos rfl]; exact ⟨I, rfl, kp.rf, k567.rf⟩
  rw [if_neg e, if_neg e, q_townR (by omega) h1, p_ci_s]
  by_cases e2 : oneOf b (xN P) = 0
  · rw [if_pos e2, if_pos e2, if_pos rfl]; exact ⟨I, rfl, kp.rf, k567.rf⟩
  rw [if_neg e2, if_neg e2, show (999999 : Nat) = 999998 + 1 from rfl, runS_s, s_X12_surest_16]
  by_cases e3 : a = b
  · rw [if_pos e3, if_pos e3, if_pos rfl]; exact ⟨I, rfl, kp.rf, k567.rf⟩
  rw [if_neg e3, if_neg e3, if_neg (by decide)]
  rcases oneOf_c (a := a) (N := xN P) (by omega) with e4 | ⟨-, t, ht, rfl⟩
  · exact absurd e4 e
  rcases oneOf_c (a := b) (N := xN P) (by omega) with e4 | ⟨-, u, hu, rfl⟩
  · exact absurd e4 e2
  rw [nI_clamp (by omega), nI_clamp (by omega)]
  exact lp_sure2 (d := d) (J := J) (by omega) ht hu 99 999998 I h (by omega) (by omega)
end QD
