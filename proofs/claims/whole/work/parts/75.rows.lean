/-! ===== rows ===== -/
/-- how many of the first n -/
def pcN (A : Nat → Bool) : Nat → Nat
  | 0 => 0
  | n + 1 => pcN A n + (if A n = true then 1 else 0)
theorem pcN_le {A : Nat → Bool} : ∀ n, pcN A n ≤ n := by
  intro n
  induction n with
  | zero => exact Nat.le_refl _
  | succ n ih => unfold pcN; split <;> omega
theorem pcN_cg {A B : Nat → Bool} : ∀ n, (∀ j, j < n → A j = B j) → pcN A n = pcN B n := by
  intro n
  induction n with
  | zero => intro _; rfl
  | succ n ih => intro h; unfold pcN; rw [ih (fun j hj => h j (by omega)), h n (by omega)]
theorem pcN_ext {A : Nat → Bool} {n m : Nat} (h : ∀ j, n ≤ j → j < m → A j = false) (hnm : n ≤ m) : pcN A m = pcN A n := by
  induction m with
  | zero => have : n = 0 := by omega
            subst this; rfl
  | succ m ih =>
    by_cases e : n = m + 1
    · subst e; rfl
    · show pcN A m + (if A m = true then 1 else 0) = _
      rw [h m (by omega) (by omega), ih (fun j h1 h2 => h j h1 (by omega)) (by omega), if_neg (by decide)]
      rfl
theorem nI_small {w : Int32} {n : Nat} (hn : n ≤ 31) (h : ∀ j, n ≤ j → j < 32 → bt w j = false) : ∃ m, m < 2 ^ n ∧ w = nI m := by
  refine ⟨w.toBitVec.toNat, ?_, ?_⟩
  · apply Nat.lt_pow_two_of_testBit
    intro j hj
    by_cases h32 : j < 32
    · have := h j hj h32
      unfold bt at this
      rw [← BitVec.testBit_toNat] at this
      exact this
    · have hlt : w.toBitVec.toNat < 2 ^ j := Nat.lt_of_lt_of_le w.toBitVec.isLt (Nat.pow_le_pow_right (by omega) (by omega))
      exact Nat.testBit_lt_two_pow hlt
  · apply Int32.toBitVec_inj.mp
    show w.toBitVec = BitVec.ofNat 32 w.toBitVec.toNat
    simp
def bc1 (a0 : Int32) : Int32 := (((((a0 - (((a0.toUInt32 >>> ((1 : Int32).toUInt32 &&& Int32.toUInt32 31)).toInt32) &&& 1431655765)) &&& 858993459) + ((((a0 - (((a0.toUInt32 >>> ((1 : Int32).toUInt32 &&& Int32.toUInt32 31)).toInt32) &&& 1431655765)).toUInt32 >>> ((2 : Int32).toUInt32 &&& Int32.toUInt32 31)).toInt32) &&& 858993459)) + (((((a0 - (((a0.toUInt32 >>> ((1 : Int32).toUInt32 &&& Int32.toUInt32 31)).toInt32) &&& 1431655765)) &&& 858993459) + ((((a0 - (((a0.toUInt32 >>> ((1 : Int32).toUInt32 &&& Int32.toUInt32 31)).toInt32) &&& 1431655765)).toUInt32 >>> ((2 : Int32).toUInt32 &&& Int32.toUInt32 31)).toInt32) &&& 858993459)).toUInt32 >>> ((4 : Int32).toUInt32 &&& Int32.toUInt32 31)).toInt32)) &&& 252645135)
def bc2 (x0 : Int32) : Int32 := (((x0 + ((x0.toUInt32 >>> ((8 : Int32).toUInt32 &&& Int32.toUInt32 31)).toInt32)) + (((x0 + ((x0.toUInt32 >>> ((8 : Int32).toUInt32 &&& Int32.toUInt32 31)).toInt32)).toUInt32 >>> ((16 : Int32).toUInt32 &&& Int32.toUInt32 31)).toInt32)) &&& 63)
set_option maxRecDepth 100000 in
theorem bc_all : ∀ m, m < 1024 → bc2 (bc1 (nI m)) = nI (pcN (bt (nI m)) 10) := by decide +kernel
theorem ev_bitCount {d : Nat} (hd : 1 ≤ d) {m : Nat} (hm : m < 1024) (ij : IJ) : EV d T0 276 [.int (nI m)] ij = some (some (.int (nI (pcN (bt (nI m)) 10))), ij) := by
  obtain ⟨d, rfl⟩ : ∃ z, d = z + 1 := ⟨d - 1, by omega⟩
  obtain ⟨I, J⟩ := ij
  rw [e_J6_bitCount_0f7a4, runS_M, s_J6_bitCount_0f7a4_0, show (999999 : Nat) = 999998 + 1 from rfl, runS_s, s_J6_bitCount_0f7a4_34]
  show some (some (Value.int (bc2 (bc1 (nI m)))), (I, J)) = _
  rw [bc_all m hm]
/-- how many whole seams, of the first n, are at a town -/
def atN (P : PP) (s : Nat → Nat) (b : Nat) : Nat → Nat
  | 0 => 0
  | n + 1 => atN P s b n + (if 0 < s n ∧ (xf P n = b ∨ xg P n = b) then 1 else 0)
/-- sums over the first n towns of a part -/
def suN (A : Nat → Bool) (f : Nat → Nat) : Nat → Nat
  | 0 => 0
  | n + 1 => suN A f n + (if A n = true then f n else 0)
theorem suN_add {A : Nat → Bool} {f g h : Nat → Nat} (hh : ∀ j, h j = f j + g j) : ∀ n, suN A h n = suN A f n + suN A g n := by
  intro n
  induction n with
  | zero => rfl
  | succ n ih => unfold suN; rw [ih, hh n]; split <;> omega
theorem suN_0 {A : Nat → Bool} : ∀ n, suN A (fun _ => 0) n = 0 := by
  intro n
  induction n with
  | zero => rfl
  | succ n ih => unfold suN; rw [ih]; split <;> rfl
theorem suN_cg {A : Nat → Bool} {f g : Nat → Nat} : ∀ n, (∀ j, j < n → f j = g j) → suN A f n = suN A g n := by
  intro n
  induction n with
  | zero => intro _; rfl
  | succ n ih => intro h; unfold suN; rw [ih (fun j hj => h j (by omega)), h n (by omega)]
theorem suN_one {A : Nat → Bool} {a : Nat} : ∀ n, suN A (fun j => if a = j then 1 else 0) n = if a < n ∧ A a = true then 1 else 0 := by
  intro n
  induction n with
  | zero => rw [if_neg (by omega)]; rfl
  | succ n ih =>
    unfold suN
    rw [ih]
    by_cases e : a = n
    · subst e
      rw [if_neg (by omega)]
      by_cases hA : A a = true
      · rw [if_pos hA, if_pos rfl, if_pos ⟨by omega, hA⟩]
      · rw [if_neg hA, if_neg (fun q => hA q.2)]
    · rw [if_neg e]
      have e3 : (if A n = true then 0 else 0) = 0 := by split <;> rfl
      rw [e3]
      by_cases hc : a < n ∧ A a = true
      · rw [if_pos hc, if_pos ⟨by omega, hc.2⟩]
      · rw [if_neg hc, if_neg (fun q => hc ⟨by omega, q.2⟩)]
theorem suN_odd {A : Nat → Bool} {f : Nat → Nat} : ∀ n, suN A (fun j => f j % 2) n % 2 = suN A f n % 2 := by
  intro n
  induction n with
  | zero => rfl
  | succ n ih => unfold suN; split <;> omega
theorem suN_pc {A : Nat → Bool} {f : Nat → Nat} : ∀ n, suN A (fun j => f j % 2) n = pcN (fun j => A j && decide (f j % 2 = 1)) n := by
  intro n
  induction n with
  | zero => rfl
  | succ n ih =>
    unfold suN pcN
    rw [ih]
    by_cases hA : A n = true
    · rw [if_pos hA, hA]
      by_cases h1 : f n % 2 = 1
      · simp [h1]
      · have : f n % 2 = 0 := by omega
        simp [this]
    · rw [if_neg hA]
      have : A n = false := by simpa using hA
      simp [this]
section QE
variable {P : PP} {I : Nat → Nat → Int32} {J : Nat → Nat → Int64} {d : Nat} {s : Nat → Nat} {wk : Int32}
/-- the towns of a part have, together, an even number of seams -/
theorem hand (h : PlR P I) {A : Nat → Bool} (hA : ∀ i, i < xS P → 0 < s i → A (xf P i) = A (xg P i)) : ∀ k, k ≤ xS P → suN A (fun b => atN P s b k) (xN P) % 2 = 0 := by
  intro k
  induction k with
  | zero => intro _; rw [show (fun b => atN P s b 0) = (fun _ => 0) from rfl, suN_0]
  | succ k ih =>
    intro hk
    obtain ⟨-, ⟨g1, g2, g3⟩, -⟩ := h.sm (i := k) (by omega)
    by_cases hs : 0 < s k
    · have e1 : suN A (fun b => atN P s b (k + 1)) (xN P) = suN A (fun b => atN P s b k) (xN P) + suN A (fun b => (if xf P k = b then 1 else 0) + (if xg P k = b then 1 else 0)) (xN P) := by
        refine suN_add (fun b => ?_) _
        show atN P s b k + _ = _
        congr 1
        by_cases e1 : xf P k = b
        · rw [if_pos ⟨hs, Or.inl e1⟩, if_pos e1, if_neg (by omega)]
        · by_cases e2 : xg P k = b
          · rw [if_pos ⟨hs, Or.inr e2⟩, if_neg e1, if_pos e2]
          · rw [if_neg (fun q => by omega), if_neg e1, if_neg e2]
      have e2 : suN A (fun b => (if xf P k = b then 1 else 0) + (if xg P k = b then 1 else 0)) (xN P) = suN A (fun b => if xf P k = b then 1 else 0) (xN P) + suN A (fun b => if xg P k = b then 1 else 0) (xN P) := suN_add (fun _ => rfl) _
      rw [e1, e2, suN_one, suN_one]
      have h3 := ih (by omega)
      have h4 := hA k (by omega) hs
      by_cases hq : A (xf P k) = true
      · rw [if_pos ⟨g1, hq⟩, if_pos ⟨g2, by rw [← h4]; exact hq⟩]; omega
      · rw [if_neg (fun q => hq q.2), if_neg (fun q => hq (by rw [h4]; exact q.2))]; omega
    · have e1 : (fun b => atN P s b (k + 1)) = (fun b => atN P s b k) := by
        funext b
        show atN P s b k + _ = _
        rw [if_neg (fun q => hs q.1)]; rfl
      rw [e1]; exact ih (by omega)
theorem atN_le {b : Nat} : ∀ n, atN P s b n ≤ n := by
  intro n
  induction n with
  | zero => exact Nat.le_refl _
  | succ n ih => unfold atN; split <;> omega
/-- parities by exclusive or -/
theorem bt_xor (h : PlR P I) {m : Int32} (hm : ∀ i, bt m i = decide (i < xS P ∧ 0 < s i)) {b : Nat} : ∀ (k : Nat), k ≤ xS P → bt ((List.range k).foldl (fun w i => if bt m i = true then w ^^^ I 28 i else w) 0) b = decide (atN P s b k % 2 = 1) := by
  have h7 := h.N7
  intro k
  induction k with
  | zero => intro _; show bt 0 b = _; rw [b_0]; rfl
  | succ k ih =>
    intro hk
    obtain ⟨-, ⟨g1, g2, g3⟩, f3, -⟩ := h.sm (i := k) (by omega)
    rw [List.range_succ, List.foldl_append]
    show bt (if bt m k = true then _ ^^^ I 28 k else _) b = _
    rw [hm k]
    have hst : atN P s b (k + 1) = atN P s b k + (if 0 < s k ∧ (xf P k = b ∨ xg P k = b) then 1 else 0) := rfl
    by_cases hs : 0 < s k
    · rw [if_pos (decide_eq_true ⟨by omega, hs⟩), b_xor, ih (by omega), f3, one_or (by omega) (by omega), hst]
      by_cases e : xf P k = b ∨ xg P k = b
      · rw [if_pos ⟨hs, e⟩]
        have : (decide (xf P k = b) || decide (xg P k = b)) = true := by
          rcases e with e | e <;> simp [e]
        rw [this]
        by_cases hp : atN P s b k % 2 = 1
        · have : ¬ (atN P s b k + 1) % 2 = 1 := by omega
          simp [hp, this]
        · have : (atN P s b k + 1) % 2 = 1 := by omega
          simp [hp, this]
      · rw [if_neg (fun q => e q.2)]
        have : (decide (xf P k = b) || decide (xg P k = b)) = false := by
          have h1 : ¬ xf P k = b := fun q => e (Or.inl q)
          have h2 : ¬ xg P k = b := fun q => e (Or.inr q)
          simp [h1, h2]
        rw [this]; simp
    · rw [if_neg (by rw [decide_eq_true_eq]; exact fun q => hs q.2), ih (by omega), hst, if_neg (fun q => hs q.1)]; rfl
theorem lp_odd (hd : 1 ≤ d) (h : PlR P I) {m part : Int32} {N : Nat} : ∀ (k i n : Nat), i + k = xS P → k < n →
    runS (EV d) none 5 T0 C_X1_oddTowns k_X1_oddTowns rtI f_X1_oddTowns n 5 [.ref 172, .int m, .int part, .int ((List.range i).foldl (fun w i => if bt m i = true then w ^^^ I 28 i else w) 0), .int (nI i)] [] (I, J) = p_ci (EV d T0 276 [.int ((List.range (xS P)).foldl (fun w i => if bt m i = true then w ^^^ I 28 i else w) 0 &&& part)] (I, J)) (fun v2 z1 => rtI (some (.int v2)) z1) := by
  have h10 := h.S10
  intro k
  induction k with
  | zero =>
    intro i n hi hn
    obtain ⟨n, rfl⟩ : ∃ z, n = z + 1 := ⟨n - 1, by omega⟩
    have e : i = xS P := by omega
    subst e
    rw [runS_s, s_X1_oddTowns_5, h.S, if_pos (Int32.le_refl _)]
  | succ k ih =>
    intro i n hi hn
    obtain ⟨n, rfl⟩ : ∃ z, n = z + 1 := ⟨n - 1, by omega⟩
    have hst : (List.range (i + 1)).foldl (fun w i => if bt m i = true then w ^^^ I 28 i else w) 0 = if bt m i = true then (List.range i).foldl (fun w i => if bt m i = true then w ^^^ I 28 i else w) 0 ^^^ I 28 i else (List.range i).foldl (fun w i => if bt m i = true then w ^^^ I 28 i else w) 0 := by
      rw [List.range_succ, List.foldl_append]; rfl
    rw [runS_s, s_X1_oddTowns_5, h.S, if_neg (nI_ge (by omega) (by omega)), q_bit (by omega) _ (by omega), p_ci_s, nI_1]
    by_cases hb : bt m i = true
    · rw [zI_t hb, if_neg (by decide), chk_in (by omega) (by omega), nI_clamp (by omega)]
      rw [if_pos hb] at hst
      have h9 := ih (i + 1) n (by omega) (by omega)
      rw [hst] at h9
      exact h9
    · rw [zI_f hb, if_pos rfl]
      rw [if_neg hb] at hst
      have h9 := ih (i + 1) n (by omega) (by omega)
      rw [hst] at h9
      exact h9
/-- how many towns of t's part are odd -/
def oddN (P : PP) (s : Nat → Nat) (t : Nat) : Nat := suN (fun b => decide (dsP P (uW (whB s)) t b < 99999)) (fun b => atN P s b (xS P) % 2) (xN P)
theorem ev_oddTowns (hd : 2 ≤ d) (h : PlR P I) {m : Int32} (hm : ∀ i, bt m i = decide (i < xS P ∧ 0 < s i)) {t : Nat} (ht : t < xN P) : EV d T0 20 [.ref 172, .int m, .int (jnB P (whB s) t)] (I, J) = some (some (.int (nI (oddN P s t))), (I, J)) := by
  obtain ⟨d, rfl⟩ : ∃ z, d = z + 1 := ⟨d - 1, by omega⟩
  have h10 := h.S10
  have h7 := h.N7
  rw [e_X1_oddTowns, runS_M, s_X1_oddTowns_0]
  have h9 := lp_odd (d := d) (J := J) (by omega) h (m := m) (part := jnB P (whB s) t) (N := 0) (xS P) 0 999999 (by omega) (by omega)
  refine Eq.trans h9 ?_
  have hbits : ∀ j, bt ((List.range (xS P)).foldl (fun w i => if bt m i = true then w ^^^ I 28 i else w) 0 &&& jnB P (whB s) t) j = (decide (atN P s j (xS P) % 2 = 1) && decide (dsP P (uW (whB s)) t j < 99999)) := by
    intro j
    rw [b_and, bt_xor h hm (xS P) (Nat.le_refl _), jnB_bt h ht]
  obtain ⟨q, hq, e⟩ := nI_small (n := 10) (w := (List.range (xS P)).foldl (fun w i => if bt m i = true then w ^^^ I 28 i else w) 0 &&& jnB P (whB s) t) (by omega) (fun j h1 h2 => by
    rw [hbits j]
    have : dsP P (uW (whB s)) t j = 99999 := ds_out (okP h uW_ok) ht (by omega)
    rw [decide_eq_false (show ¬ dsP P (uW (whB s)) t j < 99999 by omega), Bool.and_false])
  rw [e] at hbits ⊢
  rw [ev_bitCount (by omega) hq, p_ci_s]
  have e2 : pcN (bt (nI q)) 10 = oddN P s t := by
    unfold oddN
    rw [suN_pc, pcN_cg (B := fun j => decide (dsP P (uW (whB s)) t j < 99999) && decide (atN P s j (xS P) % 2 = 1)) 10 (fun j _ => by rw [hbits j, Bool.and_comm])]
    refine pcN_ext (fun j h1 h2 => ?_) (by omega)
    have : dsP P (uW (whB s)) t j = 99999 := ds_out (okP h uW_ok) ht h1
    rw [decide_eq_false (show ¬ dsP P (uW (whB s)) t j < 99999 by omega), Bool.false_and]
  rw [e2]
  rfl
theorem odd_even (h : PlR P I) {t : Nat} (ht : t < xN P) : oddN P s t % 2 = 0 := by
  unfold oddN
  rw [suN_odd]
  refine hand h (fun i hi hs => ?_) (xS P) (Nat.le_refl _)
  have hw : uW (whB s) i = 1 := by unfold uW whB; rw [if_pos (by simpa using hs)]
  have s1 := ds_stb (okP h (uW_ok (A := whB s))) ht i (xf P i) (xg P i) ⟨hi, by omega, Or.inl ⟨rfl, rfl⟩⟩
  have s2 := ds_stb (okP h (uW_ok (A := whB s))) ht i (xg P i) (xf P i) ⟨hi, by omega, Or.inr ⟨rfl, rfl⟩⟩
  have l1 : jnP P (whB s) t (xf P i) → dsP P (uW (whB s)) t (xf P i) < xN P := dsu_lt h ht
  have l2 : jnP P (whB s) t (xg P i) → dsP P (uW (whB s)) t (xg P i) < xN P := dsu_lt h ht
  have h7 := h.N7
  apply decide_eq_decide.mpr
  change dsP P (uW (whB s)) t (xg P i) ≤ dsP P (uW (whB s)) t (xf P i) + _ at s1
  change dsP P (uW (whB s)) t (xf P i) ≤ dsP P (uW (whB s)) t (xg P i) + _ at s2
  constructor
  · intro hf; have := l1 hf; omega
  · intro hf; have := l2 hf; omega
/-- a town with no whole seam is alone in its part -/
theorem alone (h : PlR P I) {t : Nat} (ht : t < xN P) : jnB P (whB s) t = 1 <<< (nI t &&& 31) ↔ atN P s t (xS P) = 0 := by
  have h7 := h.N7
  have hat : ∀ n, n ≤ xS P → (atN P s t n = 0 ↔ ∀ i, i < n → ¬ (0 < s i ∧ (xf P i = t ∨ xg P i = t))) := by
    intro n
    induction n with
    | zero => intro _; exact ⟨fun _ i hi => by omega, fun _ => rfl⟩
    | succ n ih =>
      intro hn
      have hst : atN P s t (n + 1) = atN P s t n + (if 0 < s n ∧ (xf P n = t ∨ xg P n = t) then 1 else 0) := rfl
      rw [hst]
      by_cases hc : 0 < s n ∧ (xf P n = t ∨ xg P n = t)
      · rw [if_pos hc]
        exact ⟨fun q => by omega, fun q => absurd hc (q n (by omega))⟩
      · rw [if_neg hc, Nat.add_zero, ih (by omega)]
        constructor
        · intro q i hi
          by_cases e : i = n
          · subst e; exact hc
          · exact q i (by omega)
        · intro q i hi; exact q i (by omega)
  rw [hat _ (Nat.le_refl _)]
  constructor
  · intro he i hi hc
    have hw : uW (whB s) i = 1 := by unfold uW whB; rw [if_pos (by simpa using hc.1)]
    obtain ⟨-, ⟨g1, g2, g3⟩, -⟩ := h.sm hi
    have hb : ∀ b, b ≠ t → ¬ dsP P (uW (whB s)) t b < 99999 := by
      intro b hb hlt
      have h1 := congrArg (fun z => bt z b) he
      rw [jnB_bt h ht, b_one (by omega), decide_eq_true hlt, decide_eq_false (fun q => hb q.symm)] at h1
      cases h1
    have s1 := ds_stb (okP h (uW_ok (A := whB s))) ht i (xf P i) (xg P i) ⟨hi, by omega, Or.inl ⟨rfl, rfl⟩⟩
    have s2 := ds_stb (okP h (uW_ok (A := whB s))) ht i (xg P i) (xf P i) ⟨hi, by omega, Or.inr ⟨rfl, rfl⟩⟩
    change dsP P (uW (whB s)) t (xg P i) ≤ dsP P (uW (whB s)) t (xf P i) + _ at s1
    change dsP P (uW (whB s)) t (xf P i) ≤ dsP P (uW (whB s)) t (xg P i) + _ at s2
    have h0 : dsP P (uW (whB s)) t t = 0 := ds_t
    rcases hc.2 with e | e
    · have := hb (xg P i) (by omega)
      rw [e, h0] at s1
      omega
    · have := hb (xf P i) (by omega)
      rw [e, h0] at s2
      omega
  · intro hn
    apply b_ext
    intro b _
    rw [jnB_bt h ht, b_one (by omega)]
    apply decide_eq_decide.mpr
    constructor
    · intro hlt
      refine Classical.byContradiction (fun hne => ?_)
      obtain ⟨m, ⟨c, hc1, hc2, hc3⟩, hm⟩ := pk_least (fun m => ∃ c, c ≠ t ∧ dsP P (uW (whB s)) t c < 99999 ∧ dsP P (uW (whB s)) t c = m) ⟨_, b, fun q => hne q.symm, hlt, rfl⟩
      obtain ⟨i, x, e1, e2⟩ := ds_inv (N := xN P) (S := xS P) (fs := xf P) (sc := xg P) (w := uW (whB s)) (t := t) c hc2 hc1
      have hw := uW_1 i e1.1 e1.2.1
      have hsi : 0 < s i := by
        unfold uW whB at hw
        split at hw
        · rename_i q; simpa using q
        · omega
      by_cases hx : x = t
      · refine hn i e1.1 ⟨hsi, ?_⟩
        rcases e1.2.2 with ⟨q, -⟩ | ⟨q, -⟩
        · exact Or.inl (by rw [← q]; exact hx)
        · exact Or.inr (by rw [← q]; exact hx)
      · refine hm (dsP P (uW (whB s)) t x) ?_ ⟨x, hx, ?_, rfl⟩
        · unfold dsP at hc3 ⊢; omega
        · unfold dsP at hc2 ⊢; omega
    · rintro rfl
      have h0 : dsP P (uW (whB s)) t t = 0 := ds_t
      omega
end QE
