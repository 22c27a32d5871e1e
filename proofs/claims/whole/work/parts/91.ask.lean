/-! ===== ask ===== -/
section QW
variable {P : PP} {I : Nat → Nat → Int32} {J : Nat → Nat → Int64} {d : Nat} {s : Nat → Nat} {wk : Int32}
/-- how many of the cuts M are as far as g -/
def alS (P : PP) (s : Nat → Nat) (wk : Int32) (M : Nat → Bool) (a b g : Nat) (c j : Nat) : Nat := if M j = true ∧ gpN P s wk j a b = g then c + 1 else c
def alN (P : PP) (s : Nat → Nat) (wk : Int32) (M : Nat → Bool) (a b g : Nat) : Nat := (List.range' 0 (xS P)).foldl (alS P s wk M a b g) 0
def moS2 (P : PP) (s : Nat → Nat) (wk : Int32) (M : Nat → Bool) (a b : Nat) (c i : Nat) : Nat := if M i = true then (if c < alN P s wk M a b (gpN P s wk i a b) then alN P s wk M a b (gpN P s wk i a b) else c) else c
def moN (P : PP) (s : Nat → Nat) (wk : Int32) (M : Nat → Bool) (a b : Nat) : Nat := (List.range' 0 (xS P)).foldl (moS2 P s wk M a b) 0
theorem al_le {M : Nat → Bool} {a b g : Nat} : ∀ (l : List Nat) (c : Nat), l.foldl (alS P s wk M a b g) c ≤ c + l.length := by
  intro l
  induction l with
  | nil => intro c; exact Nat.le_refl _
  | cons j l ih =>
    intro c
    have h1 := ih (alS P s wk M a b g c j)
    have h2 : alS P s wk M a b g c j ≤ c + 1 := by unfold alS; split <;> omega
    rw [List.foldl_cons, List.length_cons]; omega
theorem alN_le {M : Nat → Bool} {a b g : Nat} : alN P s wk M a b g ≤ xS P := by
  have := al_le (P := P) (s := s) (wk := wk) (M := M) (a := a) (b := b) (g := g) (List.range' 0 (xS P)) 0
  rw [List.length_range'] at this; unfold alN; omega
theorem mo_le {M : Nat → Bool} {a b : Nat} : ∀ (l : List Nat) (c : Nat), c ≤ xS P → l.foldl (moS2 P s wk M a b) c ≤ xS P := by
  intro l
  induction l with
  | nil => intro c hc; exact hc
  | cons j l ih =>
    intro c hc
    refine ih _ ?_
    unfold moS2
    split
    · split
      · exact alN_le
      · exact hc
    · exact hc
theorem moN_le {M : Nat → Bool} {a b : Nat} : moN P s wk M a b ≤ xS P := mo_le _ 0 (by omega)
def bqS (P : PP) (s : Nat → Nat) (wk : Int32) (M : Nat → Bool) (a : Nat) (z : Int32 × Nat) (b : Nat) : Int32 × Nat := if z.2 ≤ moN P s wk M a b then z else (nI (10 * a + b), moN P s wk M a b)
def bqA (P : PP) (s : Nat → Nat) (wk : Int32) (M : Nat → Bool) (z : Int32 × Nat) (a : Nat) : Int32 × Nat := (List.range' (a + 1) (xN P - (a + 1))).foldl (bqS P s wk M a) z
def bqN (P : PP) (s : Nat → Nat) (wk : Int32) (M : Nat → Bool) : Int32 × Nat := (List.range' 0 (xN P)).foldl (bqA P s wk M) (-2, 11)
def askQ (P : PP) (x : XS) (n0 : Nat) (τ : Nat → Nat × Nat × Nat) (a : Int32) : Int32 := if zI (¬ a < 0 ∧ ¬ nI n0 < a) = 0 then -1 else if cutM P x.1 x.2.1 τ a.toNatClampNeg = 0 then -2 else (bqN P x.1 x.2.1 (bt (cutM P x.1 x.2.1 τ a.toNatClampNeg))).1
/-! class -/
def mkO (P : PP) (s : Nat → Nat) (m : Int32) : Prop := ∀ i, bt m i = true → i < xS P ∧ 0 < s i
theorem lp_alike (hd : 1 ≤ d) (h : PlR P I) (hg : gpD P s wk I (49 * xS P)) {m : Int32} (hm : mkO P s m) {a b g : Nat} (ha : a < xN P) (hb : b < xN P) (hgl : g ≤ 693) : ∀ (k i n c : Nat), i + k = xS P → k < n → c ≤ i →
    runS (EV d) none 7 T0 C_X6_alike k_X6_alike rtI f_X6_alike n 6 [.ref 178, .int m, .int (nI a), .int (nI b), .int (nI g), .int (nI c), .int (nI i)] [] (I, J) = some (some (.int (nI ((List.range' i k).foldl (alS P s wk (bt m) a b g) c))), (I, J)) := by
  have h7 := h.N7
  have h10 := h.S10
  intro k
  induction k with
  | zero =>
    intro i n c hi hn hc
    obtain ⟨n, rfl⟩ : ∃ z, n = z + 1 := ⟨n - 1, by omega⟩
    rw [runS_s, s_X6_alike_6, h.S, if_pos (nI_le (by omega) (by omega))]
    rfl
  | succ k ih =>
    intro i n c hi hn hc
    obtain ⟨n, rfl⟩ : ∃ z, n = z + 1 := ⟨n - 1, by omega⟩
    rw [runS_s, s_X6_alike_6, h.S, if_neg (nI_ge (by omega) (by omega)), q_bit hd m (by omega), p_ci_s, nI_1, List.range'_succ, List.foldl_cons]
    by_cases hb1 : bt m i = true
    · have hle := gp_le (s := s) (wk := wk) (e := i) (b := b) h ha
      rw [if_neg (by rw [zI_t hb1]; decide), q_pair hd, p_ci_s, chk_in (by omega) (by omega), nI_clamp (by omega)]
      simp only [hg i a b (by omega) (hm i hb1).2 ha hb (by omega), eq_nI (show gpN P s wk i a b < 2 ^ 31 by omega) (show g < 2 ^ 31 by omega)]
      by_cases c2 : gpN P s wk i a b = g
      · rw [if_pos c2, nI_1, show alS P s wk (bt m) a b g c i = c + 1 from if_pos ⟨hb1, c2⟩]
        exact ih (i + 1) n (c + 1) (by omega) (by omega) (by omega)
      · rw [if_neg c2, show alS P s wk (bt m) a b g c i = c from if_neg (fun h9 => c2 h9.2)]
        exact ih (i + 1) n c (by omega) (by omega) (by omega)
    · rw [if_pos (zI_f hb1), show alS P s wk (bt m) a b g c i = c from if_neg (fun h9 => hb1 h9.1)]
      exact ih (i + 1) n c (by omega) (by omega) (by omega)
theorem ev_alike (hd : 2 ≤ d) (h : PlR P I) (hg : gpD P s wk I (49 * xS P)) {m : Int32} (hm : mkO P s m) {a b g : Nat} (ha : a < xN P) (hb : b < xN P) (hgl : g ≤ 693) : EV d T0 71 [.ref 178, .int m, .int (nI a), .int (nI b), .int (nI g)] (I, J) = some (some (.int (nI (alN P s wk (bt m) a b g))), (I, J)) := by
  obtain ⟨d, rfl⟩ : ∃ z, d = z + 1 := ⟨d - 1, by omega⟩
  have h10 := h.S10
  rw [e_X6_alike, runS_M, s_X6_alike_0]
  exact lp_alike (d := d) (J := J) (by omega) h hg hm ha hb hgl (xS P) 0 999999 0 (by omega) (by omega) (by omega)
theorem lp_most (hd : 2 ≤ d) (h : PlR P I) (hg : gpD P s wk I (49 * xS P)) {m : Int32} (hm : mkO P s m) {a b : Nat} (ha : a < xN P) (hb : b < xN P) : ∀ (k i n c : Nat), i + k = xS P → k < n → c ≤ xS P →
    runS (EV d) none 6 T0 C_X6_mostAlike k_X6_mostAlike rtI f_X6_mostAlike n 6 [.ref 178, .int m, .int (nI a), .int (nI b), .int (nI c), .int (nI i)] [] (I, J) = some (some (.int (nI ((List.range' i k).foldl (moS2 P s wk (bt m) a b) c))), (I, J)) := by
  have h7 := h.N7
  have h10 := h.S10
  intro k
  induction k with
  | zero =>
    intro i n c hi hn hc
    obtain ⟨n, rfl⟩ : ∃ z, n = z + 1 := ⟨n - 1, by omega⟩
    rw [runS_s, s_X6_mostAlike_6, h.S, if_pos (nI_le (by omega) (by omega))]
    rfl
  | succ k ih =>
    intro i n c hi hn hc
    obtain ⟨n, rfl⟩ : ∃ z, n = z + 1 := ⟨n - 1, by omega⟩
    rw [runS_s, s_X6_mostAlike_6, h.S, if_neg (nI_ge (by omega) (by omega)), q_bit (by omega) m (by omega), p_ci_s, nI_1, List.range'_succ, List.foldl_cons]
    by_cases hb1 : bt m i = true
    · have hle := gp_le (s := s) (wk := wk) (e := i) (b := b) h ha
      have hal := alN_le (P := P) (s := s) (wk := wk) (M := bt m) (a := a) (b := b) (g := gpN P s wk i a b)
      rw [if_neg (by rw [zI_t hb1]; decide), q_pair (by omega), p_ci_s, chk_in (by omega) (by omega), nI_clamp (by omega)]
      dsimp only
      rw [hg i a b (by omega) (hm i hb1).2 ha hb (by omega), ev_alike hd h hg hm ha hb hle, p_ci_s]
      have e : (if nI c < nI (alN P s wk (bt m) a b (gpN P s wk i a b)) then nI (alN P s wk (bt m) a b (gpN P s wk i a b)) else nI c) = nI (moS2 P s wk (bt m) a b c i) := by
        unfold moS2
        simp only [lt_nI (show c < 2 ^ 31 by omega) (show alN P s wk (bt m) a b (gpN P s wk i a b) < 2 ^ 31 by omega)]
        rw [if_pos hb1]
        split <;> rfl
      rw [e]
      exact ih (i + 1) n _ (by omega) (by omega) (by unfold moS2; rw [if_pos hb1]; split <;> omega)
    · rw [if_pos (zI_f hb1), show moS2 P s wk (bt m) a b c i = c from if_neg hb1]
      exact ih (i + 1) n c (by omega) (by omega) hc
theorem ev_most (hd : 3 ≤ d) (h : PlR P I) (hg : gpD P s wk I (49 * xS P)) {m : Int32} (hm : mkO P s m) {a b : Nat} (ha : a < xN P) (hb : b < xN P) : EV d T0 70 [.ref 178, .int m, .int (nI a), .int (nI b)] (I, J) = some (some (.int (nI (moN P s wk (bt m) a b))), (I, J)) := by
  obtain ⟨d, rfl⟩ : ∃ z, d = z + 1 := ⟨d - 1, by omega⟩
  have h10 := h.S10
  rw [e_X6_mostAlike, runS_M, s_X6_mostAlike_0]
  exact lp_most (d := d) (J := J) (by omega) h hg hm ha hb (xS P) 0 999999 0 (by omega) (by omega) (by omega)
theorem lp_bq2 (hd : 3 ≤ d) (h : PlR P I) (hg : gpD P s wk I (49 * xS P)) {m : Int32} (hm : mkO P s m) {a : Nat} (ha : a < xN P) : ∀ (k b n : Nat) (z : Int32 × Nat), b + k = xN P → z.2 ≤ 11 → k < n →
    ∃ n', n ≤ n' + k + 1 ∧ ((List.range' b k).foldl (bqS P s wk (bt m) a) z).2 ≤ 11 ∧ runS (EV d) none 7 T0 C_X6_bestQuestion k_X6_bestQuestion rtI f_X6_bestQuestion n 27 [.ref 178, .int m, .int z.1, .int (nI z.2), .int (nI a), .int (nI b), un] [] (I, J) = runS (EV d) none 7 T0 C_X6_bestQuestion k_X6_bestQuestion rtI f_X6_bestQuestion n' 9 [.ref 178, .int m, .int ((List.range' b k).foldl (bqS P s wk (bt m) a) z).1, .int (nI ((List.range' b k).foldl (bqS P s wk (bt m) a) z).2), .int (nI (a + 1)), un, un] [] (I, J) := by
  have h7 := h.N7
  have h10 := h.S10
  intro k
  induction k with
  | zero =>
    intro b n z hi hz hn
    obtain ⟨n, rfl⟩ : ∃ z, n = z + 1 := ⟨n - 1, by omega⟩
    refine ⟨n, by omega, hz, ?_⟩
    rw [runS_s, s_X6_bestQuestion_27, h.N, if_pos (nI_le (by omega) (by omega)), nI_1]
    rfl
  | succ k ih =>
    intro b n z hi hz hn
    obtain ⟨n, rfl⟩ : ∃ z, n = z + 1 := ⟨n - 1, by omega⟩
    have hle := moN_le (P := P) (s := s) (wk := wk) (M := bt m) (a := a) (b := b)
    obtain ⟨n', u1, u2, u3⟩ := ih (b + 1) n (bqS P s wk (bt m) a z b) (by omega) (by unfold bqS; split; exact hz; dsimp only; omega) (by omega)
    refine ⟨n', by omega, u2, ?_⟩
    rw [runS_s, s_X6_bestQuestion_27, h.N, if_neg (nI_ge (by omega) (by omega)), ev_most hd h hg hm ha (by omega), p_ci_s, List.range'_succ, List.foldl_cons, nI_1]
    simp only [le_nI (show z.2 < 2 ^ 31 by omega) (show moN P s wk (bt m) a b < 2 ^ 31 by omega)]
    by_cases c : z.2 ≤ moN P s wk (bt m) a b
    · rw [show bqS P s wk (bt m) a z b = z from if_pos c] at u3 ⊢
      rw [if_pos c]; exact u3
    · rw [show bqS P s wk (bt m) a z b = (nI (10 * a + b), moN P s wk (bt m) a b) from if_neg c] at u3 ⊢
      rw [if_neg c, show (10 : Int32) * nI a + nI b = nI (10 * a + b) from ten_nI a b]; exact u3
theorem lp_bq1 (hd : 3 ≤ d) (h : PlR P I) (hg : gpD P s wk I (49 * xS P)) {m : Int32} (hm : mkO P s m) : ∀ (k a n : Nat) (z : Int32 × Nat), a + k = xN P → z.2 ≤ 11 → 20 * k < n →
    runS (EV d) none 7 T0 C_X6_bestQuestion k_X6_bestQuestion rtI f_X6_bestQuestion n 9 [.ref 178, .int m, .int z.1, .int (nI z.2), .int (nI a), un, un] [] (I, J) = some (some (.int ((List.range' a k).foldl (bqA P s wk (bt m)) z).1), (I, J)) := by
  have h7 := h.N7
  intro k
  induction k with
  | zero =>
    intro a n z hi hz hn
    obtain ⟨n, rfl⟩ : ∃ z, n = z + 1 := ⟨n - 1, by omega⟩
    rw [runS_s, s_X6_bestQuestion_9, h.N, if_pos (nI_le (by omega) (by omega))]
    rfl
  | succ k ih =>
    intro a n z hi hz hn
    obtain ⟨n, rfl⟩ : ∃ z, n = z + 1 := ⟨n - 1, by omega⟩
    obtain ⟨n', u1, u2, u3⟩ := lp_bq2 (d := d) (J := J) hd h hg hm (show a < xN P by omega) k (a + 1) n z (by omega) hz (by omega)
    have e : (List.range' (a + 1) k).foldl (bqS P s wk (bt m) a) z = bqA P s wk (bt m) z a := by unfold bqA; rw [show xN P - (a + 1) = k by omega]
    rw [e] at u2 u3
    rw [runS_s, s_X6_bestQuestion_9, h.N, if_neg (nI_ge (by omega) (by omega)), nI_1, List.range'_succ, List.foldl_cons]
    exact u3.trans (ih (a + 1) n' _ (by omega) u2 (by omega))
theorem c_ask (hd : 7 ≤ d) {x : XS} (h : CX_39 P I x) {n0 : Nat} {τ : Nat → Nat × Nat × Nat} (hT : TDC P I n0 τ) (a : Int32) : CQ d 151 [.ref 0, .int a] I J (askQ P x n0 τ a) := by
  obtain ⟨d, rfl⟩ : ∃ z, d = z + 2 := ⟨d - 2, by omega⟩
  have h20 := hT.2.1
  have h7 := h.1.N7
  unfold CQ askQ
  rw [e_X11_ask, runS_M, s_X11_ask_0, hT.1, q_within (by omega), p_ci_s]
  rcases in_c (n := a) (lo := 0) (hi := nI n0) (l := 0) (h := n0) rfl rfl (by omega) (by omega) with e | ⟨e, k, k1, k2, rfl⟩
  · rw [if_pos e, if_pos e]; exact ⟨I, rfl, kp.rf⟩
  have hne : ¬ zI (¬ nI k < (0 : Int32) ∧ ¬ nI n0 < nI k) = 0 := by rw [e]; decide
  obtain ⟨I1, t1, t2, t3, t4⟩ := ev_possible (d := d + 1) (J := J) (by omega) h hT k2
  refine ⟨I1, ?_, t2.up (by decide)⟩
  rw [if_neg hne, if_neg hne, t1, p_ci_s, show (999999 : Nat) = 999998 + 1 from rfl, runS_s, s_X11_ask_23, nI_clamp (by omega)]
  by_cases c : cutM P x.1 x.2.1 τ k = 0
  · rw [if_pos c, if_pos c]; rfl
  · rw [if_neg c, if_neg c, e_X6_bestQuestion, runS_M, s_X6_bestQuestion_0]
    have hq := lp_bq1 (d := d) (J := J) (by omega) t3.1 t4 (m := cutM P x.1 x.2.1 τ k) (fun i hi => by
      rw [cutM_bt h.1] at hi
      have := of_decide_eq_true hi
      exact ⟨this.1, this.2.1⟩) (xN P) 0 999999 (-2, 11) (by omega) (by decide) (by omega)
    have hq' : runS (EV d) none 7 T0 C_X6_bestQuestion k_X6_bestQuestion rtI f_X6_bestQuestion 999999 9 [.ref 178, .int (cutM P x.1 x.2.1 τ k), .int (-2), .int 11, .int 0, un, un] [] (I1, J) = _ := hq
    rw [hq', p_ci_s]
    rfl
end QW
