section QF
variable {P : PP} {I : Nat → Nat → Int32} {J : Nat → Nat → Int64} {d : Nat} {s : Nat → Nat} {wk : Int32}
/-- one town of ROWS: the sum, the towns seen -/
def roS (P : PP) (s : Nat → Nat) (q : Nat × (Nat → Bool)) (t : Nat) : Nat × (Nat → Bool) := if q.2 t = true then q else if atN P s t (xS P) = 0 then q else (q.1 + (if oddN P s t = 0 then 1 else oddN P s t / 2), fun b => q.2 b || decide (dsP P (uW (whB s)) t b < 99999))
def rowsQ (P : PP) (s : Nat → Nat) : Int32 := nI (((List.range' 0 (xN P)).foldl (roS P s) (0, fun _ => false)).1)
theorem oddN_le (h : PlR P I) {t : Nat} : oddN P s t ≤ 7 := by
  have h7 := h.N7
  unfold oddN
  rw [suN_pc]
  have := pcN_le (A := fun j => decide (dsP P (uW (whB s)) t j < 99999) && decide (atN P s j (xS P) % 2 = 1)) (xN P)
  omega
theorem lp_walks (hd : 4 ≤ d) (h : PlR P I) {m : Int32} (hm : ∀ i, bt m i = decide (i < xS P ∧ 0 < s i)) : ∀ (k i n : Nat) (seen : Int32) (q : Nat × (Nat → Bool)), i + k = xN P → k < n → q.1 ≤ 10 * i → (∀ b, i ≤ b → b < xN P → bt seen b = q.2 b) →
    runS (EV d) none 6 T0 C_X1_walks k_X1_walks rtI f_X1_walks n 7 [.ref 172, .int m, .int (nI q.1), .int seen, .int (nI i), un] [] (I, J) = some (some (.int (nI (((List.range' i k).foldl (roS P s) q).1))), (I, J)) := by
  have h7 := h.N7
  intro k
  induction k with
  | zero =>
    intro i n seen q hi hn hq hb
    obtain ⟨n, rfl⟩ : ∃ z, n = z + 1 := ⟨n - 1, by omega⟩
    rw [runS_s, s_X1_walks_7, h.N, if_pos (nI_le (by omega) (by omega))]
    rfl
  | succ k ih =>
    intro i n seen q hi hn hq hb
    obtain ⟨n, rfl⟩ : ∃ z, n = z + 1 := ⟨n - 1, by omega⟩
    have hi' : i < xN P := by omega
    have hst : (List.range' i (k + 1)).foldl (roS P s) q = (List.range' (i + 1) k).foldl (roS P s) (roS P s q i) := rfl
    rw [runS_s, s_X1_walks_7, h.N, if_neg (nI_ge (by omega) (by omega)), q_bit (by omega) _ (by omega), p_ci_s, nI_1, hst, hb i (Nat.le_refl _) hi']
    by_cases hs : q.2 i = true
    · rw [zI_t hs, if_neg (by decide), show roS P s q i = q from if_pos hs]
      exact ih (i + 1) n seen q (by omega) (by omega) (by omega) (fun b h1 h2 => hb b (by omega) h2)
    · rw [zI_f hs, if_pos rfl, q_reach (by omega) h, p_ci_s, rch_jnB h hi', jnB_cg (wh_cg hm i)]
      by_cases ha : atN P s i (xS P) = 0
      · rw [if_pos ((alone h hi').mpr ha), show roS P s q i = q by unfold roS; rw [if_neg hs, if_pos ha]]
        refine ih (i + 1) n _ q (by omega) (by omega) (by omega) (fun b h1 h2 => ?_)
        rw [(alone h hi').mpr ha, b_or, b_one (by omega), decide_eq_false (by omega), Bool.or_false]
        exact hb b (by omega) h2
      · have hodd := oddN_le (s := s) h (t := i)
        have hev := odd_even (s := s) h hi'
        have er : roS P s q i = (q.1 + (if oddN P s i = 0 then 1 else oddN P s i / 2), fun b => q.2 b || decide (dsP P (uW (whB s)) i b < 99999)) := by unfold roS; rw [if_neg hs, if_neg ha]
        rw [if_neg (fun e => ha ((alone h hi').mp e)), ev_oddTowns (by omega) h hm hi', p_ci_s, er]
        have e2 : nI (oddN P s i) / 2 = nI (oddN P s i / 2) := pk_div (d := 2) (by omega) (by omega) (by omega)
        have e3 : (if (1 : Int32) < nI (oddN P s i / 2) then nI (oddN P s i / 2) else 1) = nI (if oddN P s i = 0 then 1 else oddN P s i / 2) := by
          by_cases h1 : 1 < oddN P s i / 2
          · rw [if_pos (show (1 : Int32) < nI (oddN P s i / 2) from nI_lt (a := 1) h1 (by omega)), if_neg (by omega)]
          · rw [if_neg (show ¬ (1 : Int32) < nI (oddN P s i / 2) from nI_nlt (a := 1) (by omega) (by omega))]
            have : (if oddN P s i = 0 then 1 else oddN P s i / 2) = 1 := by
              split
              · rfl
              · omega
            rw [this]; rfl
        rw [e2, e3, nI_add]
        refine ih (i + 1) n _ (q.1 + (if oddN P s i = 0 then 1 else oddN P s i / 2), fun b => q.2 b || decide (dsP P (uW (whB s)) i b < 99999)) (by omega) (by omega) (by dsimp only; split <;> omega) (fun b h1 h2 => ?_)
        rw [b_or, jnB_bt h hi', hb b (by omega) h2]
theorem c_rows (hd : 6 ≤ d) (h : CS P I s wk) : CQ d 142 [.ref 0] I J (rowsQ P s) := by
  obtain ⟨d, rfl⟩ : ∃ z, d = z + 2 := ⟨d - 2, by omega⟩
  obtain ⟨h1, h2, h3⟩ := h
  have h7 := h1.N7
  obtain ⟨m, w1, w2⟩ := ev_whole_39 (d := d + 1) (J := J) (by omega) h1 h2
  refine ⟨I, ?_, kp.rf⟩
  rw [e_X11_rows, runS_M, s_X11_rows_0, w1, p_ci_s, e_X1_walks, runS_M, s_X1_walks_0]
  have h9 := lp_walks (d := d) (J := J) (by omega) h1 w2 (xN P) 0 999999 0 (0, fun _ => false) (by omega) (by omega) (by omega) (fun b _ _ => b_0 b)
  have h8 : runS (EV d) none 6 T0 C_X1_walks k_X1_walks rtI f_X1_walks 999999 7 [.ref 172, .int m, .int 0, .int 0, .int 0, un] [] (I, J) = _ := h9
  rw [h8, p_ci_s]
  rfl
theorem ev_otherEnd (hd : 1 ≤ d) (h : PlR P I) {i b : Nat} (hi : i < xS P) (hb : b < 100) : EV d T0 224 [.ref 192, .int (nI i), .int (nI b)] (I, J) = some (some (.int (if xf P i = b then nI (xg P i) else if xg P i = b then nI (xf P i) else -1)), (I, J)) := by
  obtain ⟨d, rfl⟩ : ∃ z, d = z + 1 := ⟨d - 1, by omega⟩
  have h7 := h.N7
  have h10 := h.S10
  have hv := h.v2
  obtain ⟨-, ⟨g1, g2, g3⟩, -, -, -, f6, f7, -⟩ := h.sm hi
  have hp : ∀ x : Option Rs, p_chk (p_in (nI (10 * xv P + i)) 20) x = x := fun x => chk_in (by omega) (by omega)
  rw [e_X12_otherEnd, runS_M, s_X12_otherEnd_0]
  simp only [h.v, ten_nI, hp, nI_clamp (show 10 * xv P + i < 2 ^ 31 by omega), f6, f7, eq_nI (show xf P i < 2 ^ 31 by omega) (show b < 2 ^ 31 by omega), eq_nI (show xg P i < 2 ^ 31 by omega) (show b < 2 ^ 31 by omega)]
  by_cases e1 : xf P i = b
  · rw [if_pos e1, if_pos e1]; rfl
  · rw [if_neg e1, if_neg e1]
    by_cases e2 : xg P i = b
    · rw [if_pos e2, if_pos e2]; rfl
    · rw [if_neg e2, if_neg e2]; rfl
theorem lp_wholeAt (hd : 1 ≤ d) (h : PlR P I) (hs : swR P (I 230) s) {b : Nat} (hb : b < 100) : ∀ (k i n : Nat), i + k = xS P → k < n →
    runS (EV d) none 4 T0 C_X12_wholeAt k_X12_wholeAt rtI f_X12_wholeAt n 4 [.ref 192, .int (nI b), .int (nI (atN P s b i)), .int (nI i)] [] (I, J) = some (some (.int (nI (atN P s b (xS P)))), (I, J)) := by
  have h10 := h.S10
  have h7 := h.N7
  have hv := h.v2
  intro k
  induction k with
  | zero =>
    intro i n hi hn
    obtain ⟨n, rfl⟩ : ∃ z, n = z + 1 := ⟨n - 1, by omega⟩
    have e : i = xS P := by omega
    subst e
    rw [runS_s, s_X12_wholeAt_4, h.v, chk_in hv (by omega), nI_clamp (by omega), h.Sm, if_pos (Int32.le_refl _)]
    rfl
  | succ k ih =>
    intro i n hi hn
    obtain ⟨n, rfl⟩ : ∃ z, n = z + 1 := ⟨n - 1, by omega⟩
    have hi' : i < xS P := by omega
    have h9 := (hs i hi').2
    obtain ⟨-, ⟨g1, g2, g3⟩, -⟩ := h.sm hi'
    have hst : atN P s b (i + 1) = atN P s b i + (if 0 < s i ∧ (xf P i = b ∨ xg P i = b) then 1 else 0) := rfl
    have h8 := ih (i + 1) n (by omega) (by omega)
    rw [runS_s, s_X12_wholeAt_4, h.v, chk_in hv (by omega), nI_clamp (by omega), h.Sm, if_neg (nI_ge (by omega) (by omega)), chk_in (by omega) (by omega), nI_clamp (by omega), (hs i hi').1, nI_1]
    by_cases h0 : 0 < s i
    · rw [if_neg (by rw [le0_nI (by omega)]; omega), ev_otherEnd hd h hi' hb, p_ci_s]
      by_cases e1 : xf P i = b
      · rw [if_pos e1, if_neg (nI_pos (by omega)), nI_1]
        rw [if_pos ⟨h0, Or.inl e1⟩] at hst
        rw [← hst]; exact h8
      · rw [if_neg e1]
        by_cases e2 : xg P i = b
        · rw [if_pos e2, if_neg (nI_pos (by omega)), nI_1]
          rw [if_pos ⟨h0, Or.inr e2⟩] at hst
          rw [← hst]; exact h8
        · rw [if_neg e2, if_pos (by decide)]
          rw [if_neg (fun q => by omega)] at hst
          have hst : atN P s b (i + 1) = atN P s b i := hst
          rw [← hst]; exact h8
    · rw [if_pos (by rw [le0_nI (by omega)]; omega)]
      rw [if_neg (fun q => h0 q.1)] at hst
      have hst : atN P s b (i + 1) = atN P s b i := hst
      rw [← hst]; exact h8
theorem ev_wholeAt (hd : 2 ≤ d) (h : PlR P I) (hs : swR P (I 230) s) {b : Nat} (hb : b < 100) : EV d T0 253 [.ref 192, .int (nI b)] (I, J) = some (some (.int (nI (atN P s b (xS P)))), (I, J)) := by
  obtain ⟨d, rfl⟩ : ∃ z, d = z + 1 := ⟨d - 1, by omega⟩
  have h10 := h.S10
  rw [e_X12_wholeAt, runS_M, s_X12_wholeAt_0]
  exact lp_wholeAt (by omega) h hs hb (xS P) 0 999999 (by omega) (by omega)
theorem lp_rows1 (hd : 2 ≤ d) (h : PlR P I) (hs : swR P (I 230) s) {part : Int32} {A : Nat → Bool} (hA : ∀ b, b < xN P → bt part b = A b) {sum seen t : Nat} {sn : Int32} : ∀ (k i n : Nat), i + k = xN P →
    runS (EV d) none 7 T0 C_X12_rows k_X12_rows rtI f_X12_rows (n + k + 1) 61 [.ref 192, .int (nI sum), .int sn, .int (nI t), .int part, .int (nI (suN A (fun b => atN P s b (xS P) % 2) i)), .int (nI i)] [] (I, J) =
    runS (EV d) none 7 T0 C_X12_rows k_X12_rows rtI f_X12_rows n 10 [.ref 192, .int (nI (sum + (if suN A (fun b => atN P s b (xS P) % 2) (xN P) = 0 then 1 else suN A (fun b => atN P s b (xS P) % 2) (xN P) / 2))), .int sn, .int (nI (t + 1)), un, un, un] [] (I, J) := by
  have h10 := h.S10
  have h7 := h.N7
  have hv := h.v2
  have hle : ∀ n, n ≤ 7 → suN A (fun b => atN P s b (xS P) % 2) n ≤ 7 := fun n hn => by
    rw [suN_pc]
    have := pcN_le (A := fun j => A j && decide (atN P s j (xS P) % 2 = 1)) n
    omega
  intro k
  induction k with
  | zero =>
    intro i n hi
    have e : i = xN P := by omega
    subst e
    have h6 := hle (xN P) h7
    rw [runS_s, s_X12_rows_61, h.v, chk_in hv (by omega), nI_clamp (by omega), h.Nm, if_pos (Int32.le_refl _)]
    simp only [eq0_nI (show suN A (fun b => atN P s b (xS P) % 2) (xN P) < 2 ^ 31 by omega)]
    by_cases hc : suN A (fun b => atN P s b (xS P) % 2) (xN P) = 0
    · rw [if_pos hc, if_pos hc, nI_1, nI_1]
    · rw [if_neg hc, if_neg hc, show nI (suN A (fun b => atN P s b (xS P) % 2) (xN P)) / 2 = nI (suN A (fun b => atN P s b (xS P) % 2) (xN P) / 2) from pk_div (d := 2) (by omega) (by omega) (by omega), nI_add, nI_1]
  | succ k ih =>
    intro i n hi
    have hi' : i < xN P := by omega
    have h6 := atN_le (P := P) (s := s) (b := i) (xS P)
    have hst : suN A (fun b => atN P s b (xS P) % 2) (i + 1) = suN A (fun b => atN P s b (xS P) % 2) i + (if A i = true then atN P s i (xS P) % 2 else 0) := rfl
    have h8 := ih (i + 1) n (by omega)
    rw [show n + (k + 1) + 1 = (n + k + 1) + 1 by omega, runS_s, s_X12_rows_61, h.v, chk_in hv (by omega), nI_clamp (by omega), h.Nm, if_neg (nI_ge (by omega) (by omega)), nI_1]
    simp only [shr1_1 (show i < 32 by omega), hA i hi']
    by_cases hq : A i = true
    · rw [if_pos hq, ev_wholeAt hd h hs (by omega), p_ci_s, show nI (atN P s i (xS P)) - nI (atN P s i (xS P)) / 2 * 2 = nI (atN P s i (xS P) % 2) from pk_rem (d := 2) (by omega) (by omega) (by omega), nI_add]
      rw [if_pos hq] at hst
      rw [← hst]; exact h8
    · rw [if_neg hq]
      rw [if_neg hq] at hst
      have hst : suN A (fun b => atN P s b (xS P) % 2) (i + 1) = suN A (fun b => atN P s b (xS P) % 2) i := hst
      rw [← hst]; exact h8
theorem lp_rows2 (hd : 3 ≤ d) : ∀ (k i n : Nat) (seen : Int32) (q : Nat × (Nat → Bool)) (I : Nat → Nat → Int32), RS P I s wk → i + k = xN P → 20 * k < n → q.1 ≤ 10 * i → (∀ b, i ≤ b → b < xN P → bt seen b = q.2 b) →
    ∃ I', runS (EV d) none 7 T0 C_X12_rows k_X12_rows rtI f_X12_rows n 10 [.ref 192, .int (nI q.1), .int seen, .int (nI i), un, un, un] [] (I, J) = some (some (.int (nI (((List.range' i k).foldl (roS P s) q).1))), (I', J)) ∧ kp [231, 232] I I' := by
  intro k
  induction k with
  | zero =>
    intro i n seen q I h hi hn hq hb
    have h7 := h.1.N7
    have hv := h.1.v2
    obtain ⟨n, rfl⟩ : ∃ z, n = z + 1 := ⟨n - 1, by omega⟩
    rw [runS_s, s_X12_rows_10, h.1.v, chk_in hv (by omega), nI_clamp (by omega), h.1.Nm, if_pos (nI_le (by omega) (by omega))]
    exact ⟨I, rfl, kp.rf⟩
  | succ k ih =>
    intro i n seen q I h hi hn hq hb
    have h7 := h.1.N7
    have hv := h.1.v2
    have hi' : i < xN P := by omega
    have h10 := h.1.S10
    have hat := atN_le (P := P) (s := s) (b := i) (xS P)
    obtain ⟨n, rfl⟩ : ∃ z, n = ((z + xN P + 1) + 1) + 1 := ⟨n - xN P - 3, by omega⟩
    have hst : (List.range' i (k + 1)).foldl (roS P s) q = (List.range' (i + 1) k).foldl (roS P s) (roS P s q i) := rfl
    rw [runS_s, s_X12_rows_10, h.1.v, chk_in hv (by omega), nI_clamp (by omega), h.1.Nm, if_neg (nI_ge (by omega) (by omega)), nI_1, hst]
    simp only [shr1_1 (show i < 32 by omega), hb i (Nat.le_refl _) hi']
    by_cases hs : q.2 i = true
    · rw [if_pos hs, show roS P s q i = q from if_pos hs]
      exact ih (i + 1) _ seen q I h (by omega) (by omega) (by omega) (fun b h1 h2 => hb b (by omega) h2)
    · rw [if_neg hs, ev_wholeAt (by omega) h.1 h.2.1 (by omega), p_ci_s]
      simp only [eq0_nI (show atN P s i (xS P) < 2 ^ 31 by omega)]
      by_cases ha : atN P s i (xS P) = 0
      · rw [if_pos ha, show roS P s q i = q by unfold roS; rw [if_neg hs, if_pos ha]]
        exact ih (i + 1) _ seen q I h (by omega) (by omega) (by omega) (fun b h1 h2 => hb b (by omega) h2)
      · have er : roS P s q i = (q.1 + (if oddN P s i = 0 then 1 else oddN P s i / 2), fun b => q.2 b || decide (dsP P (uW (whB s)) i b < 99999)) := by unfold roS; rw [if_neg hs, if_neg ha]
        obtain ⟨I1, t1, t2⟩ := ev_joinedTo (d := d) (J := J) hd h.1 h.2.1 hi'
        have r1 : RS P I1 s wk := h.go t2 (by decide) (by rw [t2 192 (by decide)])
        have hodd := oddN_le (s := s) h.1 (t := i)
        rw [if_neg ha, t1, p_ci_s, runS_s, s_X12_rows_50, er]
        have h9 := lp_rows1 (d := d) (J := J) (by omega) r1.1 r1.2.1 (part := jnB P (whB s) i) (A := fun b => decide (dsP P (uW (whB s)) i b < 99999)) (fun b _ => jnB_bt h.1 hi' b) (sum := q.1) (seen := 0) (t := i) (sn := seen ||| jnB P (whB s) i) (xN P) 0 n (by omega)
        have h8 : runS (EV d) none 7 T0 C_X12_rows k_X12_rows rtI f_X12_rows (n + xN P + 1) 61 [.ref 192, .int (nI q.1), .int (seen ||| jnB P (whB s) i), .int (nI i), .int (jnB P (whB s) i), .int 0, .int 0] [] (I1, J) = _ := h9
        rw [h8]
        change ∃ I', runS (EV d) none 7 T0 C_X12_rows k_X12_rows rtI f_X12_rows n 10 [.ref 192, .int (nI (q.1 + (if oddN P s i = 0 then 1 else oddN P s i / 2))), .int (seen ||| jnB P (whB s) i), .int (nI (i + 1)), un, un, un] [] (I1, J) = _ ∧ _
        obtain ⟨I2, u1, u2⟩ := ih (i + 1) n (seen ||| jnB P (whB s) i) (q.1 + (if oddN P s i = 0 then 1 else oddN P s i / 2), fun b => q.2 b || decide (dsP P (uW (whB s)) i b < 99999)) I1 r1 (by omega) (by omega) (by dsimp only; split <;> omega) (fun b h1 h2 => by rw [b_or, jnB_bt h.1 hi', hb b (by omega) h2])
        exact ⟨I2, u1, t2.tr u2⟩
theorem m_rows (hd : 4 ≤ d) (h : MS P I s wk) : MQq d 254 [.ref 192] I J (rowsQ P s) := by
  obtain ⟨d, rfl⟩ : ∃ z, d = z + 1 := ⟨d - 1, by omega⟩
  have h7 := h.1.N7
  obtain ⟨I1, t1, t2, t3, -, -, -, r⟩ := h.row (d := d) (J := J) (by omega)
  obtain ⟨I2, u1, u2⟩ := lp_rows2 (d := d) (J := J) (by omega) (xN P) 0 999999 0 (0, fun _ => false) I1 r (by omega) (by omega) (by omega) (fun b _ _ => b_0 b)
  refine ⟨I2, ?_, (t2.up (by decide)).tr (u2.up (by decide)), t3.tr (k567.kp u2 (by decide))⟩
  rw [e_X12_rows, runS_M, s_X12_rows_0, t1, p_cv_s]
  exact u1
end QF
