/-! ===== ask (reference) ===== -/
section QX
variable {P : PP} {I : Nat → Nat → Int32} {J : Nat → Nat → Int64} {d : Nat} {s : Nat → Nat} {wk : Int32}
theorem lp_wo1 (hd : 6 ≤ d) {x : XS} {m : Int32} {a b : Nat} (ha : a < xN P) (hb : b < xN P) : ∀ (k i n : Nat) (I : Nat → Nat → Int32), NX P I x → (∀ j, j < i → bt m j = true → I 240 j = nI (gpN P x.1 x.2.1 j a b)) → i + k = xS P → 2 * k < n →
    ∃ I' n', n ≤ n' + 2 * k + 1 ∧ kp scM I I' ∧ k567 I I' ∧ (∀ j, j < xS P → bt m j = true → I' 240 j = nI (gpN P x.1 x.2.1 j a b)) ∧ runS (EV d) none 8 T0 C_X12_worstOf k_X12_worstOf rtI f_X12_worstOf n 3 [.ref 192, .int m, .int (nI a), .int (nI b), .int (nI i), un, un, un] [] (I, J) = runS (EV d) none 8 T0 C_X12_worstOf k_X12_worstOf rtI f_X12_worstOf n' 60 [.ref 192, .int m, un, un, .int 0, .int 0, un, un] [] (I', J) := by
  intro k
  induction k with
  | zero =>
    intro i n I h hj hi hn
    have h10 := h.1.S10
    have hv := h.1.v2
    obtain ⟨n, rfl⟩ : ∃ z, n = z + 1 := ⟨n - 1, by omega⟩
    refine ⟨I, n, by omega, kp.rf, k567.rf, fun j h9 => hj j (by omega), ?_⟩
    rw [runS_s, s_X12_worstOf_3, h.1.v, chk_in hv (by omega), nI_clamp (by omega), h.1.Sm, if_pos (nI_le (by omega) (by omega))]
  | succ k ih =>
    intro i n I h hj hi hn
    have h10 := h.1.S10
    have hv := h.1.v2
    obtain ⟨n, rfl⟩ : ∃ z, n = z + 1 + 1 := ⟨n - 2, by omega⟩
    rw [runS_s, s_X12_worstOf_3, h.1.v, chk_in hv (by omega), nI_clamp (by omega), h.1.Sm, if_neg (nI_ge (by omega) (by omega))]
    simp only [shr1_0 (w := m) (show i < 32 by omega)]
    by_cases c : bt m i = true
    · obtain ⟨I1, t1, t2, t3, t4, t5⟩ := ev_cutsOne (d := d) (J := J) hd h (show i < xS P by omega)
      obtain ⟨I2, u1, u2, -⟩ := ev_between (d := d) (J := J) (by omega) t4 ha hb
      have k2 : kp scM I (p_wr I2 240 i (nI (gpN P x.1 x.2.1 i a b))) := (t2.tr (u2.up (by decide))).wr (by decide)
      have f2 : k567 I (p_wr I2 240 i (nI (gpN P x.1 x.2.1 i a b))) := (t3.tr (k567.kp u2 (by decide))).tr (k567.kp (X := [240]) (kp.rf.wr (by decide)) (by decide))
      obtain ⟨I3, n', v1, v2, v3, v4, v5⟩ := ih (i + 1) n _ (h.go k2 f2) (fun j h9 hb9 => by
        rw [wr_eq]
        by_cases c2 : j = i
        · subst c2; rw [pk_us]
        · rw [pk_un c2, u2 240 (by decide), t5 240 (by decide) (by decide) (by decide) (by decide) (by decide)]; exact hj j (by omega) hb9) (by omega) (by omega)
      refine ⟨I3, n', by omega, k2.tr v2, f2.tr v3, v4, ?_⟩
      rw [if_neg (by rw [c]; decide), t1, p_cv_s, u1, p_ci_s, chk_in (by omega) (by omega), nI_clamp (by omega), runS_s, s_X12_worstOf_48, nI_1]
      exact v5
    · obtain ⟨I3, n', v1, v2, v3, v4, v5⟩ := ih (i + 1) n I h (fun j h9 hb9 => by
        by_cases c2 : j = i
        · subst c2; exact absurd hb9 c
        · exact hj j (by omega) hb9) (by omega) (by omega)
      refine ⟨I3, n', by omega, v2, v3, v4, ?_⟩
      rw [if_pos (Bool.eq_false_iff.mpr c), runS_s, s_X12_worstOf_48, nI_1]
      exact v5
def alO (P : PP) (s : Nat → Nat) (wk : Int32) (M : Nat → Bool) (a b i : Nat) (l : List Nat) (c : Nat) : Nat := if M i = true then l.foldl (alS P s wk M a b (gpN P s wk i a b)) c else c
theorem lp_wo3 {O : Ora} (h : PlR P I) {m : Int32} {a b i : Nat} (ha : a < xN P) (hi' : i < xS P) (hG : ∀ j, j < xS P → bt m j = true → I 240 j = nI (gpN P s wk j a b)) {q : Nat} (hq : q ≤ 20) : ∀ (k j n c : Nat), j + k = xS P → c ≤ j → 3 * k < n →
    ∃ n', n ≤ n' + 3 * k + 1 ∧ runS O none 8 T0 C_X12_worstOf k_X12_worstOf rtI f_X12_worstOf n 80 [.ref 192, .int m, un, un, .int (nI q), .int (nI i), .int (nI c), .int (nI j)] [] (I, J) = runS O none 8 T0 C_X12_worstOf k_X12_worstOf rtI f_X12_worstOf n' 60 [.ref 192, .int m, un, un, .int (nI (if alO P s wk (bt m) a b i (List.range' j k) c ≤ q then q else alO P s wk (bt m) a b i (List.range' j k) c)), .int (nI (i + 1)), un, un] [] (I, J) := by
  have h10 := h.S10
  have hv := h.v2
  intro k
  induction k with
  | zero =>
    intro j n c hj hc hn
    obtain ⟨n, rfl⟩ : ∃ z, n = z + 1 := ⟨n - 1, by omega⟩
    refine ⟨n, by omega, ?_⟩
    have e : alO P s wk (bt m) a b i (List.range' j 0) c = c := by unfold alO; rw [List.range'_zero, List.foldl_nil, ite_self]
    rw [runS_s, s_X12_worstOf_80, h.v, chk_in hv (by omega), nI_clamp (by omega), h.Sm, if_pos (nI_le (by omega) (by omega)), e]
    simp only [le_nI (show c < 2 ^ 31 by omega) (show q < 2 ^ 31 by omega), nI_1]
    by_cases c2 : c ≤ q
    · rw [if_pos c2, if_pos c2]
    · rw [if_neg c2, if_neg c2]
  | succ k ih =>
    intro j n c hj hc hn
    obtain ⟨n, rfl⟩ : ∃ z, n = z + 1 + 1 + 1 := ⟨n - 3, by omega⟩
    rw [runS_s, s_X12_worstOf_80, h.v, chk_in hv (by omega), nI_clamp (by omega), h.Sm, if_neg (nI_ge (by omega) (by omega))]
    have hp : ∀ y : Option Rs, p_chk (p_in (nI j) 10) y = y := fun y => chk_in (by omega) (by omega)
    have hp2 : ∀ y : Option Rs, p_chk (p_in (nI i) 10) y = y := fun y => chk_in (by omega) (by omega)
    simp only [shr1_1 (w := m) (show i < 32 by omega), shr1_1 (w := m) (show j < 32 by omega), hp, hp2, nI_clamp (show i < 2 ^ 31 by omega), nI_clamp (show j < 2 ^ 31 by omega)]
    by_cases c1 : bt m i = true
    · have e1 : ∀ l c, alO P s wk (bt m) a b i l c = l.foldl (alS P s wk (bt m) a b (gpN P s wk i a b)) c := fun l c => if_pos c1
      rw [if_pos c1, e1, List.range'_succ, List.foldl_cons, ← e1]
      by_cases c2 : bt m j = true
      · have l1 := gp_le (s := s) (wk := wk) (e := i) (b := b) h ha
        have l2 := gp_le (s := s) (wk := wk) (e := j) (b := b) h ha
        rw [if_pos c2]
        simp only [hG i hi' c1, hG j (show j < xS P by omega) c2, eq_nI (show gpN P s wk j a b < 2 ^ 31 by omega) (show gpN P s wk i a b < 2 ^ 31 by omega)]
        by_cases c3 : gpN P s wk j a b = gpN P s wk i a b
        · obtain ⟨n', u1, u2⟩ := ih (j + 1) n (c + 1) (by omega) (by omega) (by omega)
          refine ⟨n', by omega, ?_⟩
          rw [if_pos c3, runS_s, s_X12_worstOf_131, runS_s, s_X12_worstOf_134, nI_1, nI_1, show alS P s wk (bt m) a b (gpN P s wk i a b) c j = c + 1 from if_pos ⟨c2, c3⟩]
          exact u2
        · obtain ⟨n', u1, u2⟩ := ih (j + 1) (n + 1) c (by omega) (by omega) (by omega)
          refine ⟨n', by omega, ?_⟩
          rw [if_neg c3, runS_s, s_X12_worstOf_134, nI_1, show alS P s wk (bt m) a b (gpN P s wk i a b) c j = c from if_neg (fun h9 => c3 h9.2)]
          exact u2
      · obtain ⟨n', u1, u2⟩ := ih (j + 1) (n + 1) c (by omega) (by omega) (by omega)
        refine ⟨n', by omega, ?_⟩
        rw [if_neg c2, runS_s, s_X12_worstOf_134, nI_1, show alS P s wk (bt m) a b (gpN P s wk i a b) c j = c from if_neg (fun h9 => c2 h9.1)]
        exact u2
    · obtain ⟨n', u1, u2⟩ := ih (j + 1) (n + 1) c (by omega) (by omega) (by omega)
      refine ⟨n', by omega, ?_⟩
      have e1 : ∀ l, alO P s wk (bt m) a b i l c = c := fun l => if_neg c1
      rw [e1] at u2
      rw [if_neg c1, runS_s, s_X12_worstOf_134, nI_1, e1]
      exact u2
theorem lp_wo2 {O : Ora} (h : PlR P I) {m : Int32} {a b : Nat} (ha : a < xN P) (hG : ∀ j, j < xS P → bt m j = true → I 240 j = nI (gpN P s wk j a b)) : ∀ (k i n q : Nat), i + k = xS P → q ≤ xS P → 50 * k < n →
    runS O none 8 T0 C_X12_worstOf k_X12_worstOf rtI f_X12_worstOf n 60 [.ref 192, .int m, un, un, .int (nI q), .int (nI i), un, un] [] (I, J) = some (some (.int (nI ((List.range' i k).foldl (moS2 P s wk (bt m) a b) q))), (I, J)) := by
  have h10 := h.S10
  have hv := h.v2
  intro k
  induction k with
  | zero =>
    intro i n q hi hq hn
    obtain ⟨n, rfl⟩ : ∃ z, n = z + 1 := ⟨n - 1, by omega⟩
    rw [runS_s, s_X12_worstOf_60, h.v, chk_in hv (by omega), nI_clamp (by omega), h.Sm, if_pos (nI_le (by omega) (by omega))]
    rfl
  | succ k ih =>
    intro i n q hi hq hn
    obtain ⟨n, rfl⟩ : ∃ z, n = z + 1 := ⟨n - 1, by omega⟩
    obtain ⟨n', u1, u2⟩ := lp_wo3 (O := O) (J := J) h (m := m) ha (show i < xS P by omega) hG (q := q) (by omega) (xS P) 0 n 0 (by omega) (by omega) (by omega)
    rw [runS_s, s_X12_worstOf_60, h.v, chk_in hv (by omega), nI_clamp (by omega), h.Sm, if_neg (nI_ge (by omega) (by omega)), List.range'_succ, List.foldl_cons]
    refine u2.trans ?_
    have e : (if alO P s wk (bt m) a b i (List.range' 0 (xS P)) 0 ≤ q then q else alO P s wk (bt m) a b i (List.range' 0 (xS P)) 0) = moS2 P s wk (bt m) a b q i := by
      unfold alO moS2
      by_cases c : bt m i = true
      · simp only [if_pos c]
        show (if alN P s wk (bt m) a b (gpN P s wk i a b) ≤ q then q else alN P s wk (bt m) a b (gpN P s wk i a b)) = _
        by_cases c2 : alN P s wk (bt m) a b (gpN P s wk i a b) ≤ q
        · rw [if_pos c2, if_neg (by omega)]
        · rw [if_neg c2, if_pos (by omega)]
      · simp only [if_neg c]
        rw [if_pos (by omega)]
    rw [e]
    exact ih (i + 1) n' _ (by omega) (by
      unfold moS2
      split
      · split
        · exact alN_le
        · exact hq
      · exact hq) (by omega)
theorem ev_worst (hd : 7 ≤ d) {x : XS} (h : NX P I x) (m : Int32) {a b : Nat} (ha : a < xN P) (hb : b < xN P) : ∃ I', EV d T0 268 [.ref 192, .int m, .int (nI a), .int (nI b)] (I, J) = some (some (.int (nI (moN P x.1 x.2.1 (bt m) a b))), (I', J)) ∧ kp scM I I' ∧ k567 I I' := by
  obtain ⟨d, rfl⟩ : ∃ z, d = z + 1 := ⟨d - 1, by omega⟩
  have h10 := h.1.S10
  obtain ⟨I1, n', t1, t2, t3, t4, t5⟩ := lp_wo1 (d := d) (J := J) (by omega) (m := m) ha hb (xS P) 0 999999 I h (fun j h9 => by omega) (by omega) (by omega)
  refine ⟨I1, ?_, t2, t3⟩
  rw [e_X12_worstOf, runS_M, s_X12_worstOf_0]
  refine t5.trans ?_
  exact lp_wo2 (J := J) (h.go t2 t3).1 ha t4 (xS P) 0 n' 0 (by omega) (by omega) (by omega)
def rzA (z : Int32 × Nat) (v : Int32) : Prop := z.2 ≤ 11 ∧ ((z = (-2, 11) ∧ v = 0) ∨ ∃ q, q < 100 ∧ z.1 = nI q ∧ v = nI z.2)
theorem lp_aq2 (hd : 7 ≤ d) {x : XS} {m : Int32} {a : Nat} (ha : a < xN P) : ∀ (k b n : Nat) (z : Int32 × Nat) (v : Int32) (I : Nat → Nat → Int32), NX P I x → rzA z v → b + k = xN P → 2 * k < n →
    ∃ I' n' v', n ≤ n' + 2 * k + 1 ∧ kp scM I I' ∧ k567 I I' ∧ rzA ((List.range' b k).foldl (bqS P x.1 x.2.1 (bt m) a) z) v' ∧ runS (EV d) none 8 T0 C_X12_ask k_X12_ask rtI f_X12_ask n 53 [.ref 192, un, .int m, .int z.1, .int v, .int (nI a), .int (nI b), un] [] (I, J) = runS (EV d) none 8 T0 C_X12_ask k_X12_ask rtI f_X12_ask n' 29 [.ref 192, un, .int m, .int ((List.range' b k).foldl (bqS P x.1 x.2.1 (bt m) a) z).1, .int v', .int (nI (a + 1)), un, un] [] (I', J) := by
  intro k
  induction k with
  | zero =>
    intro b n z v I h hz hi hn
    have h7 := h.1.N7
    have hv := h.1.v2
    obtain ⟨n, rfl⟩ : ∃ z, n = z + 1 := ⟨n - 1, by omega⟩
    refine ⟨I, n, v, by omega, kp.rf, k567.rf, hz, ?_⟩
    rw [runS_s, s_X12_ask_53, h.1.v, chk_in hv (by omega), nI_clamp (by omega), h.1.Nm, if_pos (nI_le (by omega) (by omega)), nI_1]
    rfl
  | succ k ih =>
    intro b n z v I h hz hi hn
    have h7 := h.1.N7
    have h10 := h.1.S10
    have hv := h.1.v2
    obtain ⟨n, rfl⟩ : ∃ z, n = z + 1 + 1 := ⟨n - 2, by omega⟩
    have hle := moN_le (P := P) (s := x.1) (wk := x.2.1) (M := bt m) (a := a) (b := b)
    obtain ⟨I1, t1, t2, t3⟩ := ev_worst (d := d) (J := J) hd h m ha (show b < xN P by omega)
    have hN := h.go t2 t3
    rw [runS_s, s_X12_ask_53, h.1.v, chk_in hv (by omega), nI_clamp (by omega), h.1.Nm, if_neg (nI_ge (by omega) (by omega)), t1, p_ci_s, List.range'_succ, List.foldl_cons, show (10 : Int32) * nI a + nI b = nI (10 * a + b) from ten_nI a b]
    have hT : ¬ z.2 ≤ moN P x.1 x.2.1 (bt m) a b → rzA (bqS P x.1 x.2.1 (bt m) a z b) (nI (moN P x.1 x.2.1 (bt m) a b)) ∧ bqS P x.1 x.2.1 (bt m) a z b = (nI (10 * a + b), moN P x.1 x.2.1 (bt m) a b) := fun c => by
      have e : bqS P x.1 x.2.1 (bt m) a z b = (nI (10 * a + b), moN P x.1 x.2.1 (bt m) a b) := if_neg c
      rw [e]
      exact ⟨⟨by dsimp only; omega, Or.inr ⟨10 * a + b, by omega, rfl, rfl⟩⟩, rfl⟩
    have hS : bqS P x.1 x.2.1 (bt m) a z b = (nI (10 * a + b), moN P x.1 x.2.1 (bt m) a b) → rzA (bqS P x.1 x.2.1 (bt m) a z b) (nI (moN P x.1 x.2.1 (bt m) a b)) → ∃ I' n' v', n + 1 + 1 ≤ n' + 2 * (k + 1) + 1 ∧ kp scM I I' ∧ k567 I I' ∧ rzA ((List.range' (b + 1) k).foldl (bqS P x.1 x.2.1 (bt m) a) (bqS P x.1 x.2.1 (bt m) a z b)) v' ∧ runS (EV d) none 8 T0 C_X12_ask k_X12_ask rtI f_X12_ask (n + 1) 101 [.ref 192, un, .int m, .int (nI (10 * a + b)), un, .int (nI a), .int (nI b), .int (nI (moN P x.1 x.2.1 (bt m) a b))] [] (I1, J) = runS (EV d) none 8 T0 C_X12_ask k_X12_ask rtI f_X12_ask n' 29 [.ref 192, un, .int m, .int ((List.range' (b + 1) k).foldl (bqS P x.1 x.2.1 (bt m) a) (bqS P x.1 x.2.1 (bt m) a z b)).1, .int v', .int (nI (a + 1)), un, un] [] (I', J) := by
      intro e hr
      rw [e] at hr ⊢
      obtain ⟨I2, n', v', u1, u2, u3, u4, u5⟩ := ih (b + 1) n _ _ I1 hN hr (by omega) (by omega)
      refine ⟨I2, n', v', by omega, t2.tr u2, t3.tr u3, u4, ?_⟩
      rw [runS_s, s_X12_ask_101, nI_1]
      exact u5
    obtain ⟨hz1, hz2⟩ := hz
    rcases hz2 with ⟨e1, e2⟩ | ⟨q, hq, e1, e2⟩
    · have c : ¬ z.2 ≤ moN P x.1 x.2.1 (bt m) a b := by rw [e1]; dsimp only; omega
      rw [if_pos (show z.1 < 0 by rw [e1]; decide)]
      exact hS (hT c).2 (hT c).1
    · rw [if_neg (show ¬ z.1 < 0 by rw [e1]; exact nI_nlt (b := 0) (by omega) (by omega)), e2]
      simp only [lt_nI (show moN P x.1 x.2.1 (bt m) a b < 2 ^ 31 by omega) (show z.2 < 2 ^ 31 by omega)]
      by_cases c : z.2 ≤ moN P x.1 x.2.1 (bt m) a b
      · rw [if_neg (by omega), show bqS P x.1 x.2.1 (bt m) a z b = z from if_pos c, nI_1]
        obtain ⟨I2, n', v', u1, u2, u3, u4, u5⟩ := ih (b + 1) (n + 1) z (nI z.2) I1 hN ⟨hz1, Or.inr ⟨q, hq, e1, rfl⟩⟩ (by omega) (by omega)
        exact ⟨I2, n', v', by omega, t2.tr u2, t3.tr u3, u4, u5⟩
      · rw [if_pos (by omega)]
        exact hS (hT c).2 (hT c).1
theorem lp_aq1 (hd : 7 ≤ d) {x : XS} {m : Int32} (hm : ¬ m = 0) : ∀ (k a n : Nat) (z : Int32 × Nat) (v : Int32) (I : Nat → Nat → Int32), NX P I x → rzA z v → a + k = xN P → 30 * k < n →
    ∃ I', runS (EV d) none 8 T0 C_X12_ask k_X12_ask rtI f_X12_ask n 29 [.ref 192, un, .int m, .int z.1, .int v, .int (nI a), un, un] [] (I, J) = some (some (.int ((List.range' a k).foldl (bqA P x.1 x.2.1 (bt m)) z).1), (I', J)) ∧ kp scM I I' ∧ k567 I I' := by
  intro k
  induction k with
  | zero =>
    intro a n z v I h hz hi hn
    have h7 := h.1.N7
    have hv := h.1.v2
    obtain ⟨n, rfl⟩ : ∃ z, n = z + 1 := ⟨n - 1, by omega⟩
    rw [runS_s, s_X12_ask_29, h.1.v, chk_in hv (by omega), nI_clamp (by omega), h.1.Nm, if_pos (nI_le (by omega) (by omega))]
    exact ⟨I, rfl, kp.rf, k567.rf⟩
  | succ k ih =>
    intro a n z v I h hz hi hn
    have h7 := h.1.N7
    have hv := h.1.v2
    obtain ⟨n, rfl⟩ : ∃ z, n = z + 1 := ⟨n - 1, by omega⟩
    obtain ⟨I1, n', v', u1, u2, u3, u4, u5⟩ := lp_aq2 (d := d) (J := J) hd (m := m) (show a < xN P by omega) k (a + 1) n z v I h hz (by omega) (by omega)
    have e : (List.range' (a + 1) k).foldl (bqS P x.1 x.2.1 (bt m) a) z = bqA P x.1 x.2.1 (bt m) z a := by unfold bqA; rw [show xN P - (a + 1) = k by omega]
    rw [e] at u4 u5
    obtain ⟨I2, w1, w2, w3⟩ := ih (a + 1) n' _ v' I1 (h.go u2 u3) u4 (by omega) (by omega)
    refine ⟨I2, ?_, u2.tr w2, u3.tr w3⟩
    rw [runS_s, s_X12_ask_29, h.1.v, chk_in hv (by omega), nI_clamp (by omega), h.1.Nm, if_neg (nI_ge (by omega) (by omega)), if_neg hm, nI_1, List.range'_succ, List.foldl_cons]
    exact u5.trans w1
theorem m_ask (hd : 8 ≤ d) {x : XS} (h : NX P I x) {n0 : Nat} {τ : Nat → Nat × Nat × Nat} (hT : TDM P I n0 τ) (a : Int32) : MQq d 269 [.ref 192, .int a] I J (askQ P x n0 τ a) := by
  obtain ⟨d, rfl⟩ : ∃ z, d = z + 1 := ⟨d - 1, by omega⟩
  have h20 := hT.2.1
  have h7 := h.1.N7
  have hv := h.1.v2
  unfold MQq askQ
  rw [e_X12_ask, runS_M, s_X12_ask_0, hT.1, q_in (by omega), p_ci_s]
  rcases in_c (n := a) (lo := 0) (hi := nI n0) (l := 0) (h := n0) rfl rfl (by omega) (by omega) with e | ⟨e, k, k1, k2, rfl⟩
  · rw [if_pos e, if_pos e]; exact ⟨I, rfl, kp.rf, k567.rf⟩
  have hne : ¬ zI (¬ nI k < (0 : Int32) ∧ ¬ nI n0 < nI k) = 0 := by rw [e]; decide
  obtain ⟨I1, t1, t2, t3⟩ := ev_cutBits (d := d) (J := J) (by omega) k2 h hT
  have hN := h.go t2 t3
  rw [if_neg hne, if_neg hne, t1, p_ci_s, show (999999 : Nat) = 999997 + 1 + 1 from rfl, runS_s, s_X12_ask_20, nI_clamp (by omega)]
  by_cases c : cutM P x.1 x.2.1 τ k = 0
  · refine ⟨I1, ?_, t2, t3⟩
    rw [if_pos c, runS_s, s_X12_ask_29, hN.1.v, chk_in hv (by omega), if_pos c, ite_self]
    rfl
  · obtain ⟨I2, u1, u2, u3⟩ := lp_aq1 (d := d) (J := J) (by omega) c (xN P) 0 (999997 + 1) (-2, 11) 0 I1 hN ⟨by decide, Or.inl ⟨rfl, rfl⟩⟩ (by omega) (by omega)
    refine ⟨I2, ?_, t2.tr u2, t3.tr u3⟩
    rw [if_neg c]
    exact u1
end QX
