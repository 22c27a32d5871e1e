section QH
variable {P : PP} {I : Nat → Nat → Int32} {J : Nat → Nat → Int64} {d : Nat} {s : Nat → Nat} {wk : Int32}
def loR (o : Option Nat) (x : Int32) : Int32 := match o with
  | none => x
  | some f => nI f
theorem lp_ja1 {w m : Int32} : ∀ (a n : Nat) (x : Int32), a ≤ 7 →
    runS (EV d) none 5 T0 C_X12_joinsAll k_X12_joinsAll rtZ f_X12_joinsAll (n + a) 15 [.ref 192, .int m, .int w, .int x, .int (nI a - 1)] [] (I, J) = runS (EV d) none 5 T0 C_X12_joinsAll k_X12_joinsAll rtZ f_X12_joinsAll n 15 [.ref 192, .int m, .int w, .int (loR (loN w a) x), .int (-1)] [] (I, J) := by
  intro a
  induction a with
  | zero => intro n x _; rfl
  | succ a ih =>
    intro n x ha
    rw [show n + (a + 1) = (n + a) + 1 by omega, runS_s, s_X12_joinsAll_15, nI_pred, if_neg (nI_pos (by omega)), show nI a + (-1) = nI a - 1 from (Int32.sub_eq_add_neg _ _).symm]
    simp only [shr1_1 (show a < 32 by omega)]
    have hst : loN w (a + 1) = (match loN w a with
      | some b => some b
      | none => if bt w a = true then some a else none) := rfl
    by_cases hb : bt w a = true
    · rw [if_pos hb, ih n (nI a) (by omega), hst]
      cases hq : loN w a with
      | none => simp only [hb, if_true]; rfl
      | some f => rfl
    · rw [if_neg hb, ih n x (by omega), hst]
      cases hq : loN w a with
      | none => simp only [hb]; rfl
      | some f => rfl
theorem lp_ja2 (h : PlR P I) {w : Int32} {m f : Nat} : ∀ (k i n : Nat) (g : Nat → Int32), i + k = xS P → (∀ j, j < i → g j = nI (uW (fun i => m.testBit i) j)) →
    ∃ g', (∀ j, j < xS P → g' j = nI (uW (fun i => m.testBit i) j)) ∧ runS (EV d) none 5 T0 C_X12_joinsAll k_X12_joinsAll rtZ f_X12_joinsAll (n + k + 1) 48 [.ref 192, .int (nI m), .int w, .int (nI f), .int (nI i)] [] (cs I 232 g, J) = p_cv (EV d T0 222 [.ref 192, .int (nI f)] (cs I 232 g', J)) (fun z1 => runS (EV d) none 5 T0 C_X12_joinsAll k_X12_joinsAll rtZ f_X12_joinsAll n 100 [.ref 192, un, .int w, un, .int 0] [] z1) := by
  have hv := h.v2
  have h10 := h.S10
  intro k
  induction k with
  | zero =>
    intro i n g hi hg
    have e : i = xS P := by omega
    subst e
    refine ⟨g, hg, ?_⟩
    rw [runS_s, s_X12_joinsAll_48, cs_ne (show (192 : Nat) ≠ 232 by decide), cs_ne (show (203 : Nat) ≠ 232 by decide), h.v, chk_in hv (by omega), nI_clamp (by omega), h.Sm, if_pos (Int32.le_refl _)]
  | succ k ih =>
    intro i n g hi hg
    have hp : ∀ x : Option Rs, p_chk (p_in (nI i) 10) x = x := fun x => chk_in (by omega) (by omega)
    have hgo : ∀ x : Int32, x = nI (uW (fun i => m.testBit i) i) → ∀ j, j < i + 1 → upd g i x j = nI (uW (fun i => m.testBit i) j) := by
      intro x hx j hj
      by_cases e : j = i
      · subst e; rw [pk_us, hx]
      · rw [pk_un e]; exact hg j (by omega)
    by_cases hb : m.testBit i = true
    · obtain ⟨g', q1, q2⟩ := ih (i + 1) n (upd g i 1) (by omega) (hgo 1 (by unfold uW; rw [if_pos hb]; rfl))
      refine ⟨g', q1, ?_⟩
      rw [show n + (k + 1) + 1 = (n + k + 1) + 1 by omega, runS_s, s_X12_joinsAll_48, cs_ne (show (192 : Nat) ≠ 232 by decide), cs_ne (show (203 : Nat) ≠ 232 by decide), h.v, chk_in hv (by omega), nI_clamp (by omega), h.Sm, if_neg (nI_ge (by omega) (by omega)), nI_1]
      simp only [shr1_1 (show i < 32 by omega), bt_nI (show i < 32 by omega), hp, nI_clamp (show i < 2 ^ 31 by omega), wr_cs2]
      rw [if_pos hb]
      exact q2
    · obtain ⟨g', q1, q2⟩ := ih (i + 1) n (upd g i 99999) (by omega) (hgo 99999 (by unfold uW; rw [if_neg hb]; rfl))
      refine ⟨g', q1, ?_⟩
      rw [show n + (k + 1) + 1 = (n + k + 1) + 1 by omega, runS_s, s_X12_joinsAll_48, cs_ne (show (192 : Nat) ≠ 232 by decide), cs_ne (show (203 : Nat) ≠ 232 by decide), h.v, chk_in hv (by omega), nI_clamp (by omega), h.Sm, if_neg (nI_ge (by omega) (by omega)), nI_1]
      simp only [shr1_1 (show i < 32 by omega), bt_nI (show i < 32 by omega), hp, nI_clamp (show i < 2 ^ 31 by omega), wr_cs2]
      rw [if_neg hb]
      exact q2
theorem allB_s {f : Nat → Bool} {n : Nat} : allB f (n + 1) = (allB f n && f n) := rfl
theorem lp_ja3 (h : PlR P I) {w : Int32} {m f : Nat} (hf : ∀ j, j < 7 → I 231 j = nI (dsP P (uW (fun i => m.testBit i)) f j)) : ∀ (k i n : Nat), i + k = xN P → k < n → allB (fun a => !(bt w a) || decide (dsP P (uW (fun i => m.testBit i)) f a < 99999)) i = true →
    runS (EV d) none 5 T0 C_X12_joinsAll k_X12_joinsAll rtZ f_X12_joinsAll n 100 [.ref 192, un, .int w, un, .int (nI i)] [] (I, J) = some (some (.int (zI (allB (fun a => !(bt w a) || decide (dsP P (uW (fun i => m.testBit i)) f a < 99999)) (xN P) = true))), (I, J)) := by
  have hv := h.v2
  have h7 := h.N7
  intro k
  induction k with
  | zero =>
    intro i n hi hn hall
    obtain ⟨n, rfl⟩ : ∃ z, n = z + 1 := ⟨n - 1, by omega⟩
    have e : i = xN P := by omega
    subst e
    rw [runS_s, s_X12_joinsAll_100, h.v, chk_in hv (by omega), nI_clamp (by omega), h.Nm, if_pos (Int32.le_refl _), zI_t hall]
    rfl
  | succ k ih =>
    intro i n hi hn hall
    obtain ⟨n, rfl⟩ : ∃ z, n = z + 1 := ⟨n - 1, by omega⟩
    have hle : dsP P (uW (fun i => m.testBit i)) f i ≤ 99999 := ds_le
    have hp : ∀ x : Option Rs, p_chk (p_in (nI i) 7) x = x := fun x => chk_in (by omega) (by omega)
    rw [runS_s, s_X12_joinsAll_100, h.v, chk_in hv (by omega), nI_clamp (by omega), h.Nm, if_neg (nI_ge (by omega) (by omega)), nI_1]
    simp only [shr1_1 (show i < 32 by omega), hp, nI_clamp (show i < 2 ^ 31 by omega), hf i (show i < 7 by omega), lt_99999 hle]
    by_cases hb : bt w i = true
    · rw [if_pos hb]
      by_cases hr : dsP P (uW (fun i => m.testBit i)) f i < 99999
      · rw [if_pos hr]
        exact ih (i + 1) n (by omega) (by omega) (by rw [allB_s, hall, decide_eq_true hr]; simp)
      · rw [if_neg hr, zI_f (fun hq => by
          have := (allB_t _).mp hq i (by omega)
          rw [hb, decide_eq_false hr] at this
          cases this)]
        rfl
    · rw [if_neg hb]
      have hb' : bt w i = false := by simpa using hb
      exact ih (i + 1) n (by omega) (by omega) (by rw [allB_s, hall, hb']; simp)
theorem ev_joinsAll (hd : 2 ≤ d) (h : PlR P I) {w : Int32} {m : Nat} : ∃ I', EV d T0 247 [.ref 192, .int (nI m), .int w] (I, J) = some (some (.int (zI (jaB P w m = true))), (I', J)) ∧ kp [231, 232] I I' := by
  obtain ⟨d, rfl⟩ : ∃ z, d = z + 1 := ⟨d - 1, by omega⟩
  have hv := h.v2
  have h7 := h.N7
  have h10 := h.S10
  have e1 := lp_ja1 (d := d) (I := I) (J := J) (w := w) (m := nI m) (xN P) (999999 - xN P) (-1) h7
  rw [show 999999 - xN P + xN P = 999999 by omega] at e1
  rw [e_X12_joinsAll, runS_M, s_X12_joinsAll_0, h.v, chk_in hv (by omega), nI_clamp (by omega), h.Nm, e1]
  obtain ⟨n, hn⟩ : ∃ z, 999999 - xN P = (z + xS P + 1) + 1 := ⟨999999 - xN P - xS P - 2, by omega⟩
  rw [hn, runS_s, s_X12_joinsAll_15, if_pos (by decide)]
  unfold jaB
  cases hl : loN w (xN P) with
  | none =>
    rw [if_neg (show ¬ (0 : Int32) ≤ loR none (-1) by decide), zI_t rfl]
    exact ⟨I, rfl, kp.rf⟩
  | some f =>
    obtain ⟨hf, -⟩ := loN_some _ hl
    rw [if_pos (show (0 : Int32) ≤ loR (some f) (-1) from nI_pos' (by omega))]
    obtain ⟨g', q1, q2⟩ := lp_ja2 (d := d) (J := J) h (w := w) (m := m) (f := f) (xS P) 0 n (I 232) (by omega) (fun j hj => by omega)
    rw [cs_self] at q2
    have q3 : runS (EV d) none 5 T0 C_X12_joinsAll k_X12_joinsAll rtZ f_X12_joinsAll (n + xS P + 1) 48 [.ref 192, .int (nI m), .int w, .int (loR (some f) (-1)), .int 0] [] (I, J) = _ := q2
    have k1 : kp [231, 232] I (cs I 232 g') := kp.rf.cs (by decide)
    have p1 : PlR P (cs I 232 g') := plr_kx h k1 (by decide) (by rw [k1 192 (by decide)])
    obtain ⟨f', v1, v2⟩ := ev_farR (d := d) (J := J) (by omega) p1 (uW_ok (A := fun i => m.testBit i)) (fun i hi => by rw [cs_eq]; exact q1 i hi) hf
    have k2 : kp [231, 232] I (cs (cs I 232 g') 231 f') := k1.cs (by decide)
    rw [q3, v1, p_cv_s]
    have h9 := lp_ja3 (d := d) (J := J) (plr_kx h k2 (by decide) (by rw [k2 192 (by decide)])) (w := w) (m := m) (f := f) (fun j hj => by rw [cs_eq]; exact v2 j hj) (xN P) 0 n (by omega) (by omega) rfl
    exact ⟨_, h9, k2⟩
theorem lp_sw1 (hd : 6 ≤ d) {v : Nat} (hv : v ≤ 99) {w c : Int32} : ∀ (k i n : Nat) (I : Nat → Nat → Int32), RS P I s wk → i + k = xS P → (∀ j, j < i → I 236 j = tkF P j wk (v - s j) (s j) 0) →
    ∃ I', kp [227, 228, 230, 236, 192] I I' ∧ k53 I I' ∧ RS P I' s wk ∧ (∀ j, j < xS P → I' 236 j = tkF P j wk (v - s j) (s j) 0) ∧ runS (EV d) none 9 T0 C_X12_sewing k_X12_sewing rtI f_X12_sewing (n + k + 1) 46 [.ref 192, .int w, .int (nI v), .int c, .int (nI i), un, un, un, un] [] (I, J) = runS (EV d) none 9 T0 C_X12_sewing k_X12_sewing rtI f_X12_sewing n 89 [.ref 192, .int w, un, .int c, .int (-1), .int 0, .int 0, un, un] [] (I', J) := by
  intro k
  induction k with
  | zero =>
    intro i n I h hi hj
    have hv2 := h.1.v2
    have h10 := h.1.S10
    have e : i = xS P := by omega
    subst e
    refine ⟨I, kp.rf, k53.rf, h, hj, ?_⟩
    rw [runS_s, s_X12_sewing_46, h.1.v, chk_in hv2 (by omega), nI_clamp (by omega), h.1.Sm, if_pos (Int32.le_refl _)]
  | succ k ih =>
    intro i n I h hi hj
    have hv2 := h.1.v2
    have h10 := h.1.S10
    have hi' : i < xS P := by omega
    obtain ⟨I1, t1, t2, t3, t4⟩ := ev_takesNow (d := d) (J := J) (by omega) h hi' hv
    have k1 : kp [227, 228, 230, 236, 192] I (p_wr I1 236 i (tkF P i wk (v - s i) (s i) 0)) := (t2.up (by decide)).wr (by decide)
    have f1 : k53 I (p_wr I1 236 i (tkF P i wk (v - s i) (s i) 0)) := fun j hj => by rw [wr_ne (by decide)]; exact t3 j hj
    have r1 : RS P (p_wr I1 236 i (tkF P i wk (v - s i) (s i) 0)) s wk := ⟨plr_kx h.1 k1 (by decide) (f1 18 (by decide)), h.2.1.cg (fun j _ => by rw [wr_ne (by decide)]; exact t4 j), by rw [wr_ne (by decide), t4]; exact h.2.2⟩
    obtain ⟨I2, u1, u2, u3, u4, u5⟩ := ih (i + 1) n _ r1 (by omega) (fun j hj2 => by
      rw [wr_eq]
      by_cases e : j = i
      · subst e; rw [pk_us]
      · rw [pk_un e, t2 236 (by decide)]; exact hj j (by omega))
    refine ⟨I2, k1.tr u1, f1.tr u2, u3, u4, ?_⟩
    rw [show n + (k + 1) + 1 = (n + k + 1) + 1 by omega, runS_s, s_X12_sewing_46, h.1.v, chk_in hv2 (by omega), nI_clamp (by omega), h.1.Sm, if_neg (nI_ge (by omega) (by omega)), t1, p_ci_s, chk_in (by omega) (by omega), nI_clamp (by omega), nI_1]
    exact u5
/-- the sum of a set, then whether it is better -/
theorem lp_sw2 (h : PlR P I) {tk : Nat → Int32} (ht : ∀ j, j < xS P → I 236 j = tk j) {w c b l : Int32} {m : Nat} : ∀ (k i n : Nat), i + k = xS P →
    runS (EV d) none 9 T0 C_X12_sewing k_X12_sewing rtI f_X12_sewing (n + k + 1) 111 [.ref 192, .int w, un, .int c, .int b, .int l, .int (nI m), .int (csF tk i m), .int (nI i)] [] (I, J) =
    runS (EV d) none 9 T0 C_X12_sewing k_X12_sewing rtI f_X12_sewing (n + 1) 111 [.ref 192, .int w, un, .int c, .int b, .int l, .int (nI m), .int (csF tk (xS P) m), .int (nI (xS P))] [] (I, J) := by
  have hv := h.v2
  have h10 := h.S10
  intro k
  induction k with
  | zero =>
    intro i n hi
    have e : i = xS P := by omega
    subst e
    rfl
  | succ k ih =>
    intro i n hi
    have hst : csF tk (i + 1) m = if m.testBit i = true then csF tk i m + tk i else csF tk i m := rfl
    have hp : ∀ x : Option Rs, p_chk (p_in (nI i) 10) x = x := fun x => chk_in (by omega) (by omega)
    have h8 := ih (i + 1) n (by omega)
    rw [show n + (k + 1) + 1 = (n + k + 1) + 1 by omega, runS_s, s_X12_sewing_111, h.v, chk_in hv (by omega), nI_clamp (by omega), h.Sm, if_neg (nI_ge (by omega) (by omega)), nI_1]
    simp only [shr1_1 (show i < 32 by omega), bt_nI (show i < 32 by omega), hp, nI_clamp (show i < 2 ^ 31 by omega), ht i (show i < xS P by omega)]
    by_cases hb : m.testBit i = true
    · rw [if_pos hb]
      rw [if_pos hb] at hst
      rw [hst] at h8
      exact h8
    · rw [if_neg hb]
      rw [if_neg hb] at hst
      rw [hst] at h8
      exact h8
def lsI (cost : Nat → Int32) (b : Option Nat) : Int32 := match b with
  | none => 0
  | some x => cost x
theorem lp_sw3 (hd : 3 ≤ d) {tk : Nat → Int32} {w : Int32} {c : Int32} : ∀ (k m n : Nat) (b : Option Nat) (I : Nat → Nat → Int32), PlR P I → (∀ j, j < xS P → I 236 j = tk j) → m + k = 2 ^ xS P → 30 * k < n → (∀ x, b = some x → x < 2 ^ xS P) →
    ∃ I', runS (EV d) none 9 T0 C_X12_sewing k_X12_sewing rtI f_X12_sewing n 89 [.ref 192, .int w, un, .int c, .int (obI b), .int (lsI (csF tk (xS P)) b), .int (nI m), un, un] [] (I, J) = some (some (.int (match (List.range' m k).foldl (seS (csF tk (xS P)) (jaB P w)) b with
      | none => -2
      | some x => if c = 0 then csF tk (xS P) x else nI x)), (I', J)) ∧ kp [231, 232] I I' := by
  intro k
  induction k with
  | zero =>
    intro m n b I h ht hm hn hb
    have hv := h.v2
    have h10 := h.S10
    have hS : 2 ^ xS P ≤ 2 ^ 10 := p2_le h10
    obtain ⟨n, rfl⟩ : ∃ z, n = z + 1 := ⟨n - 1, by omega⟩
    rw [runS_s, s_X12_sewing_89, h.v, chk_in hv (by omega), nI_clamp (by omega), h.Sm, shl_nI (xS P) (by omega), if_pos (nI_le (by omega) (by omega))]
    refine ⟨I, ?_, kp.rf⟩
    have e0 : (List.range' m 0).foldl (seS (csF tk (xS P)) (jaB P w)) b = b := rfl
    rw [e0]
    cases b with
    | none => rw [if_neg (show ¬ (0 : Int32) ≤ obI none by decide)]; rfl
    | some x =>
      have hx := hb x rfl
      rw [if_pos (show (0 : Int32) ≤ obI (some x) from nI_pos' (by omega))]
      by_cases hc : c = 0
      · rw [if_pos hc]; dsimp only; rw [if_pos hc]; rfl
      · rw [if_neg hc]; dsimp only; rw [if_neg hc]; rfl
  | succ k ih =>
    intro m n b I h ht hm hn hb
    have hv := h.v2
    have h10 := h.S10
    have hS : 2 ^ xS P ≤ 2 ^ 10 := p2_le h10
    obtain ⟨n, rfl⟩ : ∃ z, n = (z + xS P + 1) + 1 := ⟨n - xS P - 2, by omega⟩
    have e1 := lp_sw2 (d := d) (J := J) h ht (w := w) (c := c) (b := obI b) (l := lsI (csF tk (xS P)) b) (m := m) (xS P) 0 n (by omega)
    have e2 : runS (EV d) none 9 T0 C_X12_sewing k_X12_sewing rtI f_X12_sewing (n + xS P + 1) 111 [.ref 192, .int w, un, .int c, .int (obI b), .int (lsI (csF tk (xS P)) b), .int (nI m), .int 0, .int 0] [] (I, J) = _ := e1
    have hst : (List.range' m (k + 1)).foldl (seS (csF tk (xS P)) (jaB P w)) b = (List.range' (m + 1) k).foldl (seS (csF tk (xS P)) (jaB P w)) (seS (csF tk (xS P)) (jaB P w) b m) := rfl
    rw [runS_s, s_X12_sewing_89, h.v, chk_in hv (by omega), nI_clamp (by omega), h.Sm, shl_nI (xS P) (by omega), if_neg (nI_ge (by omega) (by omega)), e2, runS_s, s_X12_sewing_111, h.v, chk_in hv (by omega), nI_clamp (by omega), h.Sm, if_pos (Int32.le_refl _), hst]
    obtain ⟨I1, t1, t2⟩ := ev_joinsAll (d := d) (J := J) (by omega) h (w := w) (m := m)
    have p1 : PlR P I1 := plr_kx h t2 (by decide) (by rw [t2 192 (by decide)])
    have ht1 : ∀ j, j < xS P → I1 236 j = tk j := fun j hj => by rw [t2 236 (by decide)]; exact ht j hj
    cases b with
    | none =>
      rw [if_pos (show obI none < 0 by decide), t1, p_ci_s, nI_1]
      by_cases hj : jaB P w m = true
      · rw [zI_t hj, if_neg (by decide), show seS (csF tk (xS P)) (jaB P w) none m = some m from if_pos hj]
        obtain ⟨I2, u1, u2⟩ := ih (m + 1) n (some m) I1 p1 ht1 (by omega) (by omega) (fun x hx => by cases hx; omega)
        exact ⟨I2, u1, t2.tr u2⟩
      · rw [zI_f hj, if_pos rfl, show seS (csF tk (xS P)) (jaB P w) none m = none from if_neg hj]
        obtain ⟨I2, u1, u2⟩ := ih (m + 1) n none I1 p1 ht1 (by omega) (by omega) hb
        exact ⟨I2, u1, t2.tr u2⟩
    | some x =>
      have hx := hb x rfl
      rw [if_neg (show ¬ obI (some x) < 0 from nI_pos (by omega)), nI_1]
      show ∃ I', (if csF tk (xS P) x ≤ csF tk (xS P) m then _ else _) = _ ∧ _
      by_cases h1 : csF tk (xS P) x ≤ csF tk (xS P) m
      · rw [if_pos h1, show seS (csF tk (xS P)) (jaB P w) (some x) m = some x from if_pos h1]
        exact ih (m + 1) n (some x) I h ht (by omega) (by omega) hb
      · rw [if_neg h1, t1, p_ci_s]
        by_cases hj : jaB P w m = true
        · rw [zI_t hj, if_neg (by decide), show seS (csF tk (xS P)) (jaB P w) (some x) m = some m by unfold seS; dsimp only; rw [if_neg h1, if_pos hj]]
          obtain ⟨I2, u1, u2⟩ := ih (m + 1) n (some m) I1 p1 ht1 (by omega) (by omega) (fun x hx => by cases hx; omega)
          exact ⟨I2, u1, t2.tr u2⟩
        · rw [zI_f hj, if_pos rfl, show seS (csF tk (xS P)) (jaB P w) (some x) m = some x by unfold seS; dsimp only; rw [if_neg h1, if_neg hj]]
          obtain ⟨I2, u1, u2⟩ := ih (m + 1) n (some x) I1 p1 ht1 (by omega) (by omega) hb
          exact ⟨I2, u1, t2.tr u2⟩
theorem m_sewing (hd : 7 ≤ d) (h : MS P I s wk) (a b c : Int32) : MQq d 248 [.ref 192, .int a, .int b, .int c] I J (sewQ P s wk a b c) := by
  obtain ⟨d, rfl⟩ : ∃ z, d = z + 1 := ⟨d - 1, by omega⟩
  have h1 := h.1
  have h7 := h1.N7
  have h10 := h1.S10
  have hv := h1.v2
  have hN : 2 ^ xN P ≤ 2 ^ 7 := p2_le h7
  have hN0 : 0 < 2 ^ xN P := Nat.pow_pos (by omega)
  have hS : 2 ^ xS P ≤ 2 ^ 10 := p2_le h10
  unfold MQq sewQ
  rw [e_X12_sewing, runS_M, s_X12_sewing_0, h1.v, chk_in hv (by omega), nI_clamp (by omega), h1.Nm, shl_nI (xN P) (by omega), show (nI (2 ^ xN P) - 1 : Int32) = nI (2 ^ xN P - 1) from pk_sub (b := 1) (by omega), q_in (by omega), p_ci_s]
  rcases in_c (n := a) (lo := 0) (hi := nI (2 ^ xN P - 1)) (l := 0) (h := 2 ^ xN P - 1) rfl rfl (by omega) (by omega) with e1 | ⟨e1, w, -, w2, rfl⟩
  · rw [if_pos e1, if_pos e1]; exact ⟨I, rfl, kp.rf, k567.rf⟩
  have hne1 : ¬ zI (¬ nI w < (0 : Int32) ∧ ¬ nI (2 ^ xN P - 1) < nI w) = 0 := by rw [e1]; decide
  rw [if_neg hne1, if_neg hne1, q_isSewn (by omega), p_ci_s]
  rcases in_c (n := b) (lo := 1) (hi := 99) (l := 1) (h := 99) rfl rfl (by omega) (by omega) with e2 | ⟨e2, v, v1, v2, rfl⟩
  · rw [if_pos e2, if_pos e2]; exact ⟨I, rfl, kp.rf, k567.rf⟩
  have hne2 : ¬ zI (¬ nI v < (1 : Int32) ∧ ¬ (99 : Int32) < nI v) = 0 := by rw [e2]; decide
  obtain ⟨n, hn⟩ : ∃ z, 999999 = ((z + xS P + 1) + 1) + 1 := ⟨999999 - xS P - 3, by omega⟩
  rw [if_neg hne2, if_neg hne2, hn, runS_s, s_X12_sewing_28, q_in (by omega), p_ci_s]
  by_cases e3 : zI (¬ c < 0 ∧ ¬ 1 < c) = 0
  · rw [if_pos e3, if_pos e3]; exact ⟨I, rfl, kp.rf, k567.rf⟩
  obtain ⟨I1, t1, t2, t3, -, -, -, r⟩ := h.row (d := d) (J := J) (by omega)
  obtain ⟨I2, u1, u2, u3, u4, u5⟩ := lp_sw1 (d := d) (J := J) (by omega) v2 (w := nI w) (c := c) (xS P) 0 n I1 r (by omega) (fun j hj => by omega)
  obtain ⟨I3, x1, x2⟩ := lp_sw3 (d := d) (J := J) (by omega) (tk := fun j => tkF P j wk (v - s j) (s j) 0) (w := nI w) (c := c) (2 ^ xS P) 0 n none I2 u3.1 u4 (by omega) (by omega) (fun x hx => by cases hx)
  rw [if_neg e3, if_neg e3, t1, p_cv_s, runS_s, s_X12_sewing_43]
  refine ⟨I3, ?_, ((t2.up (by decide)).tr (u1.up (by decide))).tr (x2.up (by decide)), (t3.tr (k567.of u2)).tr (k567.kp x2 (by decide))⟩
  refine Eq.trans u5 (Eq.trans x1 ?_)
  rw [nI_clamp (by omega), nI_clamp (by omega)]
  rfl
end QH
