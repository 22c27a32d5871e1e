/-! ===== read: the plan is taken over (class) ===== -/
section SY
variable {I : Nat → Nat → Int32} {J : Nat → Nat → Int64} {d : Nat}
/-- the plan that a text tells -/
def nwP (v : Nat) (Y : DY) : PP := ((v, Y.2.2.1.1, Y.2.2.1.2.1, Y.2.2.1.2.2.2), (fun i => (Y.2.2.2.2.1.1 i).toNatClampNeg, fun i => (Y.2.2.2.2.1.2.1 i).toNatClampNeg, Y.2.2.2.2.1.2.2.1), (fun i => (Y.2.2.2.2.2.1.1 i).toNatClampNeg, fun i => (Y.2.2.2.2.2.1.2.1 i).toNatClampNeg, Y.2.2.2.2.2.1.2.2), Y.2.2.2.2.2.2, (nI Y.2.2.2.1.2.2.1, nI Y.2.2.2.1.2.2.2))
theorem bit_en {p q a : Nat} (hp : p < 7) (hq : q < 7) (ha : a < 7) : (¬ bitOf (enB (nI p) (nI q)) (nI a) = 0) ↔ (p = a ∨ q = a) := by
  rw [bitOf_t (by omega)]
  have h : bt (enB (nI p) (nI q)) a = (decide (p = a) || decide (q = a)) := one_or (by omega) (by omega) a
  rw [h, Bool.or_eq_true, decide_eq_true_eq, decide_eq_true_eq]
/-- seams as countWays looks at them -/
def cwQ (P : PP) (I : Nat → Nat → Int32) : Prop := I 25 1 = nI (xS P) ∧ xS P ≤ 10 ∧ ∀ j, j < xS P → I 26 j = nI (xf P j) ∧ I 28 j = enB (nI (xf P j)) (nI (xg P j)) ∧ xf P j < 7 ∧ xg P j < 7
theorem lp_cw1 {P : PP} (h : cwQ P I) {i : Nat} (hi : i < xS P) : ∀ (k j n : Nat) (g : Nat → Int32), j + k = xS P → g i = nI (wyN P (xf P i) j) →
    runS (EV (d + 1)) none 3 T0 C_X3_countWays k_X3_countWays rtV f_X3_countWays (n + k + 1) 19 [.ref 25, .int (nI i), .int (nI j)] [] (cs I 31 g, J) = runS (EV (d + 1)) none 3 T0 C_X3_countWays k_X3_countWays rtV f_X3_countWays n 2 [.ref 25, .int (nI (i + 1)), un] [] (cs I 31 (upd g i (nI (wyN P (xf P i) (xS P)))), J) := by
  obtain ⟨h1, h2, h3⟩ := h
  intro k
  induction k with
  | zero =>
    intro j n g hj hg
    have e : j = xS P := by omega
    subst e
    have eg : upd g i (nI (wyN P (xf P i) (xS P))) = g := by
      funext q
      by_cases c : q = i
      · rw [c, pk_us, hg]
      · rw [pk_un c]
    rw [Nat.add_zero, runS_s, s_X3_countWays_19, cs_ne (by decide), h1, if_pos (nI_le (by omega) (by omega)), nI_1, eg]
  | succ k ih =>
    intro j n g hj hg
    obtain ⟨a1, a2, a3, a4⟩ := h3 j (by omega)
    obtain ⟨c1, c2, c3, c4⟩ := h3 i hi
    have hp : ∀ z : Option Rs, p_chk (p_in (nI i) 10) z = z := fun z => chk_in (by omega) (by omega)
    have hq : ∀ z : Option Rs, p_chk (p_in (nI j) 10) z = z := fun z => chk_in (by omega) (by omega)
    rw [show n + (k + 1) + 1 = (n + k + 1) + 1 by omega, runS_s, s_X3_countWays_19, cs_ne (show (25 : Nat) ≠ 31 by decide), h1, if_neg (nI_ge (by omega) (by omega)), hq, hp, cs_ne (show (28 : Nat) ≠ 31 by decide), cs_ne (show (26 : Nat) ≠ 31 by decide), nI_clamp (by omega), nI_clamp (by omega), a2, c1, ev_hasBit, p_ci_s]
    have hw : wyN P (xf P i) (j + 1) = wyN P (xf P i) j + (if xf P j = xf P i ∨ xg P j = xf P i then 1 else 0) := rfl
    by_cases hb : xf P j = xf P i ∨ xg P j = xf P i
    · rw [if_pos hb] at hw
      rw [if_neg (by rw [zI_t ((bit_en a3 a4 c3).mpr hb)]; decide), hp, hp]
      dsimp only
      rw [cs_eq, hg, nI_1, nI_1, wr_cs2, ih (j + 1) n (upd g i (nI (wyN P (xf P i) j + 1))) (by omega) (by rw [pk_us, hw])]
      congr 2
      congr 1
      funext q
      by_cases c : q = i
      · rw [c, pk_us, pk_us]
      · rw [pk_un c, pk_un c, pk_un c]
    · rw [if_neg hb] at hw
      rw [if_pos (zI_f (fun h9 => hb ((bit_en a3 a4 c3).mp h9))), nI_1]
      exact ih (j + 1) n g (by omega) (by rw [hg, hw]; rfl)
theorem lp_cw2 {P : PP} (h : cwQ P I) : ∀ (k i n : Nat) (g : Nat → Int32), i + k = xS P → (∀ j, j < i → g j = nI (wyN P (xf P j) (xS P))) → 20 * k + 1 ≤ n →
    ∃ g', runS (EV (d + 1)) none 3 T0 C_X3_countWays k_X3_countWays rtV f_X3_countWays n 2 [.ref 25, .int (nI i), un] [] (cs I 31 g, J) = some (none, (cs I 31 g', J)) ∧ ∀ j, j < xS P → g' j = nI (wyN P (xf P j) (xS P)) := by
  have h1 := h.1
  have h2 := h.2.1
  intro k
  induction k with
  | zero =>
    intro i n g hi hg hn
    obtain ⟨n, rfl⟩ : ∃ z, n = z + 1 := ⟨n - 1, by omega⟩
    refine ⟨g, ?_, fun j hj => hg j (by omega)⟩
    rw [runS_s, s_X3_countWays_2, cs_ne (by decide), h1, if_pos (nI_le (by omega) (by omega))]; rfl
  | succ k ih =>
    intro i n g hi hg hn
    obtain ⟨n, rfl⟩ : ∃ z, n = (z + xS P + 1) + 1 := ⟨n - xS P - 2, by omega⟩
    have hst := lp_cw1 (d := d) (J := J) h (i := i) (by omega) (xS P) 0 n (upd g i 0) (by omega) (by rw [pk_us]; rfl)
    obtain ⟨g', u1, u2⟩ := ih (i + 1) n (upd (upd g i 0) i (nI (wyN P (xf P i) (xS P)))) (by omega) (fun j hj => by
      by_cases c : j = i
      · rw [c, pk_us]
      · rw [pk_un c, pk_un c]; exact hg j (by omega)) (by omega)
    refine ⟨g', ?_, u2⟩
    rw [runS_s, s_X3_countWays_2, cs_ne (show (25 : Nat) ≠ 31 by decide), h1, if_neg (nI_ge (by omega) (by omega)), chk_in (by omega) (by omega), nI_clamp (by omega), wr_cs2]
    exact hst.trans u1
theorem ev_countWays (hd : 2 ≤ d) {P : PP} (h : cwQ P I) : ∃ I', EV d T0 33 [.ref 25] (I, J) = some (none, (I', J)) ∧ kp [31] I I' ∧ ∀ j, j < xS P → I' 31 j = nI (wyN P (xf P j) (xS P)) := by
  obtain ⟨d, rfl⟩ : ∃ z, d = z + 1 + 1 := ⟨d - 2, by omega⟩
  have h2 := h.2.1
  obtain ⟨g', u1, u2⟩ := lp_cw2 (d := d) (J := J) h (xS P) 0 999999 (I 31) (by omega) (fun j hj => absurd hj (Nat.not_lt_zero _)) (by omega)
  rw [cs_self] at u1
  refine ⟨cs I 31 g', ?_, kp.rf.cs (by decide), fun j hj => by rw [cs_eq]; exact u2 j hj⟩
  rw [e_X3_countWays, runS_M, s_X3_countWays_0]
  exact u1
def cpX : List Nat := [25, 26, 27, 28, 29, 30, 31, 32, 33, 34, 35, 36, 38]
/-- the draft's cells are the plan's -/
def cpD (I I' : Nat → Nat → Int32) : Prop := (∀ q, q < 8 → I' 25 q = I 4 q) ∧ (∀ j, j < 10 → I' 26 j = I 5 j ∧ I' 27 j = I 6 j ∧ I' 28 j = I 7 j ∧ I' 29 j = I 8 j ∧ I' 30 j = I 9 j) ∧ (∀ j, j < 4 → I' 32 j = I 11 j ∧ I' 33 j = I 12 j ∧ I' 34 j = I 13 j) ∧ (I' 35 3 = I 14 3 ∧ (∀ j, j < 408 → I' 36 j = I 15 j) ∧ ∀ j, j < 4 → I' 38 j = I 17 j)
theorem ev_copyFrom (hd : 4 ≤ d) {P : PP} (hS : I 4 1 = nI (xS P)) (h10 : xS P ≤ 10) (hw : ∀ j, j < xS P → I 5 j = nI (xf P j) ∧ I 7 j = enB (nI (xf P j)) (nI (xg P j)) ∧ xf P j < 7 ∧ xg P j < 7) :
    ∃ I', EV d T0 29 [.ref 25, .ref 4] (I, J) = some (none, (I', J)) ∧ kp cpX I I' ∧ cpD I I' ∧ ∀ j, j < xS P → I' 31 j = nI (wyN P (xf P j) (xS P)) := by
  obtain ⟨d, rfl⟩ : ∃ z, d = z + 1 := ⟨d - 1, by omega⟩
  let I0 := p_wr (p_wr (p_wr (p_wr (p_wr (p_wr (p_wr (p_wr I 25 0 (I 4 0)) 25 1 (I 4 1)) 25 2 (I 4 2)) 25 3 (I 4 3)) 25 4 (I 4 4)) 25 5 (I 4 5)) 25 6 (I 4 6)) 25 7 (I 4 7)
  let I1 := p_cp (p_cp (p_cp (p_cp (p_cp (p_cp (p_cp (p_cp I0 5 26 0 0 10) 6 27 0 0 10) 7 28 0 0 10) 8 29 0 0 10) 9 30 0 0 10) 11 32 0 0 4) 12 33 0 0 4) 13 34 0 0 4
  let I2 := p_wr (p_cp (p_cp I1 15 36 0 0 408) 17 38 0 0 4) 35 3 (I1 14 3)
  have k0 : kp [25] I I0 := (((((((kp.rf.wr (by decide)).wr (by decide)).wr (by decide)).wr (by decide)).wr (by decide)).wr (by decide)).wr (by decide)).wr (by decide)
  have k1 : kp [26, 27, 28, 29, 30, 32, 33, 34] I0 I1 := (((((((kp.rf.cp (by decide)).cp (by decide)).cp (by decide)).cp (by decide)).cp (by decide)).cp (by decide)).cp (by decide)).cp (by decide)
  have k2 : kp [35, 36, 38] I1 I2 := ((kp.rf.cp (by decide)).cp (by decide)).wr (by decide)
  have s1 : ∀ k, k < 25 → I1 k = I k := fun k hk => by rw [k1 k (fun h9 => by simp only [List.mem_cons, List.not_mem_nil, or_false] at h9; omega), k0 k (fun h9 => by rw [List.mem_singleton] at h9; omega)]
  have s0 : ∀ k, k ≠ 25 → I0 k = I k := fun k hk => k0 k (fun h9 => by rw [List.mem_singleton] at h9; omega)
  have f25 : ∀ q, q < 8 → I0 25 q = I 4 q := fun q hq => by
    have h8 : q = 0 ∨ q = 1 ∨ q = 2 ∨ q = 3 ∨ q = 4 ∨ q = 5 ∨ q = 6 ∨ q = 7 := by omega
    rcases h8 with rfl | rfl | rfl | rfl | rfl | rfl | rfl | rfl <;> rfl
  have hd2 : cpD I I2 := by
    refine ⟨fun q hq => by rw [k2 25 (by decide), k1 25 (by decide)]; exact f25 q hq, fun j hj => ⟨?_, ?_, ?_, ?_, ?_⟩, fun j hj => ⟨?_, ?_, ?_⟩, ?_, fun j hj => ?_, fun j hj => ?_⟩
    · rw [k2 26 (by decide)]
      show p_cp (p_cp (p_cp (p_cp (p_cp (p_cp (p_cp (p_cp I0 5 26 0 0 10) 6 27 0 0 10) 7 28 0 0 10) 8 29 0 0 10) 9 30 0 0 10) 11 32 0 0 4) 12 33 0 0 4) 13 34 0 0 4 26 j = I 5 j
      rw [cp_ne (by decide), cp_ne (by decide), cp_ne (by decide), cp_ne (by decide), cp_ne (by decide), cp_ne (by decide), cp_ne (by decide), cp_eq, cpy_at hj, s0 5 (by decide)]
    · rw [k2 27 (by decide)]
      show p_cp (p_cp (p_cp (p_cp (p_cp (p_cp (p_cp (p_cp I0 5 26 0 0 10) 6 27 0 0 10) 7 28 0 0 10) 8 29 0 0 10) 9 30 0 0 10) 11 32 0 0 4) 12 33 0 0 4) 13 34 0 0 4 27 j = I 6 j
      rw [cp_ne (by decide), cp_ne (by decide), cp_ne (by decide), cp_ne (by decide), cp_ne (by decide), cp_ne (by decide), cp_eq, cpy_at hj, cp_ne (by decide), s0 6 (by decide)]
    · rw [k2 28 (by decide)]
      show p_cp (p_cp (p_cp (p_cp (p_cp (p_cp (p_cp (p_cp I0 5 26 0 0 10) 6 27 0 0 10) 7 28 0 0 10) 8 29 0 0 10) 9 30 0 0 10) 11 32 0 0 4) 12 33 0 0 4) 13 34 0 0 4 28 j = I 7 j
      rw [cp_ne (by decide), cp_ne (by decide), cp_ne (by decide), cp_ne (by decide), cp_ne (by decide), cp_eq, cpy_at hj, cp_ne (by decide), cp_ne (by decide), s0 7 (by decide)]
    · rw [k2 29 (by decide)]
      show p_cp (p_cp (p_cp (p_cp (p_cp (p_cp (p_cp (p_cp I0 5 26 0 0 10) 6 27 0 0 10) 7 28 0 0 10) 8 29 0 0 10) 9 30 0 0 10) 11 32 0 0 4) 12 33 0 0 4) 13 34 0 0 4 29 j = I 8 j
      rw [cp_ne (by decide), cp_ne (by decide), cp_ne (by decide), cp_ne (by decide), cp_eq, cpy_at hj, cp_ne (by decide), cp_ne (by decide), cp_ne (by decide), s0 8 (by decide)]
    · rw [k2 30 (by decide)]
      show p_cp (p_cp (p_cp (p_cp (p_cp (p_cp (p_cp (p_cp I0 5 26 0 0 10) 6 27 0 0 10) 7 28 0 0 10) 8 29 0 0 10) 9 30 0 0 10) 11 32 0 0 4) 12 33 0 0 4) 13 34 0 0 4 30 j = I 9 j
      rw [cp_ne (by decide), cp_ne (by decide), cp_ne (by decide), cp_eq, cpy_at hj, cp_ne (by decide), cp_ne (by decide), cp_ne (by decide), cp_ne (by decide), s0 9 (by decide)]
    · rw [k2 32 (by decide)]
      show p_cp (p_cp (p_cp (p_cp (p_cp (p_cp (p_cp (p_cp I0 5 26 0 0 10) 6 27 0 0 10) 7 28 0 0 10) 8 29 0 0 10) 9 30 0 0 10) 11 32 0 0 4) 12 33 0 0 4) 13 34 0 0 4 32 j = I 11 j
      rw [cp_ne (by decide), cp_ne (by decide), cp_eq, cpy_at hj, cp_ne (by decide), cp_ne (by decide), cp_ne (by decide), cp_ne (by decide), cp_ne (by decide), s0 11 (by decide)]
    · rw [k2 33 (by decide)]
      show p_cp (p_cp (p_cp (p_cp (p_cp (p_cp (p_cp (p_cp I0 5 26 0 0 10) 6 27 0 0 10) 7 28 0 0 10) 8 29 0 0 10) 9 30 0 0 10) 11 32 0 0 4) 12 33 0 0 4) 13 34 0 0 4 33 j = I 12 j
      rw [cp_ne (by decide), cp_eq, cpy_at hj, cp_ne (by decide), cp_ne (by decide), cp_ne (by decide), cp_ne (by decide), cp_ne (by decide), cp_ne (by decide), s0 12 (by decide)]
    · rw [k2 34 (by decide)]
      show p_cp (p_cp (p_cp (p_cp (p_cp (p_cp (p_cp (p_cp I0 5 26 0 0 10) 6 27 0 0 10) 7 28 0 0 10) 8 29 0 0 10) 9 30 0 0 10) 11 32 0 0 4) 12 33 0 0 4) 13 34 0 0 4 34 j = I 13 j
      rw [cp_eq, cpy_at hj, cp_ne (by decide), cp_ne (by decide), cp_ne (by decide), cp_ne (by decide), cp_ne (by decide), cp_ne (by decide), cp_ne (by decide), s0 13 (by decide)]
    · show p_wr (p_cp (p_cp I1 15 36 0 0 408) 17 38 0 0 4) 35 3 (I1 14 3) 35 3 = I 14 3
      rw [wr_eq, pk_us, s1 14 (by omega)]
    · show p_wr (p_cp (p_cp I1 15 36 0 0 408) 17 38 0 0 4) 35 3 (I1 14 3) 36 j = I 15 j
      rw [wr_ne (by decide), cp_ne (by decide), cp_eq, cpy_at hj, s1 15 (by omega)]
    · show p_wr (p_cp (p_cp I1 15 36 0 0 408) 17 38 0 0 4) 35 3 (I1 14 3) 38 j = I 17 j
      rw [wr_ne (by decide), cp_eq, cpy_at hj, cp_ne (by decide), s1 17 (by omega)]
  have hcw : cwQ P I2 := ⟨(hd2.1 1 (by omega)).trans hS, h10, fun j hj => by
    obtain ⟨q1, q2, q3, q4⟩ := hw j hj
    obtain ⟨r1, -, r3, -⟩ := hd2.2.1 j (by omega)
    exact ⟨r1.trans q1, r3.trans q2, q3, q4⟩⟩
  obtain ⟨I3, t1, t2, t3⟩ := ev_countWays (d := d) (J := J) (by omega) hcw
  have cl : EV d T0 2 [.ref 35, .ref 14] (I1, J) = some (none, (I2, J)) := by
    obtain ⟨d, rfl⟩ : ∃ z, d = z + 1 := ⟨d - 1, by omega⟩
    rw [e_X0_copyFrom, runS_M, s_X0_copyFrom_0]; rfl
  refine ⟨I3, ?_, ((k0.up (by decide)).tr (k1.up (by decide))).tr ((k2.up (by decide)).tr (t2.up (by decide))), ?_, t3⟩
  · rw [e_X3_copyFrom, runS_M, s_X3_copyFrom_0]
    show p_cv (EV d T0 2 [.ref 35, .ref 14] (I1, J)) _ = _
    rw [cl, p_cv_s, t1, p_cv_s]; rfl
  · unfold cpD
    rw [t2 25 (by decide), t2 26 (by decide), t2 27 (by decide), t2 28 (by decide), t2 29 (by decide), t2 30 (by decide), t2 32 (by decide), t2 33 (by decide), t2 34 (by decide), t2 35 (by decide), t2 36 (by decide), t2 38 (by decide)]
    exact hd2
end SY
