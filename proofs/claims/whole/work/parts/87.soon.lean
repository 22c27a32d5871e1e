/-! ===== soon, doubles ===== -/
section QS
variable {P : PP} {I : Nat → Nat → Int32} {J : Nat → Nat → Int64} {d : Nat} {s : Nat → Nat} {wk : Int32}
/-- the towns that a week's way reaches -/
def spB (P : PP) (s : Nat → Nat) (B : Nat → Bool) (b : Nat) : Bool := B b || (List.range (xS P)).any (fun j => decide (0 < s j) && ((B (xf P j) && decide (b = xg P j)) || (B (xg P j) && decide (b = xf P j))))
theorem spB_iff {B : Nat → Bool} {b : Nat} : spB P s B b = true ↔ (B b = true ∨ ∃ j, j < xS P ∧ 0 < s j ∧ ((B (xf P j) = true ∧ b = xg P j) ∨ (B (xg P j) = true ∧ b = xf P j))) := by
  unfold spB
  simp only [Bool.or_eq_true, List.any_eq_true, List.mem_range, Bool.and_eq_true, decide_eq_true_eq]
def soN (P : PP) (u : Nat) : Nat → (Nat → Bool) → XS → Int32
  | 0, _, _ => -2
  | k + 1, B, x => if B u = true then nI (40 - k) else soN P u k (spB P x.1 B) (st1 P x)
def soonQ (P : PP) (x : XS) (a b : Int32) : Int32 := if oneOf a (xN P) = 0 then -1 else if oneOf b (xN P) = 0 then -1 else soN P b.toNatClampNeg 41 (fun j => decide (a.toNatClampNeg = j)) x
theorem lp_outl {O : Ora} (h : PlR P I) {f : Nat → Nat} (hf : ∀ i, i < xS P → I 177 i = nI (f i) ∧ f i ≤ 1000) {v : Nat} (hv : v ≤ 1000) : ∀ (k i n : Nat) (w : Int32), i + k = xS P → k < n →
    runS O none 4 T0 C_X7_seamsOutliving k_X7_seamsOutliving rtI f_X7_seamsOutliving n 4 [.ref 174, .int (nI v), .int w, .int (nI i)] [] (I, J) = some (some (.int ((List.range' i k).foldl (setF (fun i => v < f i)) w)), (I, J)) := by
  have h10 := h.S10
  intro k
  induction k with
  | zero =>
    intro i n w hi hn
    obtain ⟨n, rfl⟩ : ∃ z, n = z + 1 := ⟨n - 1, by omega⟩
    rw [runS_s, s_X7_seamsOutliving_4, h.S, if_pos (nI_le (by omega) (by omega))]
    rfl
  | succ k ih =>
    intro i n w hi hn
    obtain ⟨n, rfl⟩ : ∃ z, n = z + 1 := ⟨n - 1, by omega⟩
    have hi' := hf i (by omega)
    rw [runS_s, s_X7_seamsOutliving_4, h.S, if_neg (nI_ge (by omega) (by omega)), chk_in (by omega) (by omega), nI_clamp (by omega), hi'.1, nI_1, List.range'_succ, List.foldl_cons]
    by_cases h1 : v < f i
    · rw [if_neg (nI_ge (by omega) (by omega)), show setF (fun i => v < f i) w i = w ||| (1 <<< (nI i &&& 31)) from if_pos h1]
      exact ih (i + 1) n _ (by omega) (by omega)
    · rw [if_pos (nI_le (by omega) (by omega)), show setF (fun i => v < f i) w i = w from if_neg h1]
      exact ih (i + 1) n w (by omega) (by omega)
theorem ev_outl (hd : 1 ≤ d) (h : PlR P I) {f : Nat → Nat} (hf : ∀ i, i < xS P → I 177 i = nI (f i) ∧ f i ≤ 1000) {v : Nat} (hv : v ≤ 1000) : ∃ a, EV d T0 79 [.ref 174, .int (nI v)] (I, J) = some (some (.int a), (I, J)) ∧ ∀ i, bt a i = decide (i < xS P ∧ v < f i) := by
  obtain ⟨d, rfl⟩ : ∃ z, d = z + 1 := ⟨d - 1, by omega⟩
  have h10 := h.S10
  refine ⟨(List.range' 0 (xS P)).foldl (setF (fun i => v < f i)) 0, ?_, fun i => ?_⟩
  · rw [e_X7_seamsOutliving, runS_M, s_X7_seamsOutliving_0]
    exact lp_outl h hf hv (xS P) 0 999999 0 (by omega) (by omega)
  · rw [bt_set _ _ _ (by omega), b_0, Bool.false_or]
    apply decide_eq_decide.mpr
    constructor
    · rintro ⟨_, h2, h3⟩; exact ⟨by omega, h3⟩
    · rintro ⟨h2, h3⟩; exact ⟨by omega, by omega, h3⟩
theorem st_suc : ∀ (n : Nat) (x : XS), stI P (n + 1) x = st1 P (stI P n x) := by
  intro n
  induction n with
  | zero => intro x; rfl
  | succ n ih => intro x; exact ih (st1 P x)
theorem lp_soon (hd : 3 ≤ d) {x : XS} (h : PlR P I) (hf : ∀ i, i < xS P → I 177 i = nI (lfS P x.1 x.2.1 i)) {u : Nat} (hu : u < xN P) : ∀ (k n : Nat) (w : Int32) (B : Nat → Bool), k ≤ 41 → (∀ j, bt w j = B j) → 2 * k < n →
    runS (EV d) none 5 T0 C_X11_soon k_X11_soon rtI f_X11_soon n 36 [.ref 0, un, .int (nI u), .int w, .int (nI (41 - k))] [] (I, J) = some (some (.int (soN P u k B (stI P (41 - k) x))), (I, J)) := by
  have h7 := h.N7
  intro k
  induction k with
  | zero =>
    intro n w B hk hB hn
    obtain ⟨n, rfl⟩ : ∃ z, n = z + 1 := ⟨n - 1, by omega⟩
    rw [runS_s, s_X11_soon_36, if_pos (show (40 : Int32) < nI (41 - 0) by decide)]
    rfl
  | succ k ih =>
    intro n w B hk hB hn
    obtain ⟨n, rfl⟩ : ∃ z, n = z + 1 + 1 := ⟨n - 2, by omega⟩
    rw [runS_s, s_X11_soon_36, if_neg (show ¬ (40 : Int32) < nI (41 - (k + 1)) from nI_nlt (a := 40) (by omega) (by omega)), q_bit (by omega) w (by omega), p_ci_s, hB u]
    unfold soN
    by_cases hb : B u = true
    · rw [if_neg (by rw [zI_t hb]; decide), if_pos hb, show 41 - (k + 1) = 40 - k by omega]; rfl
    · obtain ⟨a, t1, t2⟩ := ev_outl (d := d) (J := J) (by omega) h (f := lfS P x.1 x.2.1) (fun i hi => ⟨hf i hi, by have := lf_le (P := P) i 201 (x.1 i) x.2.1; unfold lfS; omega⟩) (v := 41 - (k + 1)) (by omega)
      rw [if_pos (zI_f hb), if_neg hb, t1, p_ci_s, q_spread (by omega) h, p_ci_s, runS_s, s_X11_soon_72, nI_1, show 41 - (k + 1) + 1 = 41 - k by omega, ← st_suc, show 41 - (k + 1) + 1 = 41 - k by omega]
      refine ih n _ _ (by omega) (fun j => ?_) (by omega)
      apply Bool.eq_iff_iff.mpr
      rw [show bt (sprF I (xS P) a w) j = true ↔ _ from bt_spr h a w j (xS P) 0 w (by omega), spB_iff, hB]
      have hw : ∀ i, i < xS P → (bt a i = true ↔ 0 < (stI P (41 - (k + 1)) x).1 i) := fun i hi => by
        rw [t2 i, decide_eq_true_iff, stI_sw, ← lf_iff (P := P) i (41 - (k + 1)) 201 (x.1 i) x.2.1 (by omega) (by omega)]
        unfold lfS
        constructor
        · rintro ⟨_, h9⟩; omega
        · intro h9; exact ⟨hi, by omega⟩
      constructor
      · rintro (h1 | ⟨i, _, hi, h3, h4, h5⟩)
        · exact Or.inl h1
        · rw [hB, hB] at h4
          have h6 := (hw i hi).mp h3
          rcases h4 with h4 | h4 <;> rcases h5 with h5 | h5
          · exact Or.inl (by rw [h5]; exact h4)
          · exact Or.inr ⟨i, hi, h6, Or.inl ⟨h4, h5⟩⟩
          · exact Or.inr ⟨i, hi, h6, Or.inr ⟨h4, h5⟩⟩
          · exact Or.inl (by rw [h5]; exact h4)
      · rintro (h1 | ⟨i, hi, h3, h4⟩)
        · exact Or.inl h1
        · have h6 := (hw i hi).mpr h3
          rcases h4 with ⟨h4, h5⟩ | ⟨h4, h5⟩
          · exact Or.inr ⟨i, by omega, hi, h6, Or.inl (by rw [hB]; exact h4), Or.inr h5⟩
          · exact Or.inr ⟨i, by omega, hi, h6, Or.inr (by rw [hB]; exact h4), Or.inl h5⟩
theorem c_soon (hd : 6 ≤ d) {x : XS} (h : CX_39 P I x) (a b : Int32) : CQ d 140 [.ref 0, .int a, .int b] I J (soonQ P x a b) := by
  obtain ⟨d, rfl⟩ : ∃ z, d = z + 1 := ⟨d - 1, by omega⟩
  have h1 := h.1
  have h7 := h1.N7
  unfold CQ soonQ
  rw [e_X11_soon, runS_M, s_X11_soon_0, q_town (by omega) h1, p_ci_s]
  rcases oneOf_c (a := a) (N := xN P) (by omega) with e | ⟨e, t, ht, rfl⟩
  · rw [if_pos e, if_pos e]; exact ⟨I, rfl, kp.rf⟩
  rw [if_neg (by rw [e]; decide), if_neg (by rw [e]; decide), q_town (by omega) h1, p_ci_s]
  rcases oneOf_c (a := b) (N := xN P) (by omega) with e' | ⟨e', u, hu, rfl⟩
  · rw [if_pos e', if_pos e']; exact ⟨I, rfl, kp.rf⟩
  obtain ⟨I1, t1, t2, t3⟩ := ev_fillLives (d := d) (J := J) (by omega) (⟨h.1, h.2.1, h.2.2.1⟩ : CS P I x.1 x.2.1)
  have p1 : PlR P I1 := plr_kx h1 t2 (by decide) (by rw [t2 192 (by decide)])
  refine ⟨I1, ?_, t2.up (by decide)⟩
  rw [if_neg (by rw [e']; decide), if_neg (by rw [e']; decide), show (999999 : Nat) = 999998 + 1 from rfl, runS_s, s_X11_soon_18, t1, p_cv_s, nI_clamp (by omega), nI_clamp (by omega)]
  exact lp_soon (d := d) (J := J) (by omega) p1 t3 hu 41 999998 _ _ (by omega) (fun j => b_one (by omega) j) (by omega)
/-- the reference's round over the seams -/
theorem soon_iff {B : Nat → Bool} {i : Nat} {w w1 w2 : Int32} (h0 : 0 < s i) (hw : ∀ b, bt w b = true ↔ (B b = true ∨ ∃ j, j < i ∧ 0 < s j ∧ ((B (xf P j) = true ∧ b = xg P j) ∨ (B (xg P j) = true ∧ b = xf P j)))) (h1 : ∀ b, bt w1 b = true ↔ (bt w b = true ∨ (B (xf P i) = true ∧ b = xg P i))) (h2 : ∀ b, bt w2 b = true ↔ (bt w1 b = true ∨ (B (xg P i) = true ∧ b = xf P i))) :
    ∀ b, bt w2 b = true ↔ (B b = true ∨ ∃ j, j < i + 1 ∧ 0 < s j ∧ ((B (xf P j) = true ∧ b = xg P j) ∨ (B (xg P j) = true ∧ b = xf P j))) := by
  intro b
  rw [h2, h1, hw]
  constructor
  · rintro (((h | ⟨j, a1, a2⟩) | h) | h)
    · exact Or.inl h
    · exact Or.inr ⟨j, by omega, a2⟩
    · exact Or.inr ⟨i, by omega, h0, Or.inl h⟩
    · exact Or.inr ⟨i, by omega, h0, Or.inr h⟩
  · rintro (h | ⟨j, a1, a2, a3⟩)
    · exact Or.inl (Or.inl (Or.inl h))
    · rcases Nat.lt_or_ge j i with c | c
      · exact Or.inl (Or.inl (Or.inr ⟨j, c, a2, a3⟩))
      · have e : j = i := by omega
        subst e
        rcases a3 with a3 | a3
        · exact Or.inl (Or.inr a3)
        · exact Or.inr a3
theorem orY {w : Int32} {a : Nat} (ha : a < 32) {p : Prop} (hp : p) (b : Nat) : bt (w ||| (1 <<< (nI a &&& 31))) b = true ↔ (bt w b = true ∨ (p ∧ b = a)) := by
  rw [b_or, b_one ha, Bool.or_eq_true, decide_eq_true_iff]
  exact ⟨fun h => h.imp id (fun e => ⟨hp, e.symm⟩), fun h => h.imp id (fun e => e.2.symm)⟩
theorem orN {w : Int32} {a : Nat} {p : Prop} (hp : ¬ p) (b : Nat) : bt w b = true ↔ (bt w b = true ∨ (p ∧ b = a)) := ⟨Or.inl, fun h => h.elim id (fun e => absurd e.1 hp)⟩
theorem lp_soonR1 (hd : 6 ≤ d) {x : XS} (h : MX P I x) {u : Nat} {w0 z : Int32} {B : Nat → Bool} (hB : ∀ j, bt w0 j = B j) : ∀ (k i n : Nat) (w : Int32), i + k = xS P → (∀ b, bt w b = true ↔ (B b = true ∨ ∃ j, j < i ∧ 0 < x.1 j ∧ ((B (xf P j) = true ∧ b = xg P j) ∨ (B (xg P j) = true ∧ b = xf P j)))) → 4 * k < n →
    ∃ w' n', (∀ b, bt w' b = spB P x.1 B b) ∧ n ≤ n' + 4 * k ∧ runS (EV d) none 7 T0 C_X12_soon k_X12_soon rtI f_X12_soon n 59 [.ref 192, un, .int (nI u), .int w0, .int z, .int w, .int (nI i)] [] (I, J) = runS (EV d) none 7 T0 C_X12_soon k_X12_soon rtI f_X12_soon n' 59 [.ref 192, un, .int (nI u), .int w0, .int z, .int w', .int (nI (xS P))] [] (I, J) := by
  have h10 := h.1.S10
  have h7 := h.1.N7
  have hv := h.1.v2
  intro k
  induction k with
  | zero =>
    intro i n w hi hw hn
    have e : i = xS P := by omega
    subst e
    exact ⟨w, n, fun b => Bool.eq_iff_iff.mpr ((hw b).trans spB_iff.symm), by omega, rfl⟩
  | succ k ih =>
    intro i n w hi hw hn
    have hi' : i < xS P := by omega
    obtain ⟨n, rfl⟩ : ∃ z, n = z + 1 + 1 + 1 + 1 := ⟨n - 4, by omega⟩
    obtain ⟨-, ⟨f3, f4, -⟩, -, -, -, f6, f7, -⟩ := h.1.sm hi'
    have hs := h.2.1 i hi'
    have eI : (10 : Int32) * nI (xv P) + nI i = nI (10 * xv P + i) := ten_nI (xv P) i
    rw [runS_s, s_X12_soon_59, h.1.v, chk_in hv (by omega), nI_clamp (by omega), h.1.Sm, if_neg (nI_ge (by omega) (by omega)), chk_in (by omega) (by omega), nI_clamp (by omega), hs.1]
    simp only [eq0_nI (show x.1 i < 2 ^ 31 by have := hs.2; omega)]
    by_cases h0 : x.1 i = 0
    · obtain ⟨w', n', g1, g2, g3⟩ := ih (i + 1) (n + 1 + 1) w (by omega) (fun b => (hw b).trans ⟨fun h9 => h9.imp id (fun ⟨j, a1, a2⟩ => ⟨j, by omega, a2⟩), fun h9 => h9.imp id (fun ⟨j, a1, a2⟩ => ⟨j, by
        rcases Nat.lt_or_ge j i with c | c
        · exact c
        · have e : j = i := by omega
          subst e; omega, a2⟩)⟩) (by omega)
      refine ⟨w', n', g1, by omega, ?_⟩
      rw [if_pos h0, runS_s, s_X12_soon_176, nI_1]
      exact g3
    · rw [if_neg h0, eI, chk_in (by omega) (by omega), nI_clamp (by omega), f6]
      have k131 : ∀ w1 : Int32, (∀ b, bt w1 b = true ↔ (bt w b = true ∨ (B (xf P i) = true ∧ b = xg P i))) → ∀ m, 4 * k < m → ∃ w' n', (∀ b, bt w' b = spB P x.1 B b) ∧ m ≤ n' + 4 * k ∧ runS (EV d) none 7 T0 C_X12_soon k_X12_soon rtI f_X12_soon (m + 1 + 1) 131 [.ref 192, un, .int (nI u), .int w0, .int z, .int w1, .int (nI i)] [] (I, J) = runS (EV d) none 7 T0 C_X12_soon k_X12_soon rtI f_X12_soon n' 59 [.ref 192, un, .int (nI u), .int w0, .int z, .int w', .int (nI (xS P))] [] (I, J) := by
        intro w1 h1 m hm
        rw [runS_s, s_X12_soon_131, h.1.v, eI, chk_in (by omega) (by omega), nI_clamp (by omega), f7, f6]
        simp only [shr1_1 (w := w0) (show xg P i < 32 by omega), hB]
        by_cases hg : B (xg P i) = true
        · obtain ⟨w', n', g1, g2, g3⟩ := ih (i + 1) m (w1 ||| (1 <<< (nI (xf P i) &&& 31))) (by omega) (soon_iff (by omega) hw h1 (orY (by omega) hg)) hm
          refine ⟨w', n', g1, g2, ?_⟩
          rw [if_pos hg, chk_in (by omega) (by omega), runS_s, s_X12_soon_176, nI_1]
          exact g3
        · obtain ⟨w', n', g1, g2, g3⟩ := ih (i + 1) m w1 (by omega) (soon_iff (by omega) hw h1 (orN hg)) hm
          refine ⟨w', n', g1, g2, ?_⟩
          rw [if_neg hg, runS_s, s_X12_soon_176, nI_1]
          exact g3
      simp only [shr1_1 (w := w0) (show xf P i < 32 by omega), hB]
      by_cases hg : B (xf P i) = true
      · obtain ⟨w', n', g1, g2, g3⟩ := k131 (w ||| (1 <<< (nI (xg P i) &&& 31))) (orY (by omega) hg) n (by omega)
        refine ⟨w', n', g1, by omega, ?_⟩
        rw [if_pos hg, runS_s, s_X12_soon_109, h.1.v, eI, chk_in (by omega) (by omega), nI_clamp (by omega), f7]
        exact g3
      · obtain ⟨w', n', g1, g2, g3⟩ := k131 w (orN hg) (n + 1) (by omega)
        refine ⟨w', n', g1, by omega, ?_⟩
        rw [if_neg hg]
        exact g3
theorem lp_soonR (hd : 6 ≤ d) {u : Nat} (hu : u < xN P) : ∀ (k n : Nat) (w : Int32) (B : Nat → Bool) (x : XS) (I : Nat → Nat → Int32), MX P I x → I 192 57 = 1 → k ≤ 41 → (∀ j, bt w j = B j) → 50 * k < n →
    ∃ I', runS (EV d) none 7 T0 C_X12_soon k_X12_soon rtI f_X12_soon n 34 [.ref 192, un, .int (nI u), .int w, .int (nI (41 - k)), un, un] [] (I, J) = some (some (.int (soN P u k B x)), (I', J)) ∧ kp wkX I I' ∧ k53 I I' := by
  intro k
  induction k with
  | zero =>
    intro n w B x I h h57 hk hB hn
    obtain ⟨n, rfl⟩ : ∃ z, n = z + 1 := ⟨n - 1, by omega⟩
    rw [runS_s, s_X12_soon_34, if_pos (show (40 : Int32) < nI (41 - 0) by decide)]
    exact ⟨I, rfl, kp.rf, k53.rf⟩
  | succ k ih =>
    intro n w B x I h h57 hk hB hn
    have h7 := h.1.N7
    have h10 := h.1.S10
    have hv := h.1.v2
    obtain ⟨n, rfl⟩ : ∃ z, n = z + 1 := ⟨n - 1, by omega⟩
    rw [runS_s, s_X12_soon_34, if_neg (show ¬ (40 : Int32) < nI (41 - (k + 1)) from nI_nlt (a := 40) (by omega) (by omega))]
    simp only [shr1_1 (w := w) (show u < 32 by omega), hB]
    unfold soN
    by_cases hb : B u = true
    · rw [if_pos hb, if_pos hb, show 41 - (k + 1) = 40 - k by omega]
      exact ⟨I, rfl, kp.rf, k53.rf⟩
    · obtain ⟨w', n', g1, g2, g3⟩ := lp_soonR1 (d := d) (J := J) hd h (u := u) (w0 := w) (z := nI (41 - (k + 1))) hB (xS P) 0 n w (by omega) (fun b => by
        rw [hB]; exact ⟨Or.inl, fun h9 => h9.elim id (fun ⟨j, a, _⟩ => by omega)⟩) (by omega)
      obtain ⟨n', rfl⟩ : ∃ z, n' = z + 1 := ⟨n' - 1, by omega⟩
      obtain ⟨I1, t1, t2, t3, t4⟩ := ev_weekS (d := d) (J := J) hd h h57
      obtain ⟨I2, u1, u2, u3⟩ := ih n' w' (spB P x.1 B) (st1 P x) I1 t4 (by rw [t3 57 (by decide)]; exact h57) (by omega) g1 (by omega)
      refine ⟨I2, ?_, t2.tr u2, t3.tr u3⟩
      rw [if_neg hb, if_neg hb]
      refine g3.trans ?_
      rw [runS_s, s_X12_soon_59, h.1.v, chk_in hv (by omega), nI_clamp (by omega), h.1.Sm, if_pos (Int32.le_refl _), t1, p_cv_s, nI_1, show 41 - (k + 1) + 1 = 41 - k by omega]
      exact u1
theorem m_soon (hd : 7 ≤ d) {x : XS} (h : NX P I x) (a b : Int32) : MQq d 250 [.ref 192, .int a, .int b] I J (soonQ P x a b) := by
  obtain ⟨d, rfl⟩ : ∃ z, d = z + 1 := ⟨d - 1, by omega⟩
  have h1 := h.1
  have h7 := h1.N7
  unfold MQq soonQ
  rw [e_X12_soon, runS_M, s_X12_soon_0, q_townR (by omega) h1, p_ci_s]
  rcases oneOf_c (a := a) (N := xN P) (by omega) with e | ⟨e, t, ht, rfl⟩
  · rw [if_pos e, if_pos e]; exact ⟨I, rfl, kp.rf, k567.rf⟩
  rw [if_neg (by rw [e]; decide), if_neg (by rw [e]; decide), q_townR (by omega) h1, p_ci_s]
  rcases oneOf_c (a := b) (N := xN P) (by omega) with e' | ⟨e', u, hu, rfl⟩
  · rw [if_pos e', if_pos e']; exact ⟨I, rfl, kp.rf, k567.rf⟩
  obtain ⟨I1, t1, t2, t3, t4, t5, t6, -⟩ := h.row (d := d) (J := J) (by omega)
  have k1 : kp wkX I1 (p_wr I1 192 57 1) := kp.rf.wr (by decide)
  have k2 : k567 I1 (p_wr I1 192 57 1) := fun j _ _ a => by rw [wr_eq, pk_un a]
  have m1 : MX P (p_wr I1 192 57 1) x := ⟨plr_kx t6.1 k1 (by decide) (k2 18 (by decide) (by decide) (by decide)), by rw [wr_ne (by decide)]; exact t6.2.1, by rw [wr_ne (by decide)]; exact t6.2.2.1, by rw [wr_ne (by decide)]; exact t6.2.2.2.1, t6.2.2.2.2⟩
  obtain ⟨I2, u1, u2, u3⟩ := lp_soonR (d := d) (J := J) (by omega) hu 41 999998 (1 <<< (nI t &&& 31)) (fun j => decide (t = j)) x _ m1 (by rw [wr_eq, pk_us]) (by omega) (fun j => b_one (by omega) j) (by omega)
  refine ⟨I2, ?_, (t2.up (by decide)).tr ((k1.tr u2).up (by decide)), t3.tr (k2.tr (k567.of u3))⟩
  rw [if_neg (by rw [e']; decide), if_neg (by rw [e']; decide), show (999999 : Nat) = 999998 + 1 from rfl, runS_s, s_X12_soon_18, t1, p_cv_s, nI_clamp (by omega), nI_clamp (by omega)]
  exact u1
end QS
