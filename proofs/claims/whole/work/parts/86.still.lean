/-! ===== still weeks: life of a seam, holds ===== -/
section QR
variable {P : PP} {I : Nat → Nat → Int32} {J : Nat → Nat → Int64} {d : Nat} {s : Nat → Nat} {wk : Int32}
/-- a week in which nothing goes and no frost comes -/
def st1 (P : PP) (x : XS) : XS := (wrN P x.1 x.2.1 0 (fun _ => 0), x.2.1 + 1, x.2.2)
def stI (P : PP) : Nat → XS → XS
  | 0, x => x
  | k + 1, x => stI P k (st1 P x)
theorem ev_weekS (hd : 6 ≤ d) {x : XS} (h : MX P I x) (h57 : I 192 57 = 1) : ∃ I', EV d T0 227 [.ref 192] (I, J) = some (none, (I', J)) ∧ kp wkX I I' ∧ k53 I I' ∧ MX P I' (st1 P x) := by
  obtain ⟨d, rfl⟩ : ∃ z, d = z + 1 := ⟨d - 1, by omega⟩
  obtain ⟨s, wk, q⟩ := x
  obtain ⟨h1, h2, h3, h4, h5⟩ := h
  have h10 := h1.S10
  have hC := h1.C4
  have hv := h1.v2
  obtain ⟨F, hF, hF2⟩ : ∃ F, 999987 = F + 2 * xS P + 1 ∧ 100 < F := ⟨999987 - (2 * xS P + 1), by omega, by omega⟩
  have kA : kp wkX I (cs I 233 (fillF (I 233) 0 10)) := kp.rf.cs (by decide)
  have aA : ∀ k, k ≠ 233 → cs I 233 (fillF (I 233) 0 10) k = I k := fun k hk => cs_ne hk
  obtain ⟨I1, t1, t2, t3, t4⟩ := ev_fillsWays (d := d) (J := J) (s := s) (by omega) (plr_kx h1 kA (by decide) (by rw [aA 192 (by decide)])) (by rw [aA 230 (by decide)]; exact h2)
  have kB : kp wkX I I1 := kA.tr (t2.up (by decide))
  have fB : k53 I I1 := fun j hj => by rw [t3 j hj, aA 192 (by decide)]
  have e230 : I1 230 = I 230 := by rw [t2 230 (by decide), aA 230 (by decide)]
  have mB : MX P I1 (s, wk, q) := ⟨plr_kx h1 kB (by decide) (fB 18 (by decide)), by rw [e230]; exact h2, by rw [e230]; exact h3, by rw [e230]; exact h4, h5⟩
  have rB : ∀ j, j < xS P → I1 233 j = 0 := fun j hj => by rw [t2 233 (by decide), cs_eq]; exact if_pos (by omega)
  obtain ⟨I3, v1, v2, v3, v4⟩ := lp_wk2 (d := d) (J := J) (s := s) (wk := wk) (by omega) (fz := False) (r := fun _ => 0) (xS P) 0 F I1 mB rB (fun j hj => by omega) (by omega)
  rw [show zI False = 0 from rfl] at v3
  have h2' : ∀ j, j < xS P → wrN P s wk 0 (fun _ => 0) j ≤ 99 := fun j hj => by
    have h9 : s j ≤ 99 := (h2 j hj).2
    unfold wrN; omega
  have kC : kp wkX I I3 := kB.tr (v1.up (by decide))
  have fC : k53 I I3 := fB.tr v2
  have g230 : I3 230 = I 230 := (v1 230 (by decide)).trans e230
  obtain ⟨I4, w1, w2, w3, w4, w5⟩ := lp_wk3 (d := d) (J := J) (P := P) (xS P) 0 F I3 (plr_kx h1 kC (by decide) (fC 18 (by decide))) v3 (fun j hj => by omega) (by omega) (by omega)
  have kD : kp wkX I I4 := kC.tr (w2.up (by decide))
  have fD : k53 I I4 := fun j hj => by rw [w2 192 (by decide)]; exact fC j hj
  have n57 : ¬ I1 192 57 = 0 := by rw [fB 57 (by decide), h57]; decide
  refine ⟨I4, ?_, kD, fD, ⟨plr_kx h1 kD (by decide) (fD 18 (by decide)), fun j hj => ?_, ?_, ?_, h5⟩⟩
  · rw [e_X12_weekGoes, runS_M, s_X12_weekGoes_0]
    have hz := lp_wk0 (d := d) (I := I) (J := J) 10 0 999989 (I 233) (by omega)
    rw [fillF_0, cs_self] at hz
    refine hz.trans ?_
    rw [show (999989 : Nat) = 999987 + 1 + 1 from rfl, runS_s, s_X12_weekGoes_2, if_pos (by decide), t1, p_cv_s, runS_s, s_X12_weekGoes_27, mB.1.v, chk_in hv (by omega), if_neg n57, if_neg n57, ite_self, hF]
    exact v4.trans w1
  · exact ⟨w3 j hj, h2' j hj⟩
  · rw [w4, g230, show I 230 31 = wk from h3]; rfl
  · intro c hc f hf
    rw [w5 (10 + 4 * f + c) (by omega) (by omega), g230]
    exact h4 c hc f hf
/-! the life of a seam -/
def lfN (P : PP) (i : Nat) : Nat → Nat → Int32 → Nat
  | 0, _, _ => 201
  | k + 1, m, wk => if 0 < m then lfN P i k (m - (wearF P i (nI m) wk 0 0).toNatClampNeg) (wk + 1) else 200 - k
def sw1 (P : PP) (i : Nat) : Nat → Nat → Int32 → Nat
  | 0, m, _ => m
  | k + 1, m, wk => sw1 P i k (m - (wearF P i (nI m) wk 0 0).toNatClampNeg) (wk + 1)
theorem stI_sw (i : Nat) : ∀ (k : Nat) (x : XS), (stI P k x).1 i = sw1 P i k (x.1 i) x.2.1 := by
  intro k
  induction k with
  | zero => intro x; rfl
  | succ k ih => intro x; exact ih (st1 P x)
theorem sw1_z (i : Nat) : ∀ (k : Nat) (wk : Int32), sw1 P i k 0 wk = 0 := by
  intro k
  induction k with
  | zero => intro wk; rfl
  | succ k ih => intro wk; show sw1 P i k (0 - _) (wk + 1) = 0; rw [Nat.zero_sub]; exact ih _
theorem lf_le (i : Nat) : ∀ (k m : Nat) (wk : Int32), lfN P i k m wk ≤ 201 := by
  intro k
  induction k with
  | zero => intro m wk; exact Nat.le_refl _
  | succ k ih => intro m wk; unfold lfN; split
                 · exact ih _ _
                 · omega
theorem lf_ge (i : Nat) : ∀ (k m : Nat) (wk : Int32), 201 - k ≤ lfN P i k m wk := by
  intro k
  induction k with
  | zero => intro m wk; exact Nat.le_refl _
  | succ k ih => intro m wk; unfold lfN; split
                 · have := ih (m - (wearF P i (nI m) wk 0 0).toNatClampNeg) (wk + 1); omega
                 · omega
theorem lf_iff (i : Nat) : ∀ (j k m : Nat) (wk : Int32), j < k → k ≤ 201 → (201 - k + j < lfN P i k m wk ↔ 0 < sw1 P i j m wk) := by
  intro j
  induction j with
  | zero =>
    intro k m wk hj hk
    obtain ⟨k, rfl⟩ : ∃ z, k = z + 1 := ⟨k - 1, by omega⟩
    show 201 - (k + 1) + 0 < lfN P i (k + 1) m wk ↔ 0 < m
    by_cases hm : 0 < m
    · have := lf_ge (P := P) i k (m - (wearF P i (nI m) wk 0 0).toNatClampNeg) (wk + 1)
      unfold lfN; rw [if_pos hm]; omega
    · unfold lfN; rw [if_neg hm]; omega
  | succ j ih =>
    intro k m wk hj hk
    obtain ⟨k, rfl⟩ : ∃ z, k = z + 1 := ⟨k - 1, by omega⟩
    by_cases hm : 0 < m
    · have := ih k (m - (wearF P i (nI m) wk 0 0).toNatClampNeg) (wk + 1) (by omega) (by omega)
      unfold lfN sw1; rw [if_pos hm, show 201 - (k + 1) + (j + 1) = 201 - k + j by omega]; exact this
    · have e : m = 0 := by omega
      subst e
      rw [sw1_z]; unfold lfN; rw [if_neg hm]; omega
theorem sub_z {m c : Nat} (hm : m ≤ 99) (hc : c ≤ 99) : ((0 : Int32) < nI m - nI c ↔ 0 < m - c) ∧ (0 < m - c → nI m - nI c = nI (m - c)) := by
  by_cases h : c < m
  · rw [pk_sub (by omega)]
    exact ⟨⟨fun _ => by omega, fun _ => nI_lt (a := 0) (by omega) (by omega)⟩, fun _ => rfl⟩
  · have hle : (nI m - nI c).toInt = (m : Int) - c := pk_sub_toInt (by omega) (by omega)
    have e0 : (0 : Int32).toInt = 0 := by decide
    refine ⟨⟨fun h9 => ?_, fun h9 => by omega⟩, fun h9 => by omega⟩
    rw [Int32.lt_iff_toInt_lt, hle] at h9; omega
theorem lp_life (hd : 3 ≤ d) {i : Nat} (hi : i < xS P) {w0 : Int32} : ∀ (k n m : Nat) (z : Int32) (I : Nat → Nat → Int32), PlR P I → k ≤ 201 → m ≤ 99 → ((0 : Int32) < z ↔ 0 < m) → (0 < m → z = nI m) → k < n →
    ∃ I', runS (EV d) none 6 T0 C_X7_lifeOf k_X7_lifeOf rtI f_X7_lifeOf n 6 [.ref 174, .int (nI i), un, .int w0, .int z, .int (nI (201 - k))] [] (I, J) = some (some (.int (nI (lfN P i k m (w0 + nI (201 - k))))), (I', J)) ∧ kp [37, 170] I I' := by
  intro k
  induction k with
  | zero =>
    intro n m z I h hk hm h1 h2 hn
    obtain ⟨n, rfl⟩ : ∃ z, n = z + 1 := ⟨n - 1, by omega⟩
    rw [runS_s, s_X7_lifeOf_6, if_pos (show (200 : Int32) < nI (201 - 0) by decide)]
    exact ⟨I, rfl, kp.rf⟩
  | succ k ih =>
    intro n m z I h hk hm h1 h2 hn
    obtain ⟨n, rfl⟩ : ∃ z, n = z + 1 := ⟨n - 1, by omega⟩
    rw [runS_s, s_X7_lifeOf_6, if_neg (show ¬ (200 : Int32) < nI (201 - (k + 1)) from nI_nlt (a := 200) (by omega) (by omega))]
    unfold lfN
    by_cases hp : 0 < m
    · obtain ⟨c, hc, ec⟩ := wearF_nI P i (nI m) (w0 + nI (201 - (k + 1))) 0 0
      obtain ⟨I1, t1, t2⟩ := ev_wear (d := d) (J := J) hd h hi (nI m) (w0 + nI (201 - (k + 1))) 0 0
      obtain ⟨g1, g2⟩ := sub_z hm hc
      obtain ⟨I2, u1, u2⟩ := ih n (m - c) (nI m - nI c) I1 (plr_kx h t2 (by decide) (by rw [t2 192 (by decide)])) (by omega) (by omega) g1 g2 (by omega)
      refine ⟨I2, ?_, t2.tr u2⟩
      rw [if_pos (h1.mpr hp), if_pos hp, h2 hp, t1, p_ci_s, ec, nI_1, nI_clamp (by omega), Int32.add_assoc, nI_1, show 201 - (k + 1) + 1 = 201 - k by omega]
      exact u1
    · rw [if_neg (fun h9 => hp (h1.mp h9)), if_neg hp, show 201 - (k + 1) = 200 - k by omega]
      exact ⟨I, rfl, kp.rf⟩
theorem ev_life (hd : 4 ≤ d) (h : PlR P I) {i m : Nat} (hi : i < xS P) (hm : m ≤ 99) (w0 : Int32) : ∃ I', EV d T0 81 [.ref 174, .int (nI i), .int (nI m), .int w0] (I, J) = some (some (.int (nI (lfN P i 201 m w0))), (I', J)) ∧ kp [37, 170] I I' := by
  obtain ⟨d, rfl⟩ : ∃ z, d = z + 1 := ⟨d - 1, by omega⟩
  obtain ⟨I1, t1, t2⟩ := lp_life (d := d) (J := J) (by omega) hi (w0 := w0) 201 999999 m (nI m) I h (by omega) hm (by rw [show ((0 : Int32) < nI m) = (0 < m) from lt_nI (a := 0) (by omega) (by omega)]) (fun _ => rfl) (by omega)
  refine ⟨I1, ?_, t2⟩
  rw [e_X7_lifeOf, runS_M, s_X7_lifeOf_0]
  rw [show w0 + nI (201 - 201) = w0 from Int32.add_zero w0] at t1
  exact t1
theorem lp_lives (hd : 4 ≤ d) : ∀ (k i n : Nat) (I : Nat → Nat → Int32), CS P I s wk → (∀ j, j < i → I 177 j = nI (lfN P j 201 (s j) wk)) → i + k = xS P → k < n →
    ∃ I', runS (EV d) none 3 T0 C_X7_fillLives k_X7_fillLives rtV f_X7_fillLives n 2 [.ref 174, .ref 39, .int (nI i)] [] (I, J) = some (none, (I', J)) ∧ kp [37, 170, 177] I I' ∧ ∀ j, j < xS P → I' 177 j = nI (lfN P j 201 (s j) wk) := by
  intro k
  induction k with
  | zero =>
    intro i n I h hj hi hn
    have h10 := h.1.S10
    obtain ⟨n, rfl⟩ : ∃ z, n = z + 1 := ⟨n - 1, by omega⟩
    rw [runS_s, s_X7_fillLives_2, h.1.S, if_pos (nI_le (by omega) (by omega))]
    exact ⟨I, rfl, kp.rf, fun j h9 => hj j (by omega)⟩
  | succ k ih =>
    intro i n I h hj hi hn
    have h10 := h.1.S10
    obtain ⟨n, rfl⟩ : ∃ z, n = z + 1 := ⟨n - 1, by omega⟩
    have hi' : i < xS P := by omega
    have hs := h.2.1 i hi'
    obtain ⟨I1, t1, t2⟩ := ev_life (d := d) (J := J) hd h.1 hi' hs.2 wk
    have k1 : kp [37, 170, 177] I (p_wr I1 177 i (nI (lfN P i 201 (s i) wk))) := (t2.up (by decide)).wr (by decide)
    obtain ⟨I2, u1, u2, u3⟩ := ih (i + 1) n _ ⟨plr_kx h.1 k1 (by decide) (by rw [k1 192 (by decide)]), by rw [k1 40 (by decide)]; exact h.2.1, by rw [k1 39 (by decide)]; exact h.2.2⟩ (fun j h9 => by
      rw [wr_eq]
      by_cases e : j = i
      · subst e; rw [pk_us]
      · rw [pk_un e, t2 177 (by decide)]; exact hj j (by omega)) (by omega) (by omega)
    refine ⟨I2, ?_, k1.tr u2, u3⟩
    rw [runS_s, s_X7_fillLives_2, h.1.S, if_neg (nI_ge (by omega) (by omega)), chk_in (by omega) (by omega), nI_clamp (by omega), hs.1, h.2.2, t1, p_ci_s, chk_in (by omega) (by omega), nI_1]
    exact u1
theorem ev_fillLives (hd : 5 ≤ d) (h : CS P I s wk) : ∃ I', EV d T0 78 [.ref 174, .ref 39] (I, J) = some (none, (I', J)) ∧ kp [37, 170, 177] I I' ∧ ∀ j, j < xS P → I' 177 j = nI (lfN P j 201 (s j) wk) := by
  obtain ⟨d, rfl⟩ : ∃ z, d = z + 1 := ⟨d - 1, by omega⟩
  have h10 := h.1.S10
  rw [e_X7_fillLives, runS_M, s_X7_fillLives_0]
  exact lp_lives (d := d) (J := J) (by omega) (xS P) 0 999999 I h (fun j hj => by omega) (by omega) (by omega)
/-! how long two towns hold -/
def lfS (P : PP) (s : Nat → Nat) (wk : Int32) (j : Nat) : Nat := lfN P j 201 (s j) wk
def hfN (P : PP) (t u : Nat) : Nat → XS → Nat
  | 0, _ => 201
  | k + 1, x => if dsP P (uW (whB x.1)) t u < 99999 then hfN P t u k (st1 P x) else 200 - k
theorem wh_lf (h : PlR P I) {x : XS} {n : Nat} (hn : n ≤ 200) (t : Nat) : dsP P (uW (whB (stI P n x).1)) t = dsP P (uW (gB (lfS P x.1 x.2.1) (n + 1))) t := by
  refine ds_cg (fun i hi => ?_) t
  have h1 := lf_iff (P := P) i n 201 (x.1 i) x.2.1 (by omega) (by omega)
  have h2 : whB (stI P n x).1 i = gB (lfS P x.1 x.2.1) (n + 1) i := by
    unfold whB gB lfS
    rw [stI_sw]
    exact decide_eq_decide.mpr (by rw [← h1]; omega)
  unfold uW; rw [h2]
theorem hf_p {t u : Nat} : ∀ (k : Nat) (x : XS), k ≤ 201 → hfN P t u k x ≤ 201 ∧ 201 - k ≤ hfN P t u k x ∧ (∀ j, 201 - k + j < hfN P t u k x → dsP P (uW (whB (stI P j x).1)) t u < 99999) ∧ ∀ j, hfN P t u k x = 201 - k + j → j < k → ¬ dsP P (uW (whB (stI P j x).1)) t u < 99999 := by
  intro k
  induction k with
  | zero => intro x hk; exact ⟨Nat.le_refl _, Nat.le_refl _, fun j hj => by unfold hfN at hj; omega, fun j _ hj => by omega⟩
  | succ k ih =>
    intro x hk
    unfold hfN
    by_cases hj : dsP P (uW (whB x.1)) t u < 99999
    · rw [if_pos hj]
      obtain ⟨a1, a2, a3, a4⟩ := ih (st1 P x) (by omega)
      refine ⟨a1, by omega, fun j h9 => ?_, fun j h9 h8 => ?_⟩
      · cases j with
        | zero => exact hj
        | succ j => exact a3 j (by omega)
      · cases j with
        | zero => omega
        | succ j => exact a4 j (by omega) (by omega)
    · rw [if_neg hj]
      refine ⟨by omega, by omega, fun j h9 => by omega, fun j h9 h8 => ?_⟩
      have e : j = 0 := by omega
      subst e; exact hj
theorem gB_mono (h : PlR P I) {f : Nat → Nat} {t u v v' : Nat} (ht : t < xN P) (hv : v ≤ v') (hj : dsP P (uW (gB f v')) t u < 99999) : dsP P (uW (gB f v)) t u < 99999 := by
  refine Nat.lt_of_le_of_lt (ds_mono (okP h uW_ok) (okP h uW_ok) ht (fun i hi hw => ?_) u) hj
  by_cases e : gB f v' i = true
  · have e2 : gB f v i = true := by unfold gB at *; have := of_decide_eq_true e; exact decide_eq_true (by omega)
    unfold uW; rw [if_pos e, if_pos e2]; omega
  · unfold uW at hw; rw [if_neg e] at hw; omega
theorem hf_su (h : PlR P I) {t u : Nat} (ht : t < xN P) (x : XS) : hfN P t u 201 x = suF P (lfS P x.1 x.2.1) t u 201 := by
  obtain ⟨a1, a2, a3, a4⟩ := hf_p (P := P) (t := t) (u := u) 201 x (by omega)
  have b1 := suF_le (P := P) (f := lfS P x.1 x.2.1) (t := t) (u := u) 201
  apply Nat.le_antisymm
  · by_cases h0 : hfN P t u 201 x = 0
    · omega
    · have h1 := a3 (hfN P t u 201 x - 1) (by omega)
      rw [wh_lf h (by omega), show hfN P t u 201 x - 1 + 1 = hfN P t u 201 x by omega] at h1
      exact suF_ge (by omega) h1 201 a1
  · by_cases h0 : suF P (lfS P x.1 x.2.1) t u 201 ≤ hfN P t u 201 x
    · exact h0
    · exfalso
      rcases suF_j (P := P) (f := lfS P x.1 x.2.1) (t := t) (u := u) 201 with e | e
      · omega
      · have h1 := a4 (hfN P t u 201 x) (by omega) (by omega)
        rw [wh_lf h (by omega)] at h1
        exact h1 (gB_mono h ht (by omega) e)
theorem lp_hold (hd : 6 ≤ d) {t u : Nat} (ht : t < xN P) (hu : u < xN P) : ∀ (k n : Nat) (x : XS) (I : Nat → Nat → Int32), MX P I x → I 192 57 = 1 → k ≤ 201 → 2 * k < n →
    ∃ I', runS (EV d) none 4 T0 C_X12_holdsFor k_X12_holdsFor rtI f_X12_holdsFor n 7 [.ref 192, .int (nI t), .int (nI u), .int (nI (201 - k))] [] (I, J) = some (some (.int (nI (hfN P t u k x))), (I', J)) ∧ kp wkX I I' ∧ k53 I I' := by
  intro k
  induction k with
  | zero =>
    intro n x I h h57 hk hn
    obtain ⟨n, rfl⟩ : ∃ z, n = z + 1 := ⟨n - 1, by omega⟩
    rw [runS_s, s_X12_holdsFor_7, if_pos (show (200 : Int32) < nI (201 - 0) by decide)]
    exact ⟨I, rfl, kp.rf, k53.rf⟩
  | succ k ih =>
    intro n x I h h57 hk hn
    obtain ⟨n, rfl⟩ : ∃ z, n = z + 1 + 1 := ⟨n - 2, by omega⟩
    obtain ⟨I1, t1, t2, -⟩ := ev_arj (d := d) (J := J) (by omega) h.1 h.2.1 ht hu
    have m1 : MX P I1 x := ⟨plr_kx h.1 t2 (by decide) (by rw [t2 192 (by decide)]), by rw [t2 230 (by decide)]; exact h.2.1, by rw [t2 230 (by decide)]; exact h.2.2.1, by rw [t2 230 (by decide)]; exact h.2.2.2.1, h.2.2.2.2⟩
    have f1 : k53 I I1 := fun j _ => by rw [t2 192 (by decide)]
    rw [runS_s, s_X12_holdsFor_7, if_neg (show ¬ (200 : Int32) < nI (201 - (k + 1)) from nI_nlt (a := 200) (by omega) (by omega)), t1, p_ci_s]
    unfold hfN
    by_cases hj : dsP P (uW (whB x.1)) t u < 99999
    · obtain ⟨I2, u1, u2, u3, u4⟩ := ev_weekS (d := d) (J := J) hd m1 (by rw [f1 57 (by decide)]; exact h57)
      obtain ⟨I3, v1, v2, v3⟩ := ih n (st1 P x) I2 u4 (by rw [u3 57 (by decide), f1 57 (by decide)]; exact h57) (by omega) (by omega)
      refine ⟨I3, ?_, (t2.up (by decide)).tr (u2.tr v2), f1.tr (u3.tr v3)⟩
      rw [if_neg (by rw [zI_t hj]; decide), if_pos hj, u1, p_cv_s, runS_s, s_X12_holdsFor_29, nI_1, show 201 - (k + 1) + 1 = 201 - k by omega]
      exact v1
    · rw [if_pos (zI_f hj), if_neg hj, show 201 - (k + 1) = 200 - k by omega]
      exact ⟨I1, rfl, t2.up (by decide), f1⟩
theorem ev_holdsFor (hd : 7 ≤ d) {x : XS} (h : MX P I x) {t u : Nat} (ht : t < xN P) (hu : u < xN P) : ∃ I', EV d T0 251 [.ref 192, .int (nI t), .int (nI u)] (I, J) = some (some (.int (nI (suF P (lfS P x.1 x.2.1) t u 201))), (I', J)) ∧ kp wkX I I' ∧ k567 I I' := by
  obtain ⟨d, rfl⟩ : ∃ z, d = z + 1 := ⟨d - 1, by omega⟩
  have k1 : kp wkX I (p_wr I 192 57 1) := kp.rf.wr (by decide)
  have k2 : k567 I (p_wr I 192 57 1) := fun j _ _ a => by rw [wr_eq, pk_un a]
  have m1 : MX P (p_wr I 192 57 1) x := ⟨plr_kx h.1 k1 (by decide) (k2 18 (by decide) (by decide) (by decide)), by rw [wr_ne (by decide)]; exact h.2.1, by rw [wr_ne (by decide)]; exact h.2.2.1, by rw [wr_ne (by decide)]; exact h.2.2.2.1, h.2.2.2.2⟩
  obtain ⟨I1, t1, t2, t3⟩ := lp_hold (d := d) (J := J) (by omega) ht hu 201 999999 x _ m1 (by rw [wr_eq, pk_us]) (by omega) (by omega)
  refine ⟨I1, ?_, k1.tr t2, k2.tr (k567.of t3)⟩
  rw [e_X12_holdsFor, runS_M, s_X12_holdsFor_0, ← hf_su h.1 ht x]
  exact t1
def holdQ (P : PP) (x : XS) (a b : Int32) : Int32 := if two P a b = 0 then -1 else if suF P (lfS P x.1 x.2.1) a.toNatClampNeg b.toNatClampNeg 201 ≤ 200 then nI (suF P (lfS P x.1 x.2.1) a.toNatClampNeg b.toNatClampNeg 201) else -2
theorem c_holds (hd : 7 ≤ d) {x : XS} (h : CX_39 P I x) (a b : Int32) : CQ d 141 [.ref 0, .int a, .int b] I J (holdQ P x a b) := by
  obtain ⟨d, rfl⟩ : ∃ z, d = z + 1 := ⟨d - 1, by omega⟩
  have h1 := h.1
  have h7 := h1.N7
  unfold CQ holdQ
  rw [e_X11_holds, runS_M, s_X11_holds_0, q_two (by omega) h1, p_ci_s]
  rcases two_c h1 (a := a) (b := b) with e | ⟨e, -, -, t, u, ht, hu, htu, rfl, rfl⟩
  · rw [if_pos e, if_pos e]; exact ⟨I, rfl, kp.rf⟩
  have hne : ¬ two P (nI t) (nI u) = 0 := by rw [e]; decide
  obtain ⟨I1, t1, t2, t3⟩ := ev_fillLives (d := d) (J := J) (by omega) (⟨h.1, h.2.1, h.2.2.1⟩ : CS P I x.1 x.2.1)
  have p1 : PlR P I1 := plr_kx h1 t2 (by decide) (by rw [t2 192 (by decide)])
  have hle := suF_le (P := P) (f := lfS P x.1 x.2.1) (t := t) (u := u) 201
  refine ⟨I1, ?_, t2.up (by decide)⟩
  rw [if_neg hne, if_neg hne, t1, p_cv_s, show (999999 : Nat) = 999998 + 1 from rfl, runS_s, s_X11_holds_22, ev_widest_177 (by omega) p1 (f := lfS P x.1 x.2.1) (fun i hi => ⟨t3 i hi, by have := lf_le (P := P) i 201 (x.1 i) x.2.1; unfold lfS; omega⟩) ht hu, p_ci_s, wd_su p1 htu (f := lfS P x.1 x.2.1) (B := 201) (fun i hi => lf_le i 201 (x.1 i) x.2.1), nI_clamp (by omega), nI_clamp (by omega)]
  simp only [show (nI (suF P (lfS P x.1 x.2.1) t u 201) ≤ (200 : Int32)) = (suF P (lfS P x.1 x.2.1) t u 201 ≤ 200) from le_nI (b := 200) (by omega) (by omega)]
  by_cases hc : suF P (lfS P x.1 x.2.1) t u 201 ≤ 200
  · rw [if_pos hc, if_pos hc]; rfl
  · rw [if_neg hc, if_neg hc]; rfl
theorem m_holds (hd : 8 ≤ d) {x : XS} (h : NX P I x) (a b : Int32) : MQq d 252 [.ref 192, .int a, .int b] I J (holdQ P x a b) := by
  obtain ⟨d, rfl⟩ : ∃ z, d = z + 1 := ⟨d - 1, by omega⟩
  have h1 := h.1
  have h7 := h1.N7
  unfold MQq holdQ
  rw [e_X12_holds, runS_M, s_X12_holds_0, q_townR (by omega) h1, p_ci_s]
  rcases oneOf_c (a := a) (N := xN P) (by omega) with e | ⟨e, t, ht, rfl⟩
  · rw [if_pos e, if_pos (two_1 e)]; exact ⟨I, rfl, kp.rf, k567.rf⟩
  rw [if_neg (by rw [e]; decide), q_townR (by omega) h1, p_ci_s]
  rcases oneOf_c (a := b) (N := xN P) (by omega) with e' | ⟨e', u, hu, rfl⟩
  · rw [if_pos e', if_pos (two_2 e')]; exact ⟨I, rfl, kp.rf, k567.rf⟩
  rw [if_neg (by rw [e']; decide), show (999999 : Nat) = 999997 + 1 + 1 from rfl, runS_s, s_X12_holds_16]
  by_cases htu : nI t = nI u
  · rw [if_pos htu, if_pos (two_3 htu)]; exact ⟨I, rfl, kp.rf, k567.rf⟩
  obtain ⟨I1, t1, t2, t3, t4, t5, t6, -⟩ := h.row (d := d) (J := J) (by omega)
  obtain ⟨I2, u1, u2, u3⟩ := ev_holdsFor (d := d) (J := J) (by omega) t6 ht hu
  have hle := suF_le (P := P) (f := lfS P x.1 x.2.1) (t := t) (u := u) 201
  refine ⟨I2, ?_, (t2.up (by decide)).tr (u2.up (by decide)), t3.tr u3⟩
  rw [if_neg htu, if_neg (by rw [two_4 e e' htu]; decide), t1, p_cv_s, u1, p_ci_s, runS_s, s_X12_holds_34, nI_clamp (by omega), nI_clamp (by omega)]
  simp only [show (nI (suF P (lfS P x.1 x.2.1) t u 201) = (201 : Int32)) = (suF P (lfS P x.1 x.2.1) t u 201 = 201) from eq_nI (b := 201) (by omega) (by omega)]
  by_cases hc : suF P (lfS P x.1 x.2.1) t u 201 ≤ 200
  · rw [if_pos hc, if_neg (by omega)]; rfl
  · rw [if_neg hc, if_pos (by omega)]; rfl
end QR
