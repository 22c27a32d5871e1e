/-! ===== questions: takes, surest, march ===== -/
theorem in_c {n lo hi : Int32} {l h : Nat} (hl : lo = nI l) (hh : hi = nI h) (hb : h < 2 ^ 30) (hlb : l < 2 ^ 30) : zI (¬ n < lo ∧ ¬ hi < n) = 0 ∨ (zI (¬ n < lo ∧ ¬ hi < n) = 1 ∧ ∃ k, l ≤ k ∧ k ≤ h ∧ n = nI k) := by
  by_cases hc : ¬ n < lo ∧ ¬ hi < n
  · right
    refine ⟨zI_t hc, ?_⟩
    subst hl; subst hh
    rcases pk_ix n (n := h + 1) (by omega) with h1 | h1 | ⟨j, hj, e⟩
    · refine absurd ?_ hc.1
      rw [Int32.lt_iff_toInt_lt] at h1 ⊢
      have := nI_toInt (n := l) (by omega)
      have e0 : (0 : Int32).toInt = 0 := by decide
      omega
    · refine absurd ?_ hc.2
      rw [Int32.lt_iff_toInt_lt]
      rw [Int32.le_iff_toInt_le] at h1
      have e1 := nI_toInt (n := h + 1) (by omega)
      have e2 := nI_toInt (n := h) (by omega)
      omega
    · subst e
      refine ⟨j, ?_, by omega, rfl⟩
      have h2 := hc.1
      rw [nI_ltI (by omega) (by omega)] at h2
      omega
  · exact Or.inl (zI_f hc)
section QC
variable {P : PP} {I : Nat → Nat → Int32} {J : Nat → Nat → Int64} {d : Nat} {s : Nat → Nat} {wk : Int32}
/-! takes -/
def tkF (P : PP) (i : Nat) (wk : Int32) : Nat → Nat → Int32 → Int32
  | 0, _, acc => acc
  | k + 1, x, acc => tkF P i wk k (x + 1) (acc + costF P i (nI x) wk)
theorem lp_thread (hd : 3 ≤ d) {i w : Nat} (hw : w ≤ 99) : ∀ (k x n : Nat) (acc : Int32) (I : Nat → Nat → Int32), PlR P I → i < xS P → I 39 0 = wk → x ≤ 99 → k = w - x → k < n →
    ∃ I', runS (EV d) none 6 T0 C_X5_threadUpTo k_X5_threadUpTo rtI f_X5_threadUpTo n 11 [.ref 169, .int (nI i), .int (nI w), .ref 39, .int acc, .int (nI x)] [] (I, J) = some (some (.int (tkF P i wk k x acc)), (I', J)) ∧ kp [37, 170] I I' := by
  intro k
  induction k with
  | zero =>
    intro x n acc I h hi hk hx hkx hn
    obtain ⟨n, rfl⟩ : ∃ z, n = z + 1 := ⟨n - 1, by omega⟩
    rw [runS_s, s_X5_threadUpTo_11, if_pos (nI_le (by omega) (by omega))]
    exact ⟨I, rfl, kp.rf⟩
  | succ k ih =>
    intro x n acc I h hi hk hx hkx hn
    obtain ⟨n, rfl⟩ : ∃ z, n = z + 1 := ⟨n - 1, by omega⟩
    obtain ⟨I1, t1, t2⟩ := ev_stitchCost (d := d) (J := J) hd h hi (nI x) wk
    obtain ⟨I2, u1, u2⟩ := ih (x + 1) n (acc + costF P i (nI x) wk) I1 (plr_kx h t2 (by decide) (by rw [t2 192 (by decide)])) hi (by rw [t2 39 (by decide)]; exact hk) (by omega) (by omega) (by omega)
    refine ⟨I2, ?_, t2.tr u2⟩
    rw [runS_s, s_X5_threadUpTo_11, if_neg (nI_ge (by omega) (by omega)), hk, t1, p_ci_s, nI_1]
    exact u1
theorem ev_threadUpTo (hd : 4 ≤ d) (h : PlR P I) (hs : swR P (I 40) s) (hk : I 39 0 = wk) {i w : Nat} (hi : i < xS P) (hw : w ≤ 99) : ∃ I', EV d T0 59 [.ref 169, .int (nI i), .int (nI w), .ref 39] (I, J) = some (some (.int (tkF P i wk (w - s i) (s i) 0)), (I', J)) ∧ kp [37, 170] I I' := by
  obtain ⟨d, rfl⟩ : ∃ z, d = z + 1 := ⟨d - 1, by omega⟩
  have h10 := h.S10
  obtain ⟨I', t1, t2⟩ := lp_thread (d := d) (J := J) (by omega) hw (w - s i) (s i) 999999 0 I h hi hk (hs i hi).2 rfl (by omega)
  refine ⟨I', ?_, t2⟩
  rw [e_X5_threadUpTo, runS_M, s_X5_threadUpTo_0, chk_in (by omega) (by omega), nI_clamp (by omega), (hs i hi).1]
  exact t1
def takeQ (P : PP) (s : Nat → Nat) (wk a b : Int32) : Int32 := if oneOf a (xS P) = 0 then -1 else if zI (¬ b < 1 ∧ ¬ 99 < b) = 0 then -1 else tkF P a.toNatClampNeg wk (b.toNatClampNeg - s a.toNatClampNeg) (s a.toNatClampNeg) 0
theorem c_takes (hd : 5 ≤ d) (h : CS P I s wk) (a b : Int32) : CQ d 137 [.ref 0, .int a, .int b] I J (takeQ P s wk a b) := by
  obtain ⟨d, rfl⟩ : ∃ z, d = z + 1 := ⟨d - 1, by omega⟩
  obtain ⟨h1, h2, h3⟩ := h
  have h10 := h1.S10
  unfold CQ takeQ
  rw [e_X11_takes, runS_M, s_X11_takes_0, q_seam (by omega) h1, p_ci_s]
  rcases oneOf_c (a := a) (N := xS P) (by omega) with e | ⟨e, i, hi, rfl⟩
  · rw [if_pos e, if_pos e]; exact ⟨I, rfl, kp.rf⟩
  have hne : ¬ oneOf (nI i) (xS P) = 0 := by rw [e]; decide
  rw [if_neg hne, if_neg hne, q_within (by omega), p_ci_s]
  rcases in_c (n := b) (lo := 1) (hi := 99) (l := 1) (h := 99) rfl rfl (by omega) (by omega) with e2 | ⟨e2, k, k1, k2, rfl⟩
  · rw [if_pos e2, if_pos e2]; exact ⟨I, rfl, kp.rf⟩
  have hne2 : ¬ zI (¬ nI k < (1 : Int32) ∧ ¬ (99 : Int32) < nI k) = 0 := by rw [e2]; decide
  obtain ⟨I1, t1, t2⟩ := ev_threadUpTo (d := d) (J := J) (by omega) h1 h2 h3 hi k2
  rw [if_neg hne2, if_neg hne2, show (999999 : Nat) = 999998 + 1 from rfl, runS_s, s_X11_takes_20, t1, p_ci_s, nI_clamp (by omega), nI_clamp (by omega)]
  exact ⟨I1, rfl, t2.up (by decide)⟩
theorem lp_takesNow (hd : 4 ≤ d) {i w : Nat} (hw : w ≤ 99) {was : Int32} : ∀ (k x n : Nat) (acc : Int32) (I : Nat → Nat → Int32), PlR P I → i < xS P → I 230 31 = wk → I 230 i = nI x → x ≤ 99 → k = w - x → k < n →
    ∃ I', runS (EV d) none 5 T0 C_X12_takesNow k_X12_takesNow rtI f_X12_takesNow n 10 [.ref 192, .int (nI i), .int (nI w), .int was, .int acc] [] (I, J) = some (some (.int (tkF P i wk k x acc)), (I', J)) ∧ kp [227, 228, 230, 192] I I' ∧ k53 I I' ∧ ∀ j, I' 230 j = if j = i then was else I 230 j := by
  intro k
  induction k with
  | zero =>
    intro x n acc I h hi hk hr hx hkx hn
    have h10 := h.S10
    obtain ⟨n, rfl⟩ : ∃ z, n = z + 1 := ⟨n - 1, by omega⟩
    rw [runS_s, s_X12_takesNow_10, chk_in (by omega) (by omega), nI_clamp (by omega), hr, if_pos (nI_le (by omega) (by omega)), chk_in (by omega) (by omega)]
    refine ⟨_, rfl, kp.rf.wr (by decide), fun j _ => by rw [wr_ne (by decide)], fun j => ?_⟩
    rw [wr_eq]; rfl
  | succ k ih =>
    intro x n acc I h hi hk hr hx hkx hn
    have h10 := h.S10
    obtain ⟨n, rfl⟩ : ∃ z, n = z + 1 := ⟨n - 1, by omega⟩
    obtain ⟨I1, t1, t2, t3⟩ := ev_costsNow (d := d) (J := J) hd h hi
    have e230 : I1 230 = I 230 := t2 230 (by decide)
    have k1 : kp [227, 228, 230, 192] I (p_wr I1 230 i (nI (x + 1))) := (t2.up (by decide)).wr (by decide)
    have f1 : k53 I (p_wr I1 230 i (nI (x + 1))) := fun j hj => by rw [wr_ne (by decide)]; exact t3 j hj
    obtain ⟨I2, u1, u2, u3, u4⟩ := ih (x + 1) n (acc + costF P i (nI x) wk) (p_wr I1 230 i (nI (x + 1))) (plr_kx h k1 (by decide) (f1 18 (by decide))) hi (by rw [wr_eq, pk_un (by omega), e230]; exact hk) (by rw [wr_eq, pk_us]) (by omega) (by omega) (by omega)
    refine ⟨I2, ?_, k1.tr u2, f1.tr u3, fun j => ?_⟩
    · rw [runS_s, s_X12_takesNow_10, chk_in (by omega) (by omega), nI_clamp (by omega), hr, if_neg (nI_ge (by omega) (by omega)), t1, p_ci_s, chk_in (by omega) (by omega), chk_in (by omega) (by omega)]
      dsimp only
      rw [e230, hr, hk, nI_1]
      exact u1
    · rw [u4 j]
      by_cases e : j = i
      · rw [if_pos e, if_pos e]
      · rw [if_neg e, if_neg e, wr_eq, pk_un e, e230]
theorem ev_takesNow (hd : 5 ≤ d) (h : RS P I s wk) {i w : Nat} (hi : i < xS P) (hw : w ≤ 99) : ∃ I', EV d T0 244 [.ref 192, .int (nI i), .int (nI w)] (I, J) = some (some (.int (tkF P i wk (w - s i) (s i) 0)), (I', J)) ∧ kp [227, 228, 230, 192] I I' ∧ k53 I I' ∧ ∀ j, I' 230 j = I 230 j := by
  obtain ⟨d, rfl⟩ : ∃ z, d = z + 1 := ⟨d - 1, by omega⟩
  obtain ⟨h1, h2, h3⟩ := h
  have h10 := h1.S10
  obtain ⟨I', t1, t2, t3, t4⟩ := lp_takesNow (d := d) (J := J) (by omega) hw (was := nI (s i)) (w - s i) (s i) 999999 0 I h1 hi h3 (h2 i hi).1 (h2 i hi).2 rfl (by omega)
  refine ⟨I', ?_, t2, t3, fun j => ?_⟩
  · rw [e_X12_takesNow, runS_M, s_X12_takesNow_0, chk_in (by omega) (by omega), nI_clamp (by omega), (h2 i hi).1]
    exact t1
  · rw [t4 j]
    by_cases e : j = i
    · rw [if_pos e, e, (h2 i hi).1]
    · rw [if_neg e]
theorem q_isSewn (hd : 2 ≤ d) (a : Int32) (ij : IJ) : EV d T0 245 [.int a] ij = some (some (.int (zI (¬ a < 1 ∧ ¬ 99 < a))), ij) := by
  obtain ⟨d, rfl⟩ : ∃ z, d = z + 1 := ⟨d - 1, by omega⟩
  obtain ⟨I, J⟩ := ij
  rw [e_X12_isSewn, runS_M, s_X12_isSewn_0, q_in (by omega), p_ci_s]
  exact rtZ_z
theorem q_isLong (hd : 2 ≤ d) (a : Int32) (ij : IJ) : EV d T0 255 [.int a] ij = some (some (.int (zI (¬ a < 0 ∧ ¬ 60 < a))), ij) := by
  obtain ⟨d, rfl⟩ : ∃ z, d = z + 1 := ⟨d - 1, by omega⟩
  obtain ⟨I, J⟩ := ij
  rw [e_X12_isLong, runS_M, s_X12_isLong_0, q_in (by omega), p_ci_s]
  exact rtZ_z
theorem m_takes (hd : 6 ≤ d) (h : MS P I s wk) (a b : Int32) : MQq d 246 [.ref 192, .int a, .int b] I J (takeQ P s wk a b) := by
  obtain ⟨d, rfl⟩ : ∃ z, d = z + 1 := ⟨d - 1, by omega⟩
  have h1 := h.1
  have h10 := h1.S10
  unfold MQq takeQ
  rw [e_X12_takes, runS_M, s_X12_takes_0, q_seamR (by omega) h1, p_ci_s]
  rcases oneOf_c (a := a) (N := xS P) (by omega) with e | ⟨e, i, hi, rfl⟩
  · rw [if_pos e, if_pos e]; exact ⟨I, rfl, kp.rf, k567.rf⟩
  have hne : ¬ oneOf (nI i) (xS P) = 0 := by rw [e]; decide
  rw [if_neg hne, if_neg hne, q_isSewn (by omega), p_ci_s]
  rcases in_c (n := b) (lo := 1) (hi := 99) (l := 1) (h := 99) rfl rfl (by omega) (by omega) with e2 | ⟨e2, k, k1, k2, rfl⟩
  · rw [if_pos e2, if_pos e2]; exact ⟨I, rfl, kp.rf, k567.rf⟩
  have hne2 : ¬ zI (¬ nI k < (1 : Int32) ∧ ¬ (99 : Int32) < nI k) = 0 := by rw [e2]; decide
  obtain ⟨I1, t1, t2, t3, -, -, -, r⟩ := h.row (d := d) (J := J) (by omega)
  obtain ⟨I2, u1, u2, u3, -⟩ := ev_takesNow (d := d) (J := J) (by omega) r hi k2
  rw [if_neg hne2, if_neg hne2, show (999999 : Nat) = 999998 + 1 from rfl, runS_s, s_X12_takes_17, t1, p_cv_s, u1, p_ci_s, nI_clamp (by omega), nI_clamp (by omega)]
  exact ⟨I2, rfl, (t2.up (by decide)).tr (u2.up (by decide)), t3.tr (k567.of u3)⟩
/-! march -/
def ndF (s : Nat → Nat) (v : Nat) : Nat → Nat
  | 0 => 0
  | n + 1 => ndF s v n + (v - s n)
theorem ndF_le {s : Nat → Nat} {v : Nat} : ∀ n, ndF s v n ≤ n * v := by
  intro n
  induction n with
  | zero => exact Nat.zero_le _
  | succ n ih =>
    have e : (n + 1) * v = n * v + v := Nat.succ_mul n v
    unfold ndF
    omega
def mcF (s : Nat → Nat) (S st : Nat) : Nat → Nat
  | 0 => 0
  | v + 1 => if ndF s (v + 1) S ≤ st then v + 1 else mcF s S st v
theorem lp_even1 (h : PlR P I) (hs : swR P (I 40) s) {v st : Nat} (hv : v ≤ 99) (hst : st ≤ 100000) : ∀ (k i n : Nat), i + k = xS P →
    runS (EV d) none 6 T0 C_X8_evenLevel k_X8_evenLevel rtI f_X8_evenLevel (n + k + 1) 13 [.ref 39, .ref 25, .int (nI st), .int (nI v), .int (nI (ndF s v i)), .int (nI i)] [] (I, J) =
    if ndF s v (xS P) ≤ st then some (some (.int (nI v)), (I, J)) else runS (EV d) none 6 T0 C_X8_evenLevel k_X8_evenLevel rtI f_X8_evenLevel n 3 [.ref 39, .ref 25, .int (nI st), .int (nI v + -1), un, un] [] (I, J) := by
  have h10 := h.S10
  have hb : ∀ i, i ≤ 10 → ndF s v i ≤ 990 := fun i hi => by
    have h1 := ndF_le (s := s) (v := v) i
    have h2 : i * v ≤ 10 * 99 := Nat.mul_le_mul hi hv
    omega
  intro k
  induction k with
  | zero =>
    intro i n hi
    have e : i = xS P := by omega
    subst e
    have h9 := hb (xS P) h10
    rw [runS_s, s_X8_evenLevel_13, h.S, if_pos (Int32.le_refl _)]
    simp only [lt_nI (show st < 2 ^ 31 by omega) (show ndF s v (xS P) < 2 ^ 31 by omega)]
    by_cases hc : ndF s v (xS P) ≤ st
    · rw [if_neg (by omega), if_pos hc]; rfl
    · rw [if_pos (by omega), if_neg hc]
  | succ k ih =>
    intro i n hi
    have h9 := (hs i (by omega)).2
    have h8 := hb (i + 1) (by omega)
    rw [show n + (k + 1) + 1 = (n + k + 1) + 1 by omega, runS_s, s_X8_evenLevel_13, h.S, if_neg (nI_ge (by omega) (by omega)), chk_in (by omega) (by omega), nI_clamp (by omega), (hs i (by omega)).1, nI_1]
    have e : nI (ndF s v i) + (if (0 : Int32) < nI v - nI (s i) then nI v - nI (s i) else 0) = nI (ndF s v (i + 1)) := by
      show _ = nI (ndF s v i + (v - s i))
      rw [← nI_add]
      congr 1
      by_cases hc : s i < v
      · rw [pk_sub (by omega), if_pos (show (0 : Int32) < nI (v - s i) from nI_lt (a := 0) (by omega) (by omega))]
      · have hle : (nI v - nI (s i)).toInt = (v : Int) - s i := pk_sub_toInt (by omega) (by omega)
        rw [if_neg (by rw [Int32.lt_iff_toInt_lt, hle]; have e0 : (0 : Int32).toInt = 0 := by decide
                       omega)]
        rw [show v - s i = 0 by omega]; rfl
    rw [e]
    exact ih (i + 1) n (by omega)
theorem lp_even2 (h : PlR P I) (hs : swR P (I 40) s) {st : Nat} (hst : st ≤ 100000) : ∀ (v n : Nat), v ≤ 99 → 20 * v < n →
    runS (EV d) none 6 T0 C_X8_evenLevel k_X8_evenLevel rtI f_X8_evenLevel n 3 [.ref 39, .ref 25, .int (nI st), .int (nI v), un, un] [] (I, J) = some (some (.int (nI (mcF s (xS P) st v))), (I, J)) := by
  have h10 := h.S10
  intro v
  induction v with
  | zero =>
    intro n hv hn
    obtain ⟨n, rfl⟩ : ∃ z, n = z + 1 := ⟨n - 1, by omega⟩
    rw [runS_s, s_X8_evenLevel_3, if_pos (by decide)]
    rfl
  | succ v ih =>
    intro n hv hn
    obtain ⟨n, rfl⟩ : ∃ z, n = (z + xS P + 1) + 1 := ⟨n - xS P - 2, by omega⟩
    rw [runS_s, s_X8_evenLevel_3, if_neg (by rw [le0_nI (by omega)]; omega)]
    have h1 := lp_even1 (d := d) (J := J) h hs (v := v + 1) (st := st) (by omega) hst (xS P) 0 n (by omega)
    have h2 : ndF s (v + 1) 0 = 0 := rfl
    rw [h2] at h1
    refine h1.trans ?_
    unfold mcF
    by_cases hc : ndF s (v + 1) (xS P) ≤ st
    · rw [if_pos hc, if_pos hc]
    · rw [if_neg hc, if_neg hc, show nI (v + 1) + -1 = nI v from pk_m1 v]
      exact ih n (by omega) (by omega)
/-- MARCH of n weeks; q: the stitches of a week -/
def marchQ (P : PP) (s : Nat → Nat) (q : Nat) (a : Int32) : Int32 := if zI (¬ a < 0 ∧ ¬ 60 < a) = 0 then -1 else if xS P = 0 then -2 else nI (mcF s (xS P) (a.toNatClampNeg * q) 99)
theorem c_march (hd : 2 ≤ d) (h : CS P I s wk) {q : Nat} (hq : q ≤ 297) (h4 : I 25 4 = nI q) (a : Int32) : CQ d 143 [.ref 0, .int a] I J (marchQ P s q a) := by
  obtain ⟨d, rfl⟩ : ∃ z, d = z + 2 := ⟨d - 2, by omega⟩
  obtain ⟨h1, h2, h3⟩ := h
  have h10 := h1.S10
  unfold CQ marchQ
  rw [e_X11_march, runS_M, s_X11_march_0, q_within (by omega), p_ci_s]
  rcases in_c (n := a) (lo := 0) (hi := 60) (l := 0) (h := 60) rfl rfl (by omega) (by omega) with e2 | ⟨e2, k, k1, k2, rfl⟩
  · rw [if_pos e2, if_pos e2]; exact ⟨I, rfl, kp.rf⟩
  have hne2 : ¬ zI (¬ nI k < (0 : Int32) ∧ ¬ (60 : Int32) < nI k) = 0 := by rw [e2]; decide
  have hm : k * q ≤ 60 * 297 := Nat.mul_le_mul k2 hq
  rw [if_neg hne2, if_neg hne2]
  simp only [h1.S, eq0_nI (show xS P < 2 ^ 31 by omega), h4, pk_mul]
  by_cases hs0 : xS P = 0
  · rw [if_pos hs0, if_pos hs0]; exact ⟨I, rfl, kp.rf⟩
  · rw [if_neg hs0, if_neg hs0, e_X8_evenLevel, runS_M, s_X8_evenLevel_0]
    have h9 := lp_even2 (d := d) (J := J) h1 h2 (st := k * q) (by omega) 99 999999 (by omega) (by omega)
    have h8 : runS (EV d) none 6 T0 C_X8_evenLevel k_X8_evenLevel rtI f_X8_evenLevel 999999 3 [.ref 39, .ref 25, .int (nI (k * q)), .int 99, un, un] [] (I, J) = _ := h9
    rw [h8, p_ci_s, nI_clamp (by omega)]
    exact ⟨I, rfl, kp.rf⟩
theorem lp_march1 (h : PlR P I) (hs : swR P (I 229) s) {k q v : Nat} (hv : v ≤ 99) (hq : q ≤ 297) (hk : k ≤ 60) (h9 : I 209 (xv P) = nI q) (best : Int32) : ∀ (m i n : Nat), i + m = xS P →
    runS (EV d) none 6 T0 C_X12_march k_X12_march rtI f_X12_march (n + m + 1) 40 [.ref 192, .int (nI k), .int best, .int (nI v), .int (nI (ndF s v i)), .int (nI i)] [] (I, J) =
    runS (EV d) none 6 T0 C_X12_march k_X12_march rtI f_X12_march n 28 [.ref 192, .int (nI k), .int (if ndF s v (xS P) ≤ k * q then nI v else best), .int (nI (v + 1)), un, un] [] (I, J) := by
  have h10 := h.S10
  have hv2 := h.v2
  have hm : k * q ≤ 60 * 297 := Nat.mul_le_mul hk hq
  have hb : ∀ i, i ≤ 10 → ndF s v i ≤ 990 := fun i hi => by
    have h1 := ndF_le (s := s) (v := v) i
    have h2 : i * v ≤ 10 * 99 := Nat.mul_le_mul hi hv
    omega
  intro m
  induction m with
  | zero =>
    intro i n hi
    have e : i = xS P := by omega
    subst e
    have h8 := hb (xS P) h10
    rw [runS_s, s_X12_march_40, h.v, chk_in hv2 (by omega), nI_clamp (by omega), h.Sm, if_pos (Int32.le_refl _), chk_in hv2 (by omega), h9, pk_mul, nI_1]
    simp only [lt_nI (show k * q < 2 ^ 31 by omega) (show ndF s v (xS P) < 2 ^ 31 by omega)]
    by_cases hc : ndF s v (xS P) ≤ k * q
    · rw [if_neg (by omega), if_pos hc]
    · rw [if_pos (by omega), if_neg hc]
  | succ m ih =>
    intro i n hi
    have h8 := (hs i (by omega)).2
    have h6 := hb (i + 1) (by omega)
    rw [show n + (m + 1) + 1 = (n + m + 1) + 1 by omega, runS_s, s_X12_march_40, h.v, chk_in hv2 (by omega), nI_clamp (by omega), h.Sm, if_neg (nI_ge (by omega) (by omega)), chk_in (by omega) (by omega), nI_clamp (by omega), (hs i (by omega)).1, nI_1]
    simp only [le_nI (show v < 2 ^ 31 by omega) (show s i < 2 ^ 31 by omega)]
    have hst : ndF s v (i + 1) = ndF s v i + (v - s i) := rfl
    by_cases hc : v ≤ s i
    · rw [if_pos hc]
      have hst : ndF s v (i + 1) = ndF s v i := by rw [hst, show v - s i = 0 by omega]; rfl
      rw [← hst]
      exact ih (i + 1) n (by omega)
    · rw [if_neg hc, chk_in (by omega) (by omega), pk_sub (by omega), nI_add, ← hst]
      exact ih (i + 1) n (by omega)
theorem mcF_s {S st v : Nat} : mcF s S st (v + 1) = if ndF s (v + 1) S ≤ st then v + 1 else mcF s S st v := rfl
theorem lp_march2 (h : PlR P I) (hs : swR P (I 229) s) {k q : Nat} (hq : q ≤ 297) (hk : k ≤ 60) (h9 : I 209 (xv P) = nI q) : ∀ (m v n : Nat) (best : Int32), v + m = 100 → 20 * m < n → (v = 0 → best = 0) → (∀ u, v = u + 1 → best = nI (mcF s (xS P) (k * q) u)) →
    runS (EV d) none 6 T0 C_X12_march k_X12_march rtI f_X12_march n 28 [.ref 192, .int (nI k), .int best, .int (nI v), un, un] [] (I, J) = some (some (.int (nI (mcF s (xS P) (k * q) 99))), (I, J)) := by
  have h10 := h.S10
  intro m
  induction m with
  | zero =>
    intro v n best hv hn hb0 hb
    obtain ⟨n, rfl⟩ : ∃ z, n = z + 1 := ⟨n - 1, by omega⟩
    have e : v = 100 := by omega
    subst e
    rw [runS_s, s_X12_march_28, if_pos (by decide), hb 99 rfl]
    rfl
  | succ m ih =>
    intro v n best hv hn hb0 hb
    obtain ⟨n, rfl⟩ : ∃ z, n = (z + xS P + 1) + 1 := ⟨n - xS P - 2, by omega⟩
    rw [runS_s, s_X12_march_28, if_neg (show ¬ (99 : Int32) < nI v from nI_nlt (a := 99) (by omega) (by omega))]
    have h1 := lp_march1 (d := d) (J := J) h hs (v := v) (by omega) hq hk h9 best (xS P) 0 n (by omega)
    have h2 : ndF s v 0 = 0 := rfl
    rw [h2] at h1
    refine h1.trans (ih (v + 1) n _ (by omega) (by omega) (fun e => by omega) (fun u e => ?_))
    have e2 : u = v := by omega
    subst e2
    cases u with
    | zero =>
      rw [hb0 rfl]
      split <;> rfl
    | succ u =>
      rw [hb u rfl, mcF_s]
      split <;> rfl
theorem m_march (hd : 3 ≤ d) (h : MS P I s wk) {q : Nat} (hq : q ≤ 297) (h9 : I 209 (xv P) = nI q) (a : Int32) : MQq d 256 [.ref 192, .int a] I J (marchQ P s q a) := by
  obtain ⟨d, rfl⟩ : ∃ z, d = z + 1 := ⟨d - 1, by omega⟩
  obtain ⟨h1, h2, h3⟩ := h
  have h10 := h1.S10
  have hv := h1.v2
  unfold MQq marchQ
  rw [e_X12_march, runS_M, s_X12_march_0, q_isLong (by omega), p_ci_s]
  rcases in_c (n := a) (lo := 0) (hi := 60) (l := 0) (h := 60) rfl rfl (by omega) (by omega) with e2 | ⟨e2, k, k1, k2, rfl⟩
  · rw [if_pos e2, if_pos e2]; exact ⟨I, rfl, kp.rf, k567.rf⟩
  have hne2 : ¬ zI (¬ nI k < (0 : Int32) ∧ ¬ (60 : Int32) < nI k) = 0 := by rw [e2]; decide
  have hp : ∀ x : Option Rs, p_chk (p_in (nI (xv P)) 2) x = x := fun x => chk_in hv (by omega)
  rw [if_neg hne2, if_neg hne2]
  simp only [h1.v, hp, nI_clamp (show xv P < 2 ^ 31 by omega), h1.Sm, eq0_nI (show xS P < 2 ^ 31 by omega)]
  by_cases hs0 : xS P = 0
  · rw [if_pos hs0, if_pos hs0]; exact ⟨I, rfl, kp.rf, k567.rf⟩
  · rw [if_neg hs0, if_neg hs0, nI_clamp (by omega)]
    exact ⟨I, lp_march2 (d := d) (J := J) h1 h2 hq k2 h9 100 0 999999 0 (by omega) (by omega) (fun _ => rfl) (fun u e => by omega), kp.rf, k567.rf⟩
end QC
