/-! ===== read: tokens (class), all ===== -/
section RJ
variable {I : Nat → Nat → Int32} {J : Nat → Nat → Int64} {d : Nat} {b : Nat → Nat} {n : Nat}
theorem lg_0 {x y : Int64} : (lg_cmp x y = 0) = (x = y) := by
  unfold lg_cmp
  by_cases c : x > y
  · rw [if_pos c]
    exact (eq_false (by decide)).trans (eq_false (fun e => by rw [e] at c; exact Int64.lt_irrefl c)).symm
  · rw [if_neg c]
    by_cases c2 : x = y
    · rw [if_pos c2]; exact (eq_true rfl).trans (eq_true c2).symm
    · rw [if_neg c2]; exact (eq_false (by decide)).trans (eq_false c2).symm
theorem nI_64 {m : Nat} (hm : m < 2 ^ 31) : (nI m).toInt64 = Int64.ofNat m := by
  apply Int64.toInt_inj.mp
  rw [Int32.toInt_toInt64, nI_toInt hm, Int64.toInt_ofNat_of_lt (by omega)]
theorem dg_hom {v m : Nat} (h1 : 48 ≤ m) (hm : m < 256) : (Int64.ofNat v * Int64.ofNat 10 + (nI m).toInt64) - Int64.ofNat 48 = Int64.ofNat (10 * v + (m - 48)) := by
  rw [nI_64 (by omega)]
  obtain ⟨q, rfl⟩ : ∃ q, m = q + 48 := ⟨m - 48, by omega⟩
  rw [Nat.add_sub_cancel, Nat.mul_comm, Int64.ofNat_add, Int64.ofNat_add, Int64.ofNat_mul, ← Int64.add_assoc, Int64.add_sub_cancel]
theorem lp_digs (hd : 1 ≤ d) (h : TB I n b) {p0 : Nat} : ∀ (k p m v : Nat), p + k = n → 2 * k < m →
    ∃ m', m ≤ m' + 2 * k + 1 ∧ runS (EV d) none 6 T0 C_X10_scanDigits k_X10_scanDigits rtI f_X10_scanDigits m 5 [.ref 18, .ref 1, .int (nI p0), .int (nI p), .long (Int64.ofNat v), un] [] (I, J) = runS (EV d) none 6 T0 C_X10_scanDigits k_X10_scanDigits rtI f_X10_scanDigits m' 49 [.ref 18, un, .int (nI p0), .int (nI (dgF b n k p v).1), .long (Int64.ofNat (dgF b n k p v).2), un] [] (I, J) := by
  have h2 := h.2.1
  intro k
  induction k with
  | zero =>
    intro p m v hp hm
    obtain ⟨m, rfl⟩ : ∃ z, m = z + 1 := ⟨m - 1, by omega⟩
    refine ⟨m, by omega, ?_⟩
    rw [runS_s, s_X10_scanDigits_5, h.1, if_pos (nI_le (by omega) (by omega))]
    rfl
  | succ k ih =>
    intro p m v hp hm
    obtain ⟨m, rfl⟩ : ∃ z, m = z + 1 + 1 := ⟨m - 2, by omega⟩
    rw [runS_s, s_X10_scanDigits_5, h.1, if_neg (nI_ge (by omega) (by omega)), q_byte hd h (by omega), p_ci_s, q_isD hd (h.2.2 p (by omega)).2, p_ci_s]
    unfold dgF
    by_cases c : isD (b p) = true
    · have hc := (of_decide_eq_true c : 48 ≤ b p ∧ b p ≤ 57)
      obtain ⟨m', u1, u2⟩ := ih (p + 1) m (10 * v + (b p - 48)) (by omega) (by omega)
      refine ⟨m', by omega, ?_⟩
      rw [if_neg (by rw [zI_t c]; decide), if_pos c, runS_s, s_X10_scanDigits_24, q_byte hd h (by omega), p_ci_s, nI_1, dg_hom hc.1 (by omega)]
      exact u2
    · refine ⟨m + 1, by omega, ?_⟩
      rw [if_pos (zI_f c), if_neg c]
theorem lp_sort {O : Ora} (hK : ∀ i, i < 23 → J 22 i = kyW i) (v : Int64) : ∀ (k i m : Nat), i + k = 23 → k < m →
    runS O none 4 T0 C_X10_sortOfLetters k_X10_sortOfLetters rtI f_X10_sortOfLetters m 2 [.ref 18, .long v, un, .int (nI i)] [] (I, J) = some (some (.int (nI (srF v k i))), (I, J)) := by
  intro k
  induction k with
  | zero =>
    intro i m hi hm
    obtain ⟨m, rfl⟩ : ∃ z, m = z + 1 := ⟨m - 1, by omega⟩
    have e : i = 23 := by omega
    subst e
    rw [runS_s, s_X10_sortOfLetters_2, if_pos (by decide)]
    rfl
  | succ k ih =>
    intro i m hi hm
    obtain ⟨m, rfl⟩ : ∃ z, m = z + 1 := ⟨m - 1, by omega⟩
    rw [runS_s, s_X10_sortOfLetters_2, if_neg (show ¬ (23 : Int32) ≤ nI (i) from nI_ge (a := i) (b := 23) (by omega) (by omega)), chk_in (by omega) (by omega), nI_clamp (by omega), hK i (by omega)]
    simp only [lg_0]
    unfold srF
    by_cases c : kyW i = v
    · rw [if_pos c, if_pos c, show (256 : Int32) + nI i = nI (256 + i) from nI_add 256 i]; rfl
    · rw [if_neg c, if_neg c, nI_1]
      exact ih (i + 1) m (by omega) (by omega)
theorem sr_b (v : Int64) : ∀ (k i : Nat), i + k = 23 → srF v k i = 2 ∨ (256 ≤ srF v k i ∧ srF v k i < 279) := by
  intro k
  induction k with
  | zero => intro i hi; exact Or.inl rfl
  | succ k ih =>
    intro i hi
    unfold srF
    split
    · exact Or.inr ⟨by omega, by omega⟩
    · exact ih (i + 1) (by omega)
def adI (I : Nat → Nat → Int32) (c : Nat) (t : TK) : Nat → Nat → Int32 := p_wr (p_wr (p_wr I 19 c (nI t.1)) 20 c (nI t.2.1)) 18 4 (nI (c + 1))
def tkV (t : TK) : Int64 := Int64.ofNat t.2.2.1 + t.2.2.2
def adJ (J : Nat → Nat → Int64) (c : Nat) (t : TK) : Nat → Nat → Int64 := p_wrJ J 21 c (tkV t)
theorem ev_add (hd : 1 ≤ d) {c : Nat} (hc : c < 401) (h18 : I 18 4 = nI c) {x y : Int32} {v : Int64} (t : TK) (hx : x = nI t.1) (hy : y = nI t.2.1) (hv : v = tkV t) : EV d T0 113 [.ref 18, .int x, .int y, .long v] (I, J) = some (none, (adI I c t, adJ J c t)) := by
  obtain ⟨d, rfl⟩ : ∃ z, d = z + 1 := ⟨d - 1, by omega⟩
  subst hx; subst hy; subst hv
  have hp : ∀ z : Option Rs, p_chk (p_in (nI c) 401) z = z := fun z => chk_in hc (by omega)
  rw [e_X10_add, runS_M, s_X10_add_0, h18, if_neg (show ¬ Int32.ofNat 401 ≤ nI c from nI_ge (b := 401) (by omega) (by omega)), hp, hp, hp, nI_clamp (by omega), show (999999 : Nat) = 999998 + 1 from rfl, runS_s, s_X10_add_42, wr_ne (show (18 : Nat) ≠ 20 by decide), wr_ne (show (18 : Nat) ≠ 19 by decide), h18, nI_1]
  rfl
theorem kix_g : ∀ m, m < 256 → (kix (((nI m).toUInt32 % 65536).toInt32) < 0 ↔ isG m = false) := by decide +kernel
theorem sc1_b (p : Nat) (hp : p ≤ n) : (sc1 b n p).2 ≤ n + 1 ∧ ((sc1 b n p).1.1 ≠ 0 → (sc1 b n p).2 ≤ n) := by
  unfold sc1
  by_cases c : n ≤ p
  · rw [if_pos c]; exact ⟨by dsimp only; omega, fun h9 => absurd rfl h9⟩
  · rw [if_neg c]
    by_cases c1 : isL (b p) = true
    · rw [if_pos c1]
      have := lt_b (b := b) (n := n) (n - p) p 0
      exact ⟨by dsimp only; omega, fun _ => by dsimp only; omega⟩
    · rw [if_neg c1]
      by_cases c2 : isD (b p) = true
      · rw [if_pos c2]
        have := dg_b (b := b) (n := n) (n - p) p 0
        exact ⟨by dsimp only; omega, fun _ => by dsimp only; omega⟩
      · rw [if_neg c2]; exact ⟨by dsimp only; omega, fun _ => by dsimp only; omega⟩
theorem q_sort (hd : 1 ≤ d) (hK : ∀ i, i < 23 → J 22 i = kyW i) (v : Int64) : EV d T0 112 [.ref 18, .long v] (I, J) = some (some (.int (nI (srF v 23 0))), (I, J)) := by
  obtain ⟨d, rfl⟩ : ∃ z, d = z + 1 := ⟨d - 1, by omega⟩
  rw [e_X10_sortOfLetters, runS_M, s_X10_sortOfLetters_0]
  exact lp_sort hK v 23 0 999999 (by omega) (by omega)
theorem ev_lets (hd : 2 ≤ d) (h : TB I n b) (hK : ∀ i, i < 23 → J 22 i = kyW i) {c : Nat} (hc : c < 401) (h18 : I 18 4 = nI c) {p : Nat} (hp : p ≤ n) : EV d T0 110 [.ref 18, .ref 1, .int (nI p)] (I, J) = some (some (.int (nI (ltF b n (n - p) p 0).1)), (adI I c (if (ltF b n (n - p) p 0).1 - p ≤ 8 then srF (ltF b n (n - p) p 0).2 23 0 else 1, p, 0, (ltF b n (n - p) p 0).2), adJ J c (if (ltF b n (n - p) p 0).1 - p ≤ 8 then srF (ltF b n (n - p) p 0).2 23 0 else 1, p, 0, (ltF b n (n - p) p 0).2))) := by
  obtain ⟨d, rfl⟩ : ∃ z, d = z + 1 := ⟨d - 1, by omega⟩
  have h2 := h.2.1
  obtain ⟨m', u1, u2⟩ := lp_lets (d := d) (I := I) (J := J) (by omega) h (p0 := p) (n - p) p 999999 0 (by omega) (by omega)
  have hl := lt_b (b := b) (n := n) (n - p) p 0
  obtain ⟨m', rfl⟩ : ∃ z, m' = z + 1 := ⟨m' - 1, by omega⟩
  have hv : ∀ v : Int64, ∀ k : Nat, tkV (k, p, 0, v) = v := fun v k => by show Int64.ofNat 0 + v = v; exact Int64.zero_add v
  rw [e_X10_scanLetters, runS_M, s_X10_scanLetters_0]
  refine u2.trans ?_
  rw [runS_s, s_X10_scanLetters_42, pk_sub hl.1]
  simp only [show (nI ((ltF b n (n - p) p 0).1 - p) ≤ (8 : Int32)) = ((ltF b n (n - p) p 0).1 - p ≤ 8) from le_nI (b := 8) (by omega) (by omega)]
  by_cases c1 : (ltF b n (n - p) p 0).1 - p ≤ 8
  · simp only [if_pos c1]
    rw [q_sort (by omega) hK, p_ci_s, ev_add (by omega) hc h18 (srF (ltF b n (n - p) p 0).2 23 0, p, 0, (ltF b n (n - p) p 0).2) rfl rfl (hv _ _).symm, p_cv_s]
    rfl
  · simp only [if_neg c1]
    rw [ev_add (x := 1) (d := d) (by omega) hc h18 (1, p, 0, (ltF b n (n - p) p 0).2) rfl rfl (hv _ _).symm, p_cv_s]
    rfl
theorem ev_digs (hd : 2 ≤ d) (h : TB I n b) {c : Nat} (hc : c < 401) (h18 : I 18 4 = nI c) {p : Nat} (hp : p ≤ n) : EV d T0 111 [.ref 18, .ref 1, .int (nI p)] (I, J) = some (some (.int (nI (dgF b n (n - p) p 0).1)), (adI I c (if (dgF b n (n - p) p 0).1 - p ≤ 4 then 3 else 1, p, (dgF b n (n - p) p 0).2, 0), adJ J c (if (dgF b n (n - p) p 0).1 - p ≤ 4 then 3 else 1, p, (dgF b n (n - p) p 0).2, 0))) := by
  obtain ⟨d, rfl⟩ : ∃ z, d = z + 1 := ⟨d - 1, by omega⟩
  have h2 := h.2.1
  obtain ⟨m', u1, u2⟩ := lp_digs (d := d) (I := I) (J := J) (by omega) h (p0 := p) (n - p) p 999999 0 (by omega) (by omega)
  have hl := dg_b (b := b) (n := n) (n - p) p 0
  obtain ⟨m', rfl⟩ : ∃ z, m' = z + 1 := ⟨m' - 1, by omega⟩
  have hv : ∀ v : Nat, ∀ k : Nat, tkV (k, p, v, 0) = Int64.ofNat v := fun v k => by show Int64.ofNat v + 0 = _; exact Int64.add_zero _
  rw [e_X10_scanDigits, runS_M, s_X10_scanDigits_0]
  refine u2.trans ?_
  rw [runS_s, s_X10_scanDigits_49, pk_sub hl.1]
  simp only [show (nI ((dgF b n (n - p) p 0).1 - p) ≤ (4 : Int32)) = ((dgF b n (n - p) p 0).1 - p ≤ 4) from le_nI (b := 4) (by omega) (by omega)]
  by_cases c1 : (dgF b n (n - p) p 0).1 - p ≤ 4
  · simp only [if_pos c1]
    rw [ev_add (x := 3) (d := d) (by omega) hc h18 (3, p, (dgF b n (n - p) p 0).2, 0) rfl rfl (hv _ _).symm, p_cv_s]
    rfl
  · simp only [if_neg c1]
    rw [ev_add (x := 1) (d := d) (by omega) hc h18 (1, p, (dgF b n (n - p) p 0).2, 0) rfl rfl (hv _ _).symm, p_cv_s]
    rfl
theorem ev_scanOne (hd : 3 ≤ d) (h : TB I n b) (hK : ∀ i, i < 23 → J 22 i = kyW i) {c : Nat} (hc : c < 401) (h18 : I 18 4 = nI c) {p : Nat} (hp : p ≤ n) : EV d T0 109 [.ref 18, .ref 1, .int (nI p)] (I, J) = some (some (.int (nI (sc1 b n p).2)), (adI I c (sc1 b n p).1, adJ J c (sc1 b n p).1)) := by
  obtain ⟨d, rfl⟩ : ∃ z, d = z + 1 := ⟨d - 1, by omega⟩
  have h2 := h.2.1
  rw [e_X10_scanOne, runS_M, s_X10_scanOne_0]
  unfold sc1
  by_cases c0 : n ≤ p
  · rw [if_pos c0, q_byteE (by omega) h c0 (by omega), p_ci_s, q_isLE (by omega), p_ci_s, if_pos rfl, show (999999 : Nat) = 999996 + 1 + 1 + 1 from rfl, runS_s, s_X10_scanOne_20, q_isDE (by omega), p_ci_s, if_pos rfl, if_neg (by decide), ev_add (d := d) (x := 0) (y := nI p) (v := Int64.ofNat 0) (by omega) hc h18 (0, p, 0, 0) rfl rfl rfl, p_cv_s, runS_s, s_X10_scanOne_45, runS_s, s_X10_scanOne_69, nI_1]
    rfl
  · rw [if_neg c0, q_byte (by omega) h (by omega), p_ci_s, q_isL (by omega) (h.2.2 p (by omega)).2, p_ci_s]
    have hb := (h.2.2 p (by omega)).2
    by_cases c1 : isL (b p) = true
    · rw [if_neg (by rw [zI_t c1]; decide), if_pos c1, show (999999 : Nat) = 999998 + 1 from rfl, runS_s, s_X10_scanOne_13, ev_lets (by omega) h hK hc h18 hp, p_ci_s]
      rfl
    · rw [if_pos (zI_f c1), if_neg c1, show (999999 : Nat) = 999997 + 1 + 1 from rfl, runS_s, s_X10_scanOne_20, q_isD (by omega) hb, p_ci_s]
      by_cases c2 : isD (b p) = true
      · rw [if_neg (by rw [zI_t c2]; decide), if_pos c2, ev_digs (by omega) h hc h18 hp, p_ci_s]
        rfl
      · rw [if_pos (zI_f c2), if_neg c2, if_pos (show (0 : Int32) ≤ nI (b p) from nI_le (a := 0) (b := b p) (by omega) (by omega))]
        have hg := kix_g (b p) hb
        by_cases c3 : isG (b p) = true
        · rw [if_neg (fun h9 => by have := hg.mp h9; rw [c3] at this; exact absurd this (by decide)), ev_add (d := d) (v := Int64.ofNat 0) (by omega) hc h18 (b p, p, 0, 0) rfl rfl rfl, p_cv_s, runS_s, s_X10_scanOne_69, nI_1, if_pos c3]
          rfl
        · rw [if_pos (hg.mpr (Bool.eq_false_iff.mpr c3)), ev_add (d := d) (x := 1) (v := Int64.ofNat 0) (by omega) hc h18 (1, p, 0, 0) rfl rfl rfl, p_cv_s, runS_s, s_X10_scanOne_69, nI_1, if_neg c3]
          rfl
/-! the list of tokens -/
def tk0 : TK := (0, 0, 0, 0)
def scL (b : Nat → Nat) (n : Nat) : Nat → Nat → List TK
  | 0, _ => []
  | k + 1, p => (sc1 b n (blF b n (n - p) p)).1 :: (if (sc1 b n (blF b n (n - p) p)).1.1 = 0 ∨ (sc1 b n (blF b n (n - p) p)).1.1 = 1 then [] else scL b n k (sc1 b n (blF b n (n - p) p)).2)
def tkC (I : Nat → Nat → Int32) (J : Nat → Nat → Int64) (j : Nat) (t : TK) : Prop := I 19 j = nI t.1 ∧ I 20 j = nI t.2.1 ∧ J 21 j = tkV t
def kpJ (X : List Nat) (J J' : Nat → Nat → Int64) : Prop := ∀ k, k ∉ X → J' k = J k
theorem ad_kp {c : Nat} {t : TK} : kp [18, 19, 20] I (adI I c t) := ((kp.rf.wr (by decide)).wr (by decide)).wr (by decide)
theorem ad_kpJ {c : Nat} {t : TK} : kpJ [21] J (adJ J c t) := fun k hk => if_neg (fun e => hk (by rw [e]; decide))
theorem ad_eq {c : Nat} {t : TK} : tkC (adI I c t) (adJ J c t) c t := by
  refine ⟨?_, ?_, ?_⟩
  · unfold adI; rw [wr_ne (by decide), wr_ne (by decide), wr_eq, pk_us]
  · unfold adI; rw [wr_ne (by decide), wr_eq, pk_us]
  · show (if (21 : Nat) = 21 then vp_updL (J 21) c (tkV t) else J 21) c = tkV t
    rw [if_pos rfl]; exact if_pos rfl
theorem ad_ne {c j : Nat} {t u : TK} (hj : j ≠ c) (h : tkC I J j u) : tkC (adI I c t) (adJ J c t) j u := by
  refine ⟨?_, ?_, ?_⟩
  · unfold adI; rw [wr_ne (by decide), wr_ne (by decide), wr_eq, pk_un hj]; exact h.1
  · unfold adI; rw [wr_ne (by decide), wr_eq, pk_un hj, wr_ne (by decide)]; exact h.2.1
  · show (if (21 : Nat) = 21 then vp_updL (J 21) c (tkV t) else J 21) j = tkV u
    rw [if_pos rfl]; exact (if_neg hj).trans h.2.2
theorem ad_18 {c : Nat} {t : TK} : adI I c t 18 4 = nI (c + 1) := by unfold adI; rw [wr_eq, pk_us]
end RJ
