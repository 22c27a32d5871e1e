/-! ===== read: all tokens (reference) ===== -/
section RM1
variable {I : Nat → Nat → Int32} {J : Nat → Nat → Int64} {d : Nat} {b : Nat → Nat} {n : Nat}
def tmI (I : Nat → Nat → Int32) (c : Nat) (x y z : Int32) : Nat → Nat → Int32 := p_wr (p_wr (p_wr (p_wr I 195 c x) 196 c y) 197 c z) 192 10 (nI (c + 1))
def tmJ (J : Nat → Nat → Int64) (c : Nat) (v : Int64) : Nat → Nat → Int64 := p_wrJ J 198 c v
theorem ev_token (hd : 1 ≤ d) {c : Nat} (hc : c < 403) (h10 : I 192 10 = nI c) {x y z : Int32} {v : Int64} : EV d T0 175 [.ref 192, .int x, .int y, .int z, .long v] (I, J) = some (none, (tmI I c x y z, tmJ J c v)) := by
  obtain ⟨d, rfl⟩ : ∃ z, d = z + 1 := ⟨d - 1, by omega⟩
  have hp : ∀ q : Option Rs, p_chk (p_in (nI c) 403) q = q := fun q => chk_in hc (by omega)
  rw [e_X12_token, runS_M, s_X12_token_0, h10, hp, hp, hp, hp, nI_clamp (by omega), show (999999 : Nat) = 999998 + 1 from rfl, runS_s, s_X12_token_41, wr_ne (show (192 : Nat) ≠ 197 by decide), wr_ne (show (192 : Nat) ≠ 196 by decide), wr_ne (show (192 : Nat) ≠ 195 by decide), h10, nI_1]
  rfl
theorem ev_sign (hd : 2 ≤ d) {c : Nat} (hc : c < 403) (h10 : I 192 10 = nI c) {m : Nat} (hm : m < 256) (p : Nat) (q : Int32) : EV d T0 177 [.ref 192, .int (nI p), .int (nI m), .int q] (I, J) = some (some (.int 1), (tmI I c (nI (kap (if isG m = true then m else 1))) (nI p) 0, tmJ J c 0)) := by
  obtain ⟨d, rfl⟩ : ∃ z, d = z + 1 := ⟨d - 1, by omega⟩
  rw [e_X12_sign, runS_M]
  by_cases g : isG m = true
  · rw [if_pos g]
    rcases (of_decide_eq_true g : m = 59 ∨ m = 61 ∨ m = 43 ∨ m = 45 ∨ m = 42 ∨ m = 47 ∨ m = 60 ∨ m = 40 ∨ m = 41) with rfl | rfl | rfl | rfl | rfl | rfl | rfl | rfl | rfl
    · rw [s_X12_sign_0, if_pos (by decide), if_neg (by decide), show (999999 : Nat) = 999997 + 1 + 1 from rfl, runS_s, s_X12_sign_55, if_neg (by decide), if_neg (by decide), runS_s, s_X12_sign_75, if_neg (by decide), if_neg (by decide), ev_token (d := d) (x := 4) (z := 0) (v := Int64.ofNat 0) (by omega) hc h10, p_cv_s]; rfl
    · rw [s_X12_sign_0, if_neg (by decide), if_pos (by decide), if_neg (by decide), show (999999 : Nat) = 999997 + 1 + 1 from rfl, runS_s, s_X12_sign_55, if_neg (by decide), if_neg (by decide), runS_s, s_X12_sign_75, if_neg (by decide), if_neg (by decide), ev_token (d := d) (x := 5) (z := 0) (v := Int64.ofNat 0) (by omega) hc h10, p_cv_s]; rfl
    · rw [s_X12_sign_0, if_neg (by decide), if_neg (by decide), if_neg (by decide), if_neg (by decide), if_pos (by decide), show (999999 : Nat) = 999997 + 1 + 1 from rfl, runS_s, s_X12_sign_55, if_neg (by decide), if_neg (by decide), runS_s, s_X12_sign_75, if_neg (by decide), if_neg (by decide), ev_token (d := d) (x := 8) (z := 0) (v := Int64.ofNat 0) (by omega) hc h10, p_cv_s]; rfl
    · rw [s_X12_sign_0, if_neg (by decide), if_neg (by decide), if_neg (by decide), if_neg (by decide), if_neg (by decide), show (999999 : Nat) = 999997 + 1 + 1 from rfl, runS_s, s_X12_sign_55, if_pos (by decide), if_neg (by decide), runS_s, s_X12_sign_75, if_neg (by decide), if_neg (by decide), ev_token (d := d) (x := 9) (z := 0) (v := Int64.ofNat 0) (by omega) hc h10, p_cv_s]; rfl
    · rw [s_X12_sign_0, if_neg (by decide), if_neg (by decide), if_neg (by decide), if_neg (by decide), if_neg (by decide), show (999999 : Nat) = 999997 + 1 + 1 from rfl, runS_s, s_X12_sign_55, if_neg (by decide), if_pos (by decide), runS_s, s_X12_sign_75, if_neg (by decide), if_neg (by decide), ev_token (d := d) (x := 10) (z := 0) (v := Int64.ofNat 0) (by omega) hc h10, p_cv_s]; rfl
    · rw [s_X12_sign_0, if_neg (by decide), if_neg (by decide), if_neg (by decide), if_neg (by decide), if_neg (by decide), show (999999 : Nat) = 999997 + 1 + 1 from rfl, runS_s, s_X12_sign_55, if_neg (by decide), if_neg (by decide), runS_s, s_X12_sign_75, if_pos (by decide), if_neg (by decide), ev_token (d := d) (x := 15) (z := 0) (v := Int64.ofNat 0) (by omega) hc h10, p_cv_s]; rfl
    · rw [s_X12_sign_0, if_neg (by decide), if_neg (by decide), if_neg (by decide), if_neg (by decide), if_neg (by decide), show (999999 : Nat) = 999997 + 1 + 1 from rfl, runS_s, s_X12_sign_55, if_neg (by decide), if_neg (by decide), runS_s, s_X12_sign_75, if_neg (by decide), if_pos (by decide), ev_token (d := d) (x := 13) (z := 0) (v := Int64.ofNat 0) (by omega) hc h10, p_cv_s]; rfl
    · rw [s_X12_sign_0, if_neg (by decide), if_neg (by decide), if_pos (by decide), if_neg (by decide), show (999999 : Nat) = 999997 + 1 + 1 from rfl, runS_s, s_X12_sign_55, if_neg (by decide), if_neg (by decide), runS_s, s_X12_sign_75, if_neg (by decide), if_neg (by decide), ev_token (d := d) (x := 6) (z := 0) (v := Int64.ofNat 0) (by omega) hc h10, p_cv_s]; rfl
    · rw [s_X12_sign_0, if_neg (by decide), if_neg (by decide), if_neg (by decide), if_pos (by decide), if_neg (by decide), show (999999 : Nat) = 999997 + 1 + 1 from rfl, runS_s, s_X12_sign_55, if_neg (by decide), if_neg (by decide), runS_s, s_X12_sign_75, if_neg (by decide), if_neg (by decide), ev_token (d := d) (x := 7) (z := 0) (v := Int64.ofNat 0) (by omega) hc h10, p_cv_s]; rfl
  · have h9 : ¬ (m = 59 ∨ m = 61 ∨ m = 43 ∨ m = 45 ∨ m = 42 ∨ m = 47 ∨ m = 60 ∨ m = 40 ∨ m = 41) := fun h9 => g (decide_eq_true h9)
    have hx : ∀ k, k < 256 → m ≠ k → ¬ nI m = nI k := fun k hk hne => by rw [eq_nI (by omega) (by omega)]; exact hne
    rw [if_neg g, s_X12_sign_0, if_neg (show ¬ nI m = (59 : Int32) from hx 59 (by omega) (by omega)), if_neg (show ¬ nI m = (61 : Int32) from hx 61 (by omega) (by omega)), if_neg (show ¬ nI m = (40 : Int32) from hx 40 (by omega) (by omega)), if_neg (show ¬ nI m = (41 : Int32) from hx 41 (by omega) (by omega)), if_neg (show ¬ nI m = (43 : Int32) from hx 43 (by omega) (by omega)), show (999999 : Nat) = 999997 + 1 + 1 from rfl, runS_s, s_X12_sign_55, if_neg (show ¬ nI m = (45 : Int32) from hx 45 (by omega) (by omega)), if_neg (show ¬ nI m = (42 : Int32) from hx 42 (by omega) (by omega)), runS_s, s_X12_sign_75, if_neg (show ¬ nI m = (47 : Int32) from hx 47 (by omega) (by omega)), if_neg (show ¬ nI m = (60 : Int32) from hx 60 (by omega) (by omega)), ev_token (d := d) (x := 3) (z := 0) (v := Int64.ofNat 0) (by omega) hc h10, p_cv_s]
    rfl
def tkM (I : Nat → Nat → Int32) (J : Nat → Nat → Int64) (j : Nat) (t : TK) : Prop := I 195 j = nI (kap t.1) ∧ I 196 j = nI t.2.1 ∧ (t.1 = 3 → I 197 j = nI t.2.2.1) ∧ (t.1 = 2 → J 198 j = t.2.2.2)
theorem tm_kp {c : Nat} {x y z : Int32} : kp [195, 196, 197, 192] I (tmI I c x y z) := (((kp.rf.wr (by decide)).wr (by decide)).wr (by decide)).wr (by decide)
theorem tm_kpJ {c : Nat} {v : Int64} : kpJ [198] J (tmJ J c v) := fun k hk => if_neg (fun e => hk (by rw [e]; decide))
theorem tm_10 {c : Nat} {x y z : Int32} : tmI I c x y z 192 10 = nI (c + 1) := by unfold tmI; rw [wr_eq, pk_us]
theorem tm_f {c j : Nat} {x y z : Int32} (hj : j ≠ 10) : tmI I c x y z 192 j = I 192 j := by unfold tmI; rw [wr_eq, pk_un hj, wr_ne (by decide), wr_ne (by decide), wr_ne (by decide)]
theorem tm_eq {c : Nat} {y z : Int32} {v : Int64} {t : TK} (h1 : y = nI t.2.1) (h2 : t.1 = 3 → z = nI t.2.2.1) (h3 : t.1 = 2 → v = t.2.2.2) : tkM (tmI I c (nI (kap t.1)) y z) (tmJ J c v) c t := by
  refine ⟨?_, ?_, fun h => ?_, fun h => ?_⟩
  · unfold tmI; rw [wr_ne (by decide), wr_ne (by decide), wr_ne (by decide), wr_eq, pk_us]
  · unfold tmI; rw [wr_ne (by decide), wr_ne (by decide), wr_eq, pk_us]; exact h1
  · unfold tmI; rw [wr_ne (by decide), wr_eq, pk_us]; exact h2 h
  · show (if (198 : Nat) = 198 then vp_updL (J 198) c v else J 198) c = _
    rw [if_pos rfl]; exact (if_pos rfl).trans (h3 h)
theorem tm_ne {c j : Nat} {x y z : Int32} {v : Int64} {u : TK} (hj : j ≠ c) (h : tkM I J j u) : tkM (tmI I c x y z) (tmJ J c v) j u := by
  refine ⟨?_, ?_, fun h9 => ?_, fun h9 => ?_⟩
  · unfold tmI; rw [wr_ne (by decide), wr_ne (by decide), wr_ne (by decide), wr_eq, pk_un hj]; exact h.1
  · unfold tmI; rw [wr_ne (by decide), wr_ne (by decide), wr_eq, pk_un hj, wr_ne (by decide)]; exact h.2.1
  · unfold tmI; rw [wr_ne (by decide), wr_eq, pk_un hj, wr_ne (by decide), wr_ne (by decide)]; exact h.2.2.1 h9
  · show (if (198 : Nat) = 198 then vp_updL (J 198) c v else J 198) j = _
    rw [if_pos rfl]; exact (if_neg hj).trans (h.2.2.2 h9)
theorem lp_keys {O : Ora} (hK : ∀ i, i < 23 → J 199 i = kyW i) (p e : Int32) (v : Int64) : ∀ (k i z m : Nat), i + k = 23 →
    runS O none 8 T0 C_X12_cutsUp k_X12_cutsUp rtV f_X12_cutsUp (m + k) 146 [.ref 192, .int p, un, .int e, .long v, un, .int (nI z), .int (nI i)] [] (I, J) = runS O none 8 T0 C_X12_cutsUp k_X12_cutsUp rtV f_X12_cutsUp m 146 [.ref 192, .int p, un, .int e, .long v, un, .int (nI (ksF v k i z)), .int (nI 23)] [] (I, J) := by
  intro k
  induction k with
  | zero =>
    intro i z m hi
    have e : i = 23 := by omega
    subst e
    rfl
  | succ k ih =>
    intro i z m hi
    rw [show m + (k + 1) = (m + k) + 1 by omega, runS_s, s_X12_cutsUp_146, if_neg (show ¬ (23 : Int32) ≤ nI (i) from nI_ge (a := i) (b := 23) (by omega) (by omega)), chk_in (by omega) (by omega), nI_clamp (by omega), hK i (by omega)]
    simp only [lg_0]
    show _ = runS O none 8 T0 C_X12_cutsUp k_X12_cutsUp rtV f_X12_cutsUp m 146 [.ref 192, .int p, un, .int e, .long v, un, .int (nI (ksF v k (i + 1) (if kyW i = v then 20 + i else z))), .int (nI 23)] [] (I, J)
    by_cases c : kyW i = v
    · rw [if_pos c, if_pos c, nI_1, show (20 : Int32) + nI i = nI (20 + i) from nI_add 20 i]
      exact ih (i + 1) (20 + i) m (by omega)
    · rw [if_neg c, if_neg c, nI_1]
      exact ih (i + 1) z m (by omega)
theorem lp_blR (hd : 1 ≤ d) (h : TBR I n b) {x : Nat} (h10 : I 192 10 = nI x) (hx : x ≤ 400) : ∀ (k p m : Nat), p + k = n → 3 * k < m →
    ∃ m', m ≤ m' + 3 * (blF b n k p - p) ∧ runS (EV d) none 8 T0 C_X12_cutsUp k_X12_cutsUp rtV f_X12_cutsUp m 7 [.ref 192, .int (nI p), un, un, un, un, un, un] [] (I, J) = runS (EV d) none 8 T0 C_X12_cutsUp k_X12_cutsUp rtV f_X12_cutsUp m' 7 [.ref 192, .int (nI (blF b n k p)), un, un, un, un, un, un] [] (I, J) := by
  have h2 := h.2.1
  intro k
  induction k with
  | zero => intro p m hp hm; exact ⟨m, by omega, rfl⟩
  | succ k ih =>
    intro p m hp hm
    by_cases c : isB (b p) = true
    · have e : blF b n (k + 1) p = blF b n k (p + 1) := by show (if _ then _ else _) = _; rw [if_pos c]
      have hb := bl_b (b := b) (n := n) k (p + 1)
      obtain ⟨m, rfl⟩ : ∃ z, m = z + 1 + 1 + 1 := ⟨m - 3, by omega⟩
      obtain ⟨m', u1, u2⟩ := ih (p + 1) m (by omega) (by omega)
      refine ⟨m', by rw [e]; omega, ?_⟩
      have e0 : by0 b n p = b p := if_pos (by omega)
      have tail : runS (EV d) none 8 T0 C_X12_cutsUp k_X12_cutsUp rtV f_X12_cutsUp (m + 1 + 1) 67 [.ref 192, .int (nI p), un, un, un, un, un, un] [] (I, J) = runS (EV d) none 8 T0 C_X12_cutsUp k_X12_cutsUp rtV f_X12_cutsUp m' 7 [.ref 192, .int (nI (blF b n (k + 1) p)), un, un, un, un, un, un] [] (I, J) := by
        rw [runS_s, s_X12_cutsUp_67, runS_s, s_X12_cutsUp_291, nI_1, e]; exact u2
      rw [runS_s, s_X12_cutsUp_7, h10, if_neg (show ¬ (400 : Int32) < nI x from nI_nlt (a := 400) (by omega) (by omega)), q_byteR hd h (by omega), p_ci_s, e0]
      dsimp only
      rw [if_pos (show nI p < I 192 4 by rw [h.1]; exact nI_lt (by omega) (by omega))]
      rcases (of_decide_eq_true c : b p = 9 ∨ b p = 10 ∨ b p = 13 ∨ b p = 32) with g | g | g | g
      · rw [g, if_pos (by decide)]; exact tail
      · rw [g, if_neg (by decide), if_pos (by decide)]; exact tail
      · rw [g, if_neg (by decide), if_neg (by decide), if_pos (by decide)]; exact tail
      · rw [g, if_neg (by decide), if_neg (by decide), if_neg (by decide), if_pos (by decide)]; exact tail
    · have e : blF b n (k + 1) p = p := by show (if _ then _ else _) = _; rw [if_neg c]
      exact ⟨m, by omega, by rw [e]⟩
theorem bl_nb : ∀ (k p : Nat), p + k = n → blF b n k p < n → isB (b (blF b n k p)) = false := by
  intro k
  induction k with
  | zero => intro p hp h; exact absurd h (by show ¬ p < n; omega)
  | succ k ih =>
    intro p hp h
    by_cases c : isB (b p) = true
    · have e : blF b n (k + 1) p = blF b n k (p + 1) := by show (if _ then _ else _) = _; rw [if_pos c]
      rw [e] at h ⊢; exact ih (p + 1) (by omega) h
    · have e : blF b n (k + 1) p = p := by show (if _ then _ else _) = _; rw [if_neg c]
      rw [e]; exact Bool.eq_false_iff.mpr c
end RM1
