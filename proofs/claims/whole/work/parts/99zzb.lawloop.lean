/-! ===== the law: its loop ===== -/
section TE1
variable {I : Nat → Nat → Int32} {J : Nat → Nat → Int64} {d N i n : Nat} {xs : Nat → Int32}
def rtW (v : Option Value) (_ : IJ) : Option Unit := match v with
  | some (.int x) => if x = 1 then some () else none
  | _ => none
abbrev wlR (d N : Nat) (xs : Nat → Int32) (n pc : Nat) (i : Int32) (ij : IJ) : Option Unit := runS (EV d) (some (N, xs)) 4 T0 C_L_law k_L_law rtW f_L_law n pc [.ref 100000, .ref 0, .ref 192, .int i] [] ij
def wlG (d N : Nat) (xs : Nat → Int32) (n pc i : Nat) (I : Nat → Nat → Int32) (J : Nat → Nat → Int64) : Prop := ∃ I' J', INV I' J' ∧ wlR d N xs (n + 1) pc (nI i) (I, J) = wlR d N xs n 1213 (nI i) (I', J')
theorem nI_a (i k : Nat) : nI i + nI k = nI (i + k) := nI_add i k
theorem cs_L_188 (hd : 28 ≤ d) (hN : N ≤ 3072) (hi : i + 6 ≤ N) (h : INV I J) : wlG d N xs n 188 i I J := by
  obtain ⟨P, A, E, h1, h2, h3⟩ := h
  obtain ⟨v, I1, J1, I2, J2, a, b, c⟩ : STP d 120 167 [.int (xs (i + 1)), .int (xs (i + 2)), .int (xs (i + 3)), .int (xs (i + 4)), .int (xs (i + 5))] I J := STP_of (lk_feed (by omega) h1 h2 _ _ _ _ _) h3
  refine ⟨I2, J2, c, ?_⟩
  show runS _ _ _ _ _ _ _ _ (n + 1) _ _ _ _ = _
  rw [runS_s, s_L_law_188]
  simp only [show nI i + 1 = nI (i + 1) from nI_add i 1, show nI i + 2 = nI (i + 2) from nI_add i 2, show nI i + 3 = nI (i + 3) from nI_add i 3, show nI i + 4 = nI (i + 4) from nI_add i 4, show nI i + 5 = nI (i + 5) from nI_add i 5, chk_in (show i + 1 < N by omega) (by omega), chk_in (show i + 2 < N by omega) (by omega), chk_in (show i + 3 < N by omega) (by omega), chk_in (show i + 4 < N by omega) (by omega), chk_in (show i + 5 < N by omega) (by omega), nI_clamp (show i + 1 < 2 ^ 31 by omega), nI_clamp (show i + 2 < 2 ^ 31 by omega), nI_clamp (show i + 3 < 2 ^ 31 by omega), nI_clamp (show i + 4 < 2 ^ 31 by omega), nI_clamp (show i + 5 < 2 ^ 31 by omega)]
  rw [a, p_ci_s, b, p_ci_s, if_pos rfl]
theorem cs_L_251 (hd : 28 ≤ d) (hN : N ≤ 3072) (hi : i + 6 ≤ N) (h : INV I J) : wlG d N xs n 251 i I J := by
  obtain ⟨P, A, E, h1, h2, h3⟩ := h
  obtain ⟨v, I1, J1, I2, J2, a, b, c⟩ : STP d 121 169 [.int (xs (i + 1))] I J := STP_of (lk_back (by omega) h1 h2 _) h3
  refine ⟨I2, J2, c, ?_⟩
  show runS _ _ _ _ _ _ _ _ (n + 1) _ _ _ _ = _
  rw [runS_s, s_L_law_251]
  simp only [show nI i + 1 = nI (i + 1) from nI_add i 1, chk_in (show i + 1 < N by omega) (by omega), nI_clamp (show i + 1 < 2 ^ 31 by omega)]
  rw [a, p_ci_s, b, p_ci_s, if_pos rfl]
theorem cs_L_274 (hd : 28 ≤ d) (hN : N ≤ 3072) (hi : i + 6 ≤ N) (h : INV I J) : wlG d N xs n 274 i I J := by
  obtain ⟨P, A, E, h1, h2, h3⟩ := h
  obtain ⟨v, I1, J1, I2, J2, a, b, c⟩ : STP d 122 184 [] I J := lk_read hd h1 h2 h3
  refine ⟨I2, J2, c, ?_⟩
  show runS _ _ _ _ _ _ _ _ (n + 1) _ _ _ _ = _
  rw [runS_s, s_L_law_274]
  skip
  rw [a, p_ci_s, b, p_ci_s, if_pos rfl]
theorem cs_L_287 (hd : 28 ≤ d) (hN : N ≤ 3072) (hi : i + 6 ≤ N) (h : INV I J) : wlG d N xs n 287 i I J := by
  obtain ⟨P, A, E, h1, h2, h3⟩ := h
  obtain ⟨v, I1, J1, I2, J2, a, b, c⟩ : STP d 123 185 [] I J := STP_of (lk_place (by omega) h1 h2) h3
  refine ⟨I2, J2, c, ?_⟩
  show runS _ _ _ _ _ _ _ _ (n + 1) _ _ _ _ = _
  rw [runS_s, s_L_law_287]
  skip
  rw [a, p_ci_s, b, p_ci_s, if_pos rfl]
theorem cs_L_300 (hd : 28 ≤ d) (hN : N ≤ 3072) (hi : i + 6 ≤ N) (h : INV I J) : wlG d N xs n 300 i I J := by
  obtain ⟨P, A, E, h1, h2, h3⟩ := h
  obtain ⟨v, I1, J1, I2, J2, a, b, c⟩ : STP d 124 229 [.int (xs (i + 1)), .int (xs (i + 2))] I J := STP_of (lk_seam (by omega) h1 h2 _ _) h3
  refine ⟨I2, J2, c, ?_⟩
  show runS _ _ _ _ _ _ _ _ (n + 1) _ _ _ _ = _
  rw [runS_s, s_L_law_300]
  simp only [show nI i + 1 = nI (i + 1) from nI_add i 1, show nI i + 2 = nI (i + 2) from nI_add i 2, chk_in (show i + 1 < N by omega) (by omega), chk_in (show i + 2 < N by omega) (by omega), nI_clamp (show i + 1 < 2 ^ 31 by omega), nI_clamp (show i + 2 < 2 ^ 31 by omega)]
  rw [a, p_ci_s, b, p_ci_s, if_pos rfl]
theorem cs_L_333 (hd : 28 ≤ d) (hN : N ≤ 3072) (hi : i + 6 ≤ N) (h : INV I J) : wlG d N xs n 333 i I J := by
  obtain ⟨P, A, E, h1, h2, h3⟩ := h
  obtain ⟨v, I1, J1, I2, J2, a, b, c⟩ : STP d 125 230 [.int (xs (i + 1)), .int (xs (i + 2))] I J := STP_of (lk_cart (by omega) h1 h2 _ _) h3
  refine ⟨I2, J2, c, ?_⟩
  show runS _ _ _ _ _ _ _ _ (n + 1) _ _ _ _ = _
  rw [runS_s, s_L_law_333]
  simp only [show nI i + 1 = nI (i + 1) from nI_add i 1, show nI i + 2 = nI (i + 2) from nI_add i 2, chk_in (show i + 1 < N by omega) (by omega), chk_in (show i + 2 < N by omega) (by omega), nI_clamp (show i + 1 < 2 ^ 31 by omega), nI_clamp (show i + 2 < 2 ^ 31 by omega)]
  rw [a, p_ci_s, b, p_ci_s, if_pos rfl]
theorem cs_L_366 (hd : 28 ≤ d) (hN : N ≤ 3072) (hi : i + 6 ≤ N) (h : INV I J) : wlG d N xs n 366 i I J := by
  obtain ⟨P, A, E, h1, h2, h3⟩ := h
  obtain ⟨v, I1, J1, I2, J2, a, b, c⟩ : STP d 126 231 [.int (xs (i + 1)), .int (xs (i + 2))] I J := STP_of (lk_toll (by omega) h1 h2 _ _) h3
  refine ⟨I2, J2, c, ?_⟩
  show runS _ _ _ _ _ _ _ _ (n + 1) _ _ _ _ = _
  rw [runS_s, s_L_law_366]
  simp only [show nI i + 1 = nI (i + 1) from nI_add i 1, show nI i + 2 = nI (i + 2) from nI_add i 2, chk_in (show i + 1 < N by omega) (by omega), chk_in (show i + 2 < N by omega) (by omega), nI_clamp (show i + 1 < 2 ^ 31 by omega), nI_clamp (show i + 2 < 2 ^ 31 by omega)]
  rw [a, p_ci_s, b, p_ci_s, if_pos rfl]
theorem cs_L_399 (hd : 28 ≤ d) (hN : N ≤ 3072) (hi : i + 6 ≤ N) (h : INV I J) : wlG d N xs n 399 i I J := by
  obtain ⟨P, A, E, h1, h2, h3⟩ := h
  obtain ⟨v, I1, J1, I2, J2, a, b, c⟩ : STP d 127 233 [.int (xs (i + 1)), .int (xs (i + 2))] I J := STP_of (lk_sew (by omega) h1 h2 _ _) h3
  refine ⟨I2, J2, c, ?_⟩
  show runS _ _ _ _ _ _ _ _ (n + 1) _ _ _ _ = _
  rw [runS_s, s_L_law_399]
  simp only [show nI i + 1 = nI (i + 1) from nI_add i 1, show nI i + 2 = nI (i + 2) from nI_add i 2, chk_in (show i + 1 < N by omega) (by omega), chk_in (show i + 2 < N by omega) (by omega), nI_clamp (show i + 1 < 2 ^ 31 by omega), nI_clamp (show i + 2 < 2 ^ 31 by omega)]
  rw [a, p_ci_s, b, p_ci_s, if_pos rfl]
theorem cs_L_432 (hd : 28 ≤ d) (hN : N ≤ 3072) (hi : i + 6 ≤ N) (h : INV I J) : wlG d N xs n 432 i I J := by
  obtain ⟨P, A, E, h1, h2, h3⟩ := h
  obtain ⟨v, I1, J1, I2, J2, a, b, c⟩ : STP d 128 234 [.int (xs (i + 1))] I J := STP_of (lk_cut (by omega) h1 h2 _) h3
  refine ⟨I2, J2, c, ?_⟩
  show runS _ _ _ _ _ _ _ _ (n + 1) _ _ _ _ = _
  rw [runS_s, s_L_law_432]
  simp only [show nI i + 1 = nI (i + 1) from nI_add i 1, chk_in (show i + 1 < N by omega) (by omega), nI_clamp (show i + 1 < 2 ^ 31 by omega)]
  rw [a, p_ci_s, b, p_ci_s, if_pos rfl]
theorem cs_L_455 (hd : 28 ≤ d) (hN : N ≤ 3072) (hi : i + 6 ≤ N) (h : INV I J) : wlG d N xs n 455 i I J := by
  obtain ⟨P, A, E, h1, h2, h3⟩ := h
  obtain ⟨v, I1, J1, I2, J2, a, b, c⟩ : STP d 129 235 [.int (xs (i + 1)), .int (xs (i + 2))] I J := STP_of (lk_unpick (by omega) h1 h2 _ _) h3
  refine ⟨I2, J2, c, ?_⟩
  show runS _ _ _ _ _ _ _ _ (n + 1) _ _ _ _ = _
  rw [runS_s, s_L_law_455]
  simp only [show nI i + 1 = nI (i + 1) from nI_add i 1, show nI i + 2 = nI (i + 2) from nI_add i 2, chk_in (show i + 1 < N by omega) (by omega), chk_in (show i + 2 < N by omega) (by omega), nI_clamp (show i + 1 < 2 ^ 31 by omega), nI_clamp (show i + 2 < 2 ^ 31 by omega)]
  rw [a, p_ci_s, b, p_ci_s, if_pos rfl]
theorem cs_L_488 (hd : 28 ≤ d) (hN : N ≤ 3072) (hi : i + 6 ≤ N) (h : INV I J) : wlG d N xs n 488 i I J := by
  obtain ⟨P, A, E, h1, h2, h3⟩ := h
  obtain ⟨v, I1, J1, I2, J2, a, b, c⟩ : STP d 130 236 [.int (xs (i + 1))] I J := STP_of (lk_send (by omega) h1 h2 _) h3
  refine ⟨I2, J2, c, ?_⟩
  show runS _ _ _ _ _ _ _ _ (n + 1) _ _ _ _ = _
  rw [runS_s, s_L_law_488]
  simp only [show nI i + 1 = nI (i + 1) from nI_add i 1, chk_in (show i + 1 < N by omega) (by omega), nI_clamp (show i + 1 < 2 ^ 31 by omega)]
  rw [a, p_ci_s, b, p_ci_s, if_pos rfl]
theorem cs_L_511 (hd : 28 ≤ d) (hN : N ≤ 3072) (hi : i + 6 ≤ N) (h : INV I J) : wlG d N xs n 511 i I J := by
  obtain ⟨P, A, E, h1, h2, h3⟩ := h
  obtain ⟨v, I1, J1, I2, J2, a, b, c⟩ : STP d 131 237 [.int (xs (i + 1))] I J := STP_of (lk_weeks (by omega) h1 h2 _) h3
  refine ⟨I2, J2, c, ?_⟩
  show runS _ _ _ _ _ _ _ _ (n + 1) _ _ _ _ = _
  rw [runS_s, s_L_law_511]
  simp only [show nI i + 1 = nI (i + 1) from nI_add i 1, chk_in (show i + 1 < N by omega) (by omega), nI_clamp (show i + 1 < 2 ^ 31 by omega)]
  rw [a, p_ci_s, b, p_ci_s, if_pos rfl]
theorem cs_L_534 (hd : 28 ≤ d) (hN : N ≤ 3072) (hi : i + 6 ≤ N) (h : INV I J) : wlG d N xs n 534 i I J := by
  obtain ⟨P, A, E, h1, h2, h3⟩ := h
  obtain ⟨v, I1, J1, I2, J2, a, b, c⟩ : STP d 132 238 [] I J := STP_of (lk_undo (by omega) h1 h2) h3
  refine ⟨I2, J2, c, ?_⟩
  show runS _ _ _ _ _ _ _ _ (n + 1) _ _ _ _ = _
  rw [runS_s, s_L_law_534]
  skip
  rw [a, p_ci_s, b, p_ci_s, if_pos rfl]
theorem cs_L_547 (hd : 28 ≤ d) (hN : N ≤ 3072) (hi : i + 6 ≤ N) (h : INV I J) : wlG d N xs n 547 i I J := by
  obtain ⟨P, A, E, h1, h2, h3⟩ := h
  obtain ⟨v, I1, J1, I2, J2, a, b, c⟩ : STP d 133 239 [.int (xs (i + 1)), .int (xs (i + 2))] I J := STP_of (lk_far (by omega) h1 h2 _ _) h3
  refine ⟨I2, J2, c, ?_⟩
  show runS _ _ _ _ _ _ _ _ (n + 1) _ _ _ _ = _
  rw [runS_s, s_L_law_547]
  simp only [show nI i + 1 = nI (i + 1) from nI_add i 1, show nI i + 2 = nI (i + 2) from nI_add i 2, chk_in (show i + 1 < N by omega) (by omega), chk_in (show i + 2 < N by omega) (by omega), nI_clamp (show i + 1 < 2 ^ 31 by omega), nI_clamp (show i + 2 < 2 ^ 31 by omega)]
  rw [a, p_ci_s, b, p_ci_s, if_pos rfl]
theorem cs_L_580 (hd : 28 ≤ d) (hN : N ≤ 3072) (hi : i + 6 ≤ N) (h : INV I J) : wlG d N xs n 580 i I J := by
  obtain ⟨P, A, E, h1, h2, h3⟩ := h
  obtain ⟨v, I1, J1, I2, J2, a, b, c⟩ : STP d 134 240 [.int (xs (i + 1)), .int (xs (i + 2))] I J := STP_of (lk_hops (by omega) h1 h2 _ _) h3
  refine ⟨I2, J2, c, ?_⟩
  show runS _ _ _ _ _ _ _ _ (n + 1) _ _ _ _ = _
  rw [runS_s, s_L_law_580]
  simp only [show nI i + 1 = nI (i + 1) from nI_add i 1, show nI i + 2 = nI (i + 2) from nI_add i 2, chk_in (show i + 1 < N by omega) (by omega), chk_in (show i + 2 < N by omega) (by omega), nI_clamp (show i + 1 < 2 ^ 31 by omega), nI_clamp (show i + 2 < 2 ^ 31 by omega)]
  rw [a, p_ci_s, b, p_ci_s, if_pos rfl]
theorem cs_L_613 (hd : 28 ≤ d) (hN : N ≤ 3072) (hi : i + 6 ≤ N) (h : INV I J) : wlG d N xs n 613 i I J := by
  obtain ⟨P, A, E, h1, h2, h3⟩ := h
  obtain ⟨v, I1, J1, I2, J2, a, b, c⟩ : STP d 135 242 [.int (xs (i + 1))] I J := STP_of (lk_joined (by omega) h1 h2 _) h3
  refine ⟨I2, J2, c, ?_⟩
  show runS _ _ _ _ _ _ _ _ (n + 1) _ _ _ _ = _
  rw [runS_s, s_L_law_613]
  simp only [show nI i + 1 = nI (i + 1) from nI_add i 1, chk_in (show i + 1 < N by omega) (by omega), nI_clamp (show i + 1 < 2 ^ 31 by omega)]
  rw [a, p_ci_s, b, p_ci_s, if_pos rfl]
theorem cs_L_636 (hd : 28 ≤ d) (hN : N ≤ 3072) (hi : i + 6 ≤ N) (h : INV I J) : wlG d N xs n 636 i I J := by
  obtain ⟨P, A, E, h1, h2, h3⟩ := h
  obtain ⟨v, I1, J1, I2, J2, a, b, c⟩ : STP d 136 243 [] I J := STP_of (lk_hangs (by omega) h1 h2) h3
  refine ⟨I2, J2, c, ?_⟩
  show runS _ _ _ _ _ _ _ _ (n + 1) _ _ _ _ = _
  rw [runS_s, s_L_law_636]
  skip
  rw [a, p_ci_s, b, p_ci_s, if_pos rfl]
theorem cs_L_649 (hd : 28 ≤ d) (hN : N ≤ 3072) (hi : i + 6 ≤ N) (h : INV I J) : wlG d N xs n 649 i I J := by
  obtain ⟨P, A, E, h1, h2, h3⟩ := h
  obtain ⟨v, I1, J1, I2, J2, a, b, c⟩ : STP d 137 246 [.int (xs (i + 1)), .int (xs (i + 2))] I J := STP_of (lk_takes (by omega) h1 h2 _ _) h3
  refine ⟨I2, J2, c, ?_⟩
  show runS _ _ _ _ _ _ _ _ (n + 1) _ _ _ _ = _
  rw [runS_s, s_L_law_649]
  simp only [show nI i + 1 = nI (i + 1) from nI_add i 1, show nI i + 2 = nI (i + 2) from nI_add i 2, chk_in (show i + 1 < N by omega) (by omega), chk_in (show i + 2 < N by omega) (by omega), nI_clamp (show i + 1 < 2 ^ 31 by omega), nI_clamp (show i + 2 < 2 ^ 31 by omega)]
  rw [a, p_ci_s, b, p_ci_s, if_pos rfl]
theorem cs_L_682 (hd : 28 ≤ d) (hN : N ≤ 3072) (hi : i + 6 ≤ N) (h : INV I J) : wlG d N xs n 682 i I J := by
  obtain ⟨P, A, E, h1, h2, h3⟩ := h
  obtain ⟨v, I1, J1, I2, J2, a, b, c⟩ : STP d 138 248 [.int (xs (i + 1)), .int (xs (i + 2)), .int (xs (i + 3))] I J := STP_of (lk_sewing (by omega) h1 h2 _ _ _) h3
  refine ⟨I2, J2, c, ?_⟩
  show runS _ _ _ _ _ _ _ _ (n + 1) _ _ _ _ = _
  rw [runS_s, s_L_law_682]
  simp only [show nI i + 1 = nI (i + 1) from nI_add i 1, show nI i + 2 = nI (i + 2) from nI_add i 2, show nI i + 3 = nI (i + 3) from nI_add i 3, chk_in (show i + 1 < N by omega) (by omega), chk_in (show i + 2 < N by omega) (by omega), chk_in (show i + 3 < N by omega) (by omega), nI_clamp (show i + 1 < 2 ^ 31 by omega), nI_clamp (show i + 2 < 2 ^ 31 by omega), nI_clamp (show i + 3 < 2 ^ 31 by omega)]
  rw [a, p_ci_s, b, p_ci_s, if_pos rfl]
theorem cs_L_725 (hd : 28 ≤ d) (hN : N ≤ 3072) (hi : i + 6 ≤ N) (h : INV I J) : wlG d N xs n 725 i I J := by
  obtain ⟨P, A, E, h1, h2, h3⟩ := h
  obtain ⟨v, I1, J1, I2, J2, a, b, c⟩ : STP d 139 249 [.int (xs (i + 1)), .int (xs (i + 2))] I J := STP_of (lk_surest (by omega) h1 h2 _ _) h3
  refine ⟨I2, J2, c, ?_⟩
  show runS _ _ _ _ _ _ _ _ (n + 1) _ _ _ _ = _
  rw [runS_s, s_L_law_725]
  simp only [show nI i + 1 = nI (i + 1) from nI_add i 1, show nI i + 2 = nI (i + 2) from nI_add i 2, chk_in (show i + 1 < N by omega) (by omega), chk_in (show i + 2 < N by omega) (by omega), nI_clamp (show i + 1 < 2 ^ 31 by omega), nI_clamp (show i + 2 < 2 ^ 31 by omega)]
  rw [a, p_ci_s, b, p_ci_s, if_pos rfl]
theorem cs_L_758 (hd : 28 ≤ d) (hN : N ≤ 3072) (hi : i + 6 ≤ N) (h : INV I J) : wlG d N xs n 758 i I J := by
  obtain ⟨P, A, E, h1, h2, h3⟩ := h
  obtain ⟨v, I1, J1, I2, J2, a, b, c⟩ : STP d 140 250 [.int (xs (i + 1)), .int (xs (i + 2))] I J := STP_of (lk_soon (by omega) h1 h2 _ _) h3
  refine ⟨I2, J2, c, ?_⟩
  show runS _ _ _ _ _ _ _ _ (n + 1) _ _ _ _ = _
  rw [runS_s, s_L_law_758]
  simp only [show nI i + 1 = nI (i + 1) from nI_add i 1, show nI i + 2 = nI (i + 2) from nI_add i 2, chk_in (show i + 1 < N by omega) (by omega), chk_in (show i + 2 < N by omega) (by omega), nI_clamp (show i + 1 < 2 ^ 31 by omega), nI_clamp (show i + 2 < 2 ^ 31 by omega)]
  rw [a, p_ci_s, b, p_ci_s, if_pos rfl]
theorem cs_L_791 (hd : 28 ≤ d) (hN : N ≤ 3072) (hi : i + 6 ≤ N) (h : INV I J) : wlG d N xs n 791 i I J := by
  obtain ⟨P, A, E, h1, h2, h3⟩ := h
  obtain ⟨v, I1, J1, I2, J2, a, b, c⟩ : STP d 141 252 [.int (xs (i + 1)), .int (xs (i + 2))] I J := STP_of (lk_holds (by omega) h1 h2 _ _) h3
  refine ⟨I2, J2, c, ?_⟩
  show runS _ _ _ _ _ _ _ _ (n + 1) _ _ _ _ = _
  rw [runS_s, s_L_law_791]
  simp only [show nI i + 1 = nI (i + 1) from nI_add i 1, show nI i + 2 = nI (i + 2) from nI_add i 2, chk_in (show i + 1 < N by omega) (by omega), chk_in (show i + 2 < N by omega) (by omega), nI_clamp (show i + 1 < 2 ^ 31 by omega), nI_clamp (show i + 2 < 2 ^ 31 by omega)]
  rw [a, p_ci_s, b, p_ci_s, if_pos rfl]
theorem cs_L_824 (hd : 28 ≤ d) (hN : N ≤ 3072) (hi : i + 6 ≤ N) (h : INV I J) : wlG d N xs n 824 i I J := by
  obtain ⟨P, A, E, h1, h2, h3⟩ := h
  obtain ⟨v, I1, J1, I2, J2, a, b, c⟩ : STP d 142 254 [] I J := STP_of (lk_rows (by omega) h1 h2) h3
  refine ⟨I2, J2, c, ?_⟩
  show runS _ _ _ _ _ _ _ _ (n + 1) _ _ _ _ = _
  rw [runS_s, s_L_law_824]
  skip
  rw [a, p_ci_s, b, p_ci_s, if_pos rfl]
theorem cs_L_837 (hd : 28 ≤ d) (hN : N ≤ 3072) (hi : i + 6 ≤ N) (h : INV I J) : wlG d N xs n 837 i I J := by
  obtain ⟨P, A, E, h1, h2, h3⟩ := h
  obtain ⟨v, I1, J1, I2, J2, a, b, c⟩ : STP d 143 256 [.int (xs (i + 1))] I J := STP_of (lk_march (by omega) h1 h2 _) h3
  refine ⟨I2, J2, c, ?_⟩
  show runS _ _ _ _ _ _ _ _ (n + 1) _ _ _ _ = _
  rw [runS_s, s_L_law_837]
  simp only [show nI i + 1 = nI (i + 1) from nI_add i 1, chk_in (show i + 1 < N by omega) (by omega), nI_clamp (show i + 1 < 2 ^ 31 by omega)]
  rw [a, p_ci_s, b, p_ci_s, if_pos rfl]
theorem cs_L_860 (hd : 28 ≤ d) (hN : N ≤ 3072) (hi : i + 6 ≤ N) (h : INV I J) : wlG d N xs n 860 i I J := by
  obtain ⟨P, A, E, h1, h2, h3⟩ := h
  obtain ⟨v, I1, J1, I2, J2, a, b, c⟩ : STP d 144 257 [.int (xs (i + 1)), .int (xs (i + 2)), .int (xs (i + 3))] I J := STP_of (lk_doubles (by omega) h1 h2 _ _ _) h3
  refine ⟨I2, J2, c, ?_⟩
  show runS _ _ _ _ _ _ _ _ (n + 1) _ _ _ _ = _
  rw [runS_s, s_L_law_860]
  simp only [show nI i + 1 = nI (i + 1) from nI_add i 1, show nI i + 2 = nI (i + 2) from nI_add i 2, show nI i + 3 = nI (i + 3) from nI_add i 3, chk_in (show i + 1 < N by omega) (by omega), chk_in (show i + 2 < N by omega) (by omega), chk_in (show i + 3 < N by omega) (by omega), nI_clamp (show i + 1 < 2 ^ 31 by omega), nI_clamp (show i + 2 < 2 ^ 31 by omega), nI_clamp (show i + 3 < 2 ^ 31 by omega)]
  rw [a, p_ci_s, b, p_ci_s, if_pos rfl]
theorem cs_L_903 (hd : 28 ≤ d) (hN : N ≤ 3072) (hi : i + 6 ≤ N) (h : INV I J) : wlG d N xs n 903 i I J := by
  obtain ⟨P, A, E, h1, h2, h3⟩ := h
  obtain ⟨v, I1, J1, I2, J2, a, b, c⟩ : STP d 145 258 [.int (xs (i + 1)), .int (xs (i + 2))] I J := STP_of (lk_then (by omega) h1 h2 _ _) h3
  refine ⟨I2, J2, c, ?_⟩
  show runS _ _ _ _ _ _ _ _ (n + 1) _ _ _ _ = _
  rw [runS_s, s_L_law_903]
  simp only [show nI i + 1 = nI (i + 1) from nI_add i 1, show nI i + 2 = nI (i + 2) from nI_add i 2, chk_in (show i + 1 < N by omega) (by omega), chk_in (show i + 2 < N by omega) (by omega), nI_clamp (show i + 1 < 2 ^ 31 by omega), nI_clamp (show i + 2 < 2 ^ 31 by omega)]
  rw [a, p_ci_s, b, p_ci_s, if_pos rfl]
theorem cs_L_936 (hd : 28 ≤ d) (hN : N ≤ 3072) (hi : i + 6 ≤ N) (h : INV I J) : wlG d N xs n 936 i I J := by
  obtain ⟨P, A, E, h1, h2, h3⟩ := h
  obtain ⟨v, I1, J1, I2, J2, a, b, c⟩ : STP d 146 259 [.int (xs (i + 1)), .int (xs (i + 2)), .int (xs (i + 3))] I J := STP_of (lk_cartIn (by omega) h1 h2 _ _ _) h3
  refine ⟨I2, J2, c, ?_⟩
  show runS _ _ _ _ _ _ _ _ (n + 1) _ _ _ _ = _
  rw [runS_s, s_L_law_936]
  simp only [show nI i + 1 = nI (i + 1) from nI_add i 1, show nI i + 2 = nI (i + 2) from nI_add i 2, show nI i + 3 = nI (i + 3) from nI_add i 3, chk_in (show i + 1 < N by omega) (by omega), chk_in (show i + 2 < N by omega) (by omega), chk_in (show i + 3 < N by omega) (by omega), nI_clamp (show i + 1 < 2 ^ 31 by omega), nI_clamp (show i + 2 < 2 ^ 31 by omega), nI_clamp (show i + 3 < 2 ^ 31 by omega)]
  rw [a, p_ci_s, b, p_ci_s, if_pos rfl]
theorem cs_L_979 (hd : 28 ≤ d) (hN : N ≤ 3072) (hi : i + 6 ≤ N) (h : INV I J) : wlG d N xs n 979 i I J := by
  obtain ⟨P, A, E, h1, h2, h3⟩ := h
  obtain ⟨v, I1, J1, I2, J2, a, b, c⟩ : STP d 147 260 [.int (xs (i + 1)), .int (xs (i + 2)), .int (xs (i + 3)), .int (xs (i + 4))] I J := STP_of (lk_year (by omega) h1 h2 _ _ _ _) h3
  refine ⟨I2, J2, c, ?_⟩
  show runS _ _ _ _ _ _ _ _ (n + 1) _ _ _ _ = _
  rw [runS_s, s_L_law_979]
  simp only [show nI i + 1 = nI (i + 1) from nI_add i 1, show nI i + 2 = nI (i + 2) from nI_add i 2, show nI i + 3 = nI (i + 3) from nI_add i 3, show nI i + 4 = nI (i + 4) from nI_add i 4, chk_in (show i + 1 < N by omega) (by omega), chk_in (show i + 2 < N by omega) (by omega), chk_in (show i + 3 < N by omega) (by omega), chk_in (show i + 4 < N by omega) (by omega), nI_clamp (show i + 1 < 2 ^ 31 by omega), nI_clamp (show i + 2 < 2 ^ 31 by omega), nI_clamp (show i + 3 < 2 ^ 31 by omega), nI_clamp (show i + 4 < 2 ^ 31 by omega)]
  rw [a, p_ci_s, b, p_ci_s, if_pos rfl]
theorem cs_L_1032 (hd : 28 ≤ d) (hN : N ≤ 3072) (hi : i + 6 ≤ N) (h : INV I J) : wlG d N xs n 1032 i I J := by
  obtain ⟨P, A, E, h1, h2, h3⟩ := h
  obtain ⟨v, I1, J1, I2, J2, a, b, c⟩ : STP d 148 261 [.int (xs (i + 1)), .int (xs (i + 2)), .int (xs (i + 3))] I J := STP_of (lk_tell (by omega) h1 h2 _ _ _) h3
  refine ⟨I2, J2, c, ?_⟩
  show runS _ _ _ _ _ _ _ _ (n + 1) _ _ _ _ = _
  rw [runS_s, s_L_law_1032]
  simp only [show nI i + 1 = nI (i + 1) from nI_add i 1, show nI i + 2 = nI (i + 2) from nI_add i 2, show nI i + 3 = nI (i + 3) from nI_add i 3, chk_in (show i + 1 < N by omega) (by omega), chk_in (show i + 2 < N by omega) (by omega), chk_in (show i + 3 < N by omega) (by omega), nI_clamp (show i + 1 < 2 ^ 31 by omega), nI_clamp (show i + 2 < 2 ^ 31 by omega), nI_clamp (show i + 3 < 2 ^ 31 by omega)]
  rw [a, p_ci_s, b, p_ci_s, if_pos rfl]
theorem cs_L_1075 (hd : 28 ≤ d) (hN : N ≤ 3072) (hi : i + 6 ≤ N) (h : INV I J) : wlG d N xs n 1075 i I J := by
  obtain ⟨P, A, E, h1, h2, h3⟩ := h
  obtain ⟨v, I1, J1, I2, J2, a, b, c⟩ : STP d 149 262 [] I J := STP_of (lk_forget (by omega) h1 h2) h3
  refine ⟨I2, J2, c, ?_⟩
  show runS _ _ _ _ _ _ _ _ (n + 1) _ _ _ _ = _
  rw [runS_s, s_L_law_1075]
  skip
  rw [a, p_ci_s, b, p_ci_s, if_pos rfl]
theorem cs_L_1088 (hd : 28 ≤ d) (hN : N ≤ 3072) (hi : i + 6 ≤ N) (h : INV I J) : wlG d N xs n 1088 i I J := by
  obtain ⟨P, A, E, h1, h2, h3⟩ := h
  obtain ⟨v, I1, J1, I2, J2, a, b, c⟩ : STP d 150 267 [.int (xs (i + 1)), .int (xs (i + 2))] I J := STP_of (lk_cuts (by omega) h1 h2 _ _) h3
  refine ⟨I2, J2, c, ?_⟩
  show runS _ _ _ _ _ _ _ _ (n + 1) _ _ _ _ = _
  rw [runS_s, s_L_law_1088]
  simp only [show nI i + 1 = nI (i + 1) from nI_add i 1, show nI i + 2 = nI (i + 2) from nI_add i 2, chk_in (show i + 1 < N by omega) (by omega), chk_in (show i + 2 < N by omega) (by omega), nI_clamp (show i + 1 < 2 ^ 31 by omega), nI_clamp (show i + 2 < 2 ^ 31 by omega)]
  rw [a, p_ci_s, b, p_ci_s, if_pos rfl]
theorem cs_L_1121 (hd : 28 ≤ d) (hN : N ≤ 3072) (hi : i + 6 ≤ N) (h : INV I J) : wlG d N xs n 1121 i I J := by
  obtain ⟨P, A, E, h1, h2, h3⟩ := h
  obtain ⟨v, I1, J1, I2, J2, a, b, c⟩ : STP d 151 269 [.int (xs (i + 1))] I J := STP_of (lk_ask (by omega) h1 h2 _) h3
  refine ⟨I2, J2, c, ?_⟩
  show runS _ _ _ _ _ _ _ _ (n + 1) _ _ _ _ = _
  rw [runS_s, s_L_law_1121]
  simp only [show nI i + 1 = nI (i + 1) from nI_add i 1, chk_in (show i + 1 < N by omega) (by omega), nI_clamp (show i + 1 < 2 ^ 31 by omega)]
  rw [a, p_ci_s, b, p_ci_s, if_pos rfl]
theorem cs_L_1144 (hd : 28 ≤ d) (hN : N ≤ 3072) (hi : i + 6 ≤ N) (h : INV I J) : wlG d N xs n 1144 i I J := by
  obtain ⟨P, A, E, h1, h2, h3⟩ := h
  obtain ⟨v, I1, J1, I2, J2, a, b, c⟩ : STP d 152 270 [.int (xs (i + 1))] I J := STP_of (lk_hold (by omega) h1 h2 _) h3
  refine ⟨I2, J2, c, ?_⟩
  show runS _ _ _ _ _ _ _ _ (n + 1) _ _ _ _ = _
  rw [runS_s, s_L_law_1144]
  simp only [show nI i + 1 = nI (i + 1) from nI_add i 1, chk_in (show i + 1 < N by omega) (by omega), nI_clamp (show i + 1 < 2 ^ 31 by omega)]
  rw [a, p_ci_s, b, p_ci_s, if_pos rfl]
theorem cs_L_1167 (hd : 28 ≤ d) (hN : N ≤ 3072) (hi : i + 6 ≤ N) (h : INV I J) : wlG d N xs n 1167 i I J := by
  obtain ⟨P, A, E, h1, h2, h3⟩ := h
  obtain ⟨v, I1, J1, I2, J2, a, b, c⟩ : STP d 153 271 [.int (xs (i + 1))] I J := STP_of (lk_restore (by omega) h1 h2 _) h3
  refine ⟨I2, J2, c, ?_⟩
  show runS _ _ _ _ _ _ _ _ (n + 1) _ _ _ _ = _
  rw [runS_s, s_L_law_1167]
  simp only [show nI i + 1 = nI (i + 1) from nI_add i 1, chk_in (show i + 1 < N by omega) (by omega), nI_clamp (show i + 1 < 2 ^ 31 by omega)]
  rw [a, p_ci_s, b, p_ci_s, if_pos rfl]
theorem cs_L_1190 (hd : 28 ≤ d) (hN : N ≤ 3072) (hi : i + 6 ≤ N) (h : INV I J) : wlG d N xs n 1190 i I J := by
  obtain ⟨P, A, E, h1, h2, h3⟩ := h
  obtain ⟨v, I1, J1, I2, J2, a, b, c⟩ : STP d 154 272 [.int (xs (i + 1))] I J := STP_of (lk_count (by omega) h1 h2 _) h3
  refine ⟨I2, J2, c, ?_⟩
  show runS _ _ _ _ _ _ _ _ (n + 1) _ _ _ _ = _
  rw [runS_s, s_L_law_1190]
  simp only [show nI i + 1 = nI (i + 1) from nI_add i 1, chk_in (show i + 1 < N by omega) (by omega), nI_clamp (show i + 1 < 2 ^ 31 by omega)]
  rw [a, p_ci_s, b, p_ci_s, if_pos rfl]
theorem sw_in {α : Type} {k : Nat → α} {dd : Nat} {x : Int32} : ∀ (l : List Nat) (n : Nat), ∃ t, t ∈ dd :: l ∧ p_sw k dd x n l = k t := by
  intro l
  induction l with
  | nil => intro n; exact ⟨dd, List.mem_cons_self, rfl⟩
  | cons t l ih =>
    intro n
    by_cases c : x = nI n
    · exact ⟨t, List.mem_cons_of_mem _ List.mem_cons_self, if_pos c⟩
    · obtain ⟨u, h1, h2⟩ := ih (n + 1)
      refine ⟨u, ?_, (if_neg c).trans h2⟩
      rcases List.mem_cons.mp h1 with h1 | h1
      · rw [h1]; exact List.mem_cons_self
      · exact List.mem_cons_of_mem _ (List.mem_cons_of_mem _ h1)
theorem cs_L (hd : 28 ≤ d) (hN : N ≤ 3072) (hi : i + 6 ≤ N) (h : INV I J) {t : Nat} (ht : t ∈ lwTs) : wlG d N xs n t i I J := by
  unfold lwTs at ht
  simp only [List.mem_cons, List.not_mem_nil, or_false] at ht
  rcases ht with rfl | rfl | rfl | rfl | rfl | rfl | rfl | rfl | rfl | rfl | rfl | rfl | rfl | rfl | rfl | rfl | rfl | rfl | rfl | rfl | rfl | rfl | rfl | rfl | rfl | rfl | rfl | rfl | rfl | rfl | rfl | rfl | rfl | rfl | rfl
  · exact cs_L_188 hd hN hi h
  · exact cs_L_251 hd hN hi h
  · exact cs_L_274 hd hN hi h
  · exact cs_L_287 hd hN hi h
  · exact cs_L_300 hd hN hi h
  · exact cs_L_333 hd hN hi h
  · exact cs_L_366 hd hN hi h
  · exact cs_L_399 hd hN hi h
  · exact cs_L_432 hd hN hi h
  · exact cs_L_455 hd hN hi h
  · exact cs_L_488 hd hN hi h
  · exact cs_L_511 hd hN hi h
  · exact cs_L_534 hd hN hi h
  · exact cs_L_547 hd hN hi h
  · exact cs_L_580 hd hN hi h
  · exact cs_L_613 hd hN hi h
  · exact cs_L_636 hd hN hi h
  · exact cs_L_649 hd hN hi h
  · exact cs_L_682 hd hN hi h
  · exact cs_L_725 hd hN hi h
  · exact cs_L_758 hd hN hi h
  · exact cs_L_791 hd hN hi h
  · exact cs_L_824 hd hN hi h
  · exact cs_L_837 hd hN hi h
  · exact cs_L_860 hd hN hi h
  · exact cs_L_903 hd hN hi h
  · exact cs_L_936 hd hN hi h
  · exact cs_L_979 hd hN hi h
  · exact cs_L_1032 hd hN hi h
  · exact cs_L_1075 hd hN hi h
  · exact cs_L_1088 hd hN hi h
  · exact cs_L_1121 hd hN hi h
  · exact cs_L_1144 hd hN hi h
  · exact cs_L_1167 hd hN hi h
  · exact cs_L_1190 hd hN hi h
theorem law_lt (hN : N ≤ 3072) (hi : i ≤ 4000) : (Int32.ofNat N - 6 < nI i) = (N < i + 6) := by
  have e : (nI i + 6 : Int32) = nI (i + 6) := nI_add i 6
  have e2 : (Int32.ofNat N - 6 < nI i) = (nI N < nI (i + 6)) := by
    rw [← e, Int32.lt_iff_toInt_lt, Int32.lt_iff_toInt_lt, Int32.toInt_sub, Int32.toInt_add]
    have a1 : (Int32.ofNat N).toInt = (N : Int) := Int32.toInt_ofNat_of_lt (by omega)
    have a2 : (nI N).toInt = (N : Int) := Int32.toInt_ofNat_of_lt (by omega)
    have a3 : (nI i).toInt = (i : Int) := Int32.toInt_ofNat_of_lt (by omega)
    have a4 : (6 : Int32).toInt = 6 := by decide
    rw [a1, a2, a3, a4, Int.bmod_eq_of_le (by omega) (by omega), Int.bmod_eq_of_le (by omega) (by omega)]
    apply propext; constructor <;> intro h <;> omega
  rw [e2]
  exact lt_nI (a := N) (b := i + 6) (by omega) (by omega)
theorem lp_law (hd : 28 ≤ d) (hN : N ≤ 3072) : ∀ (m i n : Nat) (I : Nat → Nat → Int32) (J : Nat → Nat → Int64), N + 1 ≤ i + m → i ≤ N + 6 → 3 * m < n → INV I J → wlR d N xs n 18 (nI i) (I, J) = some () := by
  intro m
  induction m with
  | zero =>
    intro i n I J h1 h2 h3 h
    obtain ⟨n, rfl⟩ : ∃ z, n = z + 1 := ⟨n - 1, by omega⟩
    show runS _ _ _ _ _ _ _ _ (n + 1) _ _ _ _ = _
    rw [runS_s, s_L_law_18, if_pos (show Int32.ofNat N - 6 < nI i by rw [law_lt hN (by omega)]; omega)]
    rfl
  | succ m ih =>
    intro i n I J h1 h2 h3 h
    obtain ⟨n, rfl⟩ : ∃ z, n = z + 1 + 1 + 1 := ⟨n - 3, by omega⟩
    show runS _ _ _ _ _ _ _ _ (n + 1 + 1 + 1) _ _ _ _ = _
    rw [runS_s, s_L_law_18]
    by_cases c : N < i + 6
    · rw [if_pos (show Int32.ofNat N - 6 < nI i by rw [law_lt hN (by omega)]; exact c)]
      rfl
    · rw [if_neg (show ¬ Int32.ofNat N - 6 < nI i by rw [law_lt hN (by omega)]; exact c), chk_in (by omega) (by omega)]
      have go : ∀ (n : Nat) (I : Nat → Nat → Int32) (J : Nat → Nat → Int64), 3 * m < n → INV I J → wlR d N xs (n + 1) 1213 (nI i) (I, J) = some () := fun n I J hn h => by
        show runS _ _ _ _ _ _ _ _ (n + 1) _ _ _ _ = _
        rw [runS_s, s_L_law_1213, show nI i + 6 = nI (i + 6) from nI_add i 6]
        exact ih (i + 6) n I J (by omega) (by omega) hn h
      obtain ⟨t, ht, e⟩ := sw_in (k := fun t => runS (EV d) (some (N, xs)) 4 T0 C_L_law k_L_law rtW f_L_law (n + 1 + 1) t [.ref 100000, .ref 0, .ref 192, .int (nI i)] [] (I, J)) (dd := 1213) (x := xs (nI i).toNatClampNeg &&& 63) lwTs 0
      rw [e]
      rcases List.mem_cons.mp ht with ht | ht
      · subst ht
        exact go (n + 1) I J (by omega) h
      · obtain ⟨I', J', k1, k2⟩ := cs_L (i := i) (xs := xs) (n := n + 1) hd hN (by omega) h ht
        exact k2.trans (go n I' J' (by omega) k1)
end TE1
