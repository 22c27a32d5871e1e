/-! ===== read: tokens (reference) ===== -/
section RL
variable {I : Nat → Nat → Int32} {J : Nat → Nat → Int64} {d : Nat} {b : Nat → Nat} {n : Nat}
def TBR (I : Nat → Nat → Int32) (n : Nat) (b : Nat → Nat) : Prop := I 192 4 = nI n ∧ n ≤ 2000 ∧ ∀ j, j < n → I 194 j &&& 255 = nI (b j) ∧ b j < 256
/-- the reference's number of a kind -/
def kap (k : Nat) : Nat := if k = 0 then 0 else if k = 1 then 3 else if k = 2 then 1 else if k = 3 then 2 else if k = 59 then 4 else if k = 61 then 5 else if k = 40 then 6 else if k = 41 then 7 else if k = 43 then 8 else if k = 45 then 9 else if k = 42 then 10 else if k = 60 then 13 else if k = 47 then 15 else k - 236
def by0 (b : Nat → Nat) (n p : Nat) : Nat := if p < n then b p else 0
theorem q_byteR (hd : 1 ≤ d) (h : TBR I n b) {p : Nat} (hp : p < 10000) : EV d T0 170 [.ref 192, .int (nI p)] (I, J) = some (some (.int (nI (by0 b n p))), (I, J)) := by
  obtain ⟨d, rfl⟩ : ∃ z, d = z + 1 := ⟨d - 1, by omega⟩
  obtain ⟨h1, h2, h3⟩ := h
  unfold by0
  rw [e_X12_byteAt, runS_M, s_X12_byteAt_0, h1]
  by_cases c : p < n
  · rw [if_neg (nI_ge (by omega) (by omega)), chk_in (by omega) (by omega), nI_clamp (by omega), (h3 p c).1, if_pos c]; rfl
  · rw [if_pos (nI_le (by omega) (by omega)), if_neg c]; rfl
theorem by0_b (h : TBR I n b) (p : Nat) : by0 b n p < 256 := by
  unfold by0
  by_cases c : p < n
  · rw [if_pos c]; exact (h.2.2 p c).2
  · rw [if_neg c]; omega
theorem q_isLR (hd : 1 ≤ d) {m : Nat} (hm : m < 256) (ij : IJ) : EV d T0 172 [.int (nI m)] ij = some (some (.int (zI (isL m = true))), ij) := by
  obtain ⟨d, rfl⟩ : ∃ z, d = z + 1 := ⟨d - 1, by omega⟩
  obtain ⟨I, J⟩ := ij
  rw [e_X12_isLetter, runS_M, s_X12_isLetter_0]
  simp only [show (nI m < (97 : Int32)) = (m < 97) from lt_nI (b := 97) (by omega) (by omega), show ((122 : Int32) < nI m) = (122 < m) from lt_nI (a := 122) (by omega) (by omega)]
  by_cases c : m < 97
  · rw [if_pos c, zI_f (fun h9 => by have := of_decide_eq_true h9; omega)]; rfl
  · rw [if_neg c]
    by_cases c2 : 122 < m
    · rw [if_pos c2, zI_f (fun h9 => by have := of_decide_eq_true h9; omega)]; rfl
    · rw [if_neg c2, zI_t (show isL m = true from decide_eq_true ⟨by omega, by omega⟩)]; rfl
theorem q_isDR (hd : 1 ≤ d) {m : Nat} (hm : m < 256) (ij : IJ) : EV d T0 171 [.int (nI m)] ij = some (some (.int (zI (isD m = true))), ij) := by
  obtain ⟨d, rfl⟩ : ∃ z, d = z + 1 := ⟨d - 1, by omega⟩
  obtain ⟨I, J⟩ := ij
  rw [e_X12_isDigit, runS_M, s_X12_isDigit_0]
  simp only [show (nI m < (48 : Int32)) = (m < 48) from lt_nI (b := 48) (by omega) (by omega), show ((57 : Int32) < nI m) = (57 < m) from lt_nI (a := 57) (by omega) (by omega)]
  by_cases c : m < 48
  · rw [if_pos c, zI_f (fun h9 => by have := of_decide_eq_true h9; omega)]; rfl
  · rw [if_neg c]
    by_cases c2 : 57 < m
    · rw [if_pos c2, zI_f (fun h9 => by have := of_decide_eq_true h9; omega)]; rfl
    · rw [if_neg c2, zI_t (show isD m = true from decide_eq_true ⟨by omega, by omega⟩)]; rfl
theorem q_appends (hd : 1 ≤ d) (v : Int64) {m : Nat} (hm : isL m = true) (ij : IJ) : EV d T0 173 [.long v, .int (nI m)] ij = some (some (.long (adL v m)), ij) := by
  obtain ⟨d, rfl⟩ : ∃ z, d = z + 1 := ⟨d - 1, by omega⟩
  obtain ⟨I, J⟩ := ij
  have hm' := (of_decide_eq_true hm : 97 ≤ m ∧ m ≤ 122)
  rw [e_X12_appends, runS_M, s_X12_appends_0, if_neg (by rw [eq0_nI (by omega)]; omega), Int64.mul_comm]
  rfl
theorem lp_letR (hd : 1 ≤ d) (h : TBR I n b) {p0 : Nat} : ∀ (k p m : Nat) (v w : Int64), p0 ≤ p → p + k = n → 3 * k + 1 < m → (p - p0 ≤ 8 → w = v) →
    ∃ m' w', m ≤ m' + 3 * ((ltF b n k p v).1 - p) + 1 ∧ ((ltF b n k p v).1 - p0 ≤ 8 → w' = (ltF b n k p v).2) ∧ runS (EV d) none 8 T0 C_X12_cutsUp k_X12_cutsUp rtV f_X12_cutsUp m 85 [.ref 192, .int (nI p0), un, .int (nI (p - p0)), .long w, un, un, un] [] (I, J) = runS (EV d) none 8 T0 C_X12_cutsUp k_X12_cutsUp rtV f_X12_cutsUp m' 124 [.ref 192, .int (nI p0), un, .int (nI ((ltF b n k p v).1 - p0)), .long w', un, un, un] [] (I, J) := by
  have h2 := h.2.1
  intro k
  induction k with
  | zero =>
    intro p m v w h0 hp hm hw
    obtain ⟨m, rfl⟩ : ∃ z, m = z + 1 := ⟨m - 1, by omega⟩
    refine ⟨m, w, by show m + 1 ≤ m + 3 * (p - p) + 1; omega, hw, ?_⟩
    have e0 : by0 b n p = 0 := if_neg (by omega)
    rw [runS_s, s_X12_cutsUp_85, nI_add, show p0 + (p - p0) = p by omega, q_byteR hd h (by omega), p_ci_s, e0, q_isLR hd (by omega), p_ci_s, if_pos (zI_f (by decide))]
    rfl
  | succ k ih =>
    intro p m v w h0 hp hm hw
    obtain ⟨m, rfl⟩ : ∃ z, m = z + 1 + 1 + 1 := ⟨m - 3, by omega⟩
    have e0 : by0 b n p = b p := if_pos (by omega)
    rw [runS_s, s_X12_cutsUp_85, nI_add, show p0 + (p - p0) = p by omega, q_byteR hd h (by omega), p_ci_s, e0, q_isLR hd (h.2.2 p (by omega)).2, p_ci_s]
    unfold ltF
    by_cases c : isL (b p) = true
    · rw [if_pos c, if_neg (show ¬ zI (isL (b p) = true) = 0 by rw [zI_t c]; decide), runS_s, s_X12_cutsUp_98]
      by_cases c8 : 8 ≤ p - p0
      · have hl := lt_b (b := b) (n := n) k (p + 1) (adL v (b p))
        obtain ⟨m', w', u1, u2, u3⟩ := ih (p + 1) m (adL v (b p)) w (by omega) (by omega) (by omega) (fun h9 => by omega)
        refine ⟨m', w', by omega, u2, ?_⟩
        rw [if_pos (show (8 : Int32) ≤ nI (p - p0) from nI_le (a := 8) (b := p - p0) (by omega) (by omega)), runS_s, s_X12_cutsUp_118, nI_1, show p - p0 + 1 = p + 1 - p0 by omega]
        exact u3
      · have hl := lt_b (b := b) (n := n) k (p + 1) (adL v (b p))
        obtain ⟨m', w', u1, u2, u3⟩ := ih (p + 1) m (adL v (b p)) (adL v (b p)) (by omega) (by omega) (by omega) (fun _ => rfl)
        refine ⟨m', w', by omega, u2, ?_⟩
        rw [if_neg (show ¬ (8 : Int32) ≤ nI (p - p0) from nI_ge (a := p - p0) (b := 8) (by omega) (by omega)), nI_add, show p0 + (p - p0) = p by omega, q_byteR hd h (by omega), p_ci_s, e0, q_appends hd w c, p_cl_s, hw (by omega), runS_s, s_X12_cutsUp_118, nI_1, show p - p0 + 1 = p + 1 - p0 by omega]
        exact u3
    · refine ⟨m + 1 + 1, w, by rw [if_neg c]; dsimp only; omega, ?_, ?_⟩
      · rw [if_neg c]; exact hw
      · rw [if_pos (zI_f c), if_neg c]
theorem lp_digR (hd : 1 ≤ d) (h : TBR I n b) {p0 : Nat} : ∀ (k p m v : Nat) (w : Int32), p0 ≤ p → p + k = n → 2 * k + 1 < m → (p - p0 ≤ 4 → w = nI v) →
    ∃ m' w', m ≤ m' + 2 * ((dgF b n k p v).1 - p) + 1 ∧ ((dgF b n k p v).1 - p0 ≤ 4 → w' = nI (dgF b n k p v).2) ∧ runS (EV d) none 8 T0 C_X12_cutsUp k_X12_cutsUp rtV f_X12_cutsUp m 208 [.ref 192, .int (nI p0), un, .int (nI (p - p0)), .int w, un, un, un] [] (I, J) = runS (EV d) none 8 T0 C_X12_cutsUp k_X12_cutsUp rtV f_X12_cutsUp m' 250 [.ref 192, .int (nI p0), un, .int (nI ((dgF b n k p v).1 - p0)), .int w', un, un, un] [] (I, J) := by
  have h2 := h.2.1
  intro k
  induction k with
  | zero =>
    intro p m v w h0 hp hm hw
    obtain ⟨m, rfl⟩ : ∃ z, m = z + 1 := ⟨m - 1, by omega⟩
    refine ⟨m, w, by show m + 1 ≤ m + 2 * (p - p) + 1; omega, hw, ?_⟩
    have e0 : by0 b n p = 0 := if_neg (by omega)
    rw [runS_s, s_X12_cutsUp_208, nI_add, show p0 + (p - p0) = p by omega, q_byteR hd h (by omega), p_ci_s, e0, q_isDR hd (by omega), p_ci_s, if_pos (zI_f (by decide))]
    rfl
  | succ k ih =>
    intro p m v w h0 hp hm hw
    obtain ⟨m, rfl⟩ : ∃ z, m = z + 1 + 1 := ⟨m - 2, by omega⟩
    have e0 : by0 b n p = b p := if_pos (by omega)
    rw [runS_s, s_X12_cutsUp_208, nI_add, show p0 + (p - p0) = p by omega, q_byteR hd h (by omega), p_ci_s, e0, q_isDR hd (h.2.2 p (by omega)).2, p_ci_s]
    unfold dgF
    by_cases c : isD (b p) = true
    · have hc := (of_decide_eq_true c : 48 ≤ b p ∧ b p ≤ 57)
      rw [if_pos c, if_neg (show ¬ zI (isD (b p) = true) = 0 by rw [zI_t c]; decide), runS_s, s_X12_cutsUp_221]
      by_cases c8 : 4 ≤ p - p0
      · have hl := dg_b (b := b) (n := n) k (p + 1) (10 * v + (b p - 48))
        obtain ⟨m', w', u1, u2, u3⟩ := ih (p + 1) m (10 * v + (b p - 48)) w (by omega) (by omega) (by omega) (fun h9 => by omega)
        refine ⟨m', w', by omega, u2, ?_⟩
        rw [if_pos (show (4 : Int32) ≤ nI (p - p0) from nI_le (a := 4) (b := p - p0) (by omega) (by omega)), nI_1, show p - p0 + 1 = p + 1 - p0 by omega]
        exact u3
      · have hl := dg_b (b := b) (n := n) k (p + 1) (10 * v + (b p - 48))
        obtain ⟨m', w', u1, u2, u3⟩ := ih (p + 1) m (10 * v + (b p - 48)) (nI (10 * v + (b p - 48))) (by omega) (by omega) (by omega) (fun _ => rfl)
        refine ⟨m', w', by omega, u2, ?_⟩
        rw [if_neg (show ¬ (4 : Int32) ≤ nI (p - p0) from nI_ge (a := p - p0) (b := 4) (by omega) (by omega)), nI_add, show p0 + (p - p0) = p by omega, q_byteR hd h (by omega), p_ci_s, e0, hw (by omega), show (10 : Int32) * nI v = nI (10 * v) from pk_mul 10 v, nI_add, show nI (10 * v + b p) - 48 = nI (10 * v + (b p - 48)) from by rw [show (48 : Int32) = nI 48 from rfl, pk_sub (by omega), show 10 * v + b p - 48 = 10 * v + (b p - 48) by omega], nI_1, show p - p0 + 1 = p + 1 - p0 by omega]
        exact u3
    · refine ⟨m + 1, w, by rw [if_neg c]; dsimp only; omega, ?_, ?_⟩
      · rw [if_neg c]; exact hw
      · rw [if_pos (zI_f c), if_neg c]
/-! the words -/
def ksF (v : Int64) : Nat → Nat → Nat → Nat
  | 0, _, z => z
  | k + 1, i, z => ksF v k (i + 1) (if kyW i = v then 20 + i else z)
theorem sr_m (v : Int64) : ∀ (k i : Nat), srF v k i ≠ 2 → ∃ j, i ≤ j ∧ j < i + k ∧ kyW j = v := by
  intro k
  induction k with
  | zero => intro i h; exact absurd rfl h
  | succ k ih =>
    intro i h
    unfold srF at h
    by_cases c : kyW i = v
    · exact ⟨i, Nat.le_refl _, by omega, c⟩
    · rw [if_neg c] at h
      obtain ⟨j, h1, h2, h3⟩ := ih (i + 1) h
      exact ⟨j, by omega, by omega, h3⟩
theorem ks_sr (v : Int64) : ∀ (k i z : Nat), i + k = 23 → ksF v k i z = if srF v k i = 2 then z else srF v k i - 236 := by
  intro k
  induction k with
  | zero => intro i z hi; rfl
  | succ k ih =>
    intro i z hi
    show ksF v k (i + 1) (if kyW i = v then 20 + i else z) = _
    rw [ih (i + 1) _ (by omega)]
    by_cases c : kyW i = v
    · have e : srF v k (i + 1) = 2 := by
        by_cases e : srF v k (i + 1) = 2
        · exact e
        · obtain ⟨j, h1, h2, h3⟩ := sr_m v k (i + 1) e
          have := kyW_i i (by omega) j (by omega) (c.trans h3.symm)
          omega
      have e2 : srF v (k + 1) i = 256 + i := by unfold srF; rw [if_pos c]
      rw [if_pos e, if_pos c, e2, if_neg (by omega)]; omega
    · have e2 : srF v (k + 1) i = srF v k (i + 1) := by
        show (if kyW i = v then 256 + i else srF v k (i + 1)) = _
        rw [if_neg c]
      rw [if_neg c, e2]
theorem ks_kap (v : Int64) : ksF v 23 0 1 = kap (srF v 23 0) := by
  rw [ks_sr v 23 0 1 rfl]
  rcases sr_b v 23 0 rfl with e | e
  · rw [e]; rfl
  · rw [if_neg (by omega)]
    unfold kap
    rw [if_neg (by omega), if_neg (by omega), if_neg (by omega), if_neg (by omega), if_neg (by omega), if_neg (by omega), if_neg (by omega), if_neg (by omega), if_neg (by omega), if_neg (by omega), if_neg (by omega), if_neg (by omega), if_neg (by omega)]
end RL
