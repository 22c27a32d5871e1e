/-! ===== one cell put anew; distances ===== -/
def cs (I : Nat → Nat → Int32) (k : Nat) (f : Nat → Int32) : Nat → Nat → Int32 := fun a => if a = k then f else I a
theorem cs_eq {I : Nat → Nat → Int32} {k : Nat} {f : Nat → Int32} : cs I k f k = f := if_pos rfl
theorem cs_ne {I : Nat → Nat → Int32} {k a : Nat} {f : Nat → Int32} (h : a ≠ k) : cs I k f a = I a := if_neg h
theorem cs_self {I : Nat → Nat → Int32} {k : Nat} : cs I k (I k) = I := by
  funext a
  unfold cs
  split
  · rename_i h; rw [h]
  · rfl
theorem wr_cs {I : Nat → Nat → Int32} {k j : Nat} {x : Int32} : p_wr I k j x = cs I k (upd (I k) j x) := by
  funext a
  unfold p_wr cs
  split
  · rename_i h; rw [h]
  · rfl
theorem cs_cs {I : Nat → Nat → Int32} {k : Nat} {f g : Nat → Int32} : cs (cs I k f) k g = cs I k g := by
  funext a
  unfold cs
  split
  · rfl
  · rfl
theorem wr_cs2 {I : Nat → Nat → Int32} {k j : Nat} {f : Nat → Int32} {x : Int32} : p_wr (cs I k f) k j x = cs I k (upd f j x) := by rw [wr_cs, cs_eq, cs_cs]
def fillF (f : Nat → Int32) (v : Int32) (n : Nat) : Nat → Int32 := fun j => if j < n then v else f j
theorem fillF_0 {f : Nat → Int32} {v : Int32} : fillF f v 0 = f := by funext j; unfold fillF; rw [if_neg (Nat.not_lt_zero _)]
theorem fillF_s {f : Nat → Int32} {v : Int32} {i : Nat} : upd (fillF f v i) i v = fillF f v (i + 1) := by
  funext j
  unfold upd fillF
  by_cases h : j = i
  · rw [if_pos h, if_pos (by omega)]
  · rw [if_neg h]
    by_cases h2 : j < i
    · rw [if_pos h2, if_pos (by omega)]
    · rw [if_neg h2, if_neg (by omega)]
theorem lp_fill {O : Ora} {I : Nat → Nat → Int32} {J : Nat → Nat → Int64} (v : Int32) (f : Nat → Int32) : ∀ (k i n : Nat), i + k = 7 → k < n →
    runS O none 4 T0 C_J7_fill_53178 k_J7_fill_53178 rtV f_J7_fill_53178 n 5 [.ref 173, .int v, .int (nI i), .int (Int32.ofNat 7)] [] (cs I 173 (fillF f v i), J) = some (none, (cs I 173 (fillF f v 7), J)) := by
  intro k
  induction k with
  | zero =>
    intro i n hi hn
    obtain ⟨n, rfl⟩ : ∃ z, n = z + 1 := ⟨n - 1, by omega⟩
    have e7 : i = 7 := by omega
    subst e7
    rw [runS_s, s_J7_fill_53178_173_5, if_pos (by decide)]
    rfl
  | succ k ih =>
    intro i n hi hn
    obtain ⟨n, rfl⟩ : ∃ z, n = z + 1 := ⟨n - 1, by omega⟩
    have e7 : ¬ Int32.ofNat 7 ≤ nI i := nI_ge (a := i) (b := 7) (by omega) (by omega)
    rw [runS_s, s_J7_fill_53178_173_5, if_neg e7, chk_t (p_in_nI (by omega) (by omega)), nI_clamp (by omega), nI_1, wr_cs2, fillF_s]
    exact ih (i + 1) n (by omega) (by omega)
theorem ev_fill (d : Nat) (I : Nat → Nat → Int32) (J : Nat → Nat → Int64) (v : Int32) : EV (d + 1) T0 300 [.ref 173, .int v] (I, J) = some (none, (cs I 173 (fillF (I 173) v 7), J)) := by
  rw [e_J7_fill_53178_173, runS_M, s_J7_fill_53178_173_0]
  have h := lp_fill (O := EV d) (I := I) (J := J) v (I 173) 7 0 999999 (by omega) (by omega)
  rw [fillF_0, cs_self] at h
  exact h
theorem ev_isReached (d : Nat) (I : Nat → Nat → Int32) (J : Nat → Nat → Int64) {a : Nat} (ha : a < 7) : EV (d + 1) T0 15 [.ref 172, .int (nI a)] (I, J) = some (some (.int (zI (¬ 1000000 ≤ I 173 a))), (I, J)) := by
  rw [e_X1_isReached, runS_M, s_X1_isReached_0, chk_t (p_in_nI ha (by omega)), nI_clamp (by omega)]
  by_cases h : 1000000 ≤ I 173 a
  · rw [if_pos h, zI_f (fun q => q h)]; rfl
  · rw [if_neg h, zI_t h]; rfl
/-- a way shortens what is known of its end: whether, and what is known then -/
def shF (f : Nat → Int32) (a b : Nat) (w : Int32) : Int32 × (Nat → Int32) := if 1000000 ≤ f a then (0, f) else if f b ≤ f a + w then (0, f) else (1, upd f b (f a + w))
theorem ev_shorten (d : Nat) (I : Nat → Nat → Int32) (J : Nat → Nat → Int64) (f : Nat → Int32) {a b : Nat} (ha : a < 7) (hb : b < 7) (w : Int32) : EV (d + 2) T0 22 [.ref 172, .int (nI a), .int (nI b), .int w] (cs I 173 f, J) = some (some (.int (shF f a b w).1), (cs I 173 (shF f a b w).2, J)) := by
  rw [e_X1_shorten, runS_M, s_X1_shorten_0, ev_isReached d _ J ha, p_ci_s]
  simp only [cs_eq]
  unfold shF
  by_cases h : 1000000 ≤ f a
  · rw [zI_f (fun q => q h), if_pos rfl, if_pos h]; rfl
  · rw [zI_t h, if_neg (by decide), if_neg h, chk_t (p_in_nI ha (by omega)), chk_t (p_in_nI hb (by omega)), nI_clamp (by omega), nI_clamp (by omega)]
    by_cases h2 : f b ≤ f a + w
    · rw [if_pos h2, if_pos h2]; rfl
    · rw [if_neg h2, if_neg h2, chk_t (p_in_nI ha (by omega)), chk_t (p_in_nI hb (by omega)), wr_cs2]; rfl
