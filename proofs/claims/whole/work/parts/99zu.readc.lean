/-! ===== read: the class's call ===== -/
section SZ
variable {I : Nat → Nat → Int32} {J : Nat → Nat → Int64} {d : Nat}
theorem lp_fill41 {O : Ora} (v : Int32) (f : Nat → Int32) : ∀ (k i n : Nat), i + k = 20 → k < n →
    runS O none 4 T0 C_J7_fill_53178 k_J7_fill_53178 rtV f_J7_fill_53178 n 5 [.ref 41, .int v, .int (nI i), .int (Int32.ofNat 20)] [] (cs I 41 (fillF f v i), J) = some (none, (cs I 41 (fillF f v 20), J)) := by
  intro k
  induction k with
  | zero =>
    intro i n hi hn
    obtain ⟨n, rfl⟩ : ∃ z, n = z + 1 := ⟨n - 1, by omega⟩
    have e7 : i = 20 := by omega
    subst e7
    rw [runS_s, s_J7_fill_53178_41_5, if_pos (by decide)]
    rfl
  | succ k ih =>
    intro i n hi hn
    obtain ⟨n, rfl⟩ : ∃ z, n = z + 1 := ⟨n - 1, by omega⟩
    have e7 : ¬ Int32.ofNat 20 ≤ nI i := nI_ge (a := i) (b := 20) (by omega) (by omega)
    rw [runS_s, s_J7_fill_53178_41_5, if_neg e7, chk_in (by omega) (by omega), nI_clamp (by omega), nI_1, wr_cs2, fillF_s]
    exact ih (i + 1) n (by omega) (by omega)
theorem ev_fill41 (d : Nat) (I : Nat → Nat → Int32) (J : Nat → Nat → Int64) (v : Int32) : EV (d + 1) T0 300 [.ref 41, .int v] (I, J) = some (none, (cs I 41 (fillF (I 41) v 20), J)) := by
  rw [e_J7_fill_53178_41, runS_M, s_J7_fill_53178_41_0]
  have h := lp_fill41 (O := EV d) (I := I) (J := J) v (I 41) 20 0 999999 (by omega) (by omega)
  rw [fillF_0, cs_self] at h
  exact h
theorem lp_beg (hd : 1 ≤ d) {C : Nat} (hC : I 25 3 = nI C) (h4 : C ≤ 4) : ∀ (k i n : Nat) (g : Nat → Int32), i + k = C → (∀ c, c < i → g (5 * c) = I 32 c) → (∀ c f, c < 4 → 1 ≤ f → f < 5 → g (5 * c + f) = 0) → k < n →
    ∃ g', runS (EV d) none 3 T0 C_X8_begin k_X8_begin rtV f_X8_begin n 38 [.ref 39, .ref 25, .int (nI i)] [] (cs I 41 g, J) = some (none, (cs I 41 g', J)) ∧ (∀ c, c < C → g' (5 * c) = I 32 c) ∧ ∀ c f, c < 4 → 1 ≤ f → f < 5 → g' (5 * c + f) = 0 := by
  intro k
  induction k with
  | zero =>
    intro i n g hi h1 h2 hn
    obtain ⟨n, rfl⟩ : ∃ z, n = z + 1 := ⟨n - 1, by omega⟩
    refine ⟨g, ?_, fun c hc => h1 c (by omega), h2⟩
    rw [runS_s, s_X8_begin_38, cs_ne (by decide), hC, if_pos (nI_le (by omega) (by omega))]; rfl
  | succ k ih =>
    intro i n g hi h1 h2 hn
    obtain ⟨n, rfl⟩ : ∃ z, n = z + 1 := ⟨n - 1, by omega⟩
    obtain ⟨g', u1, u2, u3⟩ := ih (i + 1) n (upd g (5 * i) (I 32 i)) (by omega) (fun c hc => by
      by_cases e : c = i
      · rw [e, pk_us]
      · rw [pk_un (by omega)]; exact h1 c (by omega)) (fun c f hc hf1 hf2 => by rw [pk_un (by omega)]; exact h2 c f hc hf1 hf2) (by omega)
    refine ⟨g', ?_, u2, u3⟩
    rw [runS_s, s_X8_begin_38, cs_ne (show (25 : Nat) ≠ 41 by decide), hC, if_neg (nI_ge (by omega) (by omega)), chk_in (by omega) (by omega), nI_clamp (by omega), cs_ne (show (32 : Nat) ≠ 41 by decide), q_sf_39 (by omega) (c := i) (f := 0) (by omega) (by omega) (x := 0) rfl, p_cv_s, nI_1, Nat.add_zero, wr_cs2]
    exact u1
theorem ev_begin (hd : 2 ≤ d) {C : Nat} (hC : I 25 3 = nI C) (h4 : C ≤ 4) : ∃ I', EV d T0 90 [.ref 39, .ref 25] (I, J) = some (none, (I', J)) ∧ kp [39, 40, 41] I I' ∧ I' 39 0 = 0 ∧ I' 39 1 = I 25 5 ∧ (∀ j, j < 10 → I' 40 j = I 30 j) ∧ (∀ c, c < C → I' 41 (5 * c) = I 32 c) ∧ ∀ c f, c < 4 → 1 ≤ f → f < 5 → I' 41 (5 * c + f) = 0 := by
  obtain ⟨d, rfl⟩ : ∃ z, d = z + 1 + 1 := ⟨d - 2, by omega⟩
  let I0 := p_cp (p_wr (p_wr I 39 0 0) 39 1 (I 25 5)) 30 40 0 0 10
  have k0 : kp [39, 40] I I0 := ((kp.rf.wr (by decide)).wr (by decide)).cp (by decide)
  obtain ⟨g', u1, u2, u3⟩ := lp_beg (d := d + 1) (I := I0) (J := J) (by omega) (C := C) (by rw [k0 25 (by decide)]; exact hC) h4 C 0 999999 (fillF (I0 41) 0 20) (by omega) (fun c hc => absurd hc (Nat.not_lt_zero _)) (fun c f hc h1 h5 => if_pos (by omega)) (by omega)
  have k1 : kp [41] I0 (cs I0 41 g') := kp.rf.cs (by decide)
  refine ⟨cs I0 41 g', ?_, (k0.up (by decide)).tr (k1.up (by decide)), ?_, ?_, fun j hj => ?_, fun c hc => by rw [cs_eq, u2 c hc, k0 32 (by decide)], fun c f a b e => by rw [cs_eq]; exact u3 c f a b e⟩
  · rw [e_X8_begin, runS_M, s_X8_begin_0]
    show p_cv (EV (d + 1) T0 300 [.ref 41, .int 0] (I0, J)) _ = _
    rw [ev_fill41, p_cv_s]
    exact u1
  · rw [cs_ne (by decide)]; show p_cp (p_wr (p_wr I 39 0 0) 39 1 (I 25 5)) 30 40 0 0 10 39 0 = 0; rw [cp_ne (by decide), wr_eq, pk_un (by decide), wr_eq, pk_us]
  · rw [cs_ne (by decide)]; show p_cp (p_wr (p_wr I 39 0 0) 39 1 (I 25 5)) 30 40 0 0 10 39 1 = _; rw [cp_ne (by decide), wr_eq, pk_us]
  · rw [cs_ne (by decide)]; show p_cp (p_wr (p_wr I 39 0 0) 39 1 (I 25 5)) 30 40 0 0 10 40 j = _; rw [cp_eq, cpy_at hj, wr_ne (by decide), wr_ne (by decide)]
theorem ev_emptySlots (hd : 1 ≤ d) : ∃ I', EV d T0 155 [.ref 0] (I, J) = some (none, (I', J)) ∧ kp [168] I I' ∧ ∀ s, s < 3 → I' 168 s = 0 := by
  obtain ⟨d, rfl⟩ : ∃ z, d = z + 1 := ⟨d - 1, by omega⟩
  refine ⟨p_wr (p_wr (p_wr I 168 0 0) 168 1 0) 168 2 0, ?_, ((kp.rf.wr (by decide)).wr (by decide)).wr (by decide), fun s hs => ?_⟩
  · rw [e_X11_emptySlots, runS_M, s_X11_emptySlots_0, show (999999 : Nat) = 999995 + 1 + 1 + 1 + 1 from rfl, runS_s, s_X11_emptySlots_2, if_neg (by decide), chk_t (by decide), runS_s, s_X11_emptySlots_2, if_neg (by decide), chk_t (by decide), runS_s, s_X11_emptySlots_2, if_neg (by decide), chk_t (by decide), runS_s, s_X11_emptySlots_2, if_pos (by decide)]
    rfl
  · have h3 : s = 0 ∨ s = 1 ∨ s = 2 := by omega
    rcases h3 with rfl | rfl | rfl
    · rw [wr_eq, pk_un (by decide), wr_eq, pk_un (by decide), wr_eq, pk_us]
    · rw [wr_eq, pk_un (by decide), wr_eq, pk_us]
    · rw [wr_eq, pk_us]
/-- a byte of the tape -/
def byN (x : Int32) : Nat := (x &&& 255).toBitVec.toNat
theorem byN_b (x : Int32) : byN x < 256 := by
  unfold byN
  rw [Int32.toBitVec_and, BitVec.toNat_and]
  have : x.toBitVec.toNat &&& (255 : Int32).toBitVec.toNat ≤ (255 : Int32).toBitVec.toNat := Nat.and_le_right
  have h255 : (255 : Int32).toBitVec.toNat = 255 := by decide
  omega
theorem byN_e (x : Int32) : x &&& 255 = nI (byN x) := by
  apply Int32.toBitVec_inj.mp
  show (x &&& 255).toBitVec = BitVec.ofNat 32 ((x &&& 255).toBitVec.toNat)
  rw [BitVec.ofNat_toNat, BitVec.setWidth_eq]
theorem nar_255 (x : Int32) : vp_nar .byte x &&& 255 = x &&& 255 := by
  apply b_ext
  intro i hi
  rw [b_and, b_and, b_255]
  by_cases c : i < 8
  · have h : bt (vp_nar .byte x) i = bt x i := by
      show (x.toInt8.toInt32).toBitVec.getLsbD i = x.toBitVec.getLsbD i
      rw [Int8.toBitVec_toInt32, BitVec.getLsbD_signExtend, Int32.toBitVec_toInt8, BitVec.getLsbD_signExtend]
      simp [hi, c]
    rw [h]
  · rw [decide_eq_false c, Bool.and_false, Bool.and_false]
end SZ
