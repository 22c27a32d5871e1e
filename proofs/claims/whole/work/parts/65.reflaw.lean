/-! ===== the reference's laws ===== -/
def atR (g h : Nat → Int32) : Nat → List Op → Prop
  | _, [] => True
  | c, o :: l => (g c = nI o.1 ∧ h c = nI o.2) ∧ atR g h (c + 1) l
/-- at a step of a row -/
def termR (d n to top c : Nat) (I : Nat → Nat → Int32) (J : Nat → Nat → Int64) : Option Rs := runS (EV d) none 8 T0 C_X12_termOf k_X12_termOf rtI f_X12_termOf n 5 [.ref 192, un, .int (nI to), .int (nI top), .int (nI c), un, un, un] [] (I, J)
/-- the fields of the reference's object that these change: 53 alone -/
def k53 (I I' : Nat → Nat → Int32) : Prop := ∀ j, j ≠ 53 → I' 192 j = I 192 j
theorem k53.rf {I : Nat → Nat → Int32} : k53 I I := fun _ _ => rfl
theorem k53.tr {I I' I'' : Nat → Nat → Int32} (h1 : k53 I I') (h2 : k53 I' I'') : k53 I I'' := fun j hj => (h2 j hj).trans (h1 j hj)
theorem p_nz_t {b : Int32} (hb : ¬ b = 0) : p_nz b = true := by
  unfold p_nz
  have : ¬ b.toUInt32.toNat = 0 := fun h => hb (Int32.toBitVec_inj.mp (BitVec.eq_of_toNat_eq h))
  rw [Bool.not_eq_true']
  cases hq : Nat.beq b.toUInt32.toNat 0
  · rfl
  · exact absurd (Nat.eq_of_beq_eq_true hq) this
set_option maxHeartbeats 1000000 in
theorem term_E {d : Nat} {J : Nat → Nat → Int64} {to : Nat} (hto : to ≤ 840) : ∀ (l : List Op) (st : List Int32) (c n : Nat) (I : Nat → Nat → Int32), atR (I 224) (I 225) c l → okE l st.length 1 → stk (I 228) st → c + l.length = to → 1 + 8 * l.length ≤ n →
    ∃ I', termR d n to st.length c I J = some (some (.int (tpV (evE (I 227) l st))), (I', J)) ∧ kp [228, 192] I I' ∧ k53 I I' ∧ I' 192 53 = if evE (I 227) l st = none then 1 else I 192 53 := by
  intro l
  induction l with
  | nil =>
    intro st c n I h1 h2 h3 h4 h5
    obtain ⟨x, rfl⟩ := one_of h2
    obtain ⟨n, rfl⟩ : ∃ z, n = z + 1 := ⟨n - 1, by omega⟩
    refine ⟨I, ?_, kp.rf, k53.rf, ?_⟩
    · unfold termR
      have e : c = to := by simpa using h4
      subst e
      rw [runS_s, s_X12_termOf_5, if_pos (Int32.le_refl _)]
      have h9 : I 228 0 = x := h3.1
      rw [h9]; rfl
    · rw [if_neg (by intro h; cases h)]
  | cons o l ih =>
    intro st c n I h1 h2 h3 h4 h5
    obtain ⟨⟨h1a, h1b⟩, h1c⟩ := h1
    simp only [List.length_cons] at h4 h5
    have hp : p_in (nI c) 840 = true := p_in_nI (by omega) (by omega)
    obtain ⟨n, rfl⟩ : ∃ z, n = z + 1 + 1 + 1 + 1 + 1 + 1 + 1 + 1 := ⟨n - 8, by omega⟩
    unfold termR
    rw [runS_s, s_X12_termOf_5, if_neg (nI_ge (a := c) (b := to) (by omega) (by omega)), chk_t hp, nI_clamp (by omega), h1a]
    have hpush : ∀ x : Int32, evE (I 227) (o :: l) st = evE (I 227) l (x :: st) → st.length < 30 → okE l (st.length + 1) 1 → ∃ I', runS (EV d) none 8 T0 C_X12_termOf k_X12_termOf rtI f_X12_termOf (n + 1 + 1 + 1 + 1 + 1 + 1 + 1) 59 [.ref 192, un, .int (nI to), .int (nI st.length), .int (nI c), un, un, un] [] (p_wr I 228 st.length x, J) = some (some (.int (tpV (evE (I 227) (o :: l) st))), (I', J)) ∧ kp [228, 192] I I' ∧ k53 I I' ∧ I' 192 53 = if evE (I 227) (o :: l) st = none then 1 else I 192 53 := by
      intro x hev hs hk
      rw [runS_s, s_X12_termOf_59, nI_1, runS_s, s_X12_termOf_159, nI_1, hev]
      have h227 : p_wr I 228 st.length x 227 = I 227 := wr_ne (by decide)
      have h192 : p_wr I 228 st.length x 192 = I 192 := wr_ne (by decide)
      obtain ⟨I', q1, q2, q3, q4⟩ := ih (x :: st) (c + 1) (n + 1 + 1 + 1 + 1 + 1) (p_wr I 228 st.length x) (by rw [wr_ne (by decide), wr_ne (by decide)]; exact h1c) hk (by rw [wr_eq]; exact stk_push h3) (by omega) (by omega)
      rw [h227] at q1 q4
      rw [h192] at q4
      exact ⟨I', q1, (kp.rf.wr (by decide)).tr q2, (fun j hj => by rw [q3 j hj, h192]), q4⟩
    rcases h2 with ⟨k0, kv, ks, kk⟩ | ⟨k0, kv, ks, kk⟩ | ⟨k2, k5, kv, ⟨ks, ks30⟩, kk⟩
    · rw [k0, if_neg (by decide), if_pos (by decide), chk_t hp, chk_in (by omega) (by omega), nI_clamp (by omega), h1b]
      exact hpush _ (evE_0 k0) ks kk
    · rw [k0, if_neg (by decide), if_neg (by decide), chk_t hp, h1b, chk_in (by omega) (by omega), chk_in (by omega) (by omega), nI_clamp (by omega), nI_clamp (by omega)]
      exact hpush _ (evE_1 k0) ks kk
    · obtain ⟨ok, ov⟩ := o
      dsimp only at k2 k5 kv h1a h1b
      match st, h3, ks, ks30, kk with
      | b :: a :: st, h3, ks, ks30, kk =>
        simp only [List.length_cons] at ks ks30 kk
        obtain ⟨sb, sa, st3⟩ := h3
        have sb' : I 228 (st.length + 1) = b := sb
        have et2 : nI (b :: a :: st).length + (-1) = nI (st.length + 1) := by simp only [List.length_cons]; exact pk_m1 (st.length + 1)
        have et3 : nI (st.length + 1) - 1 = nI st.length := nI_pred st.length
        have i1 : p_in (nI (st.length + 1)) 400 = true := p_in_nI (by omega) (by omega)
        have i0 : p_in (nI st.length) 400 = true := p_in_nI (by omega) (by omega)
        have c1 : (nI (st.length + 1)).toNatClampNeg = st.length + 1 := nI_clamp (by omega)
        have c0 : (nI st.length).toNatClampNeg = st.length := nI_clamp (by omega)
        rw [if_pos (show (2 : Int32) ≤ nI (ok) from nI_le (a := 2) (b := ok) (by omega) (by omega)), et2, runS_s, s_X12_termOf_68, et3, chk_t i0, chk_t i1, c0, c1, sb', sa, runS_s, s_X12_termOf_86]
        have hev : evE (I 227) ((ok, ov) :: l) (b :: a :: st) = if ok = 5 ∧ b = 0 then none else evE (I 227) l (opF ok a b :: st) := evE_2 k2
        have hgo : ¬ (ok = 5 ∧ b = 0) → ∃ I', runS (EV d) none 8 T0 C_X12_termOf k_X12_termOf rtI f_X12_termOf (n + 1 + 1 + 1 + 1 + 1) 104 [.ref 192, un, .int (nI to), .int (nI (st.length + 1)), .int (nI c), .int (nI ok), .int a, .int b] [] (I, J) = some (some (.int (tpV (evE (I 227) ((ok, ov) :: l) (b :: a :: st)))), (I', J)) ∧ kp [228, 192] I I' ∧ k53 I I' ∧ I' 192 53 = if evE (I 227) ((ok, ov) :: l) (b :: a :: st) = none then 1 else I 192 53 := by
          intro h0
          rw [if_neg h0] at hev
          have hend : ∃ I', runS (EV d) none 8 T0 C_X12_termOf k_X12_termOf rtI f_X12_termOf (n + 1 + 1 + 1 + 1) 159 [.ref 192, un, .int (nI to), .int (nI (st.length + 1)), .int (nI c), un, un, un] [] (p_wr I 228 st.length (opF ok a b), J) = some (some (.int (tpV (evE (I 227) ((ok, ov) :: l) (b :: a :: st)))), (I', J)) ∧ kp [228, 192] I I' ∧ k53 I I' ∧ I' 192 53 = if evE (I 227) ((ok, ov) :: l) (b :: a :: st) = none then 1 else I 192 53 := by
            rw [runS_s, s_X12_termOf_159, nI_1, hev]
            have h227 : p_wr I 228 st.length (opF ok a b) 227 = I 227 := wr_ne (by decide)
            have h192 : p_wr I 228 st.length (opF ok a b) 192 = I 192 := wr_ne (by decide)
            obtain ⟨I', q1, q2, q3, q4⟩ := ih (opF ok a b :: st) (c + 1) (n + 1 + 1 + 1) (p_wr I 228 st.length (opF ok a b)) (by rw [wr_ne (by decide), wr_ne (by decide)]; exact h1c) (by simpa using kk) (by rw [wr_eq]; exact stk_push st3) (by omega) (by omega)
            rw [h227] at q1 q4
            rw [h192] at q4
            exact ⟨I', q1, (kp.rf.wr (by decide)).tr q2, (fun j hj => by rw [q3 j hj, h192]), q4⟩
          rw [runS_s, s_X12_termOf_104, et3]
          simp only [chk_t i0, c0]
          have hk : ok = 2 ∨ ok = 3 ∨ ok = 4 ∨ ok = 5 := by omega
          rcases hk with rfl | rfl | rfl | rfl
          · rw [if_pos (by decide)]; exact hend
          · rw [if_neg (by decide), if_pos (by decide)]; exact hend
          · rw [if_neg (by decide), if_neg (by decide), if_pos (by decide)]; exact hend
          · rw [if_neg (by decide), if_neg (by decide), if_neg (by decide), chk_t (p_nz_t (fun h => h0 ⟨rfl, h⟩))]; exact hend
        by_cases h5 : ok = 5
        · rw [if_pos (show nI ok = 5 by rw [h5]; rfl)]
          by_cases hb : b = 0
          · rw [if_pos hb]
            rw [if_pos ⟨h5, hb⟩] at hev
            refine ⟨p_wr I 192 53 1, by rw [hev]; rfl, kp.rf.wr (by decide), (fun j hj => by rw [wr_eq]; exact pk_un hj), ?_⟩
            rw [hev, if_pos rfl, wr_eq]
            exact pk_us
          · rw [if_neg hb]
            exact hgo (fun h => hb h.2)
        · rw [if_neg (show ¬ nI ok = (5 : Int32) from fun h => h5 ((nI_eq (a := ok) (b := 5) (by omega) (by omega)).mp h))]
          exact hgo (fun h => h5 h.1)
theorem ev_termOf {d : Nat} (hd : 1 ≤ d) {J : Nat → Nat → Int64} {I : Nat → Nat → Int32} {l : List Op} {c to : Nat} (hto : to ≤ 840) (h1 : atR (I 224) (I 225) c l) (h2 : okE l 0 1) (h4 : c + l.length = to) :
    ∃ I', EV d T0 202 [.ref 192, .int (nI c), .int (nI to)] (I, J) = some (some (.int (tpV (evE (I 227) l []))), (I', J)) ∧ kp [228, 192] I I' ∧ k53 I I' ∧ I' 192 53 = if evE (I 227) l [] = none then 1 else I 192 53 := by
  obtain ⟨d, rfl⟩ : ∃ z, d = z + 1 := ⟨d - 1, by omega⟩
  rw [e_X12_termOf, runS_M, s_X12_termOf_0]
  exact term_E hto l [] c 999999 I h1 h2 trivial h4 (by omega)
/-- a law's branches from q on -/
def atB (I : Nat → Nat → Int32) : Nat → List Br → List Op → Prop
  | q, [], e => I 219 q = 0 ∧ ∃ c, I 222 q = nI c ∧ I 223 q = nI (c + e.length) ∧ c + e.length ≤ 840 ∧ atR (I 224) (I 225) c e
  | q, b :: r, e => I 219 q = 1 ∧ (∃ c, I 220 q = nI c ∧ I 221 q = nI (c + b.1.length) ∧ I 222 q = nI (c + b.1.length + b.2.1.length) ∧ I 223 q = nI (c + b.1.length + b.2.1.length + b.2.2.length) ∧ c + b.1.length + b.2.1.length + b.2.2.length ≤ 840 ∧ atR (I 224) (I 225) c b.1 ∧ atR (I 224) (I 225) (c + b.1.length) b.2.1 ∧ atR (I 224) (I 225) (c + b.1.length + b.2.1.length) b.2.2) ∧ atB I (q + 1) r e
theorem atB_kp {I I' : Nat → Nat → Int32} (h : ∀ k, 219 ≤ k → k ≤ 225 → I' k = I k) : ∀ (r : List Br) (q : Nat) (e : List Op), atB I q r e → atB I' q r e := by
  have h19 := h 219 (by omega) (by omega)
  have h20 := h 220 (by omega) (by omega)
  have h21 := h 221 (by omega) (by omega)
  have h22 := h 222 (by omega) (by omega)
  have h23 := h 223 (by omega) (by omega)
  have h24 := h 224 (by omega) (by omega)
  have h25 := h 225 (by omega) (by omega)
  intro r
  induction r with
  | nil =>
    intro q e hb
    unfold atB at hb ⊢
    rw [h19, h22, h23, h24, h25]; exact hb
  | cons b r ih =>
    intro q e hb
    unfold atB at hb ⊢
    rw [h19, h20, h21, h22, h23, h24, h25]
    exact ⟨hb.1, hb.2.1, ih _ _ hb.2.2⟩
