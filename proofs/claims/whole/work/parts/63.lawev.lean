/-! ===== laws: postfix rows, what they say ===== -/
abbrev Op : Type := Nat × Nat
def opF (k : Nat) (a b : Int32) : Int32 := if k = 2 then a + b else if k = 3 then a - b else if k = 4 then a * b else a / b
def evO (k : Nat) (st : List Int32) (f : List Int32 → Option (List Int32)) : Option (List Int32) := match st with
  | b :: a :: r => if k = 5 ∧ b = 0 then none else f (opF k a b :: r)
  | _ => none
/-- a postfix row over a stack; none: something is divided by 0 -/
def evE (vs : Nat → Int32) : List Op → List Int32 → Option (List Int32)
  | [], st => some st
  | o :: l, st => if o.1 = 0 then evE vs l (nI o.2 :: st) else if o.1 = 1 then evE vs l (vs o.2 :: st) else evO o.1 st (evE vs l)
theorem evE_0 {vs : Nat → Int32} {o : Op} {l : List Op} {st : List Int32} (h : o.1 = 0) : evE vs (o :: l) st = evE vs l (nI o.2 :: st) := by
  show (if o.1 = 0 then _ else _) = _
  rw [if_pos h]
theorem evE_1 {vs : Nat → Int32} {o : Op} {l : List Op} {st : List Int32} (h : o.1 = 1) : evE vs (o :: l) st = evE vs l (vs o.2 :: st) := by
  show (if o.1 = 0 then _ else if o.1 = 1 then _ else _) = _
  rw [if_neg (by omega), if_pos h]
theorem evE_2 {vs : Nat → Int32} {o : Op} {l : List Op} {a b : Int32} {st : List Int32} (h : 2 ≤ o.1) : evE vs (o :: l) (b :: a :: st) = if o.1 = 5 ∧ b = 0 then none else evE vs l (opF o.1 a b :: st) := by
  show (if o.1 = 0 then _ else if o.1 = 1 then _ else _) = _
  rw [if_neg (by omega), if_neg (by omega)]
  rfl
/-- from a stack of s it comes to one of r, and never has more than 30 -/
def okE : List Op → Nat → Nat → Prop
  | [], s, r => s = r
  | o :: l, s, r => (o.1 = 0 ∧ o.2 < 10000 ∧ s < 30 ∧ okE l (s + 1) r) ∨ (o.1 = 1 ∧ o.2 < 9 ∧ s < 30 ∧ okE l (s + 1) r) ∨ (2 ≤ o.1 ∧ o.1 ≤ 5 ∧ o.2 = 0 ∧ (2 ≤ s ∧ s ≤ 30) ∧ okE l (s - 1) r)
theorem okE_app : ∀ (l m : List Op) (s t r : Nat), okE l s t → okE m t r → okE (l ++ m) s r := by
  intro l
  induction l with
  | nil => intro m s t r h1 h2; have e : s = t := h1; subst e; exact h2
  | cons o l ih =>
    intro m s t r h1 h2
    rcases h1 with ⟨a, b, c, d⟩ | ⟨a, b, c, d⟩ | ⟨a, b, c, d, e⟩
    · exact Or.inl ⟨a, b, c, ih m _ t r d h2⟩
    · exact Or.inr (Or.inl ⟨a, b, c, ih m _ t r d h2⟩)
    · exact Or.inr (Or.inr ⟨a, b, c, d, ih m _ t r e h2⟩)
theorem evE_app (vs : Nat → Int32) : ∀ (l m : List Op) (st : List Int32) (r : Nat), okE l st.length r → evE vs (l ++ m) st = (evE vs l st).bind (evE vs m) := by
  intro l
  induction l with
  | nil => intro m st r _; rfl
  | cons o l ih =>
    intro m st r h
    rw [List.cons_append]
    rcases h with ⟨a, b, c, d⟩ | ⟨a, b, c, d⟩ | ⟨a, b, c, d, e⟩
    · rw [evE_0 a, evE_0 a]; exact ih _ _ r d
    · rw [evE_1 a, evE_1 a]; exact ih _ _ r d
    · match st, d, e with
      | y :: x :: st, d, e =>
        rw [evE_2 a, evE_2 a]
        by_cases h2 : o.1 = 5 ∧ y = 0
        · rw [if_pos h2, if_pos h2]; rfl
        · rw [if_neg h2, if_neg h2]; exact ih _ _ r (by simpa using e)
def enC (o : Op) : Nat := if o.1 = 0 then 64 * o.2 + 1 else if o.1 = 1 then 64 * o.2 + 2 else if o.1 = 2 then 43 else if o.1 = 3 then 45 else if o.1 = 4 then 42 else 47
def atC (f : Nat → Int32) : Nat → List Op → Prop
  | _, [] => True
  | p, o :: l => f p = nI (enC o) ∧ atC f (p + 1) l
/-- a stack, its top first, in a row -/
def stk (f : Nat → Int32) : List Int32 → Prop
  | [] => True
  | x :: st => f st.length = x ∧ stk f st
theorem stk_up {f : Nat → Int32} {j : Nat} {x : Int32} : ∀ {st : List Int32}, stk f st → st.length ≤ j → stk (upd f j x) st := by
  intro st
  induction st with
  | nil => intro _ _; trivial
  | cons y st ih =>
    intro h hj
    simp only [List.length_cons] at hj
    exact ⟨(pk_un (by omega)).trans h.1, ih h.2 (by omega)⟩
theorem stk_push {f : Nat → Int32} {x : Int32} {st : List Int32} (h : stk f st) : stk (upd f st.length x) (x :: st) := ⟨pk_us, stk_up h (Nat.le_refl _)⟩
theorem ev_reckon {d : Nat} (hd : 1 ≤ d) {k : Nat} (h2 : 2 ≤ k) (h5 : k ≤ 5) (a b : Int32) (h0 : ¬ (k = 5 ∧ b = 0)) (ij : IJ) : EV d T0 8 [.int (nI (enC (k, 0))), .int a, .int b] ij = some (some (.int (opF k a b)), ij) := by
  obtain ⟨d, rfl⟩ : ∃ z, d = z + 1 := ⟨d - 1, by omega⟩
  obtain ⟨I, J⟩ := ij
  rw [e_X0_reckon, runS_M, s_X0_reckon_0]
  have hk : k = 2 ∨ k = 3 ∨ k = 4 ∨ k = 5 := by omega
  rcases hk with rfl | rfl | rfl | rfl
  · rw [if_neg (by decide), if_pos (by decide)]; rfl
  · rw [if_neg (by decide), if_neg (by decide), if_neg (by decide), if_pos (by decide)]; rfl
  · rw [if_pos (by decide)]; rfl
  · have hb : ¬ b = 0 := fun h => h0 ⟨rfl, h⟩
    have hz : p_nz b = true := by
      unfold p_nz
      have : ¬ b.toUInt32.toNat = 0 := fun h => hb (Int32.toBitVec_inj.mp (BitVec.eq_of_toNat_eq h))
      rw [Bool.not_eq_true']
      cases hq : Nat.beq b.toUInt32.toNat 0
      · rfl
      · exact absurd (Nat.eq_of_beq_eq_true hq) this
    rw [if_neg (by decide), if_neg (by decide), if_neg (by decide), if_neg (by decide), if_neg hb, chk_t hz]; rfl
/-- class: at a step of a law -/
def sayR (d n top p c : Nat) (I : Nat → Nat → Int32) (J : Nat → Nat → Int64) : Option Rs := runS (EV d) none 8 T0 C_X0_say k_X0_say rtI f_X0_say n 13 [.ref 35, un, .ref 170, .int (nI top), .int (nI p), .int (nI c), un, un] [] (I, J)
theorem enC_lt {o : Op} (h : o.2 < 10000) : enC o < 1000000 := by
  unfold enC
  repeat' split
  all_goals omega
set_option maxHeartbeats 1000000 in
theorem say_E {d : Nat} (hd : 1 ≤ d) {J : Nat → Nat → Int64} {Q : Rs → Prop} {sz : Nat} (hz : sz ≤ 408) {B : Nat} : ∀ (l : List Op) (st : List Int32) (p c n r : Nat) (I : Nat → Nat → Int32), atC (I 36) p l → okE l st.length r → stk (I 37) st → I 35 3 = nI sz → p + l.length ≤ sz → c ≤ p → B + 8 * l.length ≤ n →
    (∀ I' st' n', evE (I 170) l st = some st' → kp [37] I I' → stk (I' 37) st' → st'.length = r → B ≤ n' → ∃ q, sayR d n' st'.length (p + l.length) (c + l.length) I' J = some q ∧ Q q) →
    (∀ I', evE (I 170) l st = none → kp [37] I I' → Q (some (.int 0), (I', J))) → ∃ q, sayR d n st.length p c I J = some q ∧ Q q := by
  intro l
  induction l with
  | nil =>
    intro st p c n r I h1 h2 h3 h4 h5 h6 h7 h8 h9
    exact h8 I st n rfl kp.rf h3 h2 (by simpa using h7)
  | cons o l ih =>
    intro st p c n r I h1 h2 h3 h4 h5 h6 h7 h8 h9
    obtain ⟨h1a, h1b⟩ := h1
    simp only [List.length_cons] at h5 h7
    have hp : p_in (nI p) 408 = true := p_in_nI (by omega) (by omega)
    have hv : o.2 < 10000 := by rcases h2 with ⟨a, b, -⟩ | ⟨a, b, -⟩ | ⟨a, b, c, -⟩ <;> omega
    have hen := enC_lt hv
    have e6 : nI (enC o) - nI (enC o) / 64 * 64 = nI (enC o % 64) := pk_rem (a := enC o) (d := 64) (by omega) (by omega) (by omega)
    have e7 : nI (enC o) / 64 = nI (enC o / 64) := pk_div (a := enC o) (d := 64) (by omega) (by omega) (by omega)
    obtain ⟨n, rfl⟩ : ∃ z, n = z + 1 + 1 + 1 + 1 + 1 + 1 + 1 + 1 := ⟨n - 8, by omega⟩
    unfold sayR
    rw [runS_s, s_X0_say_13, if_neg (show ¬ (408 : Int32) ≤ nI (c) from nI_ge (a := c) (b := 408) (by omega) (by omega)), h4, if_neg (nI_ge (a := p) (b := sz) (by omega) (by omega)), chk_t hp, chk_t hp, nI_clamp (by omega), h1a, e6, e7, nI_1, runS_s, s_X0_say_57]
    rcases h2 with ⟨k0, kv, ks, kk⟩ | ⟨k0, kv, ks, kk⟩ | ⟨k2, k5, kv, ⟨ks, ks30⟩, kk⟩
    · have g1 : enC o = 64 * o.2 + 1 := by unfold enC; rw [if_pos k0]
      have g2 : enC o % 64 = 1 := by omega
      have g3 : enC o / 64 = o.2 := by omega
      have hs : p_in (nI st.length) 32 = true := p_in_nI (by omega) (by omega)
      rw [g2, g3, if_pos (show nI 1 = 1 from rfl), runS_s, s_X0_say_69, if_neg (show ¬ (32 : Int32) ≤ nI (st.length) from nI_ge (a := st.length) (b := 32) (by omega) (by omega)), if_neg (show ¬ nI 1 = 2 by decide), runS_s, s_X0_say_90, if_pos (show nI 1 = 1 from rfl), chk_t hs, nI_clamp (by omega), nI_1, nI_1]
      have hev : evE (I 170) (o :: l) st = evE (I 170) l (nI o.2 :: st) := evE_0 k0
      rw [hev] at h8 h9
      have hk : kp [37] I (p_wr I 37 st.length (nI o.2)) := kp.rf.wr (by decide)
      have h170 : p_wr I 37 st.length (nI o.2) 170 = I 170 := wr_ne (by decide)
      refine ih (nI o.2 :: st) (p + 1) (c + 1) _ r (p_wr I 37 st.length (nI o.2)) (by rw [wr_ne (by decide)]; exact h1b) kk (by rw [wr_eq]; exact stk_push h3) (by rw [wr_ne (by decide)]; exact h4) (by omega) (by omega) (by omega) (fun I' st' n' q1 q2 q3 q4 q5 => ?_) (fun I' q1 q2 => h9 I' (by rw [h170] at q1; exact q1) (hk.tr q2))
      rw [h170] at q1
      have h10 := h8 I' st' n' q1 (hk.tr q2) q3 q4 q5
      rw [show p + (o :: l).length = p + 1 + l.length by simp only [List.length_cons]; omega, show c + (o :: l).length = c + 1 + l.length by simp only [List.length_cons]; omega] at h10
      exact h10
    · have g1 : enC o = 64 * o.2 + 2 := by unfold enC; rw [if_neg (by omega), if_pos k0]
      have g2 : enC o % 64 = 2 := by omega
      have g3 : enC o / 64 = o.2 := by omega
      have hs : p_in (nI st.length) 32 = true := p_in_nI (by omega) (by omega)
      have hs9 : p_in (nI o.2) 9 = true := p_in_nI (by omega) (by omega)
      rw [g2, g3, if_neg (show ¬ nI 2 = 1 by decide), if_pos (show nI 2 = 2 from rfl), runS_s, s_X0_say_69, if_neg (show ¬ (32 : Int32) ≤ nI (st.length) from nI_ge (a := st.length) (b := 32) (by omega) (by omega)), if_pos (show nI 2 = 2 from rfl), if_pos (show nI (o.2) < (9 : Int32) from nI_lt (a := o.2) (b := 9) (by omega) (by omega)), runS_s, s_X0_say_90, if_neg (show ¬ nI 2 = 1 by decide), chk_t hs9, chk_t hs, nI_clamp (by omega), nI_clamp (by omega), nI_1, nI_1]
      have hev : evE (I 170) (o :: l) st = evE (I 170) l (I 170 o.2 :: st) := evE_1 k0
      rw [hev] at h8 h9
      have hk : kp [37] I (p_wr I 37 st.length (I 170 o.2)) := kp.rf.wr (by decide)
      have h170 : p_wr I 37 st.length (I 170 o.2) 170 = I 170 := wr_ne (by decide)
      refine ih (I 170 o.2 :: st) (p + 1) (c + 1) _ r (p_wr I 37 st.length (I 170 o.2)) (by rw [wr_ne (by decide)]; exact h1b) kk (by rw [wr_eq]; exact stk_push h3) (by rw [wr_ne (by decide)]; exact h4) (by omega) (by omega) (by omega) (fun I' st' n' q1 q2 q3 q4 q5 => ?_) (fun I' q1 q2 => h9 I' (by rw [h170] at q1; exact q1) (hk.tr q2))
      rw [h170] at q1
      have h10 := h8 I' st' n' q1 (hk.tr q2) q3 q4 q5
      rw [show p + (o :: l).length = p + 1 + l.length by simp only [List.length_cons]; omega, show c + (o :: l).length = c + 1 + l.length by simp only [List.length_cons]; omega] at h10
      exact h10
    · obtain ⟨ok, ov⟩ := o
      dsimp only at k2 k5 kv
      subst kv
      have g2 : enC (ok, 0) % 64 = enC (ok, 0) ∧ enC (ok, 0) ≠ 1 ∧ enC (ok, 0) ≠ 2 ∧ enC (ok, 0) ≠ 3 ∧ enC (ok, 0) ≠ 4 ∧ (enC (ok, 0) = 47 ↔ ok = 5) := by
        have hk : ok = 2 ∨ ok = 3 ∨ ok = 4 ∨ ok = 5 := by omega
        rcases hk with rfl | rfl | rfl | rfl <;> decide
      obtain ⟨g2, n1, n2, n3, n4, n47⟩ := g2
      match st, h3, ks, ks30, h8, h9, kk with
      | b :: a :: st, h3, ks, ks30, h8, h9, kk =>
        simp only [List.length_cons] at ks ks30 kk
        obtain ⟨sb, sa, st3⟩ := h3
        have hev : evE (I 170) ((ok, 0) :: l) (b :: a :: st) = if ok = 5 ∧ b = 0 then none else evE (I 170) l (opF ok a b :: st) := evE_2 k2
        rw [hev] at h8 h9
        have hne : ∀ m, m < 2 ^ 31 → enC (ok, 0) ≠ m → ¬ nI (enC (ok, 0)) = nI m := fun m hm h => by rw [nI_eq (by omega) hm]; exact h
        have m1 : ¬ nI (enC (ok, 0)) = (1 : Int32) := hne 1 (by omega) n1
        have m2 : ¬ nI (enC (ok, 0)) = (2 : Int32) := hne 2 (by omega) n2
        have m3 : ¬ nI (enC (ok, 0)) = (3 : Int32) := hne 3 (by omega) n3
        have m4 : ¬ nI (enC (ok, 0)) = (4 : Int32) := hne 4 (by omega) n4
        have et : nI (b :: a :: st).length - 1 = nI (st.length + 1) := by simp only [List.length_cons]; exact nI_pred (st.length + 1)
        have et2 : nI (b :: a :: st).length + (-1) = nI (st.length + 1) := by simp only [List.length_cons]; exact pk_m1 (st.length + 1)
        have et3 : nI (st.length + 1) - 1 = nI st.length := nI_pred st.length
        have i1 : p_in (nI (st.length + 1)) 32 = true := p_in_nI (by omega) (by omega)
        have i0 : p_in (nI st.length) 32 = true := p_in_nI (by omega) (by omega)
        have c1 : (nI (st.length + 1)).toNatClampNeg = st.length + 1 := nI_clamp (by omega)
        have c0 : (nI st.length).toNatClampNeg = st.length := nI_clamp (by omega)
        have sb' : I 37 (st.length + 1) = b := sb
        rw [g2, if_neg m1, if_neg m2, runS_s, s_X0_say_117, if_neg m4, runS_s, s_X0_say_140, if_neg (show ¬ nI (b :: a :: st).length < (2 : Int32) from nI_nlt (a := (b :: a :: st).length) (b := 2) (by simp only [List.length_cons]; omega) (by simp only [List.length_cons]; omega)), et, chk_t i1, c1, sb']
        have hgo : ¬ (ok = 5 ∧ b = 0) → ∃ q, runS (EV d) none 8 T0 C_X0_say k_X0_say rtI f_X0_say (n + 1 + 1 + 1 + 1) 165 [.ref 35, un, .ref 170, .int (nI (b :: a :: st).length), .int (nI (p + 1)), .int (nI c), .int (nI (enC (ok, 0))), .int (nI (enC (ok, 0) / 64))] [] (I, J) = some q ∧ Q q := by
          intro h0
          rw [if_neg h0] at h8 h9
          rw [runS_s, s_X0_say_165, if_neg m3, et2, runS_s, s_X0_say_211, et3, chk_t i0, chk_t i1, c0, c1, sb', sa, ev_reckon hd k2 k5 a b h0, p_ci_s, chk_t i0, nI_1]
          have hk : kp [37] I (p_wr I 37 st.length (opF ok a b)) := kp.rf.wr (by decide)
          have h170 : p_wr I 37 st.length (opF ok a b) 170 = I 170 := wr_ne (by decide)
          refine ih (opF ok a b :: st) (p + 1) (c + 1) _ r (p_wr I 37 st.length (opF ok a b)) (by rw [wr_ne (by decide)]; exact h1b) (by simpa using kk) (by rw [wr_eq]; exact stk_push st3) (by rw [wr_ne (by decide)]; exact h4) (by omega) (by omega) (by omega) (fun I' st' n' q1 q2 q3 q4 q5 => ?_) (fun I' q1 q2 => h9 I' (by rw [h170] at q1; exact q1) (hk.tr q2))
          rw [h170] at q1
          have h10 := h8 I' st' n' q1 (hk.tr q2) q3 q4 q5
          rw [show p + ((ok, 0) :: l).length = p + 1 + l.length by simp only [List.length_cons]; omega, show c + ((ok, 0) :: l).length = c + 1 + l.length by simp only [List.length_cons]; omega] at h10
          exact h10
        by_cases h5 : ok = 5
        · rw [if_pos (show nI (enC (ok, 0)) = 47 by rw [n47.mpr h5]; rfl)]
          by_cases hb : b = 0
          · rw [if_pos hb]
            rw [if_pos ⟨h5, hb⟩] at h9
            exact ⟨_, rfl, h9 I rfl kp.rf⟩
          · rw [if_neg hb]
            exact hgo (fun h => hb h.2)
        · rw [if_neg (show ¬ nI (enC (ok, 0)) = 47 from hne 47 (by omega) (fun h => h5 (n47.mp h)))]
          exact hgo (fun h => h5 h.1)
