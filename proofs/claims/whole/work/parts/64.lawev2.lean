/-! ===== a whole law: ifs (test, test, answer), and the last answer ===== -/
abbrev Br : Type := List Op × List Op × List Op
def tpV : Option (List Int32) → Int32
  | some (x :: _) => x
  | _ => 0
def evL (vs : Nat → Int32) : List Br → List Op → Int32
  | [], e => tpV (evE vs e [])
  | q :: r, e => match (evE vs q.1 []).bind (evE vs q.2.1) with
    | some (v :: u :: _) => if u < v then tpV (evE vs q.2.2 []) else evL vs r e
    | _ => 0
/-- an expression: it leaves one more -/
def wfE (l : List Op) : Prop := okE l 0 1 ∧ okE l 1 2
def okL : List Br → List Op → Prop
  | [], e => wfE e
  | q :: r, e => wfE q.1 ∧ wfE q.2.1 ∧ wfE q.2.2 ∧ okL r e
def lnL : List Br → List Op → Nat
  | [], e => e.length + 1
  | q :: r, e => q.1.length + q.2.1.length + q.2.2.length + 2 + lnL r e
def atL (f : Nat → Int32) : Nat → List Br → List Op → Prop
  | p, [], e => atC f p e ∧ f (p + e.length) = nI 4
  | p, q :: r, e => atC f p q.1 ∧ atC f (p + q.1.length) q.2.1 ∧ f (p + q.1.length + q.2.1.length) = nI (64 * (p + q.1.length + q.2.1.length + q.2.2.length + 2) + 3) ∧ atC f (p + q.1.length + q.2.1.length + 1) q.2.2 ∧ f (p + q.1.length + q.2.1.length + q.2.2.length + 1) = nI 4 ∧ atL f (p + q.1.length + q.2.1.length + q.2.2.length + 2) r e
/-- what a well formed row leaves -/
theorem evE_len (vs : Nat → Int32) : ∀ (l : List Op) (st st' : List Int32) (r : Nat), okE l st.length r → evE vs l st = some st' → st'.length = r := by
  intro l
  induction l with
  | nil => intro st st' r h1 h2; cases h2; exact h1
  | cons o l ih =>
    intro st st' r h1 h2
    rcases h1 with ⟨a, b, c, d⟩ | ⟨a, b, c, d⟩ | ⟨a, b, c, d, e⟩
    · rw [evE_0 a] at h2; exact ih (nI o.2 :: st) _ _ d h2
    · rw [evE_1 a] at h2; exact ih (vs o.2 :: st) _ _ d h2
    · match st, d, e, h2 with
      | y :: x :: st, d, e, h2 =>
        rw [evE_2 a] at h2
        split at h2
        · cases h2
        · exact ih _ _ _ (by simpa using e) h2
theorem say_ans {d : Nat} {J : Nat → Nat → Int64} {sz : Nat} (hz : sz ≤ 408) {x : Int32} {p c n : Nat} {I : Nat → Nat → Int32} (h1 : I 36 p = nI 4) (h3 : stk (I 37) [x]) (h4 : I 35 3 = nI sz) (h5 : p < sz) (h6 : c ≤ p) (h7 : 8 ≤ n) : sayR d n 1 p c I J = some (some (.int x), (I, J)) := by
  have hp : p_in (nI p) 408 = true := p_in_nI (by omega) (by omega)
  have e6 : nI 4 - nI 4 / 64 * 64 = nI 4 := by decide
  have e7 : nI 4 / 64 = nI 0 := by decide
  obtain ⟨n, rfl⟩ : ∃ z, n = z + 1 + 1 + 1 + 1 + 1 + 1 + 1 + 1 := ⟨n - 8, by omega⟩
  unfold sayR
  rw [runS_s, s_X0_say_13, if_neg (show ¬ (408 : Int32) ≤ nI (c) from nI_ge (a := c) (b := 408) (by omega) (by omega)), h4, if_neg (nI_ge (a := p) (b := sz) (by omega) (by omega)), chk_t hp, chk_t hp, nI_clamp (by omega), h1, e6, e7, nI_1, runS_s, s_X0_say_57, if_neg (by decide), if_neg (by decide), runS_s, s_X0_say_117, if_pos (by decide), if_neg (by decide), chk_t (by decide)]
  have h9 : I 37 0 = x := h3.1
  show some (some (Value.int (I 37 (nI 1 - 1).toNatClampNeg)), (I, J)) = _
  rw [show (nI 1 - 1).toNatClampNeg = 0 by decide, h9]
/-- at a test -/
theorem say_unl {d : Nat} {J : Nat → Nat → Int64} {sz : Nat} (hz : sz ≤ 408) {v u : Int32} {p c n t : Nat} {I : Nat → Nat → Int32} (h1 : I 36 p = nI (64 * t + 3)) (h3 : stk (I 37) [v, u]) (h4 : I 35 3 = nI sz) (h5 : p < sz) (h6 : c ≤ p) (ht : p + 1 ≤ t) (ht2 : t ≤ 1000) :
    sayR d (n + 7) 2 p c I J = sayR d n 0 (if u < v then p + 1 else t) (c + 1) I J := by
  have hp : p_in (nI p) 408 = true := p_in_nI (by omega) (by omega)
  have e6 : nI (64 * t + 3) - nI (64 * t + 3) / 64 * 64 = nI 3 := (pk_rem (a := 64 * t + 3) (d := 64) (by omega) (by omega) (by omega)).trans (by congr 1; omega)
  have e7 : nI (64 * t + 3) / 64 = nI t := (pk_div (a := 64 * t + 3) (d := 64) (by omega) (by omega) (by omega)).trans (by congr 1; omega)
  have h9 : I 37 1 = v := h3.1
  have h8 : I 37 0 = u := h3.2.1
  unfold sayR
  rw [runS_s, s_X0_say_13, if_neg (show ¬ (408 : Int32) ≤ nI (c) from nI_ge (a := c) (b := 408) (by omega) (by omega)), h4, if_neg (nI_ge (a := p) (b := sz) (by omega) (by omega)), chk_t hp, chk_t hp, nI_clamp (by omega), h1, e6, e7, nI_1, runS_s, s_X0_say_57, if_neg (by decide), if_neg (by decide), runS_s, s_X0_say_117, if_neg (by decide), runS_s, s_X0_say_140, if_neg (by decide), if_neg (by decide), runS_s, s_X0_say_165, if_pos (by decide), show nI 2 + -2 = nI 0 by decide, runS_s, s_X0_say_174, chk_t (by decide), chk_t (by decide), show (nI 0 + 1).toNatClampNeg = 1 by decide, show (nI 0).toNatClampNeg = 0 by decide, h9, h8]
  by_cases h : u < v
  · rw [if_neg (Int32.not_le.mpr h), if_pos h, runS_s, s_X0_say_203, nI_1]
  · rw [if_pos (Int32.not_lt.mp h), if_neg h, runS_s, s_X0_say_203, nI_1]
    have e9 : (if nI (p + 1) < nI t then nI t else nI (p + 1)) = nI t := by
      by_cases hq : p + 1 < t
      · rw [if_pos (nI_lt hq (by omega))]
      · rw [if_neg (nI_nlt (by omega) (by omega))]; congr 1; omega
    rw [e9]
theorem one_of {l : List Int32} (h : l.length = 1) : ∃ x, l = [x] := by
  match l, h with
  | [x], _ => exact ⟨x, rfl⟩
theorem two_of {l : List Int32} (h : l.length = 2) : ∃ x y, l = [x, y] := by
  match l, h with
  | [x, y], _ => exact ⟨x, y, rfl⟩
/-- an answer's row and its end -/
theorem say_T {d : Nat} (hd : 1 ≤ d) {J : Nat → Nat → Int64} {sz : Nat} (hz : sz ≤ 408) {e : List Op} {p c n : Nat} {I : Nat → Nat → Int32} (h1 : atC (I 36) p e) (h1e : I 36 (p + e.length) = nI 4) (h2 : okE e 0 1) (h4 : I 35 3 = nI sz) (h5 : p + e.length < sz) (h6 : c ≤ p) (h7 : 8 + 8 * e.length ≤ n) : ∃ I', sayR d n 0 p c I J = some (some (.int (tpV (evE (I 170) e []))), (I', J)) ∧ kp [37] I I' := by
  have h := say_E (d := d) hd (J := J) (Q := fun q => ∃ I', q = (some (.int (tpV (evE (I 170) e []))), (I', J)) ∧ kp [37] I I') hz (B := 8) e [] p c n 1 I h1 h2 trivial h4 (by omega) h6 h7 (fun I' st' n' q1 q2 q3 q4 q5 => ?_) (fun I' q1 q2 => ⟨I', by rw [q1]; rfl, q2⟩)
  · obtain ⟨q, hq, I', rfl, hk⟩ := h
    exact ⟨I', hq, hk⟩
  · obtain ⟨x, rfl⟩ := one_of q4
    refine ⟨_, say_ans hz (by rw [q2 36 (by decide)]; exact h1e) q3 (by rw [q2 35 (by decide)]; exact h4) h5 (by omega) q5, I', ?_, q2⟩
    rw [q1]; rfl
theorem say_L {d : Nat} (hd : 1 ≤ d) {J : Nat → Nat → Int64} {sz : Nat} (hz : sz ≤ 408) {e : List Op} : ∀ (r : List Br) (p c n : Nat) (I : Nat → Nat → Int32), atL (I 36) p r e → okL r e → I 35 3 = nI sz → p + lnL r e ≤ sz → c ≤ p → 8 + 8 * lnL r e ≤ n → ∃ I', sayR d n 0 p c I J = some (some (.int (evL (I 170) r e)), (I', J)) ∧ kp [37] I I' := by
  intro r
  induction r with
  | nil =>
    intro p c n I h1 h2 h4 h5 h6 h7
    have hl : lnL [] e = e.length + 1 := rfl
    exact say_T hd hz h1.1 h1.2 h2.1 h4 (by omega) h6 (by omega)
  | cons q r ih =>
    intro p c n I h1 h2 h4 h5 h6 h7
    obtain ⟨a1, a2, a3, a4, a5, a6⟩ := h1
    obtain ⟨o1, o2, o3, o4⟩ := h2
    have hl : lnL (q :: r) e = q.1.length + q.2.1.length + q.2.2.length + 2 + lnL r e := rfl
    have hev : evL (I 170) (q :: r) e = (match (evE (I 170) q.1 []).bind (evE (I 170) q.2.1) with
      | some (v :: u :: _) => if u < v then tpV (evE (I 170) q.2.2 []) else evL (I 170) r e
      | _ => 0) := rfl
    have h := say_E (d := d) hd (J := J) (Q := fun z => ∃ I', z = (some (.int (evL (I 170) (q :: r) e)), (I', J)) ∧ kp [37] I I') hz (B := 8 + 8 * (lnL (q :: r) e - q.1.length)) q.1 [] p c n 1 I a1 o1.1 trivial h4 (by omega) h6 (by omega) (fun I1 st1 n1 q1 q2 q3 q4 q5 => ?_) (fun I' q1 q2 => ⟨I', by rw [hev, q1]; rfl, q2⟩)
    · obtain ⟨z, hz1, I', rfl, hk⟩ := h
      exact ⟨I', hz1, hk⟩
    · have k36 : I1 36 = I 36 := q2 36 (by decide)
      have k170 : I1 170 = I 170 := q2 170 (by decide)
      have k35 : I1 35 = I 35 := q2 35 (by decide)
      refine say_E (d := d) hd (J := J) hz (B := 8 + 8 * (lnL (q :: r) e - q.1.length - q.2.1.length)) q.2.1 st1 (p + q.1.length) (c + q.1.length) n1 2 I1 (by rw [k36]; exact a2) (by rw [q4]; exact o2.2) q3 (by rw [k35]; exact h4) (by omega) (by omega) (by omega) (fun I2 st2 n2 r1 r2 r3 r4 r5 => ?_) (fun I' r1 r2 => ⟨I', by rw [hev, q1]; rw [k170] at r1; show _ = _; simp only [Option.bind_some, r1], q2.tr r2⟩)
      have m36 : I2 36 = I 36 := (r2 36 (by decide)).trans k36
      have m170 : I2 170 = I 170 := (r2 170 (by decide)).trans k170
      have m35 : I2 35 = I 35 := (r2 35 (by decide)).trans k35
      rw [k170] at r1
      obtain ⟨v, u, rfl⟩ := two_of r4
      have hev2 : evL (I 170) (q :: r) e = if u < v then tpV (evE (I 170) q.2.2 []) else evL (I 170) r e := by
        rw [hev, q1]
        simp only [Option.bind_some, r1]
      obtain ⟨n3, rfl⟩ : ∃ z, n2 = z + 7 := ⟨n2 - 7, by omega⟩
      have hu := say_unl (d := d) (J := J) hz (v := v) (u := u) (p := p + q.1.length + q.2.1.length) (c := c + q.1.length + q.2.1.length) (n := n3) (t := p + q.1.length + q.2.1.length + q.2.2.length + 2) (I := I2) (by rw [m36]; exact a3) r3 (by rw [m35]; exact h4) (by omega) (by omega) (by omega) (by omega)
      have hu' : sayR d (n3 + 7) ([v, u] : List Int32).length (p + q.1.length + q.2.1.length) (c + q.1.length + q.2.1.length) I2 J = _ := hu
      rw [hu']
      by_cases hc : u < v
      · rw [if_pos hc] at hev2 ⊢
        obtain ⟨I3, t1, t2⟩ := say_T (d := d) hd (J := J) hz (e := q.2.2) (p := p + q.1.length + q.2.1.length + 1) (c := c + q.1.length + q.2.1.length + 1) (n := n3) (I := I2) (by rw [m36]; exact a4) (by rw [m36, show p + q.1.length + q.2.1.length + 1 + q.2.2.length = p + q.1.length + q.2.1.length + q.2.2.length + 1 by omega]; exact a5) o3.1 (by rw [m35]; exact h4) (by omega) (by omega) (by omega)
        exact ⟨_, t1, I3, by rw [hev2, m170], (q2.tr r2).tr t2⟩
      · rw [if_neg hc] at hev2 ⊢
        obtain ⟨I3, t1, t2⟩ := ih (p + q.1.length + q.2.1.length + q.2.2.length + 2) (c + q.1.length + q.2.1.length + 1) n3 I2 (by rw [m36]; exact a6) o4 (by rw [m35]; exact h4) (by omega) (by omega) (by omega)
        exact ⟨_, t1, I3, by rw [hev2, m170], (q2.tr r2).tr t2⟩
theorem ev_say {d : Nat} (hd : 2 ≤ d) {J : Nat → Nat → Int64} {I : Nat → Nat → Int32} {sz k p : Nat} {r : List Br} {e : List Op} (hk : k < 4) (hp : I 38 k = nI p) (hz : sz ≤ 408) (h1 : atL (I 36) p r e) (h2 : okL r e) (h4 : I 35 3 = nI sz) (h5 : p + lnL r e ≤ sz) : ∃ I', EV d T0 7 [.ref 35, .int (nI k), .ref 170] (I, J) = some (some (.int (evL (I 170) r e)), (I', J)) ∧ kp [37] I I' := by
  obtain ⟨d, rfl⟩ : ∃ z, d = z + 1 := ⟨d - 1, by omega⟩
  rw [e_X0_say, runS_M, s_X0_say_0, chk_in hk (by omega), nI_clamp (by omega), hp]
  exact say_L (d := d) (by omega) hz r p 0 999999 I h1 h2 h4 h5 (by omega) (by omega)
