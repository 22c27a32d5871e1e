/-! ===== read: both answer alike; what holds between calls ===== -/
section TD1
variable {I : Nat → Nat → Int32} {J : Nat → Nat → Int64} {d : Nat} {P : PP} {A : AS} {E : ES}
/-- what holds besides -/
def Ex (P : PP) (I : Nat → Nat → Int32) (J : Nat → Nat → Int64) : Prop := (∀ i, i < 23 → J 22 i = kyW i) ∧ (∀ i, i < 23 → J 199 i = kyW i) ∧ lwS I (xv P) (xL P)
def INV (I : Nat → Nat → Int32) (J : Nat → Nat → Int64) : Prop := ∃ P A E, SC P I A E ∧ SM P I A E ∧ Ex P I J
/-- a pair of calls: the same answer, and all holds again -/
def STP (d c m : Nat) (as : List Value) (I : Nat → Nat → Int32) (J : Nat → Nat → Int64) : Prop := ∃ v I1 J1 I2 J2, EV d T0 c (.ref 0 :: as) (I, J) = some (some (.int v), (I1, J1)) ∧ EV d T0 m (.ref 192 :: as) (I1, J1) = some (some (.int v), (I2, J2)) ∧ INV I2 J2
theorem lwS_cg {I' : Nat → Nat → Int32} {v : Nat} {lw : Nat → List Br × List Op} (h : lwS I v lw) (e : ∀ k, 217 ≤ k → k ≤ 225 → I' k = I k) : lwS I' v lw := by
  obtain ⟨br, cd, h1, h2, h3⟩ := h
  refine ⟨br, cd, h1, h2, fun k hk => ?_⟩
  rw [e 217 (by omega) (by omega), e 218 (by omega) (by omega)]
  exact (h3 k hk).imp id (fun ⟨q, q1, q2, q3, q4, q5⟩ => ⟨q, q1, q2, q3, q4, atV_kp _ _ _ (fun k a b j _ _ => by rw [e k (by omega) (by omega)]) (fun j _ _ => ⟨by rw [e 224 (by omega) (by omega)], by rw [e 225 (by omega) (by omega)]⟩) q5⟩)
theorem STP_of {c m : Nat} {as : List Value} (h : LK d c m as P I J) (hx : Ex P I J) : STP d c m as I J := by
  obtain ⟨v, I1, I2, A', E', t1, t2, t3, t4, t5, t6⟩ := h
  exact ⟨v, I1, J, I2, J, t1, t2, P, A', E', t5, t6, hx.1, hx.2.1, lwS_cg hx.2.2 (fun k a b => by rw [t4.1 k (by omega), t3 k (by omega)])⟩
theorem PlR_cl (h : PlR P I) : PlCl P I := by
  obtain ⟨⟨p1, a4⟩, ⟨b1, q1, a1⟩, ⟨b2, q2, a2⟩, ⟨b3, q3, a3⟩, c, e, f, ⟨g1, u1, g2⟩, g3, u2⟩ := h
  exact ⟨⟨a1, a2, a3, a4⟩, ⟨b1, b2, b3⟩, fun i hi => ⟨(c i hi).1, (c i hi).2.1, (c i hi).2.2.1, (c i hi).2.2.2.1, (c i hi).2.2.2.2.1⟩, fun i hi => ⟨(e i hi).1, (e i hi).2.1⟩, fun k hk => ⟨(f k hk).1, (f k hk).2.1⟩, ⟨g1, g2⟩, g3⟩
theorem PlCl_cg {I' : Nat → Nat → Int32} (h : PlCl P I) (e : ∀ k, 25 ≤ k → k < 39 → I' k = I k) : PlCl P I' := by
  unfold PlCl LawC at *
  rw [e 25 (by omega) (by omega), e 26 (by omega) (by omega), e 27 (by omega) (by omega), e 28 (by omega) (by omega), e 29 (by omega) (by omega), e 31 (by omega) (by omega), e 32 (by omega) (by omega), e 33 (by omega) (by omega), e 34 (by omega) (by omega), e 35 (by omega) (by omega), e 36 (by omega) (by omega), e 38 (by omega) (by omega)]
  exact h
theorem RC_cg {I' : Nat → Nat → Int32} (h : RC P I A) (e : ∀ k, 39 ≤ k → k < 192 → I' k = I k) : RC P I' A := by
  obtain ⟨h1, h2, ⟨o, o1, o2, o3, o4, o5⟩, h4, h5⟩ := h
  refine ⟨h1.cg (e _ (by decide) (by decide)) (e _ (by decide) (by decide)) (e _ (by decide) (by decide)), h2, ⟨o, o1, by rw [e 45 (by decide) (by decide)]; exact o2, by rw [e 45 (by decide) (by decide)]; exact o3, o4, fun k hk => ⟨(o5 k hk).1, (o5 k hk).2.cg (e _ (by omega) (by omega)) (e _ (by omega) (by omega)) (e _ (by omega) (by omega))⟩⟩, fun s hs => ?_, ?_⟩
  · have := h4 s hs
    unfold slC at *
    cases c : A.2.2.1 s with
    | none => rw [c] at this; dsimp only at *; rw [e 168 (by decide) (by decide)]; exact this
    | some y => rw [c] at this; dsimp only at *; rw [e 168 (by decide) (by decide)]; exact ⟨this.1, this.2.1, this.2.2.cg (e _ (by omega) (by omega)) (e _ (by omega) (by omega)) (e _ (by omega) (by omega))⟩
  · unfold TDC at *
    rw [e 178 (by decide) (by decide), e 179 (by decide) (by decide), e 180 (by decide) (by decide), e 181 (by decide) (by decide)]; exact h5
theorem lk_read (hd : 28 ≤ d) (h : SC P I A E) (h' : SM P I A E) (hx : Ex P I J) : STP d 122 184 [] I J := by
  have hxv : xv P < 2 := h.1.v2
  obtain ⟨I1, J1, a1, a2, a3, a4, a5, a6, a7⟩ := c_read (d := d) (J := J) hd h hx.1 (v := 1 - xv P) (by omega)
  have hi1 : ∀ k, 192 ≤ k → I1 k = I k := fun k hk => a2 k (fun h9 => by
    have := (by decide : ∀ k ∈ [0, 1] ++ rtL ++ rsL, k < 192) k h9
    omega)
  obtain ⟨I2, J2, b1, b2, b3, b4, b5, b6, b7⟩ := m_read (d := d) (I := I1) (J := J1) (P := P) (E := E) (by omega) (by rw [hi1 192 (by omega)]; exact h.1.v) hxv ⟨by rw [hi1 192 (by omega)]; exact h'.2.2.1, h'.2.2.2.1, fun j hj => by rw [hi1 193 (by omega)]; exact h'.2.2.2.2.1 j hj⟩ (fun i hi => by rw [a3 199 (by decide)]; exact hx.2.1 i hi)
  have eJ22 : ∀ i, i < 23 → J2 22 i = kyW i := fun i hi => by rw [b3 22 (by decide), a3 22 (by decide)]; exact hx.1 i hi
  have eJ199 : ∀ i, i < 23 → J2 199 i = kyW i := fun i hi => by rw [b3 199 (by decide), a3 199 (by decide)]; exact hx.2.1 i hi
  generalize hR : rdR (fun j => byN (E.2.1 j)) E.1 = R at *
  generalize hq : ansP (tkL (fun j => byN (E.2.1 j)) E.1) R = q at *
  refine ⟨nI (ansV R), I1, J1, I2, J2, a1, b1, ?_⟩
  have c1 : I2 1 1 = nI 0 := by rw [b2 1 (by omega)]; exact a4
  have c12 : I2 0 12 = q := by rw [b2 0 (by omega)]; exact a5
  by_cases z : ansV R = 0
  · obtain ⟨z1, z2, z3, nc⟩ := a7 z
    have nm := b7 z
    have nc2 := NC_cg nc (fun k hk => b2 k hk)
    obtain ⟨n1, n2, n3, ⟨n4, n5⟩, n6, n7, n8, n9⟩ := nc2
    obtain ⟨m1, m2, ⟨m3, m4⟩, m5, m6, m7, m8⟩ := nm
    have pr := PlR_of n1 m1
    refine ⟨nwP (1 - xv P) R.2, (yB R.2, (0, fun _ => yB R.2), fun _ => none, (0, fun _ => (0, 0, 0))), (0, E.2.1, q, nI R.2.2.2.1.2.2.1, R.2.2.2.2.1.1), ⟨pr, ⟨n2, n3, ⟨0, by omega, n4, n5, by show 0 ≤ 40; omega, fun k hk => absurd hk (Nat.not_lt_zero _)⟩, fun s hs => n6 s hs, ⟨n7, by show 0 ≤ 20; omega, fun j hj => absurd hj (Nat.not_lt_zero _)⟩⟩, c1, by show 0 ≤ 2000; omega, fun j hj => absurd hj (Nat.not_lt_zero _), c12, n8, n9, ?_⟩, ⟨pr, ⟨m2, n3, ⟨m3, by show 0 ≤ 40; omega, fun k hk => absurd hk (Nat.not_lt_zero _)⟩, fun s hs => m5 s hs, ⟨m4, by show 0 ≤ 20; omega, fun j hj => absurd hj (Nat.not_lt_zero _)⟩⟩, b4, by show 0 ≤ 2000; omega, fun j hj => absurd hj (Nat.not_lt_zero _), b5, m6, m7, ?_⟩, eJ22, eJ199, m8⟩
    · obtain ⟨-, -, -, w1, -, ⟨-, -, w2, -⟩⟩ := z3
      show R.2.2.2.2.1.1 ≤ 297; omega
    · obtain ⟨-, -, -, w1, -, ⟨-, -, w2, -⟩⟩ := z3
      show R.2.2.2.2.1.1 ≤ 297; omega
  · obtain ⟨k1, k2, k3⟩ := a6 z
    have rf := b6 z
    have kk : ∀ k, 25 ≤ k → k < 192 → I2 k = I k := fun k p s => by rw [b2 k s, k1 k (fun h9 => by
      have := (by decide : ∀ k ∈ [0, 1] ++ rtL, k < 25) k h9
      omega)]
    have fld : ∀ j, j ∉ rrQ → I2 192 j = I 192 j := fun j hj => by rw [rf.2.1 j hj, hi1 192 (by omega)]
    have cel : ∀ k, 192 ≤ k → k ∉ rrL → I2 k = I k := fun k p s => by rw [rf.1 k s, hi1 k p]
    have sid : ∀ k, 202 ≤ k → k ≤ 225 → ∀ j, j < sdN k * (1 - xv P) ∨ sdN k * (1 - xv P) + sdN k ≤ j → I2 k j = I k j := fun k p s j hj => by rw [rf.2.2 k p s j hj, hi1 k (by omega)]
    have s1 : ∀ k, 202 ≤ k → k ≤ 225 → sdN k = 1 → I2 k (xv P) = I k (xv P) := fun k p s e => sid k p s _ (by rw [e]; omega)
    have lws : lwS I2 (xv P) (xL P) := lwS_go hx.2.2 hxv rfl sid
    have pmd : PlMd P I2 := by
      refine ⟨by rw [fld 18 (by decide)]; exact h.1.v, ⟨by rw [s1 202 (by omega) (by omega) rfl]; exact h.1.Nm, by rw [s1 203 (by omega) (by omega) rfl]; exact h.1.Sm, by rw [s1 210 (by omega) (by omega) rfl]; exact h.1.Cm⟩, fun i hi => ?_, fun c hc => ?_, fun k hk => lwS_M hxv lws hk, by rw [s1 215 (by omega) (by omega) rfl]; exact h.1.fz.2.1, by rw [s1 216 (by omega) (by omega) rfl]; exact h.1.sd.2⟩
      · have h10 := h.1.S10
        obtain ⟨-, -, -, -, -, r1, r2, r3⟩ := h.1.sm hi
        have e : ∀ k, 204 ≤ k → k ≤ 207 → I2 k (10 * xv P + i) = I k (10 * xv P + i) := fun k p s => sid k (by omega) (by omega) _ (by
          have hs : sdN k = 10 := if_pos ⟨p, s⟩
          rw [hs]; omega)
        exact ⟨(e 204 (by omega) (by omega)).trans r1, (e 205 (by omega) (by omega)).trans r2, (e 206 (by omega) (by omega)).trans r3⟩
      · have h4 := h.1.C4
        obtain ⟨-, -, r1, r2, r3⟩ := h.1.ct hc
        have e : ∀ k, 211 ≤ k → k ≤ 213 → I2 k (4 * xv P + c) = I k (4 * xv P + c) := fun k p s => sid k (by omega) (by omega) _ (by
          have hs : sdN k = 4 := (if_neg (by omega)).trans (if_pos (Or.inl ⟨p, s⟩))
          rw [hs]; omega)
        exact ⟨(e 211 (by omega) (by omega)).trans r1, (e 212 (by omega) (by omega)).trans r2, (e 213 (by omega) (by omega)).trans r3⟩
    have pr : PlR P I2 := PlR_of (PlCl_cg (PlR_cl h.1) (fun k p s => kk k p (by omega))) pmd
    obtain ⟨-, -, -, -, t5, t6, t7⟩ := h.2.2
    obtain ⟨-, -, -, -, w5, w6, w7⟩ := h'.2.2
    refine ⟨P, A, (0, E.2.1, q, E.2.2.2), ⟨pr, RC_cg h.2.1 (fun k p s => kk k (by omega) s), c1, by show 0 ≤ 2000; omega, fun j hj => absurd hj (Nat.not_lt_zero _), c12, by rw [kk 25 (by omega) (by omega)]; exact t5, by rw [kk 25 (by omega) (by omega)]; exact t6, t7⟩, ⟨pr, ?_, b4, by show 0 ≤ 2000; omega, fun j hj => absurd hj (Nat.not_lt_zero _), b5, by rw [s1 208 (by omega) (by omega) rfl]; exact w5, by rw [s1 209 (by omega) (by omega) rfl]; exact w6, w7⟩, eJ22, eJ199, lws⟩
    have := h'.2.1
    unfold RM hiM TDM slM at *
    rw [cel 229 (by omega) (by decide), fld 62 (by decide), fld 65 (by decide), cel 235 (by omega) (by decide), cel 237 (by omega) (by decide), cel 238 (by omega) (by decide), cel 239 (by omega) (by decide), cel 241 (by omega) (by decide), cel 242 (by omega) (by decide)]
    exact this
end TD1
