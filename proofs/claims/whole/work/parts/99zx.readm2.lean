/-! ===== read: the reference's call, all of it ===== -/
section TC1
variable {I : Nat → Nat → Int32} {J : Nat → Nat → Int64} {d : Nat}
def rrL : List Nat := [194, 195, 196, 197] ++ rmL
def rrQ : List Nat := [2, 4, 10, 11, 12, 13, 14, 15, 16, 17, 19, 20, 40, 46, 50]
/-- what a reading leaves alone in the reference -/
def rF (I I' : Nat → Nat → Int32) (v : Nat) : Prop := kp rrL I I' ∧ (∀ j, j ∉ rrQ → I' 192 j = I 192 j) ∧ ∀ k, 202 ≤ k → k ≤ 225 → ∀ j, j < sdN k * v ∨ sdN k * v + sdN k ≤ j → I' k j = I k j
theorem rF.tr {I' I'' : Nat → Nat → Int32} {v : Nat} (h : rF I I' v) (h' : rF I' I'' v) : rF I I'' v := ⟨h.1.tr h'.1, fun j hj => (h'.2.1 j hj).trans (h.2.1 j hj), fun k a b j hj => (h'.2.2 k a b j hj).trans (h.2.2 k a b j hj)⟩
theorem rmF.r {I' : Nat → Nat → Int32} {v : Nat} (h : rmF I I' v) : rF I I' v := ⟨h.1.up (by decide), fun j hj => h.2.1 j (fun h9 => hj ((by decide : ∀ j ∈ [11, 12, 13, 14, 15, 16, 20, 40, 46, 50], j ∈ rrQ) j h9)), h.2.2⟩
theorem rF_o {I' : Nat → Nat → Int32} {v : Nat} {X : List Nat} (hk : kp X I I') (hX : ∀ k ∈ X, k = 192 ∨ (194 ≤ k ∧ k ≤ 197)) (hf : ∀ j, j ∉ rrQ → I' 192 j = I 192 j) : rF I I' v :=
  ⟨hk.up (fun k h9 => by
    have := hX k h9
    have h5 : k = 192 ∨ k = 194 ∨ k = 195 ∨ k = 196 ∨ k = 197 := by omega
    rcases h5 with e | e | e | e | e <;> rw [e] <;> decide), hf, fun k a b j _ => by rw [hk k (fun h9 => by have := hX k h9; omega)]⟩
theorem rF_w {v q : Nat} {x : Int32} (hq : q ∈ rrQ) : rF I (p_wr I 192 q x) v := rF_o (X := [192]) (kp.rf.wr (by decide)) (fun k h9 => Or.inl (List.mem_singleton.mp h9)) (fun j hj => by rw [wr_eq, pk_un (fun e => hj (by rw [e]; exact hq))])
/-- laws of a side, in bounds -/
def lwS (I : Nat → Nat → Int32) (v : Nat) (lw : Nat → List Br × List Op) : Prop := ∃ br cd, br ≤ 130 * v + 130 ∧ cd ≤ 420 * v + 420 ∧ lwM I v br cd lw
theorem lwS_M {v : Nat} (hv : v < 2) {lw : Nat → List Br × List Op} (h : lwS I v lw) {k : Nat} (hk : k < 4) : LawM I (4 * v + k) k (lw k).1 (lw k).2 := by
  obtain ⟨br, cd, h1, h2, h3⟩ := h
  rcases h3 k hk with ⟨e1, e2⟩ | ⟨q, e1, e2, e3, e4, e5⟩
  · exact Or.inl ⟨by rw [e1], by rw [e1], e2⟩
  · exact Or.inr ⟨q, e1, e2, by omega, atV_B (by omega) _ _ _ e5⟩
theorem lwS_go {I' : Nat → Nat → Int32} {u v : Nat} {lw : Nat → List Br × List Op} (h : lwS I u lw) (hu : u < 2) (hv : v = 1 - u) (hf : ∀ k, 202 ≤ k → k ≤ 225 → ∀ j, j < sdN k * v ∨ sdN k * v + sdN k ≤ j → I' k j = I k j) : lwS I' u lw := by
  obtain ⟨br, cd, h1, h2, h3⟩ := h
  refine ⟨br, cd, h1, h2, fun k hk => ?_⟩
  have e7 : I' 217 (4 * u + k) = I 217 (4 * u + k) := hf 217 (by omega) (by omega) _ (by show 4 * u + k < 4 * v ∨ 4 * v + 4 ≤ 4 * u + k; omega)
  have e8 : I' 218 (4 * u + k) = I 218 (4 * u + k) := hf 218 (by omega) (by omega) _ (by show 4 * u + k < 4 * v ∨ 4 * v + 4 ≤ 4 * u + k; omega)
  rw [e7, e8]
  refine (h3 k hk).imp id (fun ⟨q, q1, q2, q3, q4, q5⟩ => ⟨q, q1, q2, q3, q4, atV_kp _ _ _ (fun k' a b j p s => ?_) (fun j p s => ⟨?_, ?_⟩) q5⟩)
  · have hs : sdN k' = 130 := (if_neg (by omega)).trans ((if_neg (by omega)).trans (if_pos ⟨a, b⟩))
    exact hf k' (by omega) (by omega) j (by rw [hs]; omega)
  · exact hf 224 (by omega) (by omega) j (by show j < 420 * v ∨ 420 * v + 420 ≤ j; omega)
  · exact hf 225 (by omega) (by omega) j (by show j < 420 * v ∨ 420 * v + 420 ≤ j; omega)
/-- all that the reference holds of a new plan -/
def NM (P : PP) (I : Nat → Nat → Int32) (Y : DY) : Prop := PlMd P I ∧ stM P (I 229) (yB Y) ∧ (I 192 62 = 0 ∧ I 192 65 = 0) ∧ (∀ s, s < 3 → I 241 s = 0) ∧ I 208 (xv P) = nI Y.2.2.1.2.2.1 ∧ I 209 (xv P) = nI Y.2.2.2.1.1 ∧ lwS I (xv P) (xL P)
theorem ev_slots {n : Nat} : runS (EV d) none 2 T0 C_X12_read k_X12_read rtI f_X12_read (n + 1 + 1 + 1 + 1) 219 [.ref 192, .int 0] [] (I, J) = some (some (.int 0), (p_wr (p_wr (p_wr I 241 0 0) 241 1 0) 241 2 0, J)) := by
  rw [runS_s, s_X12_read_219, if_neg (by decide), chk_t (by decide), runS_s, s_X12_read_219, if_neg (by decide), chk_t (by decide), runS_s, s_X12_read_219, if_neg (by decide), chk_t (by decide), runS_s, s_X12_read_219, if_pos (by decide)]
  rfl
theorem m_read (hd : 12 ≤ d) {P : PP} {E : ES} (h18 : I 192 18 = nI (xv P)) (hxv : xv P < 2) (ht : I 192 2 = nI E.1 ∧ E.1 ≤ 2000 ∧ ∀ j, j < E.1 → I 193 j = E.2.1 j) (hK : ∀ i, i < 23 → J 199 i = kyW i) :
    ∃ I' J', EV d T0 184 [.ref 192] (I, J) = some (some (.int (nI (ansV (rdR (fun j => byN (E.2.1 j)) E.1)))), (I', J')) ∧ (∀ k, k < 192 → I' k = I k) ∧ kpJ [198, 200] J J' ∧ I' 192 2 = 0 ∧ I' 192 17 = ansP (tkL (fun j => byN (E.2.1 j)) E.1) (rdR (fun j => byN (E.2.1 j)) E.1) ∧
      (ansV (rdR (fun j => byN (E.2.1 j)) E.1) ≠ 0 → rF I I' (1 - xv P)) ∧
      (ansV (rdR (fun j => byN (E.2.1 j)) E.1) = 0 → NM (nwP (1 - xv P) (rdR (fun j => byN (E.2.1 j)) E.1).2) I' (rdR (fun j => byN (E.2.1 j)) E.1).2) := by
  obtain ⟨d, rfl⟩ : ∃ z, d = z + 1 := ⟨d - 1, by omega⟩
  obtain ⟨t1, t2, t3⟩ := ht
  generalize hbb : (fun j => byN (E.2.1 j)) = b at *
  have hb : ∀ j, b j < 256 := fun j => by rw [← hbb]; exact byN_b _
  have hT : TKS (tkL b E.1) (tkT b E.1) := TKS_of (fun j _ => hb j) t2
  have hV : TKV (tkL b E.1) (tkT b E.1) := TKV_of
  have hTT : tkT b E.1 ≤ 401 := hT.2.1
  have hT1 : 1 ≤ tkT b E.1 := hT.1
  have hv : 1 - xv P < 2 := by omega
  have hvv : (1 : Int32) - nI (xv P) = nI (1 - xv P) := by rw [show (1 : Int32) = nI 1 from rfl, pk_sub (by omega)]
  generalize hvd : 1 - xv P = v at *
  let I0 := p_wr I 192 4 (nI E.1)
  have r0 : rF I I0 v := rF_w (by decide)
  obtain ⟨g', u1, u2⟩ := lp_text (O := EV d) (I := I0) (J := J) (N := E.1) (by show p_wr I 192 4 (nI E.1) 192 4 = _; rw [wr_eq, pk_us]) t2 E.1 0 (999999 - E.1) (I0 194) (by omega) (fun j hj => absurd hj (Nat.not_lt_zero _))
  rw [cs_self, show 999999 - E.1 + E.1 = 999999 by omega] at u1
  let I1 := cs I0 194 g'
  have k1 : kp [194] I0 I1 := kp.rf.cs (by decide)
  let I2 := p_wr I1 192 2 0
  have k2 : kp [192] I1 I2 := kp.rf.wr (by decide)
  have f2 : ∀ j, j ≠ 2 → j ≠ 4 → I2 192 j = I 192 j := fun j p q => by show p_wr I1 192 2 0 192 j = _; rw [wr_eq, pk_un p, k1 192 (by decide)]; show p_wr I 192 4 (nI E.1) 192 j = _; rw [wr_eq, pk_un q]
  have e24 : I2 192 4 = nI E.1 := by show p_wr I1 192 2 0 192 4 = _; rw [wr_eq, pk_un (by decide), k1 192 (by decide)]; show p_wr I 192 4 (nI E.1) 192 4 = _; rw [wr_eq, pk_us]
  have tb : TBR I2 E.1 b := ⟨e24, t2, fun j hj => ⟨by
    rw [k2 194 (by decide)]; show cs I0 194 g' 194 j &&& 255 = _
    rw [cs_eq, u2 j hj, nar_255]
    show p_wr I 192 4 (nI E.1) 193 j &&& 255 = _
    rw [wr_ne (by decide), t3 j hj, byN_e, ← hbb], hb j⟩⟩
  have r2 : rF I0 I2 v := (rF_o k1 (by decide) (fun j _ => by rw [k1 192 (by decide)])).tr (rF_w (by decide))
  obtain ⟨I3, J3, a1, a2, a3, a4, a5⟩ := ev_cutsUp (d := d) (J := J) (by omega) tb hK
  have r3 : rF I2 I3 v := rF_o a2 (by decide) (fun j hj => a3 j (fun e => hj (by rw [e]; decide)))
  have tok3 : ∀ j, j < tkT b E.1 → tkM I3 J3 j (tkL b E.1 j) := fun j hj => by
    obtain ⟨l1, l2⟩ := scL_R (b := b) (n := E.1) 401 0
    have hj' : j < (scL b E.1 401 0).length := hj
    have h9 := a5 j (by omega)
    rw [l2 j hj'] at h9
    exact h9
  have e318 : I3 192 18 = nI (xv P) := by rw [a3 18 (by decide), f2 18 (by decide) (by decide)]; exact h18
  let I4 := p_wr (p_wr (p_wr (p_wr (p_wr I3 192 11 0) 192 12 0) 192 13 0) 192 15 0) 192 19 (nI v)
  let I5 := p_wr I4 192 20 0
  have k35 : kp [192] I3 I5 := (((((kp.rf.wr (by decide)).wr (by decide)).wr (by decide)).wr (by decide)).wr (by decide)).wr (by decide)
  have r5 : rF I3 I5 v := (((((rF_w (q := 11) (by decide)).tr (rF_w (q := 12) (by decide))).tr (rF_w (q := 13) (by decide))).tr (rF_w (q := 15) (by decide))).tr (rF_w (q := 19) (by decide))).tr (rF_w (q := 20) (by decide))
  have f5 : I5 192 19 = nI v := rfl
  obtain ⟨I6, p1, p2, p3, p4, p5, p6⟩ := ev_plain (d := d) (I := I5) (J := J3) (by omega) hv
  have e6 : I6 192 = I5 192 := p3 192 (by decide)
  let I7 := p_wr (p_wr I6 192 40 (nI (130 * v))) 192 46 (nI (420 * v))
  have k67 : kp [192] I6 I7 := (kp.rf.wr (by decide)).wr (by decide)
  have r7 : rF I6 I7 v := (rF_w (q := 40) (by decide)).tr (rF_w (q := 46) (by decide))
  have rr : rF I I7 v := (((r0.tr r2).tr r3).tr (r5.tr p2.r)).tr r7
  have g7 : ∀ j, j ≠ 40 → j ≠ 46 → I7 192 j = I5 192 j := fun j p q => by show p_wr (p_wr I6 192 40 _) 192 46 _ 192 j = _; rw [wr_eq, pk_un q, wr_eq, pk_un p, e6]
  have k37 : kp [192, 202, 203, 208, 209, 210, 214, 215, 216, 217, 218] I3 I7 := ((k35.up (by decide)).tr (p3.up (by decide))).tr (k67.up (by decide))
  have cu7 : cuM I7 J3 (tkL b E.1) (tkT b E.1) (0, 0) := ⟨(g7 11 (by decide) (by decide)).trans rfl, (g7 13 (by decide) (by decide)).trans rfl, fun h9 => absurd rfl h9, by show 0 < tkT b E.1; omega, by show 0 < 3; omega, fun j hj => (tok3 j hj).kp k37 (by decide)⟩
  have e7 : ∀ k, k ∈ [202, 203, 208, 209, 210, 214, 215, 216, 217, 218] → I7 k = I6 k := fun k hk => k67 k (fun h9 => by rw [List.mem_singleton] at h9; rw [h9] at hk; exact absurd hk (by decide))
  have rm7 : RdM I7 J3 v 0 yD := by
    refine ⟨⟨⟨(g7 15 (by decide) (by decide)).trans rfl, by show 0 < 6; omega, fun h9 => absurd rfl h9, by show 0 ≤ 2000; omega⟩, (g7 20 (by decide) (by decide)).trans rfl, by show 0 ≤ 14; omega, fun j hj => absurd hj (Nat.not_lt_zero _)⟩, ?_, ?_, fun _ => ⟨fun i hi => absurd hi (Nat.not_lt_zero _), fun i hi => absurd hi (Nat.not_lt_zero _)⟩, ⟨(g7 19 (by decide) (by decide)).trans f5, (g7 12 (by decide) (by decide)).trans rfl⟩, 130 * v, 420 * v, ⟨?_, by omega, Nat.le_refl _⟩, ⟨?_, Nat.le_refl _, by omega⟩, fun k hk => Or.inl ⟨rfl, ?_⟩⟩
    · unfold cnM at *; rw [e7 202 (by decide), e7 203 (by decide), e7 208 (by decide), e7 210 (by decide)]; exact p4
    · unfold vlM at *; rw [e7 209 (by decide), e7 214 (by decide), e7 215 (by decide), e7 216 (by decide)]; exact p5
    · show p_wr (p_wr I6 192 40 (nI (130 * v))) 192 46 (nI (420 * v)) 192 40 = _; rw [wr_eq, pk_un (by decide), wr_eq, pk_us]
    · show p_wr (p_wr I6 192 40 (nI (130 * v))) 192 46 (nI (420 * v)) 192 46 = _; rw [wr_eq, pk_us]
    · rw [e7 217 (by decide), e7 218 (by decide)]; exact p6 k hk
  obtain ⟨I8, J8, n8, l1, l2, l3, l4, l5, l6⟩ := lp_readM (d := d) (by omega) hT hV hv 401 (999999 - E.1 - 1 - 1) (0, 0) yD I7 J3 cu7.g (by show 0 < tkT b E.1; omega) (fun _ => ⟨rm7, py_D _, by omega⟩) (by omega)
  have hrd : tlL (tkL b E.1) 401 ((0, 0), yD) = rdR b E.1 := rfl
  rw [hrd] at l1 l5 l6
  have rr8 : rF I I8 v := rr.tr l3.r
  have run : EV (d + 1) T0 184 [.ref 192] (I, J) = exq d n8 I8 J8 (ansP (tkL b E.1) (rdR b E.1)) := by
    rw [e_X12_read, runS_M, s_X12_read_0, t1]
    show runS (EV d) none 2 T0 C_X12_read k_X12_read rtI f_X12_read 999999 10 [.ref 192, .int (nI 0)] [] (I0, J) = _
    rw [u1]
    obtain ⟨q, hq⟩ : ∃ q, 999999 - E.1 = q + 1 + 1 := ⟨999999 - E.1 - 2, by omega⟩
    have e14 : cs I0 194 g' 192 4 = nI E.1 := by rw [cs_ne (by decide)]; show p_wr I 192 4 (nI E.1) 192 4 = _; rw [wr_eq, pk_us]
    rw [hq, runS_s, s_X12_read_10, e14, if_pos (Int32.le_refl _)]
    show p_cv (EV d T0 176 [.ref 192] (I2, J)) _ = _
    rw [a1, p_cv_s]
    dsimp only
    rw [e318, hvv, runS_s, s_X12_read_75]
    show p_cv (EV d T0 183 [.ref 192, .int (nI v)] (I5, J3)) _ = _
    rw [p1, p_cv_s]
    dsimp only
    rw [e6, f5, show (130 : Int32) * nI v = nI (130 * v) from pk_mul 130 v, show (420 : Int32) * nI v = nI (420 * v) from pk_mul 420 v]
    rw [show 999999 - E.1 - 1 - 1 = q by omega] at l1
    exact l1
  have low : ∀ k, k < 192 → I8 k = I k := fun k hk => rr8.1 k (fun h9 => by
    have := (by decide : ∀ k ∈ rrL, 192 ≤ k) k h9
    omega)
  have kJ : kpJ [198, 200] J J8 := fun k hk => by rw [l4 k (fun h9 => hk (by rw [List.mem_singleton] at h9; rw [h9]; decide)), a4 k (fun h9 => hk (by rw [List.mem_singleton] at h9; rw [h9]; decide))]
  have e82 : I8 192 2 = 0 := by rw [l3.2.1 2 (by decide), g7 2 (by decide) (by decide)]; show I3 192 2 = 0; rw [a3 2 (by decide)]; show p_wr I1 192 2 0 192 2 = 0; rw [wr_eq, pk_us]
  obtain ⟨n8, rfl⟩ : ∃ z, n8 = z + 1 + 1 + 1 + 1 + 1 + 1 := ⟨n8 - 6, by omega⟩
  rw [run]
  unfold exq
  rw [runS_s, s_X12_read_164]
  generalize hR : rdR b E.1 = R at *
  by_cases z : R.1.2 = 0
  · have cu8 := l5.1 z
    obtain ⟨rm, py⟩ := l6 z
    have sf := rm.1.1
    have h6 := sf.2.1
    have eA : ansV R = R.2.1.1 := by unfold ansV; rw [if_pos z]
    rw [if_pos (show I8 192 13 ≤ 0 by rw [cu8.2.1, z]; decide), sf.1]
    by_cases s0 : R.2.1.1 = 0
    · rw [if_pos (show nI R.2.1.1 ≤ 0 by rw [s0]; decide)]
      have pz := PZ_of py s0
      obtain ⟨z1, z2, ⟨z3, z4, z5⟩, z6, z7, ⟨z8, z9, z10, z11⟩⟩ := pz
      obtain ⟨-, cn, vl, seca, ⟨h19, h12⟩, br, cd, ⟨b1, b2, b3⟩, ⟨c1, c2, c3⟩, hl⟩ := rm
      obtain ⟨se, ca⟩ := seca s0
      have hcb : R.1.1 ≤ 400 := by have := cu8.2.2.2.1; omega
      let I9 := p_wr (p_wr I8 192 17 (ansP (tkL b E.1) R)) 192 18 (nI v)
      have k9 : kp [192] I8 I9 := (kp.rf.wr (by decide)).wr (by decide)
      obtain ⟨I10, q1, q2, q3, q4, q5, q6, q7, q8⟩ := ev_begins (d := d) (I := I9) (J := J8) (by omega) hv (S := R.2.2.2.1.2.1) (C := R.2.2.2.1.2.2.2) (by show p_wr (p_wr I8 192 17 _) 192 18 (nI v) 192 18 = _; rw [wr_eq, pk_us]) (by rw [k9 203 (by decide)]; exact cn.2.1) z9 (by rw [k9 210 (by decide)]; exact cn.2.2.2) z11
      let I11 := cs I10 229 (cpF (I10 230) (I10 229) 32)
      have kr : EV d T0 209 [.ref 192] (I10, J8) = some (none, (I11, J8)) := by
        obtain ⟨d, rfl⟩ : ∃ z, d = z + 1 := ⟨d - 1, by omega⟩
        exact ev_keepsRow d I10 J8
      let I12 := p_wr (p_wr I11 192 62 0) 192 65 0
      let I13 := p_wr (p_wr (p_wr I12 241 0 0) 241 1 0) 241 2 0
      have k11 : kp [229] I10 I11 := kp.rf.cs (by decide)
      have k12 : kp [192] I11 I12 := (kp.rf.wr (by decide)).wr (by decide)
      have k13 : kp [241] I12 I13 := ((kp.rf.wr (by decide)).wr (by decide)).wr (by decide)
      have kk : kp [192, 229, 230, 241] I8 I13 := ((((k9.up (by decide)).tr (q2.up (by decide))).tr (k11.up (by decide))).tr (k12.up (by decide))).tr (k13.up (by decide))
      have g13 : ∀ j, j ≠ 62 → j ≠ 65 → j ≠ 56 → j ≠ 57 → I13 192 j = I9 192 j := fun j p q r s => by
        rw [k13 192 (by decide)]; show p_wr (p_wr I11 192 62 0) 192 65 0 192 j = _; rw [wr_eq, pk_un q, wr_eq, pk_un p, k11 192 (by decide), q3 j r s]
      have g9 : ∀ j, j ≠ 17 → j ≠ 18 → I9 192 j = I8 192 j := fun j p q => by show p_wr (p_wr I8 192 17 _) 192 18 (nI v) 192 j = _; rw [wr_eq, pk_un q, wr_eq, pk_un p]
      have h229 : ∀ j, j < 32 → I13 229 j = I10 230 j := fun j hj => by rw [k13 229 (by decide), k12 229 (by decide)]; show cs I10 229 (cpF (I10 230) (I10 229) 32) 229 j = _; rw [cs_eq]; exact if_pos hj
      have cl : ∀ k, k ∉ [192, 229, 230, 241] → I13 k = I8 k := kk
      refine ⟨I13, J8, ?_, fun k hk => by rw [cl k (fun h9 => by simp only [List.mem_cons, List.not_mem_nil, or_false] at h9; omega)]; exact low k hk, kJ, ?_, ?_, fun h9 => absurd (eA.trans s0) h9, fun _ => ⟨⟨?_, ⟨?_, ?_, ?_⟩, fun i hi => ?_, fun c hc => ?_, fun k hk => ?_, ?_, ?_⟩, ⟨fun i hi => ?_, ?_, fun c hc f hf => ?_, ?_⟩, ⟨?_, ?_⟩, fun s hs => ?_, ?_, ?_, ?_⟩⟩
      · rw [h19]
        show p_cv (EV d T0 208 [.ref 192] (I9, J8)) _ = _
        rw [q1, p_cv_s, kr, p_cv_s, runS_s, s_X12_read_207]
        show runS (EV d) none 2 T0 C_X12_read k_X12_read rtI f_X12_read (n8 + 1 + 1 + 1 + 1) 219 [.ref 192, .int 0] [] (I12, J8) = _
        rw [ev_slots, eA, s0]; rfl
      · rw [g13 2 (by decide) (by decide) (by decide) (by decide), g9 2 (by decide) (by decide)]; exact e82
      · rw [g13 17 (by decide) (by decide) (by decide) (by decide)]; show p_wr (p_wr I8 192 17 (ansP (tkL b E.1) R)) 192 18 (nI v) 192 17 = _; rw [wr_eq, pk_un (by decide), wr_eq, pk_us]
      · rw [g13 18 (by decide) (by decide) (by decide) (by decide)]; show p_wr (p_wr I8 192 17 (ansP (tkL b E.1) R)) 192 18 (nI v) 192 18 = _; rw [wr_eq, pk_us]; rfl
      · rw [cl 202 (by decide)]; exact cn.1
      · rw [cl 203 (by decide)]; exact cn.2.1
      · rw [cl 210 (by decide)]; exact cn.2.2.2
      · obtain ⟨⟨p, q, e1, e2, e3, e4, e5⟩, -⟩ := z1 i hi
        obtain ⟨s1, s2, s3, s4⟩ := se i hi
        rw [cl 204 (by decide), cl 205 (by decide), cl 206 (by decide), nw_f e1 (by omega), nw_g e2 (by omega)]
        exact ⟨s1.trans e1, s2.trans e2, s3⟩
      · obtain ⟨⟨p, q, e1, e2, e3, e4, e5⟩, -⟩ := z2 c hc
        obtain ⟨s1, s2, s3⟩ := ca c hc
        rw [cl 211 (by decide), cl 212 (by decide), cl 213 (by decide), nw_a e1 (by omega), nw_b e2 (by omega)]
        exact ⟨s1.trans e1, s2.trans e2, s3⟩
      · have hlS : lwS I13 v R.2.2.2.2.2.2.2 := ⟨br, cd, by omega, by omega, fun k hk => by
          rw [cl 217 (by decide), cl 218 (by decide)]
          exact (hl k hk).imp id (fun ⟨q, q1, q2, q3, q4, q5⟩ => ⟨q, q1, q2, q3, q4, atV_kp _ _ _ (fun k' a b j _ _ => by rw [cl k' (fun h9 => by simp only [List.mem_cons, List.not_mem_nil, or_false] at h9; omega)]) (fun j _ _ => ⟨by rw [cl 224 (by decide)], by rw [cl 225 (by decide)]⟩) q5⟩)⟩
        exact lwS_M hv hlS hk
      · rw [cl 215 (by decide)]; exact vl.2.2.1
      · rw [cl 216 (by decide)]; exact vl.2.2.2
      · have hi' : i < R.2.2.2.1.2.1 := hi
        refine ⟨?_, (z1 i hi).2.2.2⟩
        rw [h229 i (by omega), q4 i hi', k9 207 (by decide)]
        exact (se i hi).2.2.2
      · rw [h229 31 (by omega)]; exact q7
      · have hc' : c < R.2.2.2.1.2.2.2 := hc
        show I13 229 (10 + 4 * f + c) = if f = 0 then R.2.2.2.2.2.2.1.1 c else 0
        rw [h229 _ (by omega)]
        by_cases e : f = 0
        · rw [if_pos e, e, show 10 + 4 * 0 + c = 10 + c by omega, q5 c hc', k9 211 (by decide)]; exact (ca c hc).1
        · rw [if_neg e]; exact q8 _ (by omega) (by omega)
      · rw [h229 30 (by omega), q6, k9 214 (by decide)]; exact vl.2.1
      · rw [k13 192 (by decide)]; show p_wr (p_wr I11 192 62 0) 192 65 0 192 62 = 0; rw [wr_eq, pk_un (by decide), wr_eq, pk_us]
      · rw [k13 192 (by decide)]; show p_wr (p_wr I11 192 62 0) 192 65 0 192 65 = 0; rw [wr_eq, pk_us]
      · show p_wr (p_wr (p_wr I12 241 0 0) 241 1 0) 241 2 0 241 s = 0
        have h3 : s = 0 ∨ s = 1 ∨ s = 2 := by omega
        rcases h3 with rfl | rfl | rfl
        · rw [wr_eq, pk_un (by decide), wr_eq, pk_un (by decide), wr_eq, pk_us]
        · rw [wr_eq, pk_un (by decide), wr_eq, pk_us]
        · rw [wr_eq, pk_us]
      · rw [cl 208 (by decide)]; exact cn.2.2.1
      · rw [cl 209 (by decide)]; exact vl.1
      · exact ⟨br, cd, by show br ≤ 130 * v + 130; omega, by show cd ≤ 420 * v + 420; omega, fun k hk => by
          show (R.2.2.2.2.2.2.2 k = ([], [lawD k]) ∧ I13 218 (4 * v + k) = I13 217 (4 * v + k)) ∨ ∃ q, I13 217 (4 * v + k) = nI q ∧ I13 218 (4 * v + k) = nI (q + (R.2.2.2.2.2.2.2 k).1.length + 1) ∧ 130 * v ≤ q ∧ q + (R.2.2.2.2.2.2.2 k).1.length + 1 ≤ br ∧ atV (420 * v) cd I13 q (R.2.2.2.2.2.2.2 k).1 (R.2.2.2.2.2.2.2 k).2
          rw [cl 217 (by decide), cl 218 (by decide)]
          exact (hl k hk).imp id (fun ⟨q, q1, q2, q3, q4, q5⟩ => ⟨q, q1, q2, q3, q4, atV_kp _ _ _ (fun k' a b j _ _ => by rw [cl k' (fun h9 => by simp only [List.mem_cons, List.not_mem_nil, or_false] at h9; omega)]) (fun j _ _ => ⟨by rw [cl 224 (by decide)], by rw [cl 225 (by decide)]⟩) q5⟩)⟩
    · rw [if_neg (show ¬ nI R.2.1.1 ≤ 0 by rw [le0_nI (by omega)]; exact s0)]
      refine ⟨p_wr I8 192 17 (ansP (tkL b E.1) R), J8, by rw [eA]; rfl, fun k hk => by rw [wr_ne (by omega)]; exact low k hk, kJ, by rw [wr_eq, pk_un (by decide)]; exact e82, by rw [wr_eq, pk_us], fun _ => rr8.tr (rF_w (by decide)), fun h9 => absurd (eA.symm.trans h9) s0⟩
  · have cf := l5.2 z
    have eA : ansV R = R.1.2 := by unfold ansV; rw [if_neg z]
    rw [if_neg cf.nl, cf.1]
    refine ⟨p_wr I8 192 17 (ansP (tkL b E.1) R), J8, by rw [eA]; rfl, fun k hk => by rw [wr_ne (by omega)]; exact low k hk, kJ, by rw [wr_eq, pk_un (by decide)]; exact e82, by rw [wr_eq, pk_us], fun _ => rr8.tr (rF_w (by decide)), fun h9 => absurd (eA.symm.trans h9) z⟩
end TC1
