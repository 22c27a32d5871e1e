/-! ===== what laws say: the class's rules, the reference's ===== -/
theorem plr_kx {P : PP} {I I' : Nat → Nat → Int32} {X : List Nat} (h : PlR P I) (hk : kp X I I') (hX : ∀ k ∈ X, k ∉ plC) (h18 : I' 192 18 = I 192 18) : PlR P I' :=
  h.kp (fun k hp => hk k (fun hx => hX k hx hp)) h18
theorem h99_lawF {P : PP} {k i : Nat} {sw wk fr ca ld nw : Int32} {vs : Nat → Int32} (hk : okL (xL P k).1 (xL P k).2) (hv : ∀ j, j < 9 → vs j = vF (nI (xl P i)) sw wk fr ca (nI i) ld nw (nI (wyN P (xf P i) (xS P))) j) : h99 (evL vs (xL P k).1 (xL P k).2) = lawF P k i sw wk fr ca ld nw := by
  unfold lawF
  rw [evL_cg hv _ _ hk]
section RuC
variable {P : PP} {I : Nat → Nat → Int32} {J : Nat → Nat → Int64} {d : Nat}
theorem ev_lawC (hd : 2 ≤ d) (h : PlR P I) {k : Nat} (hk : k < 4) {x : Int32} (hx : x = nI k) : ∃ I', EV d T0 7 [.ref 35, .int x, .ref 170] (I, J) = some (some (.int (evL (I 170) (xL P k).1 (xL P k).2)), (I', J)) ∧ kp [37] I I' := by
  subst hx
  obtain ⟨l1, ⟨sz, p, l2, l3, l4, l5, l6⟩, -⟩ := h.lw hk
  exact ev_say hd hk l4 l3 l5 l1 l2 l6
theorem ev_look (hd : 1 ≤ d) (h : PlR P I) {i : Nat} (hi : i < xS P) (sw wk : Int32) : ∃ I', EV d T0 61 [.ref 169, .int (nI i), .int sw, .int wk] (I, J) = some (none, (I', J)) ∧ kp [170] I I' ∧ ∀ j, j < 9 → I' 170 j = vF (nI (xl P i)) sw wk 0 0 (nI i) 0 0 (nI (wyN P (xf P i) (xS P))) j := by
  obtain ⟨d, rfl⟩ : ∃ z, d = z + 1 := ⟨d - 1, by omega⟩
  have h10 := h.S10
  obtain ⟨-, -, -, ⟨f4, -⟩, f5, -⟩ := h.sm hi
  rw [e_X5_look, runS_M, s_X5_look_0, chk_in (by omega) (by omega), chk_in (by omega) (by omega), nI_clamp (by omega), f4, f5]
  refine ⟨_, rfl, ?_, ?_⟩
  · repeat' refine kp.wr ?_ (by decide)
    exact kp.rf
  · intro j hj
    have hc : j = 0 ∨ j = 1 ∨ j = 2 ∨ j = 3 ∨ j = 4 ∨ j = 5 ∨ j = 6 ∨ j = 7 ∨ j = 8 := by omega
    rcases hc with rfl | rfl | rfl | rfl | rfl | rfl | rfl | rfl | rfl <;> simp [wr_eq, upd, vF]
theorem vs_wr {I1 : Nat → Nat → Int32} {c a : Nat} {x : Int32} {j : Nat} (hc : j ≠ a) : p_wr I1 c a x c j = I1 c j := by rw [wr_eq]; exact pk_un hc
theorem ev_stitchCost (hd : 3 ≤ d) (h : PlR P I) {i : Nat} (hi : i < xS P) (sw wk : Int32) : ∃ I', EV d T0 54 [.ref 169, .int (nI i), .int sw, .int wk] (I, J) = some (some (.int (costF P i sw wk)), (I', J)) ∧ kp [37, 170] I I' := by
  obtain ⟨d, rfl⟩ : ∃ z, d = z + 1 := ⟨d - 1, by omega⟩
  obtain ⟨I1, t1, t2, t3⟩ := ev_look (d := d) (J := J) (by omega) h hi sw wk
  rw [e_X5_stitchCost, runS_M, s_X5_stitchCost_0, t1, p_cv_s]
  have hgo : ∀ nw : Int32, nw = (if sw = 0 then 1 else 0) → ∃ I', p_ci (EV d T0 7 [.ref 35, .int 0, .ref 170] (p_wr I1 170 7 nw, J)) (fun v7 z6 => p_ci (EV d T0 62 [.int v7] z6) (fun v9 z8 => rtI (some (.int v9)) z8)) = some (some (.int (costF P i sw wk)), (I', J)) ∧ kp [37, 170] I I' := by
    intro nw hnw
    have k1 : kp [37, 170] I (p_wr I1 170 7 nw) := (t2.up (by decide)).wr (by decide)
    have h1 : PlR P (p_wr I1 170 7 nw) := plr_kx h k1 (by decide) (by rw [k1 192 (by decide)])
    obtain ⟨I2, u1, u2⟩ := ev_lawC (d := d) (J := J) (by omega) h1 (k := 0) (by decide) (x := 0) rfl
    refine ⟨I2, ?_, k1.tr (u2.up (by decide))⟩
    rw [u1, p_ci_s, ev_held (by omega), p_ci_s, h99_lawF (i := i) (sw := sw) (wk := wk) (fr := 0) (ca := 0) (ld := 0) (nw := nw) (h.lw (by decide)).1 ?_]
    · rw [hnw]; rfl
    · intro j hj
      by_cases e : j = 7
      · subst e; rw [wr_eq, pk_us]; rfl
      · rw [vs_wr e, t3 j hj]
        unfold vF
        simp only [if_neg e]
        repeat' split
        all_goals first | rfl | omega
  by_cases hs : sw = 0
  · rw [if_pos hs]; exact hgo 1 (by rw [if_pos hs])
  · rw [if_neg hs]; exact hgo 0 (by rw [if_neg hs])
theorem ev_wear (hd : 3 ≤ d) (h : PlR P I) {i : Nat} (hi : i < xS P) (sw wk fr ca : Int32) : ∃ I', EV d T0 55 [.ref 169, .int (nI i), .int sw, .int wk, .int fr, .int ca] (I, J) = some (some (.int (wearF P i sw wk fr ca)), (I', J)) ∧ kp [37, 170] I I' := by
  obtain ⟨d, rfl⟩ : ∃ z, d = z + 1 := ⟨d - 1, by omega⟩
  obtain ⟨I1, t1, t2, t3⟩ := ev_look (d := d) (J := J) (by omega) h hi sw wk
  rw [e_X5_wear, runS_M, s_X5_wear_0, t1, p_cv_s]
  have k1 : kp [37, 170] I (p_wr (p_wr I1 170 3 fr) 170 4 ca) := ((t2.up (by decide)).wr (by decide)).wr (by decide)
  have h1 : PlR P (p_wr (p_wr I1 170 3 fr) 170 4 ca) := plr_kx h k1 (by decide) (by rw [k1 192 (by decide)])
  obtain ⟨I2, u1, u2⟩ := ev_lawC (d := d) (J := J) (by omega) h1 (k := 1) (by decide) (x := 1) rfl
  refine ⟨I2, ?_, k1.tr (u2.up (by decide))⟩
  rw [u1, p_ci_s, ev_held (by omega), p_ci_s, h99_lawF (i := i) (sw := sw) (wk := wk) (fr := fr) (ca := ca) (ld := 0) (nw := 0) (h.lw (by decide)).1 ?_]
  · rfl
  · intro j hj
    by_cases e : j = 4
    · subst e; rw [wr_eq, pk_us]; rfl
    · rw [vs_wr e]
      by_cases e3 : j = 3
      · subst e3; rw [wr_eq, pk_us]; rfl
      · rw [vs_wr e3, t3 j hj]
        unfold vF
        simp only [if_neg e, if_neg e3]
theorem ev_wayLong (hd : 3 ≤ d) (h : PlR P I) {i : Nat} (hi : i < xS P) (sw wk : Int32) : ∃ I', EV d T0 56 [.ref 169, .int (nI i), .int sw, .int wk] (I, J) = some (some (.int (wayF P i sw wk)), (I', J)) ∧ kp [37, 170] I I' := by
  obtain ⟨d, rfl⟩ : ∃ z, d = z + 1 := ⟨d - 1, by omega⟩
  have h10 := h.S10
  obtain ⟨I1, t1, t2, t3⟩ := ev_look (d := d) (J := J) (by omega) h hi sw wk
  have k1 : kp [37, 170] I I1 := t2.up (by decide)
  have h1 : PlR P I1 := plr_kx h k1 (by decide) (by rw [k1 192 (by decide)])
  obtain ⟨I2, u1, u2⟩ := ev_lawC (d := d) (J := J) (by omega) h1 (k := 2) (by decide) (x := 2) rfl
  refine ⟨I2, ?_, k1.tr (u2.up (by decide))⟩
  rw [e_X5_wayLong, runS_M, s_X5_wayLong_0, t1, p_cv_s, chk_in (by omega) (by omega), u1, p_ci_s, ev_held (by omega), p_ci_s, h99_lawF (i := i) (sw := sw) (wk := wk) (fr := 0) (ca := 0) (ld := 0) (nw := 0) (h.lw (by decide)).1 t3]
  have e29 : I1 29 (nI i).toNatClampNeg = nI (xl P i) := by rw [nI_clamp (by omega), k1 29 (by decide)]; exact (h.sm hi).2.2.2.1.1
  simp only [e29]
  rfl
theorem ev_tollFor (hd : 3 ≤ d) (h : PlR P I) {i : Nat} (hi : i < xS P) (sw wk ld : Int32) : ∃ I', EV d T0 57 [.ref 169, .int (nI i), .int sw, .int wk, .int ld] (I, J) = some (some (.int (tollF P i sw wk ld)), (I', J)) ∧ kp [37, 170] I I' := by
  obtain ⟨d, rfl⟩ : ∃ z, d = z + 1 := ⟨d - 1, by omega⟩
  obtain ⟨I1, t1, t2, t3⟩ := ev_look (d := d) (J := J) (by omega) h hi sw wk
  rw [e_X5_tollFor, runS_M, s_X5_tollFor_0, t1, p_cv_s]
  have k1 : kp [37, 170] I (p_wr I1 170 6 ld) := (t2.up (by decide)).wr (by decide)
  have h1 : PlR P (p_wr I1 170 6 ld) := plr_kx h k1 (by decide) (by rw [k1 192 (by decide)])
  obtain ⟨I2, u1, u2⟩ := ev_lawC (d := d) (J := J) (by omega) h1 (k := 3) (by decide) (x := 3) rfl
  refine ⟨I2, ?_, k1.tr (u2.up (by decide))⟩
  rw [u1, p_ci_s, ev_held (by omega), p_ci_s, h99_lawF (i := i) (sw := sw) (wk := wk) (fr := 0) (ca := 0) (ld := ld) (nw := 0) (h.lw (by decide)).1 ?_]
  · rfl
  · intro j hj
    by_cases e : j = 6
    · subst e; rw [wr_eq, pk_us]; rfl
    · rw [vs_wr e, t3 j hj]
      unfold vF
      simp only [if_neg e]
/-! the reference's -/
theorem four_nI (v k : Nat) : (4 * nI v) + nI k = nI (4 * v + k) := by
  rw [show (4 : Int32) = nI 4 from rfl, pk_mul, nI_add]
theorem ev_asks (hd : 3 ≤ d) (h : PlR P I) {k : Nat} (hk : k < 4) {x pl : Int32} (hx : x = nI k) (hpl : pl = evL (I 227) [] [lawD k]) : ∃ I', EV d T0 215 [.ref 192, .int x, .int pl] (I, J) = some (some (.int (h99 (evL (I 227) (xL P k).1 (xL P k).2))), (I', J)) ∧ kp [228, 192] I I' ∧ k53 I I' := by
  obtain ⟨d, rfl⟩ : ∃ z, d = z + 1 := ⟨d - 1, by omega⟩
  subst hx
  have hv := h.v2
  obtain ⟨l1, -, l3⟩ := h.lw hk
  rw [e_X12_asks, runS_M, s_X12_asks_0, h.v, four_nI, chk_in (by omega) (by omega), chk_in (by omega) (by omega), nI_clamp (by omega)]
  rcases l3 with ⟨r0, e0, q0⟩ | ⟨q, q1, q2, q3, q4⟩
  · rw [q0, if_pos (Int32.le_refl _), ev_heldR (by omega), p_ci_s, hpl, r0, e0]
    exact ⟨I, rfl, kp.rf, k53.rf⟩
  · rw [q1, q2, if_neg (nI_ge (by omega) (by omega))]
    obtain ⟨d, rfl⟩ : ∃ z, d = z + 1 := ⟨d - 1, by omega⟩
    have h227 : p_wr I 192 53 0 227 = I 227 := wr_ne (by decide)
    obtain ⟨I1, t1, t2, t3⟩ := lt_L (d := d) (by omega) (J := J) (e := (xL P k).2) (at' := 4 * xv P + k) (by omega) (xL P k).1 q 999999 (p_wr I 192 53 0) (atB_kp (fun k h1 h2 => wr_ne (by omega)) _ _ _ q4) l1 (by rw [wr_ne (by decide)]; exact q2) q3 (by rw [wr_eq]; exact pk_us) (by omega)
    have hlt : EV (d + 1) T0 216 [.ref 192, .int (nI (4 * xv P + k))] (I, J) = some (some (.int (evL (I 227) (xL P k).1 (xL P k).2)), (I1, J)) := by
      rw [e_X12_lawTells, runS_M, s_X12_lawTells_0, chk_in (by omega) (by omega), nI_clamp (by omega), q1, t1, h227]
    rw [hlt, p_ci_s, ev_heldR (by omega), p_ci_s]
    exact ⟨I1, rfl, (kp.rf.wr (by decide)).tr t2, (fun j hj => by rw [t3 j hj, wr_eq]; exact pk_un hj)⟩
theorem lp_waysAt (h : PlR P I) (a : Nat) (ha : a < 100) : ∀ (k i n : Nat), i + k = xS P → 3 * k < n →
    runS (EV d) none 4 T0 C_X12_waysAt k_X12_waysAt rtI f_X12_waysAt n 10 [.ref 192, .int (nI a), .int (nI (wyN P a i)), .int (nI (10 * xv P + i))] [] (I, J) = some (some (.int (nI (wyN P a (xS P)))), (I, J)) := by
  have hv := h.v2
  have h10 := h.S10
  intro k
  induction k with
  | zero =>
    intro i n hi hn
    obtain ⟨n, rfl⟩ : ∃ z, n = z + 1 := ⟨n - 1, by omega⟩
    have e : i = xS P := by omega
    subst e
    rw [runS_s, s_X12_waysAt_10, h.v, chk_in hv (by omega), nI_clamp (by omega), h.Sm, ten_nI, if_pos (Int32.le_refl _)]
    rfl
  | succ k ih =>
    intro i n hi hn
    obtain ⟨n, rfl⟩ : ∃ z, n = z + 1 + 1 + 1 := ⟨n - 3, by omega⟩
    obtain ⟨-, ⟨g1, g2, g3⟩, -, -, -, f6, f7, -⟩ := h.sm (i := i) (by omega)
    have hN := h.N7
    have hw := wyN_le P a i
    rw [runS_s, s_X12_waysAt_10, h.v, chk_in hv (by omega), nI_clamp (by omega), h.Sm, ten_nI, if_neg (nI_ge (by omega) (by omega)), chk_in (by omega) (by omega), nI_clamp (by omega), f6, f7]
    have hst : wyN P a (i + 1) = wyN P a i + (if xf P i = a ∨ xg P i = a then 1 else 0) := rfl
    by_cases e1 : xf P i = a
    · rw [if_pos (by rw [e1]), runS_s, s_X12_waysAt_51, runS_s, s_X12_waysAt_54, nI_1, nI_1]
      rw [if_pos (Or.inl e1)] at hst
      rw [← hst]
      exact ih (i + 1) n (by omega) (by omega)
    · rw [if_neg (by rw [nI_eq (by omega) (by omega)]; exact e1), chk_in (by omega) (by omega)]
      by_cases e2 : xg P i = a
      · rw [if_pos (by rw [e2]), runS_s, s_X12_waysAt_51, runS_s, s_X12_waysAt_54, nI_1, nI_1]
        rw [if_pos (Or.inr e2)] at hst
        rw [← hst]
        exact ih (i + 1) n (by omega) (by omega)
      · rw [if_neg (by rw [nI_eq (by omega) (by omega)]; exact e2), runS_s, s_X12_waysAt_54, nI_1]
        have hst : wyN P a (i + 1) = wyN P a i := by rw [hst, if_neg (by omega)]; rfl
        rw [← hst]
        exact ih (i + 1) (n + 1) (by omega) (by omega)
theorem ev_waysAt (hd : 1 ≤ d) (h : PlR P I) (a : Nat) (ha : a < 100) : EV d T0 213 [.ref 192, .int (nI a)] (I, J) = some (some (.int (nI (wyN P a (xS P)))), (I, J)) := by
  obtain ⟨d, rfl⟩ : ∃ z, d = z + 1 := ⟨d - 1, by omega⟩
  have h10 := h.S10
  rw [e_X12_waysAt, runS_M, s_X12_waysAt_0, h.v, show (10 : Int32) * nI (xv P) = nI (10 * xv P + 0) from (pk_mul 10 (xv P))]
  exact lp_waysAt h a ha (xS P) 0 999999 (by omega) (by omega)
theorem lp_looks {i : Nat} (hi : i < 10) {r : Rs} : ∀ (k j n : Nat) (f : Nat → Int32), j + k = 9 → k + 5 < n →
    (∀ n', 3 ≤ n' → runS (EV d) none 3 T0 C_X12_looks k_X12_looks rtV f_X12_looks n' 2 [.ref 192, .int (nI i), .int (nI 9)] [] (cs I 227 (fillF f 0 9), J) = some r) →
    runS (EV d) none 3 T0 C_X12_looks k_X12_looks rtV f_X12_looks n 2 [.ref 192, .int (nI i), .int (nI j)] [] (cs I 227 (fillF f 0 j), J) = some r := by
  intro k
  induction k with
  | zero =>
    intro j n f hj hn hr
    have e : j = 9 := by omega
    subst e
    exact hr n (by omega)
  | succ k ih =>
    intro j n f hj hn hr
    obtain ⟨n, rfl⟩ : ∃ z, n = z + 1 := ⟨n - 1, by omega⟩
    rw [runS_s, s_X12_looks_2, if_neg (show ¬ (9 : Int32) ≤ nI (j) from nI_ge (a := j) (b := 9) (by omega) (by omega)), chk_in (by omega) (by omega), nI_clamp (by omega), nI_1, wr_cs2, fillF_s]
    exact ih (j + 1) n f (by omega) (by omega) hr
theorem ev_looks (hd : 2 ≤ d) (h : PlR P I) {i : Nat} (hi : i < xS P) : ∃ I', EV d T0 214 [.ref 192, .int (nI i)] (I, J) = some (none, (I', J)) ∧ kp [227] I I' ∧ ∀ j, j < 9 → I' 227 j = vF (nI (xl P i)) (I 230 i) (I 230 31) 0 0 (nI i) 0 0 (nI (wyN P (xf P i) (xS P))) j := by
  obtain ⟨d, rfl⟩ : ∃ z, d = z + 1 := ⟨d - 1, by omega⟩
  have hv := h.v2
  have h10 := h.S10
  have hN := h.N7
  obtain ⟨-, ⟨g1, -⟩, -, -, -, f6, f7, f8⟩ := h.sm hi
  let I1 : Nat → Nat → Int32 := p_wr (p_wr (p_wr (p_wr (cs I 227 (fillF (I 227) 0 9)) 227 0 (nI (xl P i))) 227 1 (I 230 i)) 227 2 (I 230 31)) 227 5 (nI i)
  have hk1 : kp [227] I I1 := by
    repeat' refine kp.wr ?_ (by decide)
    exact kp.rf.cs (by decide)
  have h1 : PlR P I1 := plr_kx h hk1 (by decide) (by rw [hk1 192 (by decide)])
  refine ⟨p_wr I1 227 8 (nI (wyN P (xf P i) (xS P))), ?_, hk1.wr (by decide), ?_⟩
  · rw [e_X12_looks, runS_M, s_X12_looks_0]
    have hz := lp_looks (d := d) (I := I) (J := J) (i := i) (by omega) (r := (none, (p_wr I1 227 8 (nI (wyN P (xf P i) (xS P))), J))) 9 0 999999 (I 227) (by omega) (by omega) (fun n' hn' => ?_)
    · rw [fillF_0, cs_self] at hz
      exact hz
    · obtain ⟨n, rfl⟩ : ∃ z, n' = z + 1 + 1 := ⟨n' - 2, by omega⟩
      rw [runS_s, s_X12_looks_2, if_pos (by decide), cs_ne (show (192 : Nat) ≠ 227 by decide), cs_ne (show (206 : Nat) ≠ 227 by decide), cs_ne (show (230 : Nat) ≠ 227 by decide), h.v, ten_nI, chk_in (by omega) (by omega), chk_in (by omega) (by omega), nI_clamp (by omega), nI_clamp (by omega), f8, runS_s, s_X12_looks_53]
      simp only [wr_ne (show (192 : Nat) ≠ 227 by decide), wr_ne (show (204 : Nat) ≠ 227 by decide), wr_ne (show (230 : Nat) ≠ 227 by decide), cs_ne (show (192 : Nat) ≠ 227 by decide), cs_ne (show (204 : Nat) ≠ 227 by decide), cs_ne (show (230 : Nat) ≠ 227 by decide), h.v, ten_nI]
      rw [chk_in (by omega) (by omega), nI_clamp (by omega), f6, ev_waysAt (by omega) h1 (xf P i) (by omega), p_ci_s]
      rfl
  · intro j hj
    have hc : j = 0 ∨ j = 1 ∨ j = 2 ∨ j = 3 ∨ j = 4 ∨ j = 5 ∨ j = 6 ∨ j = 7 ∨ j = 8 := by omega
    rcases hc with rfl | rfl | rfl | rfl | rfl | rfl | rfl | rfl | rfl <;> simp [I1, wr_eq, upd, vF, cs_eq, fillF]
theorem ev_costsNow (hd : 4 ≤ d) (h : PlR P I) {i : Nat} (hi : i < xS P) : ∃ I', EV d T0 217 [.ref 192, .int (nI i)] (I, J) = some (some (.int (costF P i (I 230 i) (I 230 31))), (I', J)) ∧ kp [227, 228, 192] I I' ∧ k53 I I' := by
  obtain ⟨d, rfl⟩ : ∃ z, d = z + 1 := ⟨d - 1, by omega⟩
  have h10 := h.S10
  obtain ⟨I1, t1, t2, t3⟩ := ev_looks (d := d) (J := J) (by omega) h hi
  rw [e_X12_costsNow, runS_M, s_X12_costsNow_0, t1, p_cv_s, chk_in (by omega) (by omega), nI_clamp (by omega)]
  have hgo : ∀ nw : Int32, nw = (if I 230 i = 0 then 1 else 0) → ∃ I', p_ci (EV d T0 215 [.ref 192, .int 0, .int 1] (p_wr I1 227 7 nw, J)) (fun v5 z4 => rtI (some (.int v5)) z4) = some (some (.int (costF P i (I 230 i) (I 230 31))), (I', J)) ∧ kp [227, 228, 192] I I' ∧ k53 I I' := by
    intro nw hnw
    have k1 : kp [227] I (p_wr I1 227 7 nw) := t2.wr (by decide)
    have h1 : PlR P (p_wr I1 227 7 nw) := plr_kx h k1 (by decide) (by rw [k1 192 (by decide)])
    obtain ⟨I2, u1, u2, u3⟩ := ev_asks (d := d) (J := J) (by omega) h1 (k := 0) (by decide) (x := 0) (pl := 1) rfl rfl
    refine ⟨I2, ?_, (k1.up (by decide)).tr (u2.up (by decide)), fun j hj => by rw [u3 j hj, k1 192 (by decide)]⟩
    rw [u1, p_ci_s, h99_lawF (i := i) (sw := I 230 i) (wk := I 230 31) (fr := 0) (ca := 0) (ld := 0) (nw := nw) (h.lw (by decide)).1 ?_]
    · rw [hnw]; rfl
    · intro j hj
      by_cases e : j = 7
      · subst e; rw [wr_eq, pk_us]; rfl
      · rw [vs_wr e, t3 j hj]
        unfold vF
        simp only [if_neg e]
  have e230 : I1 230 i = I 230 i := by rw [t2 230 (by decide)]
  by_cases hs : I 230 i = 0
  · rw [if_pos (show I1 230 i = 0 by rw [e230]; exact hs)]; exact hgo 1 (by rw [if_pos hs])
  · rw [if_neg (show ¬ I1 230 i = 0 by rw [e230]; exact hs)]; exact hgo 0 (by rw [if_neg hs])
theorem ev_wearsNow (hd : 4 ≤ d) (h : PlR P I) {i : Nat} (hi : i < xS P) (fz : Prop) [Decidable fz] (ca : Int32) : ∃ I', EV d T0 218 [.ref 192, .int (nI i), .int (zI fz), .int ca] (I, J) = some (some (.int (wearF P i (I 230 i) (I 230 31) (zI fz) ca)), (I', J)) ∧ kp [227, 228, 192] I I' ∧ k53 I I' := by
  obtain ⟨d, rfl⟩ : ∃ z, d = z + 1 := ⟨d - 1, by omega⟩
  have h10 := h.S10
  obtain ⟨I1, t1, t2, t3⟩ := ev_looks (d := d) (J := J) (by omega) h hi
  rw [e_X12_wearsNow, runS_M, s_X12_wearsNow_0, t1, p_cv_s]
  have hgo : ∀ fr : Int32, ∃ I', p_ci (EV d T0 215 [.ref 192, .int 1, .int 1] (p_wr (p_wr I1 227 3 fr) 227 4 ca, J)) (fun v5 z4 => rtI (some (.int v5)) z4) = some (some (.int (wearF P i (I 230 i) (I 230 31) fr ca)), (I', J)) ∧ kp [227, 228, 192] I I' ∧ k53 I I' := by
    intro fr
    have k1 : kp [227] I (p_wr (p_wr I1 227 3 fr) 227 4 ca) := (t2.wr (by decide)).wr (by decide)
    have h1 : PlR P (p_wr (p_wr I1 227 3 fr) 227 4 ca) := plr_kx h k1 (by decide) (by rw [k1 192 (by decide)])
    obtain ⟨I2, u1, u2, u3⟩ := ev_asks (d := d) (J := J) (by omega) h1 (k := 1) (by decide) (x := 1) (pl := 1) rfl rfl
    refine ⟨I2, ?_, (k1.up (by decide)).tr (u2.up (by decide)), fun j hj => by rw [u3 j hj, k1 192 (by decide)]⟩
    rw [u1, p_ci_s, h99_lawF (i := i) (sw := I 230 i) (wk := I 230 31) (fr := fr) (ca := ca) (ld := 0) (nw := 0) (h.lw (by decide)).1 ?_]
    · rfl
    · intro j hj
      by_cases e : j = 4
      · subst e; rw [wr_eq, pk_us]; rfl
      · rw [vs_wr e]
        by_cases e3 : j = 3
        · subst e3; rw [wr_eq, pk_us]; rfl
        · rw [vs_wr e3, t3 j hj]
          unfold vF
          simp only [if_neg e, if_neg e3]
  by_cases hs : fz
  · rw [zI_t hs, if_neg (by decide)]; exact hgo 1
  · rw [zI_f hs, if_pos rfl]; exact hgo 0
theorem lim1 (x : Int32) : (if (1 : Int32) ≤ x then x else 1) = if (1 : Int32) < x then x else 1 := by
  by_cases h : (1 : Int32) < x
  · rw [if_pos h, if_pos (by rw [Int32.le_iff_toInt_le]; rw [Int32.lt_iff_toInt_lt] at h; omega)]
  · rw [if_neg h]
    by_cases h2 : (1 : Int32) ≤ x
    · rw [if_pos h2]
      apply Int32.toInt_inj.mp
      rw [Int32.lt_iff_toInt_lt] at h
      rw [Int32.le_iff_toInt_le] at h2
      omega
    · rw [if_neg h2]
theorem ev_wayOf (hd : 4 ≤ d) (h : PlR P I) {i : Nat} (hi : i < xS P) : ∃ I', EV d T0 219 [.ref 192, .int (nI i)] (I, J) = some (some (.int (wayF P i (I 230 i) (I 230 31))), (I', J)) ∧ kp [227, 228, 192] I I' ∧ k53 I I' := by
  obtain ⟨d, rfl⟩ : ∃ z, d = z + 1 := ⟨d - 1, by omega⟩
  have h10 := h.S10
  have hv := h.v2
  obtain ⟨I1, t1, t2, t3⟩ := ev_looks (d := d) (J := J) (by omega) h hi
  have h1 : PlR P I1 := plr_kx h t2 (by decide) (by rw [t2 192 (by decide)])
  obtain ⟨I2, u1, u2, u3⟩ := ev_asks (d := d) (J := J) (by omega) h1 (k := 2) (by decide) (x := 2) (pl := 0) rfl rfl
  refine ⟨I2, ?_, (t2.up (by decide)).tr (u2.up (by decide)), fun j hj => by rw [u3 j hj, t2 192 (by decide)]⟩
  rw [e_X12_wayOf, runS_M, s_X12_wayOf_0, t1, p_cv_s]
  dsimp only
  rw [h1.v, ten_nI, chk_in (by omega) (by omega), nI_clamp (by omega), u1, p_ci_s, (h1.sm hi).2.2.2.2.2.2.2, h99_lawF (i := i) (sw := I 230 i) (wk := I 230 31) (fr := 0) (ca := 0) (ld := 0) (nw := 0) (h.lw (by decide)).1 t3, show (999999 : Nat) = 999998 + 1 from rfl, runS_s, s_X12_wayOf_27]
  have e9 := lim1 (nI (xl P i) - lawF P 2 i (I 230 i) (I 230 31) 0 0 0 0)
  unfold wayF
  rw [← e9]
  by_cases hq : (1 : Int32) ≤ nI (xl P i) - lawF P 2 i (I 230 i) (I 230 31) 0 0 0 0
  · rw [if_pos hq, if_pos hq]; rfl
  · rw [if_neg hq, if_neg hq]; rfl
theorem ev_tollOf (hd : 4 ≤ d) (h : PlR P I) {i : Nat} (hi : i < xS P) (ld : Int32) : ∃ I', EV d T0 220 [.ref 192, .int (nI i), .int ld] (I, J) = some (some (.int (tollF P i (I 230 i) (I 230 31) ld)), (I', J)) ∧ kp [227, 228, 192] I I' ∧ k53 I I' := by
  obtain ⟨d, rfl⟩ : ∃ z, d = z + 1 := ⟨d - 1, by omega⟩
  have h10 := h.S10
  obtain ⟨I1, t1, t2, t3⟩ := ev_looks (d := d) (J := J) (by omega) h hi
  have k1 : kp [227] I (p_wr I1 227 6 ld) := t2.wr (by decide)
  have h1 : PlR P (p_wr I1 227 6 ld) := plr_kx h k1 (by decide) (by rw [k1 192 (by decide)])
  obtain ⟨I2, u1, u2, u3⟩ := ev_asks (d := d) (J := J) (by omega) h1 (k := 3) (by decide) (x := 3) (pl := I1 227 0) rfl (by
    show I1 227 0 = p_wr I1 227 6 ld 227 0
    rw [vs_wr (by decide)])
  refine ⟨I2, ?_, (k1.up (by decide)).tr (u2.up (by decide)), fun j hj => by rw [u3 j hj, k1 192 (by decide)]⟩
  rw [e_X12_tollOf, runS_M, s_X12_tollOf_0, t1, p_cv_s]
  dsimp only
  rw [u1, p_ci_s, h99_lawF (i := i) (sw := I 230 i) (wk := I 230 31) (fr := 0) (ca := 0) (ld := ld) (nw := 0) (h.lw (by decide)).1 ?_]
  · rfl
  · intro j hj
    by_cases e : j = 6
    · subst e; rw [wr_eq, pk_us]; rfl
    · rw [vs_wr e, t3 j hj]
      unfold vF
      simp only [if_neg e]
end RuC
