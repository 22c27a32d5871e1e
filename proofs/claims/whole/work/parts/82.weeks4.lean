/-! ===== weeks: the reference's ===== -/
def rwK (I I' : Nat → Nat → Int32) : Prop := ∀ j, j < 10 ∨ j = 30 ∨ j = 31 → I' 230 j = I 230 j
/-- the row, its ways, what is carted -/
def MX (P : PP) (I : Nat → Nat → Int32) (x : XS) : Prop := PlR P I ∧ swR P (I 230) x.1 ∧ I 230 31 = x.2.1 ∧ ctM P (I 230) x.2.2 ∧ ctV P x.2.2
theorem wr230_ct {P : PP} {I : Nat → Nat → Int32} {q : Nat → Nat → Int32} (h : ctM P (I 230) q) (h4 : xC P ≤ 4) {c f : Nat} (hc : c < 4) (x : Int32) : ctM P (p_wr I 230 (10 + 4 * f + c) x 230) (qU q c f x) := by
  rw [wr_eq]; exact h.set h4 hc x
section QL
variable {P : PP} {I : Nat → Nat → Int32} {J : Nat → Nat → Int64} {d : Nat} {s : Nat → Nat} {wk : Int32}
theorem ev_roadOf (hd : 2 ≤ d) (h : PlR P I) {w : Nat → Nat} {a c : Nat} (hc : c < xC P) (ha : a < xN P) (hat : I 230 (10 + c) = nI a) (hw : wOK P w) (hwy : ∀ i, i < xS P → I 232 i = nI (w i)) : ∃ I', EV d T0 225 [.ref 192, .int (nI c)] (I, J) = some (some (.int (nbI (nxF P w (dsP P w (xb P c)) a))), (I', J)) ∧ kp [231] I I' := by
  obtain ⟨d, rfl⟩ : ∃ z, d = z + 1 := ⟨d - 1, by omega⟩
  have h4 := h.C4
  have hv := h.v2
  have h10 := h.S10
  obtain ⟨-, ⟨b1, b2, b3, b4⟩, -, k2, -⟩ := h.ct hc
  obtain ⟨f, v1, v2⟩ := ev_farR (d := d) (J := J) (by omega) h hw hwy b2
  have kf : kp [231] I (cs I 231 f) := kp.rf.cs (by decide)
  refine ⟨cs I 231 f, ?_, kf⟩
  rw [e_X12_roadOf, runS_M, s_X12_roadOf_0, h.v, four_nI, chk_in (by omega) (by omega), nI_clamp (by omega), k2, v1, p_cv_s]
  exact lp_road (by omega) (plr_kx h kf (by decide) (by rw [kf 192 (by decide)])) (by omega) ha (by rw [kf 230 (by decide)]; exact hat) hw (fun i hi => by rw [kf 232 (by decide)]; exact hwy i hi) (fun b hb => dsP_bnd h hw b2 hb) (fun b => ds_le) (fun j hj => by rw [cs_eq]; exact v2 j hj) (xS P) 0 999999 none (by omega) (by omega) (fun q hq => by cases hq)
set_option maxHeartbeats 1000000 in
theorem ev_cartGoes (hd : 5 ≤ d) {x : (Nat → Nat → Int32) × (Nat → Int32)} (h : MX P I (s, wk, x.1)) (hwy : ∀ i, i < xS P → I 232 i = nI (wyW P s wk i)) (hr : ∀ i, i < xS P → I 233 i = x.2 i) {c : Nat} (hc : c < xC P) (hon : x.1 c 1 = 1) :
    ∃ I', EV d T0 226 [.ref 192, .int (nI c)] (I, J) = some (none, (I', J)) ∧ kp [227, 228, 230, 231, 233, 192] I I' ∧ k53 I I' ∧ rwK I I' ∧ ctM P (I' 230) (mvC P s wk x c).1 ∧ ∀ i, i < xS P → I' 233 i = (mvC P s wk x c).2 i := by
  obtain ⟨d, rfl⟩ : ∃ z, d = z + 1 := ⟨d - 1, by omega⟩
  obtain ⟨h1, h2, h3, hm, hV⟩ := h
  dsimp only at h2 h3 hm hV
  have h4 := h1.C4
  have h7 := h1.N7
  have h10 := h1.S10
  have hv := h1.v2
  obtain ⟨⟨t, ht, ea⟩, -⟩ := hV c hc
  obtain ⟨-, ⟨b1, b2, b3, b4⟩, k1, k2, k3⟩ := h1.ct hc
  have hok := wyW_ok h1 s wk
  have eat : I 230 (10 + c) = nI t := (hm c hc 0 (by omega)).trans ea
  have hDb : ∀ b, dsP P (wyW P s wk) (xb P c) b < 99999 → dsP P (wyW P s wk) (xb P c) b ≤ 693 := fun b hb => dsP_bnd h1 hok b2 hb
  have hnV := nxF_V h1 (a := t) (D := dsP P (wyW P s wk) (xb P c)) hok hDb
  obtain ⟨I1, t1, t2⟩ := ev_roadOf (d := d) (J := J) (by omega) h1 hc ht eat hok hwy
  have kA : kp [227, 228, 230, 231, 233, 192] I I1 := t2.up (by decide)
  have e230 : I1 230 = I 230 := t2 230 (by decide)
  have e192 : I1 192 = I 192 := t2 192 (by decide)
  have p1 : PlR P I1 := plr_kx h1 t2 (by decide) (by rw [e192])
  have hmv : mvC P s wk x c = (match nxF P (wyW P s wk) (dsP P (wyW P s wk) (xb P c)) t with
    | none => (qU x.1 c 3 (x.1 c 3 + 1), x.2)
    | some q => mvG P s wk x c q.1 (othN P q.1 t)) := by
    unfold mvC
    rw [if_pos hon, ea, nI_clamp (by omega)]
    cases nxF P (wyW P s wk) (dsP P (wyW P s wk) (xb P c)) t <;> rfl
  have e10 : (10 : Int32) + nI c = nI (10 + c) := nI_add 10 c
  have e14 : (14 : Int32) + nI c = nI (14 + c) := nI_add 14 c
  have e18 : (18 : Int32) + nI c = nI (18 + c) := nI_add 18 c
  have e22 : (22 : Int32) + nI c = nI (22 + c) := nI_add 22 c
  have e26 : (26 : Int32) + nI c = nI (26 + c) := nI_add 26 c
  have hp : ∀ (j : Nat) (z : Option Rs), j < 32 → p_chk (p_in (nI j) 32) z = z := fun j z hj => chk_in hj (by omega)
  rw [e_X12_cartGoes, runS_M, s_X12_cartGoes_0, t1, p_ci_s, hmv]
  cases hn : nxF P (wyW P s wk) (dsP P (wyW P s wk) (xb P c)) t with
  | none =>
    rw [if_neg (show ¬ (0 : Int32) ≤ nbI none by decide), e22, hp _ _ (by omega), hp _ _ (by omega), nI_clamp (by omega)]
    dsimp only
    rw [e230]
    refine ⟨_, rfl, kA.wr (by decide), fun j _ => by rw [wr_ne (by decide), e192], fun j hj => ?_, ?_, fun i hi => ?_⟩
    · rw [wr_eq, pk_un (by omega), e230]
    · have := wr230_ct (I := I1) (q := x.1) (by rw [e230]; exact hm) h4 (c := c) (f := 3) (by omega) (x.1 c 3 + 1)
      rw [show I 230 (22 + c) = x.1 c 3 from hm c hc 3 (by omega)]
      exact this
    · rw [wr_ne (by decide), t2 233 (by decide)]; exact hr i hi
  | some q =>
    have hq := (hnV q hn).1
    have ho := othN_lt h1 (a := t) hq
    have hinc : xf P q.1 = t ∨ xg P q.1 = t := by
      have hg : ∀ (k i : Nat) (b : Option (Nat × Nat)), (∀ z, b = some z → xf P z.1 = t ∨ xg P z.1 = t) → ∀ z, (List.range' i k).foldl (nxS P (wyW P s wk) (dsP P (wyW P s wk) (xb P c)) t) b = some z → xf P z.1 = t ∨ xg P z.1 = t := by
        intro k
        induction k with
        | zero => intro i b hb; exact hb
        | succ k ih =>
          intro i b hb
          refine ih (i + 1) _ (fun z hz => ?_)
          unfold nxS nxT at hz
          split at hz
          · rename_i hcc
            split at hz
            · cases hz; exact hcc.1
            · split at hz
              · cases hz; exact hb _ rfl
              · cases hz; exact hcc.1
          · exact hb z hz
      exact hg (xS P) 0 none (fun z hz => by cases hz) q hn
    have eo : (if xf P q.1 = t then nI (xg P q.1) else if xg P q.1 = t then nI (xf P q.1) else (-1 : Int32)) = nI (othN P q.1 t) := by
      unfold othN
      by_cases e1 : xf P q.1 = t
      · rw [if_pos e1, if_pos e1]
      · rw [if_neg e1, if_neg e1, if_pos (hinc.resolve_left e1)]
    rw [if_pos (show (0 : Int32) ≤ nbI (some q) from nI_pos' (by omega)), e10, hp _ _ (by omega), nI_clamp (by omega)]
    dsimp only
    rw [e230, eat]
    show ∃ I', p_ci (EV d T0 224 [.ref 192, .int (nI q.1), .int (nI t)] (I1, J)) _ = _ ∧ _
    rw [ev_otherEnd (by omega) p1 hq (by omega), p_ci_s, eo, hp _ _ (by omega)]
    let I2 : Nat → Nat → Int32 := p_wr I1 230 (10 + c) (nI (othN P q.1 t))
    have kB : kp [227, 228, 230, 231, 233, 192] I I2 := kA.wr (by decide)
    have f2 : I2 192 = I 192 := by show p_wr I1 230 _ _ 192 = _; rw [wr_ne (by decide), e192]
    have p2 : PlR P I2 := plr_kx h1 kB (by decide) (by rw [f2])
    have r2 : ∀ j, j ≠ 10 + c → I2 230 j = I 230 j := fun j hj => by show p_wr I1 230 _ _ 230 j = _; rw [wr_eq, pk_un hj, e230]
    have c2 : ctM P (I2 230) (qU x.1 c 0 (nI (othN P q.1 t))) := wr230_ct (I := I1) (q := x.1) (by rw [e230]; exact hm) h4 (c := c) (f := 0) (by omega) _
    obtain ⟨I3, w1, w2, w3⟩ := ev_tollOf (d := d) (J := J) (by omega) p2 hq (nI (xd P c))
    rw [r2 q.1 (by omega), (h2 q.1 hq).1, r2 31 (by omega), h3] at w1
    have kC : kp [227, 228, 230, 231, 233, 192] I I3 := kB.tr (w2.up (by decide))
    have f3 : k53 I I3 := fun j hj => by rw [w3 j hj, f2]
    have p3 : PlR P I3 := plr_kx h1 kC (by decide) (f3 18 (by decide))
    have g230 : I3 230 = I2 230 := w2 230 (by decide)
    have g233 : I3 233 q.1 = x.2 q.1 := by rw [w2 233 (by decide)]; show p_wr I1 230 _ _ 233 q.1 = _; rw [wr_ne (by decide), t2 233 (by decide)]; exact hr q.1 hq
    have a213 : I2 213 (4 * xv P + c) = nI (xd P c) := by rw [kB 213 (by decide)]; exact k3
    have a213' : I3 213 (4 * xv P + c) = nI (xd P c) := by rw [kC 213 (by decide)]; exact k3
    have h8 : ∀ z : Option Rs, p_chk (p_in (nI (4 * xv P + c)) 8) z = z := fun z => chk_in (by omega) (by omega)
    have h10' : ∀ z : Option Rs, p_chk (p_in (nI q.1) 10) z = z := fun z => chk_in (by omega) (by omega)
    show ∃ I', runS (EV d) none 3 T0 C_X12_cartGoes k_X12_cartGoes rtV f_X12_cartGoes 999999 47 [.ref 192, .int (nI c), .int (nI q.1)] [] (I2, J) = _ ∧ _
    rw [show (999999 : Nat) = 999997 + 1 + 1 from rfl, runS_s, s_X12_cartGoes_47, e18, hp _ _ (by omega), p2.v, four_nI, h8, nI_clamp (show 4 * xv P + c < 2 ^ 31 by omega), a213, w1, p_ci_s, hp _ _ (by omega), h10']
    dsimp only
    rw [p3.v, four_nI, h8, h10', nI_clamp (show 4 * xv P + c < 2 ^ 31 by omega), nI_clamp (show 18 + c < 2 ^ 31 by omega), nI_clamp (show q.1 < 2 ^ 31 by omega), a213', g233, r2 (18 + c) (by omega), show I 230 (18 + c) = x.1 c 2 from hm c hc 2 (by omega)]
    let I4 : Nat → Nat → Int32 := p_wr (p_wr I3 230 (18 + c) (x.1 c 2 + tollF P q.1 (nI (s q.1)) wk (nI (xd P c)))) 233 q.1 (x.2 q.1 + nI (xd P c))
    have kD : kp [227, 228, 230, 231, 233, 192] I I4 := (kC.wr (by decide)).wr (by decide)
    have f4 : k53 I I4 := fun j hj => by show p_wr (p_wr I3 230 _ _) 233 _ _ 192 j = _; rw [wr_ne (by decide), wr_ne (by decide)]; exact f3 j hj
    have p4 : PlR P I4 := plr_kx h1 kD (by decide) (f4 18 (by decide))
    have g4 : I4 230 = upd (I2 230) (18 + c) (x.1 c 2 + tollF P q.1 (nI (s q.1)) wk (nI (xd P c))) := by show p_wr (p_wr I3 230 _ _) 233 _ _ 230 = _; rw [wr_ne (by decide), wr_eq, g230]
    have c4 : ctM P (I4 230) (qU (qU x.1 c 2 (x.1 c 2 + tollF P q.1 (nI (s q.1)) wk (nI (xd P c)))) c 0 (nI (othN P q.1 t))) := by
      rw [g4]
      have e1 := c2.set h4 (c := c) (f := 2) (by omega) (x.1 c 2 + tollF P q.1 (nI (s q.1)) wk (nI (xd P c)))
      have e2 : qU (qU x.1 c 0 (nI (othN P q.1 t))) c 2 (x.1 c 2 + tollF P q.1 (nI (s q.1)) wk (nI (xd P c))) = qU (qU x.1 c 2 (x.1 c 2 + tollF P q.1 (nI (s q.1)) wk (nI (xd P c)))) c 0 (nI (othN P q.1 t)) := by
        funext c' f'
        unfold qU
        by_cases z1 : c' = c ∧ f' = 2
        · rw [if_pos z1, if_neg (by omega), if_pos z1]
        · rw [if_neg z1]
          by_cases z2 : c' = c ∧ f' = 0
          · rw [if_pos z2, if_pos z2]
          · rw [if_neg z2, if_neg z2, if_neg z1]
      rw [e2] at e1
      exact e1
    have r4 : ∀ i, i < xS P → I4 233 i = if i = q.1 then x.2 q.1 + nI (xd P c) else x.2 i := by
      intro i hi
      show p_wr (p_wr I3 230 _ _) 233 _ _ 233 i = _
      rw [wr_eq]
      by_cases e : i = q.1
      · rw [if_pos e, e, pk_us]
      · rw [if_neg e, pk_un e, wr_ne (by decide), w2 233 (by decide)]
        show p_wr I1 230 _ _ 233 i = _
        rw [wr_ne (by decide), t2 233 (by decide)]; exact hr i hi
    have w4 : rwK I I4 := fun j hj => by rw [g4, pk_un (by omega)]; exact r2 j (by omega)
    show ∃ I', runS (EV d) none 3 T0 C_X12_cartGoes k_X12_cartGoes rtV f_X12_cartGoes (999997 + 1) 99 [.ref 192, .int (nI c), un] [] (I4, J) = _ ∧ _
    have a10 : I4 230 (10 + c) = nI (othN P q.1 t) := (c4 c hc 0 (by omega)).trans qU_eq
    have a212 : I4 212 (4 * xv P + c) = nI (xb P c) := by rw [kD 212 (by decide)]; exact k2
    rw [runS_s, s_X12_cartGoes_99, e10, hp _ _ (by omega), p4.v, four_nI, h8, nI_clamp (show 10 + c < 2 ^ 31 by omega), nI_clamp (show 4 * xv P + c < 2 ^ 31 by omega), a10, a212]
    unfold mvG
    dsimp only
    by_cases e : othN P q.1 t = xb P c
    · rw [if_pos (by rw [e]), if_pos e, e14, e26, hp _ _ (by omega), hp _ _ (by omega), hp _ _ (by omega), nI_clamp (show 14 + c < 2 ^ 31 by omega), nI_clamp (show 26 + c < 2 ^ 31 by omega)]
      have a26 : p_wr I4 230 (14 + c) 0 230 (26 + c) = x.1 c 4 := by
        rw [wr_eq, pk_un (by omega), c4 c hc 4 (by omega), qU_ne (by omega), qU_ne (by omega)]
      rw [a26]
      refine ⟨_, rfl, (kD.wr (by decide)).wr (by decide), fun j hj => by rw [wr_ne (by decide), wr_ne (by decide)]; exact f4 j hj, fun j hj => ?_, ?_, fun i hi => ?_⟩
      · rw [wr_eq, pk_un (by omega), wr_eq, pk_un (by omega)]; exact w4 j hj
      · have e1 := c4.set h4 (c := c) (f := 1) (by omega) 0
        have e2 := e1.set h4 (c := c) (f := 4) (by omega) (x.1 c 4 + 1)
        rw [wr_eq, wr_eq]
        exact e2
      · rw [wr_ne (by decide), wr_ne (by decide)]; exact r4 i hi
    · rw [if_neg (by rw [nI_eq (by omega) (by omega)]; exact e), if_neg e]
      exact ⟨I4, rfl, kD, f4, w4, c4, r4⟩
end QL
