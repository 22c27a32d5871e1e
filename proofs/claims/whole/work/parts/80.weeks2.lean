/-! ===== weeks: the class's ===== -/
/-- behind a week's wear -/
def wrN (P : PP) (s : Nat → Nat) (wk fz : Int32) (ca : Nat → Int32) (i : Nat) : Nat := s i - (wearF P i (nI (s i)) wk fz (ca i)).toNatClampNeg
abbrev XS : Type := (Nat → Nat) × Int32 × (Nat → Nat → Int32)
def mvA (P : PP) (s : Nat → Nat) (wk : Int32) (q : Nat → Nat → Int32) : (Nat → Nat → Int32) × (Nat → Int32) := (List.range' 0 (xC P)).foldl (mvC P s wk) (q, fun _ => 0)
/-- a week -/
def wk1 (P : PP) (sd : Int32) (x : XS) : XS := (wrN P x.1 x.2.1 (zI (¬ xz P ≤ lotF sd x.2.1)) (mvA P x.1 x.2.1 x.2.2).2, x.2.1 + 1, (mvA P x.1 x.2.1 x.2.2).1)
def wkI (P : PP) (sd : Int32) : Nat → XS → XS
  | 0, x => x
  | k + 1, x => wkI P sd k (wk1 P sd x)
section QJ
variable {P : PP} {I : Nat → Nat → Int32} {J : Nat → Nat → Int64} {d : Nat} {s : Nat → Nat} {wk : Int32}
theorem mvC_V (h : PlR P I) {x : (Nat → Nat → Int32) × (Nat → Int32)} (hx : ctV P x.1) {c : Nat} (hc : c < xC P) : ctV P (mvC P s wk x c).1 := by
  have h7 := h.N7
  have hok := wyW_ok h s wk
  obtain ⟨-, ⟨-, b2, -⟩, -⟩ := h.ct hc
  have hV := nxF_V h (a := (x.1 c 0).toNatClampNeg) (D := dsP P (wyW P s wk) (xb P c)) hok (fun b hb => dsP_bnd h hok b2 hb)
  intro c' hc'
  have h0 := hx c' hc'
  unfold mvC
  split
  · cases hn : nxF P (wyW P s wk) (dsP P (wyW P s wk) (xb P c)) (x.1 c 0).toNatClampNeg with
    | none =>
      dsimp only
      rw [qU_ne (by omega), qU_ne (by omega)]; exact h0
    | some q =>
      have hq := hV q hn
      have ho := othN_lt h (a := (x.1 c 0).toNatClampNeg) hq.1
      dsimp only
      unfold mvG
      dsimp only
      by_cases e : c' = c
      · subst e
        split
        · rw [qU_ne (by omega), qU_ne (by omega), qU_eq, qU_ne (by omega), qU_eq]
          exact ⟨⟨_, ho, rfl⟩, Or.inl rfl⟩
        · rw [qU_eq, qU_ne (by omega), qU_ne (by omega)]
          exact ⟨⟨_, ho, rfl⟩, h0.2⟩
      · split
        · rw [qU_ne (by omega), qU_ne (by omega), qU_ne (by omega), qU_ne (by omega), qU_ne (by omega), qU_ne (by omega), qU_ne (by omega), qU_ne (by omega)]; exact h0
        · rw [qU_ne (by omega), qU_ne (by omega), qU_ne (by omega), qU_ne (by omega)]; exact h0
  · exact h0
theorem mvC_1 {x : (Nat → Nat → Int32) × (Nat → Int32)} {c c' f : Nat} (hne : c' ≠ c) : (mvC P s wk x c).1 c' f = x.1 c' f := by
  unfold mvC
  split
  · cases hn : nxF P (wyW P s wk) (dsP P (wyW P s wk) (xb P c)) (x.1 c 0).toNatClampNeg with
    | none =>
      dsimp only
      rw [qU_ne (by omega)]
    | some q =>
      dsimp only
      unfold mvG
      dsimp only
      split
      · rw [qU_ne (by omega), qU_ne (by omega), qU_ne (by omega), qU_ne (by omega)]
      · rw [qU_ne (by omega), qU_ne (by omega)]
  · rfl
theorem wearF_nI (P : PP) (i : Nat) (sw wk fz ca : Int32) : ∃ m, m ≤ 99 ∧ wearF P i sw wk fz ca = nI m := lawF_nI P 1 i sw wk fz ca 0 0
theorem lp_fill175 {O : Ora} (f : Nat → Int32) : ∀ (k i n : Nat), i + k = 10 → k < n →
    runS O none 4 T0 C_J7_fill_53178 k_J7_fill_53178 rtV f_J7_fill_53178 n 5 [.ref 175, .int 0, .int (nI i), .int (Int32.ofNat 10)] [] (cs I 175 (fillF f 0 i), J) = some (none, (cs I 175 (fillF f 0 10), J)) := by
  intro k
  induction k with
  | zero =>
    intro i n hi hn
    obtain ⟨n, rfl⟩ : ∃ z, n = z + 1 := ⟨n - 1, by omega⟩
    have e7 : i = 10 := by omega
    subst e7
    rw [runS_s, s_J7_fill_53178_175_5, if_pos (by decide)]
    rfl
  | succ k ih =>
    intro i n hi hn
    obtain ⟨n, rfl⟩ : ∃ z, n = z + 1 := ⟨n - 1, by omega⟩
    have e7 : ¬ Int32.ofNat 10 ≤ nI i := nI_ge (a := i) (b := 10) (by omega) (by omega)
    rw [runS_s, s_J7_fill_53178_175_5, if_neg e7, chk_in (by omega) (by omega), nI_clamp (by omega), nI_1, wr_cs2, fillF_s]
    exact ih (i + 1) n (by omega) (by omega)
theorem ev_fill175 (hd : 1 ≤ d) : EV d T0 300 [.ref 175, .int 0] (I, J) = some (none, (cs I 175 (fillF (I 175) 0 10), J)) := by
  obtain ⟨d, rfl⟩ : ∃ z, d = z + 1 := ⟨d - 1, by omega⟩
  rw [e_J7_fill_53178_175, runS_M, s_J7_fill_53178_175_0]
  have h := lp_fill175 (O := EV d) (I := I) (J := J) (I 175) 10 0 999999 (by omega) (by omega)
  rw [fillF_0, cs_self] at h
  exact h
theorem q_cf_39 (hd : 1 ≤ d) {c f : Nat} (hc : c < 4) (hf : f < 5) {x : Int32} (hx : x = nI f) : EV d T0 92 [.ref 39, .int (nI c), .int x] (I, J) = some (some (.int (I 41 (5 * c + f))), (I, J)) := by
  obtain ⟨d, rfl⟩ : ∃ z, d = z + 1 := ⟨d - 1, by omega⟩
  subst hx
  rw [e_X8_cartField_39, runS_M, s_X8_cartField_39_0, show nI c * (5 : Int32) + nI f = nI (c * 5 + f) from by rw [show (5 : Int32) = nI 5 from rfl, pk_mul, nI_add], chk_in (by omega) (by omega), nI_clamp (by omega), Nat.mul_comm c 5]
  rfl
theorem q_sf_39 (hd : 1 ≤ d) {c f : Nat} (hc : c < 4) (hf : f < 5) {x : Int32} (hx : x = nI f) (v : Int32) : EV d T0 93 [.ref 39, .int (nI c), .int x, .int v] (I, J) = some (none, (p_wr I 41 (5 * c + f) v, J)) := by
  obtain ⟨d, rfl⟩ : ∃ z, d = z + 1 := ⟨d - 1, by omega⟩
  subst hx
  rw [e_X8_setCartField_39, runS_M, s_X8_setCartField_39_0, show nI c * (5 : Int32) + nI f = nI (c * 5 + f) from by rw [show (5 : Int32) = nI 5 from rfl, pk_mul, nI_add], chk_in (by omega) (by omega), nI_clamp (by omega), Nat.mul_comm c 5]
  rfl
theorem q_af_39 (hd : 1 ≤ d) {c f : Nat} (hc : c < 4) (hf : f < 5) {x : Int32} (hx : x = nI f) (v : Int32) : EV d T0 94 [.ref 39, .int (nI c), .int x, .int v] (I, J) = some (none, (p_wr I 41 (5 * c + f) (I 41 (5 * c + f) + v), J)) := by
  obtain ⟨d, rfl⟩ : ∃ z, d = z + 1 := ⟨d - 1, by omega⟩
  subst hx
  rw [e_X8_addToCartField_39, runS_M, s_X8_addToCartField_39_0, show nI c * (5 : Int32) + nI f = nI (c * 5 + f) from by rw [show (5 : Int32) = nI 5 from rfl, pk_mul, nI_add], chk_in (by omega) (by omega), chk_in (by omega) (by omega), nI_clamp (by omega), Nat.mul_comm c 5]
  rfl
theorem q_on_39 (hd : 2 ≤ d) {c : Nat} (hc : c < 4) : EV d T0 95 [.ref 39, .int (nI c)] (I, J) = some (some (.int (zI (¬ I 41 (5 * c + 1) = 0))), (I, J)) := by
  obtain ⟨d, rfl⟩ : ∃ z, d = z + 1 := ⟨d - 1, by omega⟩
  rw [e_X8_isOnRoad_39, runS_M, s_X8_isOnRoad_39_0, q_cf_39 (by omega) hc (f := 1) (by omega) (x := 1) rfl, p_ci_s]
  by_cases h : I 41 (5 * c + 1) = 0
  · rw [if_pos h, zI_f (fun q => q h)]; rfl
  · rw [if_neg h, zI_t h]; rfl
theorem lp_onR_39 (hd : 2 ≤ d) (h : PlR P I) : ∀ (k i n : Nat) (w : Int32), i + k = xC P → k < n →
    runS (EV d) none 4 T0 C_X8_cartsOnRoad k_X8_cartsOnRoad rtI f_X8_cartsOnRoad n 4 [.ref 39, .ref 25, .int w, .int (nI i)] [] (I, J) = some (some (.int ((List.range' i k).foldl (setF (fun c => ¬ I 41 (5 * c + 1) = 0)) w)), (I, J)) := by
  have h4 := h.C4
  intro k
  induction k with
  | zero =>
    intro i n w hi hn
    obtain ⟨n, rfl⟩ : ∃ z, n = z + 1 := ⟨n - 1, by omega⟩
    rw [runS_s, s_X8_cartsOnRoad_39_4, h.C, if_pos (nI_le (by omega) (by omega))]
    rfl
  | succ k ih =>
    intro i n w hi hn
    obtain ⟨n, rfl⟩ : ∃ z, n = z + 1 := ⟨n - 1, by omega⟩
    have hst : ∀ z, (List.range' i (k + 1)).foldl (setF (fun c => ¬ I 41 (5 * c + 1) = 0)) z = (List.range' (i + 1) k).foldl (setF (fun c => ¬ I 41 (5 * c + 1) = 0)) (setF (fun c => ¬ I 41 (5 * c + 1) = 0) z i) := fun _ => rfl
    rw [runS_s, s_X8_cartsOnRoad_39_4, h.C, if_neg (nI_ge (by omega) (by omega)), q_on_39 hd (by omega), p_ci_s, nI_1, hst]
    by_cases hc : I 41 (5 * i + 1) = 0
    · rw [zI_f (fun q => q hc), if_pos rfl, show setF (fun c => ¬ I 41 (5 * c + 1) = 0) w i = w from if_neg (fun q => q hc)]
      exact ih (i + 1) n w (by omega) (by omega)
    · rw [zI_t hc, if_neg (by decide), show setF (fun c => ¬ I 41 (5 * c + 1) = 0) w i = w ||| (1 <<< (nI i &&& 31)) from if_pos hc]
      exact ih (i + 1) n _ (by omega) (by omega)
theorem ev_onR_39 (hd : 3 ≤ d) (h : PlR P I) : ∃ a, EV d T0 97 [.ref 39, .ref 25] (I, J) = some (some (.int a), (I, J)) ∧ a = (List.range' 0 (xC P)).foldl (setF (fun c => ¬ I 41 (5 * c + 1) = 0)) 0 ∧ ∀ c, bt a c = decide (c < xC P ∧ ¬ I 41 (5 * c + 1) = 0) := by
  obtain ⟨d, rfl⟩ : ∃ z, d = z + 1 := ⟨d - 1, by omega⟩
  have h4 := h.C4
  refine ⟨_, ?_, rfl, fun c => ?_⟩
  · rw [e_X8_cartsOnRoad_39, runS_M, s_X8_cartsOnRoad_39_0]
    exact lp_onR_39 (by omega) h (xC P) 0 999999 0 (by omega) (by omega)
  · rw [bt_set _ _ _ (by omega), b_0, Bool.false_or]
    apply decide_eq_decide.mpr
    constructor
    · rintro ⟨_, h2, h3⟩; exact ⟨by omega, h3⟩
    · rintro ⟨h2, h3⟩; exact ⟨by omega, by omega, h3⟩
set_option maxHeartbeats 1000000 in
theorem ev_moveCart_39 (hd : 6 ≤ d) (h : PlR P I) (hs : swR P (I 40) s) (hk : I 39 0 = wk) {x : (Nat → Nat → Int32) × (Nat → Int32)} (hc : ctC P (I 41) x.1) (hV : ctV P x.1) (hr : ∀ i, i < xS P → I 175 i = x.2 i) {m : Int32} (hm : ∀ i, bt m i = decide (i < xS P ∧ 0 < s i)) (hwy : ∀ j, j < xS P → I 176 j = wayF P j (nI (s j)) wk) {c : Nat} (hc4 : c < xC P) (hon : x.1 c 1 = 1) :
    ∃ I', EV d T0 83 [.ref 174, .ref 39, .int (nI c), .int m] (I, J) = some (none, (I', J)) ∧ kp [37, 170, 173, 175, 41] I I' ∧ ctC P (I' 41) (mvC P s wk x c).1 ∧ ∀ i, i < xS P → I' 175 i = (mvC P s wk x c).2 i := by
  obtain ⟨d, rfl⟩ : ∃ z, d = z + 1 := ⟨d - 1, by omega⟩
  have h4 := h.C4
  have h7 := h.N7
  have h10 := h.S10
  obtain ⟨⟨t, ht, ea⟩, -⟩ := hV c hc4
  obtain ⟨⟨k1, k2, k3⟩, ⟨b1, b2, b3, b4⟩, -⟩ := h.ct hc4
  have hok := wyW_ok h s wk
  have hwm : ∀ i, i < xS P → (bt m i = false ∧ wyW P s wk i = 99999) ∨ (bt m i = true ∧ 1 ≤ wyW P s wk i ∧ wyW P s wk i ≤ 99 ∧ I 176 i = nI (wyW P s wk i)) := by
    intro i hi
    rw [hm i]
    by_cases h0 : 0 < s i
    · refine Or.inr ⟨decide_eq_true ⟨hi, h0⟩, ?_⟩
      have h8 := wyW_nI h hi (s := s) (wk := wk) h0
      rw [hwy i hi, h8]
      obtain ⟨y, y1, y2, e⟩ := wayF_nI h hi (nI (s i)) wk
      have : wyW P s wk i = y := by unfold wyW; rw [if_pos h0, e, nI_clamp (by omega)]
      exact ⟨by omega, by omega, rfl⟩
    · exact Or.inl ⟨decide_eq_false (fun h => h0 h.2), by unfold wyW; rw [if_neg h0]⟩
  have hDb : ∀ b, dsP P (wyW P s wk) (xb P c) b < 99999 → dsP P (wyW P s wk) (xb P c) b ≤ 693 := fun b hb => dsP_bnd h hok b2 hb
  obtain ⟨f, v1, v2⟩ := ev_measP (d := d) (J := J) (by omega) h hwm b2
  have kf : kp [37, 170, 173, 175, 41] I (cs I 173 f) := kp.rf.cs (by decide)
  have p1 : PlR P (cs I 173 f) := plr_kx h kf (by decide) (by rw [kf 192 (by decide)])
  have hnx := ev_next (d := d) (J := J) (by omega) p1 (m := m) (a := t) ht (fun i hi => by rw [kf 176 (by decide)]; exact hwm i hi) hDb (fun b => ds_le) (fun j hj => by rw [cs_eq]; exact v2 j hj)
  have hnV := nxF_V h (a := t) (D := dsP P (wyW P s wk) (xb P c)) hok hDb
  have ea' : I 41 (5 * c + 0) = nI t := (hc c hc4 0 (by omega)).trans ea
  have hmv : mvC P s wk x c = (match nxF P (wyW P s wk) (dsP P (wyW P s wk) (xb P c)) t with
    | none => (qU x.1 c 3 (x.1 c 3 + 1), x.2)
    | some q => mvG P s wk x c q.1 (othN P q.1 t)) := by
    unfold mvC
    rw [if_pos hon, ea, nI_clamp (by omega)]
    cases nxF P (wyW P s wk) (dsP P (wyW P s wk) (xb P c)) t <;> rfl
  have hp4 : ∀ z : Option Rs, p_chk (p_in (nI c) 4) z = z := fun z => chk_in (by omega) (by omega)
  rw [e_X7_moveCart_39, runS_M, s_X7_moveCart_39_0, q_cf_39 (by omega) (by omega) (f := 0) (by omega) (x := 0) rfl, p_ci_s, ea', hp4]
  dsimp only
  rw [nI_clamp (show c < 2 ^ 31 by omega), k2, v1, p_cv_s, hnx, p_ci_s, hmv]
  cases hn : nxF P (wyW P s wk) (dsP P (wyW P s wk) (xb P c)) t with
  | none =>
    rw [if_neg (show ¬ (0 : Int32) ≤ nbI none by decide), q_af_39 (by omega) (by omega) (f := 3) (by omega) (x := 3) rfl, p_cv_s]
    refine ⟨_, rfl, kf.wr (by decide), ?_, fun i hi => ?_⟩
    · dsimp only
      rw [wr_eq, cs_ne (show (41 : Nat) ≠ 173 by decide)]
      rw [hc c hc4 3 (by omega)]
      exact hc.set (by omega) _
    · dsimp only
      rw [wr_ne (by decide), cs_ne (show (175 : Nat) ≠ 173 by decide)]; exact hr i hi
  | some q =>
    have hq := (hnV q hn).1
    have ho := othN_lt h (a := t) hq
    have hp : ∀ z : Option Rs, p_chk (p_in (nI q.1) 10) z = z := fun z => chk_in (by omega) (by omega)
    rw [if_pos (show (0 : Int32) ≤ nbI (some q) from nI_pos' (by omega))]
    show ∃ I', p_chk (p_in (nI c) 4) (p_chk (p_in (nI q.1) 10) (p_chk (p_in (nI q.1) 10) (p_chk (p_in (nI q.1) 10) _))) = _ ∧ _
    rw [hp4, hp, hp, hp]
    have e34 : cs I 173 f 34 c = nI (xd P c) := by rw [cs_ne (by decide)]; exact k3
    have esw : cs I 173 f 40 q.1 = nI (s q.1) := by rw [cs_ne (by decide)]; exact (hs q.1 hq).1
    have est : cs I 173 f 39 0 = wk := by rw [cs_ne (by decide)]; exact hk
    have e175 : cs I 173 f 175 q.1 = x.2 q.1 := by rw [cs_ne (by decide)]; exact hr q.1 hq
    let I2 : Nat → Nat → Int32 := p_wr (cs I 173 f) 175 q.1 (x.2 q.1 + nI (xd P c))
    have k2' : kp [37, 170, 173, 175, 41] I I2 := kf.wr (by decide)
    have p2 : PlR P I2 := plr_kx h k2' (by decide) (by rw [k2' 192 (by decide)])
    obtain ⟨I3, w1, w2⟩ := ev_tollFor (d := d) (J := J) (by omega) p2 hq (nI (s q.1)) wk (nI (xd P c))
    have k3' : kp [37, 170, 173, 175, 41] I I3 := k2'.tr (w2.up (by decide))
    have eca : I3 41 = I 41 := by rw [w2 41 (by decide)]; show p_wr (cs I 173 f) 175 q.1 _ 41 = _; rw [wr_ne (by decide), cs_ne (by decide)]
    have ecr : I3 175 = upd (I 175) q.1 (x.2 q.1 + nI (xd P c)) := by rw [w2 175 (by decide)]; show p_wr (cs I 173 f) 175 q.1 _ 175 = _; rw [wr_eq, cs_ne (by decide)]
    dsimp only
    show ∃ I', p_ci (EV d T0 57 [.ref 169, .int (nI q.1), .int (cs I 173 f 40 (nI q.1).toNatClampNeg), .int (cs I 173 f 39 0), .int (cs I 173 f 34 c)] (p_wr (cs I 173 f) 175 (nI q.1).toNatClampNeg (cs I 173 f 175 (nI q.1).toNatClampNeg + cs I 173 f 34 c), J)) _ = _ ∧ _
    rw [nI_clamp (show q.1 < 2 ^ 31 by omega), esw, est, e34, e175]
    show ∃ I', p_ci (EV d T0 57 [.ref 169, .int (nI q.1), .int (nI (s q.1)), .int wk, .int (nI (xd P c))] (I2, J)) _ = _ ∧ _
    rw [w1, p_ci_s, q_af_39 (by omega) (by omega) (f := 2) (by omega) (x := 2) rfl, p_cv_s]
    let I4 : Nat → Nat → Int32 := p_wr I3 41 (5 * c + 2) (I3 41 (5 * c + 2) + tollF P q.1 (nI (s q.1)) wk (nI (xd P c)))
    have k4 : kp [37, 170, 173, 175, 41] I I4 := k3'.wr (by decide)
    have p4 : PlR P I4 := plr_kx h k4 (by decide) (by rw [k4 192 (by decide)])
    show ∃ I', p_ci (EV d T0 85 [.ref 174, .int (nI q.1), .int (nI t)] (I4, J)) _ = _ ∧ _
    rw [ev_othC (by omega) p4 hq (by omega), p_ci_s, q_sf_39 (by omega) (by omega) (f := 0) (by omega) (x := 0) rfl, p_cv_s, hp4]
    let I5 : Nat → Nat → Int32 := p_wr I4 41 (5 * c + 0) (nI (othN P q.1 t))
    have k5 : kp [37, 170, 173, 175, 41] I I5 := k4.wr (by decide)
    have e33 : I5 33 c = nI (xb P c) := by rw [k5 33 (by decide)]; exact k2
    have hc5 : ctC P (I5 41) (qU (qU x.1 c 2 (x.1 c 2 + tollF P q.1 (nI (s q.1)) wk (nI (xd P c)))) c 0 (nI (othN P q.1 t))) := by
      show ctC P (p_wr (p_wr I3 41 (5 * c + 2) _) 41 (5 * c + 0) _ 41) _
      rw [wr_eq, wr_eq, eca, hc c hc4 2 (by omega)]
      exact (hc.set (by omega) _).set (by omega) _
    have hr5 : ∀ i, i < xS P → I5 175 i = if i = q.1 then x.2 q.1 + nI (xd P c) else x.2 i := by
      intro i hi
      show p_wr (p_wr I3 41 (5 * c + 2) _) 41 (5 * c + 0) _ 175 i = _
      rw [wr_ne (by decide), wr_ne (by decide), ecr]
      by_cases e : i = q.1
      · rw [if_pos e, e, pk_us]
      · rw [if_neg e, pk_un e]; exact hr i hi
    show ∃ I', (if nI (othN P q.1 t) = I5 33 c then _ else _) = _ ∧ _
    rw [e33]
    unfold mvG
    dsimp only
    by_cases e : othN P q.1 t = xb P c
    · rw [if_pos (by rw [e]), if_pos e]
      show ∃ I', p_cv (EV d T0 93 [.ref 39, .int (nI c), .int 1, .int 0] (I5, J)) _ = _ ∧ _
      rw [q_sf_39 (by omega) (by omega) (f := 1) (by omega) (x := 1) rfl, p_cv_s, q_af_39 (by omega) (by omega) (f := 4) (by omega) (x := 4) rfl, p_cv_s]
      refine ⟨_, rfl, (k5.wr (by decide)).wr (by decide), ?_, fun i hi => ?_⟩
      · rw [wr_eq, wr_eq]
        have e4 : upd (I5 41) (5 * c + 1) 0 (5 * c + 4) = x.1 c 4 := by
          rw [pk_un (by omega), hc5 c hc4 4 (by omega), qU_ne (by omega), qU_ne (by omega)]
        rw [e4]
        exact (hc5.set (by omega) _).set (by omega) _
      · rw [wr_ne (by decide), wr_ne (by decide)]; exact hr5 i hi
    · rw [if_neg (by rw [nI_eq (by omega) (by omega)]; exact e), if_neg e]
      exact ⟨I5, rfl, k5, hc5, hr5⟩
theorem q_cf_42 (hd : 1 ≤ d) {c f : Nat} (hc : c < 4) (hf : f < 5) {x : Int32} (hx : x = nI f) : EV d T0 92 [.ref 42, .int (nI c), .int x] (I, J) = some (some (.int (I 44 (5 * c + f))), (I, J)) := by
  obtain ⟨d, rfl⟩ : ∃ z, d = z + 1 := ⟨d - 1, by omega⟩
  subst hx
  rw [e_X8_cartField_42, runS_M, s_X8_cartField_42_0, show nI c * (5 : Int32) + nI f = nI (c * 5 + f) from by rw [show (5 : Int32) = nI 5 from rfl, pk_mul, nI_add], chk_in (by omega) (by omega), nI_clamp (by omega), Nat.mul_comm c 5]
  rfl
theorem q_sf_42 (hd : 1 ≤ d) {c f : Nat} (hc : c < 4) (hf : f < 5) {x : Int32} (hx : x = nI f) (v : Int32) : EV d T0 93 [.ref 42, .int (nI c), .int x, .int v] (I, J) = some (none, (p_wr I 44 (5 * c + f) v, J)) := by
  obtain ⟨d, rfl⟩ : ∃ z, d = z + 1 := ⟨d - 1, by omega⟩
  subst hx
  rw [e_X8_setCartField_42, runS_M, s_X8_setCartField_42_0, show nI c * (5 : Int32) + nI f = nI (c * 5 + f) from by rw [show (5 : Int32) = nI 5 from rfl, pk_mul, nI_add], chk_in (by omega) (by omega), nI_clamp (by omega), Nat.mul_comm c 5]
  rfl
theorem q_af_42 (hd : 1 ≤ d) {c f : Nat} (hc : c < 4) (hf : f < 5) {x : Int32} (hx : x = nI f) (v : Int32) : EV d T0 94 [.ref 42, .int (nI c), .int x, .int v] (I, J) = some (none, (p_wr I 44 (5 * c + f) (I 44 (5 * c + f) + v), J)) := by
  obtain ⟨d, rfl⟩ : ∃ z, d = z + 1 := ⟨d - 1, by omega⟩
  subst hx
  rw [e_X8_addToCartField_42, runS_M, s_X8_addToCartField_42_0, show nI c * (5 : Int32) + nI f = nI (c * 5 + f) from by rw [show (5 : Int32) = nI 5 from rfl, pk_mul, nI_add], chk_in (by omega) (by omega), chk_in (by omega) (by omega), nI_clamp (by omega), Nat.mul_comm c 5]
  rfl
theorem q_on_42 (hd : 2 ≤ d) {c : Nat} (hc : c < 4) : EV d T0 95 [.ref 42, .int (nI c)] (I, J) = some (some (.int (zI (¬ I 44 (5 * c + 1) = 0))), (I, J)) := by
  obtain ⟨d, rfl⟩ : ∃ z, d = z + 1 := ⟨d - 1, by omega⟩
  rw [e_X8_isOnRoad_42, runS_M, s_X8_isOnRoad_42_0, q_cf_42 (by omega) hc (f := 1) (by omega) (x := 1) rfl, p_ci_s]
  by_cases h : I 44 (5 * c + 1) = 0
  · rw [if_pos h, zI_f (fun q => q h)]; rfl
  · rw [if_neg h, zI_t h]; rfl
theorem lp_onR_42 (hd : 2 ≤ d) (h : PlR P I) : ∀ (k i n : Nat) (w : Int32), i + k = xC P → k < n →
    runS (EV d) none 4 T0 C_X8_cartsOnRoad k_X8_cartsOnRoad rtI f_X8_cartsOnRoad n 4 [.ref 42, .ref 25, .int w, .int (nI i)] [] (I, J) = some (some (.int ((List.range' i k).foldl (setF (fun c => ¬ I 44 (5 * c + 1) = 0)) w)), (I, J)) := by
  have h4 := h.C4
  intro k
  induction k with
  | zero =>
    intro i n w hi hn
    obtain ⟨n, rfl⟩ : ∃ z, n = z + 1 := ⟨n - 1, by omega⟩
    rw [runS_s, s_X8_cartsOnRoad_42_4, h.C, if_pos (nI_le (by omega) (by omega))]
    rfl
  | succ k ih =>
    intro i n w hi hn
    obtain ⟨n, rfl⟩ : ∃ z, n = z + 1 := ⟨n - 1, by omega⟩
    have hst : ∀ z, (List.range' i (k + 1)).foldl (setF (fun c => ¬ I 44 (5 * c + 1) = 0)) z = (List.range' (i + 1) k).foldl (setF (fun c => ¬ I 44 (5 * c + 1) = 0)) (setF (fun c => ¬ I 44 (5 * c + 1) = 0) z i) := fun _ => rfl
    rw [runS_s, s_X8_cartsOnRoad_42_4, h.C, if_neg (nI_ge (by omega) (by omega)), q_on_42 hd (by omega), p_ci_s, nI_1, hst]
    by_cases hc : I 44 (5 * i + 1) = 0
    · rw [zI_f (fun q => q hc), if_pos rfl, show setF (fun c => ¬ I 44 (5 * c + 1) = 0) w i = w from if_neg (fun q => q hc)]
      exact ih (i + 1) n w (by omega) (by omega)
    · rw [zI_t hc, if_neg (by decide), show setF (fun c => ¬ I 44 (5 * c + 1) = 0) w i = w ||| (1 <<< (nI i &&& 31)) from if_pos hc]
      exact ih (i + 1) n _ (by omega) (by omega)
theorem ev_onR_42 (hd : 3 ≤ d) (h : PlR P I) : ∃ a, EV d T0 97 [.ref 42, .ref 25] (I, J) = some (some (.int a), (I, J)) ∧ a = (List.range' 0 (xC P)).foldl (setF (fun c => ¬ I 44 (5 * c + 1) = 0)) 0 ∧ ∀ c, bt a c = decide (c < xC P ∧ ¬ I 44 (5 * c + 1) = 0) := by
  obtain ⟨d, rfl⟩ : ∃ z, d = z + 1 := ⟨d - 1, by omega⟩
  have h4 := h.C4
  refine ⟨_, ?_, rfl, fun c => ?_⟩
  · rw [e_X8_cartsOnRoad_42, runS_M, s_X8_cartsOnRoad_42_0]
    exact lp_onR_42 (by omega) h (xC P) 0 999999 0 (by omega) (by omega)
  · rw [bt_set _ _ _ (by omega), b_0, Bool.false_or]
    apply decide_eq_decide.mpr
    constructor
    · rintro ⟨_, h2, h3⟩; exact ⟨by omega, h3⟩
    · rintro ⟨h2, h3⟩; exact ⟨by omega, by omega, h3⟩
set_option maxHeartbeats 1000000 in
theorem ev_moveCart_42 (hd : 6 ≤ d) (h : PlR P I) (hs : swR P (I 43) s) (hk : I 42 0 = wk) {x : (Nat → Nat → Int32) × (Nat → Int32)} (hc : ctC P (I 44) x.1) (hV : ctV P x.1) (hr : ∀ i, i < xS P → I 175 i = x.2 i) {m : Int32} (hm : ∀ i, bt m i = decide (i < xS P ∧ 0 < s i)) (hwy : ∀ j, j < xS P → I 176 j = wayF P j (nI (s j)) wk) {c : Nat} (hc4 : c < xC P) (hon : x.1 c 1 = 1) :
    ∃ I', EV d T0 83 [.ref 174, .ref 42, .int (nI c), .int m] (I, J) = some (none, (I', J)) ∧ kp [37, 170, 173, 175, 44] I I' ∧ ctC P (I' 44) (mvC P s wk x c).1 ∧ ∀ i, i < xS P → I' 175 i = (mvC P s wk x c).2 i := by
  obtain ⟨d, rfl⟩ : ∃ z, d = z + 1 := ⟨d - 1, by omega⟩
  have h4 := h.C4
  have h7 := h.N7
  have h10 := h.S10
  obtain ⟨⟨t, ht, ea⟩, -⟩ := hV c hc4
  obtain ⟨⟨k1, k2, k3⟩, ⟨b1, b2, b3, b4⟩, -⟩ := h.ct hc4
  have hok := wyW_ok h s wk
  have hwm : ∀ i, i < xS P → (bt m i = false ∧ wyW P s wk i = 99999) ∨ (bt m i = true ∧ 1 ≤ wyW P s wk i ∧ wyW P s wk i ≤ 99 ∧ I 176 i = nI (wyW P s wk i)) := by
    intro i hi
    rw [hm i]
    by_cases h0 : 0 < s i
    · refine Or.inr ⟨decide_eq_true ⟨hi, h0⟩, ?_⟩
      have h8 := wyW_nI h hi (s := s) (wk := wk) h0
      rw [hwy i hi, h8]
      obtain ⟨y, y1, y2, e⟩ := wayF_nI h hi (nI (s i)) wk
      have : wyW P s wk i = y := by unfold wyW; rw [if_pos h0, e, nI_clamp (by omega)]
      exact ⟨by omega, by omega, rfl⟩
    · exact Or.inl ⟨decide_eq_false (fun h => h0 h.2), by unfold wyW; rw [if_neg h0]⟩
  have hDb : ∀ b, dsP P (wyW P s wk) (xb P c) b < 99999 → dsP P (wyW P s wk) (xb P c) b ≤ 693 := fun b hb => dsP_bnd h hok b2 hb
  obtain ⟨f, v1, v2⟩ := ev_measP (d := d) (J := J) (by omega) h hwm b2
  have kf : kp [37, 170, 173, 175, 44] I (cs I 173 f) := kp.rf.cs (by decide)
  have p1 : PlR P (cs I 173 f) := plr_kx h kf (by decide) (by rw [kf 192 (by decide)])
  have hnx := ev_next (d := d) (J := J) (by omega) p1 (m := m) (a := t) ht (fun i hi => by rw [kf 176 (by decide)]; exact hwm i hi) hDb (fun b => ds_le) (fun j hj => by rw [cs_eq]; exact v2 j hj)
  have hnV := nxF_V h (a := t) (D := dsP P (wyW P s wk) (xb P c)) hok hDb
  have ea' : I 44 (5 * c + 0) = nI t := (hc c hc4 0 (by omega)).trans ea
  have hmv : mvC P s wk x c = (match nxF P (wyW P s wk) (dsP P (wyW P s wk) (xb P c)) t with
    | none => (qU x.1 c 3 (x.1 c 3 + 1), x.2)
    | some q => mvG P s wk x c q.1 (othN P q.1 t)) := by
    unfold mvC
    rw [if_pos hon, ea, nI_clamp (by omega)]
    cases nxF P (wyW P s wk) (dsP P (wyW P s wk) (xb P c)) t <;> rfl
  have hp4 : ∀ z : Option Rs, p_chk (p_in (nI c) 4) z = z := fun z => chk_in (by omega) (by omega)
  rw [e_X7_moveCart_42, runS_M, s_X7_moveCart_42_0, q_cf_42 (by omega) (by omega) (f := 0) (by omega) (x := 0) rfl, p_ci_s, ea', hp4]
  dsimp only
  rw [nI_clamp (show c < 2 ^ 31 by omega), k2, v1, p_cv_s, hnx, p_ci_s, hmv]
  cases hn : nxF P (wyW P s wk) (dsP P (wyW P s wk) (xb P c)) t with
  | none =>
    rw [if_neg (show ¬ (0 : Int32) ≤ nbI none by decide), q_af_42 (by omega) (by omega) (f := 3) (by omega) (x := 3) rfl, p_cv_s]
    refine ⟨_, rfl, kf.wr (by decide), ?_, fun i hi => ?_⟩
    · dsimp only
      rw [wr_eq, cs_ne (show (44 : Nat) ≠ 173 by decide)]
      rw [hc c hc4 3 (by omega)]
      exact hc.set (by omega) _
    · dsimp only
      rw [wr_ne (by decide), cs_ne (show (175 : Nat) ≠ 173 by decide)]; exact hr i hi
  | some q =>
    have hq := (hnV q hn).1
    have ho := othN_lt h (a := t) hq
    have hp : ∀ z : Option Rs, p_chk (p_in (nI q.1) 10) z = z := fun z => chk_in (by omega) (by omega)
    rw [if_pos (show (0 : Int32) ≤ nbI (some q) from nI_pos' (by omega))]
    show ∃ I', p_chk (p_in (nI c) 4) (p_chk (p_in (nI q.1) 10) (p_chk (p_in (nI q.1) 10) (p_chk (p_in (nI q.1) 10) _))) = _ ∧ _
    rw [hp4, hp, hp, hp]
    have e34 : cs I 173 f 34 c = nI (xd P c) := by rw [cs_ne (by decide)]; exact k3
    have esw : cs I 173 f 43 q.1 = nI (s q.1) := by rw [cs_ne (by decide)]; exact (hs q.1 hq).1
    have est : cs I 173 f 42 0 = wk := by rw [cs_ne (by decide)]; exact hk
    have e175 : cs I 173 f 175 q.1 = x.2 q.1 := by rw [cs_ne (by decide)]; exact hr q.1 hq
    let I2 : Nat → Nat → Int32 := p_wr (cs I 173 f) 175 q.1 (x.2 q.1 + nI (xd P c))
    have k2' : kp [37, 170, 173, 175, 44] I I2 := kf.wr (by decide)
    have p2 : PlR P I2 := plr_kx h k2' (by decide) (by rw [k2' 192 (by decide)])
    obtain ⟨I3, w1, w2⟩ := ev_tollFor (d := d) (J := J) (by omega) p2 hq (nI (s q.1)) wk (nI (xd P c))
    have k3' : kp [37, 170, 173, 175, 44] I I3 := k2'.tr (w2.up (by decide))
    have eca : I3 44 = I 44 := by rw [w2 44 (by decide)]; show p_wr (cs I 173 f) 175 q.1 _ 44 = _; rw [wr_ne (by decide), cs_ne (by decide)]
    have ecr : I3 175 = upd (I 175) q.1 (x.2 q.1 + nI (xd P c)) := by rw [w2 175 (by decide)]; show p_wr (cs I 173 f) 175 q.1 _ 175 = _; rw [wr_eq, cs_ne (by decide)]
    dsimp only
    show ∃ I', p_ci (EV d T0 57 [.ref 169, .int (nI q.1), .int (cs I 173 f 43 (nI q.1).toNatClampNeg), .int (cs I 173 f 42 0), .int (cs I 173 f 34 c)] (p_wr (cs I 173 f) 175 (nI q.1).toNatClampNeg (cs I 173 f 175 (nI q.1).toNatClampNeg + cs I 173 f 34 c), J)) _ = _ ∧ _
    rw [nI_clamp (show q.1 < 2 ^ 31 by omega), esw, est, e34, e175]
    show ∃ I', p_ci (EV d T0 57 [.ref 169, .int (nI q.1), .int (nI (s q.1)), .int wk, .int (nI (xd P c))] (I2, J)) _ = _ ∧ _
    rw [w1, p_ci_s, q_af_42 (by omega) (by omega) (f := 2) (by omega) (x := 2) rfl, p_cv_s]
    let I4 : Nat → Nat → Int32 := p_wr I3 44 (5 * c + 2) (I3 44 (5 * c + 2) + tollF P q.1 (nI (s q.1)) wk (nI (xd P c)))
    have k4 : kp [37, 170, 173, 175, 44] I I4 := k3'.wr (by decide)
    have p4 : PlR P I4 := plr_kx h k4 (by decide) (by rw [k4 192 (by decide)])
    show ∃ I', p_ci (EV d T0 85 [.ref 174, .int (nI q.1), .int (nI t)] (I4, J)) _ = _ ∧ _
    rw [ev_othC (by omega) p4 hq (by omega), p_ci_s, q_sf_42 (by omega) (by omega) (f := 0) (by omega) (x := 0) rfl, p_cv_s, hp4]
    let I5 : Nat → Nat → Int32 := p_wr I4 44 (5 * c + 0) (nI (othN P q.1 t))
    have k5 : kp [37, 170, 173, 175, 44] I I5 := k4.wr (by decide)
    have e33 : I5 33 c = nI (xb P c) := by rw [k5 33 (by decide)]; exact k2
    have hc5 : ctC P (I5 44) (qU (qU x.1 c 2 (x.1 c 2 + tollF P q.1 (nI (s q.1)) wk (nI (xd P c)))) c 0 (nI (othN P q.1 t))) := by
      show ctC P (p_wr (p_wr I3 44 (5 * c + 2) _) 44 (5 * c + 0) _ 44) _
      rw [wr_eq, wr_eq, eca, hc c hc4 2 (by omega)]
      exact (hc.set (by omega) _).set (by omega) _
    have hr5 : ∀ i, i < xS P → I5 175 i = if i = q.1 then x.2 q.1 + nI (xd P c) else x.2 i := by
      intro i hi
      show p_wr (p_wr I3 44 (5 * c + 2) _) 44 (5 * c + 0) _ 175 i = _
      rw [wr_ne (by decide), wr_ne (by decide), ecr]
      by_cases e : i = q.1
      · rw [if_pos e, e, pk_us]
      · rw [if_neg e, pk_un e]; exact hr i hi
    show ∃ I', (if nI (othN P q.1 t) = I5 33 c then _ else _) = _ ∧ _
    rw [e33]
    unfold mvG
    dsimp only
    by_cases e : othN P q.1 t = xb P c
    · rw [if_pos (by rw [e]), if_pos e]
      show ∃ I', p_cv (EV d T0 93 [.ref 42, .int (nI c), .int 1, .int 0] (I5, J)) _ = _ ∧ _
      rw [q_sf_42 (by omega) (by omega) (f := 1) (by omega) (x := 1) rfl, p_cv_s, q_af_42 (by omega) (by omega) (f := 4) (by omega) (x := 4) rfl, p_cv_s]
      refine ⟨_, rfl, (k5.wr (by decide)).wr (by decide), ?_, fun i hi => ?_⟩
      · rw [wr_eq, wr_eq]
        have e4 : upd (I5 44) (5 * c + 1) 0 (5 * c + 4) = x.1 c 4 := by
          rw [pk_un (by omega), hc5 c hc4 4 (by omega), qU_ne (by omega), qU_ne (by omega)]
        rw [e4]
        exact (hc5.set (by omega) _).set (by omega) _
      · rw [wr_ne (by decide), wr_ne (by decide)]; exact hr5 i hi
    · rw [if_neg (by rw [nI_eq (by omega) (by omega)]; exact e), if_neg e]
      exact ⟨I5, rfl, k5, hc5, hr5⟩
end QJ
