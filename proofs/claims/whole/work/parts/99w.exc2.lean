/-! ===== read: expressions (class), by the tokens ===== -/
section SB
variable {J : Nat → Nat → Int64} {tok : Nat → TK} {T : Nat}
theorem sg_en : ∀ k, (k = 42 ∨ k = 47 ∨ k = 43 ∨ k = 45) → (0 : Int32) * 64 + nI k = nI (enC (sgO k)) := by
  intro k hk
  rcases hk with rfl | rfl | rfl | rfl <;> decide
theorem en_0 (v : Nat) : nI v * 64 + 1 = nI (enC (0, v)) := by
  show nI v * nI 64 + nI 1 = nI (64 * v + 1)
  rw [pk_mul, nI_add, Nat.mul_comm]
theorem en_1 (v : Nat) : nI v * 64 + 2 = nI (enC (1, v)) := by
  show nI v * nI 64 + nI 2 = nI (64 * v + 2)
  rw [pk_mul, nI_add, Nat.mul_comm]
set_option maxHeartbeats 2000000 in
theorem ex_all (hT : TKS tok T) (hV : TKV tok T) : ∀ (m md dp d sz x n : Nat) (c : Nat × Nat) (I : Nat → Nat → Int32), md ≤ 4 → dp ≤ 6 → muG md m c → dpG md dp ≤ d → cuC I J tok T c → I 14 3 = nI sz → sz ≤ 408 → (c.2 = 0 → sz ≤ 8 + c.1) → (3 ≤ md → c.2 = 0 → x < c.1) → 1 ≤ n ∧ (c.2 = 0 → 3 * (401 - c.1) + 3 ≤ n) →
    ∃ I', exE d md dp x n I J = some (none, (I', J)) ∧ exR I I' J tok T sz (gr tok m md dp c) := by
  have hTT := hT.2.1
  intro m
  induction m with
  | zero => intro md dp d sz x n c I _ _ h; exact absurd h.1 (by omega)
  | succ m ih =>
    intro md dp d sz x n c I hm hp hmu hd h h14 hz hs hx hn
    by_cases e : c.2 = 0
    · have hn' := hn.2 e
      have hmu' := hmu.2 e
      have hs' := hs e
      have h1 := h.2.2.2.1
      have h2 := h.2.2.2.2.1
      have e6 : I 3 6 = nI c.1 := h.1
      have e7 : I 3 7 = nI (tok c.1).1 := h.2.1
      have e8 : I 3 8 = nI c.2 := h.2.2.1
      have kb := (hT.2.2.1 c.1 h1).1
      have hmd : md = 0 ∨ md = 1 ∨ md = 2 ∨ md = 3 ∨ md = 4 := by omega
      rcases hmd with rfl | rfl | rfl | rfl | rfl
      · have hd' : 2 + 3 * (6 - dp) ≤ d := by unfold dpG at hd; rw [if_pos (Or.inl rfl)] at hd; exact hd
        have hmu'' : 5 * (401 - c.1) + 1 ≤ m + 1 := hmu'
        obtain ⟨d, rfl⟩ : ∃ z, d = z + 1 := ⟨d - 1, by omega⟩
        rw [exE_0, e_X4_readUnit, runS_M, s_X4_readUnit_0, e8, if_pos (by rw [e]; rfl), e7]
        by_cases k3 : (tok c.1).1 = 3
        · rw [if_pos (by rw [k3]; rfl), e6, q_valueOf (by omega) hT h h1, p_cl_s]
          obtain ⟨v1, v2⟩ := (hV c.1 h1).1 k3
          have ev : (tkV (tok c.1)).toInt32 = nI (tok c.1).2.2.1 := by
            have : tkV (tok c.1) = Int64.ofNat (tok c.1).2.2.1 := by unfold tkV; rw [v2]; exact Int64.add_zero _
            rw [this, t32 (by omega)]
          rw [ev, ev_addStep (by omega) h14 hz, p_cv_s, show (999999 : Nat) = 999998 + 1 from rfl, runS_s, s_X4_readUnit_39]
          obtain ⟨sz1, a1, a2, a3⟩ := ad_s h14 hz (0, (tok c.1).2.2.1) (en_0 _)
          have hk := ad_K (I := I) (sz := sz) (v := nI (tok c.1).2.2.1 * 64 + 1)
          obtain ⟨I2, t1, t2, t3, t4⟩ := ev_take (d := d) (J := J) (by omega) hT (h.kx hk.1 (by decide)) (k := 3) (by omega) (by omega) (by omega)
          have t1' : EV d T0 47 [.ref 3, .int 3] (adS I sz (nI (tok c.1).2.2.1 * 64 + 1), J) = _ := t1
          rw [t1', p_ci_s, gr_int e k3]
          refine ⟨I2, rfl, exR_tr (l := [(0, (tok c.1).2.2.1)]) hk.2 (fun hz9 => a3 ?_) (exR_mv t2 t3 t4 a1 a2)⟩
          have := (tk_z hz9).2.2.1
          omega
        · rw [if_neg (by rw [show ((3 : Int32)) = nI 3 from rfl, nI_eq (by omega) (by omega)]; exact k3), q_within (by omega), p_ci_s]
          have hw : zI (¬ nI (tok c.1).1 < 270 ∧ ¬ (278 : Int32) < nI (tok c.1).1) = zI (270 ≤ (tok c.1).1 ∧ (tok c.1).1 ≤ 278) := z_cg (by
            rw [show (270 : Int32) = nI 270 from rfl, show (278 : Int32) = nI 278 from rfl, lt_nI (by omega) (by omega), lt_nI (by omega) (by omega)]; omega)
          rw [hw]
          by_cases kv : 270 ≤ (tok c.1).1 ∧ (tok c.1).1 ≤ 278
          · rw [if_neg (by rw [zI_t kv]; decide)]
            dsimp only
            rw [e7, show (270 : Int32) = nI 270 from rfl, pk_sub kv.1, ev_addStep (by omega) h14 hz, p_cv_s, show (999999 : Nat) = 999998 + 1 from rfl, runS_s, s_X4_readUnit_83]
            obtain ⟨sz1, a1, a2, a3⟩ := ad_s h14 hz (1, (tok c.1).1 - 270) (en_1 _)
            have hk := ad_K (I := I) (sz := sz) (v := nI ((tok c.1).1 - 270) * 64 + 2)
            obtain ⟨I2, t1, t2, t3, t4⟩ := ev_take (d := d) (J := J) (by omega) hT (h.kx hk.1 (by decide)) (k := (tok c.1).1) (by omega) (by omega) (by omega)
            rw [(h.kx hk.1 (by decide)).2.1, t1, p_ci_s, gr_var e kv]
            refine ⟨I2, rfl, exR_tr (l := [(1, (tok c.1).1 - 270)]) hk.2 (fun hz9 => a3 ?_) (exR_mv t2 t3 t4 a1 a2)⟩
            have := (tk_z hz9).2.2.1
            omega
          · rw [if_pos (zI_f kv)]
            dsimp only
            by_cases k4 : (tok c.1).1 = 40
            · rw [if_pos (show I 3 7 = 40 by rw [e7, k4]; rfl)]
              by_cases k6 : dp < 6
              · rw [if_pos (show nI (dp) < (6 : Int32) from nI_lt (a := dp) (b := 6) (by omega) (by omega))]
                obtain ⟨I1, t1, t2, t3, t4⟩ := ev_take (d := d) (I := I) (J := J) (by omega) hT h (k := 40) (by omega) (by omega) (by omega)
                have t1' : EV d T0 47 [.ref 3, .int 40] (I, J) = _ := t1
                have hle : c.1 ≤ (tkS tok 40 c).1 := tk_le
                have mu2 : muG 2 m (tkS tok 40 c) := ⟨by omega, fun hz9 => by
                  obtain ⟨y1, y2, y3, y4⟩ := tk_z hz9
                  rw [if_pos rfl, y4]; show 5 * (401 - (c.1 + 1)) + 3 ≤ m; omega⟩
                obtain ⟨I2, u1, u2⟩ := ih 2 (dp + 1) d sz 0 999999 (tkS tok 40 c) I1 (by omega) (by omega) mu2 (by unfold dpG; rw [if_neg (by omega), if_neg (by omega)]; omega) t4 (by rw [t2 14 (by decide)]; exact h14) hz (fun hz9 => by omega) (fun h9 => absurd h9 (by omega)) ⟨by omega, fun _ => by omega⟩
                rw [exE_2] at u1
                have g2 := gr_p hT hV m 2 (dp + 1) (tkS tok 40 c) (by omega) t4.2.2.2.1 t4.2.2.2.2.1
                rw [t1', p_ci_s, show (999999 : Nat) = 999998 + 1 from rfl, runS_s, s_X4_readUnit_133, nI_1, u1, p_cv_s, gr_par e k4 k6]
                generalize gr tok m 2 (dp + 1) (tkS tok 40 c) = r at u2 g2 ⊢
                obtain ⟨I3, w1, w2, w3, w4⟩ := ev_take (d := d) (I := I2) (J := J) (by omega) hT u2.2.1 (k := 41) (by omega) (by omega) (by omega)
                have w1' : EV d T0 47 [.ref 3, .int 41] (I2, J) = _ := w1
                rw [w1', p_ci_s]
                refine ⟨I3, rfl, ?_⟩
                have u3 : exR I I2 J tok T sz (([] : List Op) ++ r.1, r.2) := exR_tr (mv_K t2 t3) (fun _ => ⟨rfl, trivial, fun j _ => by rw [t2 15 (by decide)]⟩) u2
                exact exR_r (r := (r.1, r.2)) u3 w2 w3 w4 (fun hz9 => (tk_z hz9).1)
              · rw [if_neg (show ¬ nI (dp) < (6 : Int32) from nI_nlt (a := dp) (b := 6) (by omega) (by omega)), gr_deep e k4 k6]
                have x1 : kp [3] I (p_wr I 3 8 2) := kp.rf.wr (by decide)
                refine ⟨_, rfl, exR_mv x1 (fun j _ _ b3 => by rw [wr_eq, pk_un b3]) ⟨?_, ?_, ?_, h1, by show 2 < 3; omega, by rw [x1 18 (by decide)]; exact h.2.2.2.2.2.1, fun j hj => (h.2.2.2.2.2.2 j hj).kp x1 (by decide)⟩ h14 hz⟩
                · rw [wr_eq, pk_un (by decide)]; exact e6
                · rw [wr_eq, pk_un (by decide)]; exact e7
                · rw [wr_eq, pk_us]; rfl
            · rw [if_neg (show ¬ I 3 7 = 40 by rw [e7, show ((40 : Int32)) = nI 40 from rfl, nI_eq (by omega) (by omega)]; exact k4), gr_bad e k3 kv k4]
              have x1 : kp [3] I (p_wr I 3 8 1) := kp.rf.wr (by decide)
              refine ⟨_, rfl, exR_mv x1 (fun j _ _ b3 => by rw [wr_eq, pk_un b3]) ⟨?_, ?_, ?_, h1, by show 1 < 3; omega, by rw [x1 18 (by decide)]; exact h.2.2.2.2.2.1, fun j hj => (h.2.2.2.2.2.2 j hj).kp x1 (by decide)⟩ h14 hz⟩
              · rw [wr_eq, pk_un (by decide)]; exact e6
              · rw [wr_eq, pk_un (by decide)]; exact e7
              · rw [wr_eq, pk_us]; rfl
      · have hd' : 3 + 3 * (6 - dp) ≤ d := by unfold dpG at hd; rw [if_neg (by omega), if_pos (Or.inl rfl)] at hd; exact hd
        have hmu'' : 5 * (401 - c.1) + 2 ≤ m + 1 := hmu'
        obtain ⟨d, rfl⟩ : ∃ z, d = z + 1 := ⟨d - 1, by omega⟩
        obtain ⟨I1, u1, u2⟩ := ih 0 dp d sz 0 999999 c I (by omega) hp ⟨by omega, fun _ => by show 5 * (401 - c.1) + 1 ≤ m; omega⟩ (by unfold dpG; rw [if_pos (Or.inl rfl)]; omega) h h14 hz hs (fun h9 => absurd h9 (by omega)) ⟨by omega, fun _ => by omega⟩
        rw [exE_0] at u1
        have g0 := gr_p hT hV m 0 dp c (by omega) h1 h2
        rw [exE_1, e_X4_readProduct, runS_M, s_X4_readProduct_0, u1, p_cv_s, gr_1 e]
        generalize gr tok m 0 dp c = r0 at u2 g0 ⊢
        obtain ⟨k1, k2, sz1, k3, k4, k5⟩ := u2
        have g3 := gr_p hT hV m 3 dp r0.2 (by omega) g0.1.1 g0.1.2
        have hle := g0.2.1
        obtain ⟨I2, w1, w2⟩ := ih 3 dp d sz1 0 999999 r0.2 I1 (by omega) hp ⟨by omega, fun hz9 => by
          have := (g0.2.2 hz9).2.1 (by omega)
          show 5 * (401 - r0.2.1) + 1 ≤ m; omega⟩ (by unfold dpG; rw [if_pos (Or.inr rfl)]; omega) k2 k3 k4 (fun hz9 => by have := (k5 hz9).1; have := (g0.2.2 hz9).2.2.1; omega) (fun _ hz9 => by have := (g0.2.2 hz9).2.1 (by omega); omega) ⟨by omega, fun _ => by omega⟩
        rw [exE_3] at w1
        exact ⟨I2, w1, exR_tr k1 (fun hz9 => k5 (g3.2.2 hz9).1) w2⟩
      · have hd' : 4 + 3 * (6 - dp) ≤ d := by unfold dpG at hd; rw [if_neg (by omega), if_neg (by omega)] at hd; exact hd
        have hmu'' : 5 * (401 - c.1) + 3 ≤ m + 1 := hmu'
        obtain ⟨d, rfl⟩ : ∃ z, d = z + 1 := ⟨d - 1, by omega⟩
        obtain ⟨I1, u1, u2⟩ := ih 1 dp d sz 0 999999 c I (by omega) hp ⟨by omega, fun _ => by show 5 * (401 - c.1) + 2 ≤ m; omega⟩ (by unfold dpG; rw [if_neg (by omega), if_pos (Or.inl rfl)]; omega) h h14 hz hs (fun h9 => absurd h9 (by omega)) ⟨by omega, fun _ => by omega⟩
        rw [exE_1] at u1
        have g0 := gr_p hT hV m 1 dp c (by omega) h1 h2
        rw [exE_2, e_X4_readSum, runS_M, s_X4_readSum_0, u1, p_cv_s, gr_2 e]
        generalize gr tok m 1 dp c = r0 at u2 g0 ⊢
        obtain ⟨k1, k2, sz1, k3, k4, k5⟩ := u2
        have g3 := gr_p hT hV m 4 dp r0.2 (by omega) g0.1.1 g0.1.2
        have hle := g0.2.1
        obtain ⟨I2, w1, w2⟩ := ih 4 dp d sz1 0 999999 r0.2 I1 (by omega) hp ⟨by omega, fun hz9 => by
          have := (g0.2.2 hz9).2.1 (by omega)
          show 5 * (401 - r0.2.1) + 1 ≤ m; omega⟩ (by unfold dpG; rw [if_neg (by omega), if_pos (Or.inr rfl)]; omega) k2 k3 k4 (fun hz9 => by have := (k5 hz9).1; have := (g0.2.2 hz9).2.2.1; omega) (fun _ hz9 => by have := (g0.2.2 hz9).2.1 (by omega); omega) ⟨by omega, fun _ => by omega⟩
        rw [exE_4] at w1
        exact ⟨I2, w1, exR_tr k1 (fun hz9 => k5 (g3.2.2 hz9).1) w2⟩
      · have hd' : 2 + 3 * (6 - dp) ≤ d := by unfold dpG at hd; rw [if_pos (Or.inr rfl)] at hd; exact hd
        have hmu'' : 5 * (401 - c.1) + 1 ≤ m + 1 := hmu'
        have hx' := hx (by omega) e
        obtain ⟨n, rfl⟩ : ∃ z, n = z + 1 + 1 := ⟨n - 2, by omega⟩
        rw [exE_3, runS_s, s_X4_readProduct_7, if_neg (show ¬ (400 : Int32) ≤ nI (x) from nI_ge (a := x) (b := 400) (by omega) (by omega)), e8, if_pos (by rw [e]; rfl), e7]
        have ne1 : ∀ q : Nat, q < 300 → (tok c.1).1 ≠ q → ¬ nI (tok c.1).1 = nI q := fun q hq h9 => by rw [nI_eq (by omega) (by omega)]; exact h9
        by_cases ks : (tok c.1).1 = 42 ∨ (tok c.1).1 = 47
        · have hgo : ∃ I', p_ci (EV d T0 47 [.ref 3, .int (nI (tok c.1).1)] (I, J)) (fun v2 z1 => p_cv (EV d T0 45 [.ref 3, .int (nI dp)] z1) (fun z3 => runS (EV d) none 4 T0 C_X4_readProduct k_X4_readProduct rtV f_X4_readProduct (n + 1) 55 [.ref 3, .int (nI dp), .int (nI x), .int (nI (tok c.1).1)] [] z3)) = some (none, (I', J)) ∧ exR I I' J tok T sz (gr tok (m + 1) 3 dp c) := by
            obtain ⟨I1, t1, t2, t3, t4⟩ := ev_take (d := d) (I := I) (J := J) (by omega) hT h (k := (tok c.1).1) (by omega) (by omega) (by omega)
            have hle : c.1 ≤ (tkS tok (tok c.1).1 c).1 := tk_le
            obtain ⟨I2, u1, u2⟩ := ih 0 dp d sz 0 999999 (tkS tok (tok c.1).1 c) I1 (by omega) hp ⟨by omega, fun hz9 => by
              obtain ⟨y1, y2, y3, y4⟩ := tk_z hz9
              rw [y4]; show 5 * (401 - (c.1 + 1)) + (0 + 1) ≤ m; omega⟩ (by unfold dpG; rw [if_pos (Or.inl rfl)]; omega) t4 (by rw [t2 14 (by decide)]; exact h14) hz (fun hz9 => by omega) (fun h9 => absurd h9 (by omega)) ⟨by omega, fun _ => by omega⟩
            rw [exE_0] at u1
            have g0 := gr_p hT hV m 0 dp (tkS tok (tok c.1).1 c) (by omega) t4.2.2.2.1 t4.2.2.2.2.1
            rw [t1, p_ci_s, u1, p_cv_s, runS_s, s_X4_readProduct_55, gr_3 e ks]
            generalize gr tok m 0 dp (tkS tok (tok c.1).1 c) = r0 at u2 g0 ⊢
            obtain ⟨k1, k2, sz1, k3, k4, k5⟩ := u2
            have hle2 := g0.2.1
            have hr0T := g0.1.1
            obtain ⟨sz2, b1, b2, b3⟩ := ad_s k3 k4 (sgO (tok c.1).1) (sg_en _ (by omega))
            have hk := ad_K (I := I2) (sz := sz1) (v := 0 * 64 + nI (tok c.1).1)
            have hlt : r0.2.2 = 0 → sz1 < 408 ∧ sz1 + 1 ≤ 8 + r0.2.1 ∧ x + 1 < r0.2.1 ∧ c.1 + 1 < r0.2.1 := fun hz9 => by
              obtain ⟨p1, p2, p3, -⟩ := g0.2.2 hz9
              obtain ⟨y1, y2, y3, y4⟩ := tk_z p1
              have q1 := (k5 hz9).1
              have q2 := p2 (by omega)
              rw [y4] at q2 p3
              have q2' : c.1 + 1 < r0.2.1 := q2
              have p3' : c.1 + 1 + r0.1.length ≤ r0.2.1 := p3
              omega
            have g3 := gr_p hT hV m 3 dp r0.2 (by omega) g0.1.1 g0.1.2
            obtain ⟨I4, w1, w2⟩ := ih 3 dp d sz2 (x + 1) n r0.2 (adS I2 sz1 (0 * 64 + nI (tok c.1).1)) (by omega) hp ⟨by omega, fun hz9 => by
              have := hlt hz9
              show 5 * (401 - r0.2.1) + 1 ≤ m; omega⟩ (by unfold dpG; rw [if_pos (Or.inr rfl)]; omega) (k2.kx hk.1 (by decide)) b1 b2 (fun hz9 => by have := hlt hz9; have := (b3 (by omega)).1; omega) (fun _ hz9 => (hlt hz9).2.2.1) ⟨by omega, fun hz9 => by have := hlt hz9; omega⟩
            rw [exE_3] at w1
            rw [ev_addStep (by omega) k3 k4, p_cv_s, nI_1, w1]
            refine ⟨I4, rfl, ?_⟩
            have q3 : exR I2 I4 J tok T sz1 ([sgO (tok c.1).1] ++ (gr tok m 3 dp r0.2).1, (gr tok m 3 dp r0.2).2) := exR_tr hk.2 (fun hz9 => b3 (hlt (g3.2.2 hz9).1).1) w2
            have q2 : exR I1 I4 J tok T sz (r0.1 ++ ([sgO (tok c.1).1] ++ (gr tok m 3 dp r0.2).1), (gr tok m 3 dp r0.2).2) := exR_tr (r := ([sgO (tok c.1).1] ++ (gr tok m 3 dp r0.2).1, (gr tok m 3 dp r0.2).2)) k1 (fun hz9 => k5 (g3.2.2 hz9).1) q3
            exact exR_tr (r := (r0.1 ++ ([sgO (tok c.1).1] ++ (gr tok m 3 dp r0.2).1), (gr tok m 3 dp r0.2).2)) (l := []) (mv_K t2 t3) (fun _ => ⟨rfl, trivial, fun j _ => by rw [t2 15 (by decide)]⟩) q2
          by_cases ka : (tok c.1).1 = 42
          · rw [if_pos (show nI (tok c.1).1 = 42 by rw [ka]; rfl)]; exact hgo
          · rw [if_neg (show ¬ nI (tok c.1).1 = 42 from ne1 42 (by omega) ka), if_pos (show nI (tok c.1).1 = 47 by rw [show (tok c.1).1 = 47 by omega]; rfl)]; exact hgo
        · rw [if_neg (show ¬ nI (tok c.1).1 = 42 from ne1 42 (by omega) (by omega)), if_neg (show ¬ nI (tok c.1).1 = 47 from ne1 47 (by omega) (by omega)), gr_3n e ks]
          exact ⟨I, rfl, exK.rf, h, sz, h14, hz, fun _ => ⟨rfl, trivial, fun _ _ => rfl⟩⟩
      · have hd' : 3 + 3 * (6 - dp) ≤ d := by unfold dpG at hd; rw [if_neg (by omega), if_pos (Or.inr rfl)] at hd; exact hd
        have hmu'' : 5 * (401 - c.1) + 1 ≤ m + 1 := hmu'
        have hx' := hx (by omega) e
        obtain ⟨n, rfl⟩ : ∃ z, n = z + 1 + 1 := ⟨n - 2, by omega⟩
        rw [exE_4, runS_s, s_X4_readSum_7, if_neg (show ¬ (400 : Int32) ≤ nI (x) from nI_ge (a := x) (b := 400) (by omega) (by omega)), e8, if_pos (by rw [e]; rfl), e7]
        have ne1 : ∀ q : Nat, q < 300 → (tok c.1).1 ≠ q → ¬ nI (tok c.1).1 = nI q := fun q hq h9 => by rw [nI_eq (by omega) (by omega)]; exact h9
        by_cases ks : (tok c.1).1 = 43 ∨ (tok c.1).1 = 45
        · have hgo : ∃ I', p_ci (EV d T0 47 [.ref 3, .int (nI (tok c.1).1)] (I, J)) (fun v2 z1 => p_cv (EV d T0 44 [.ref 3, .int (nI dp)] z1) (fun z3 => runS (EV d) none 4 T0 C_X4_readSum k_X4_readSum rtV f_X4_readSum (n + 1) 55 [.ref 3, .int (nI dp), .int (nI x), .int (nI (tok c.1).1)] [] z3)) = some (none, (I', J)) ∧ exR I I' J tok T sz (gr tok (m + 1) 4 dp c) := by
            obtain ⟨I1, t1, t2, t3, t4⟩ := ev_take (d := d) (I := I) (J := J) (by omega) hT h (k := (tok c.1).1) (by omega) (by omega) (by omega)
            have hle : c.1 ≤ (tkS tok (tok c.1).1 c).1 := tk_le
            obtain ⟨I2, u1, u2⟩ := ih 1 dp d sz 0 999999 (tkS tok (tok c.1).1 c) I1 (by omega) hp ⟨by omega, fun hz9 => by
              obtain ⟨y1, y2, y3, y4⟩ := tk_z hz9
              rw [y4]; show 5 * (401 - (c.1 + 1)) + (1 + 1) ≤ m; omega⟩ (by unfold dpG; rw [if_neg (by omega), if_pos (Or.inl rfl)]; omega) t4 (by rw [t2 14 (by decide)]; exact h14) hz (fun hz9 => by omega) (fun h9 => absurd h9 (by omega)) ⟨by omega, fun _ => by omega⟩
            rw [exE_1] at u1
            have g0 := gr_p hT hV m 1 dp (tkS tok (tok c.1).1 c) (by omega) t4.2.2.2.1 t4.2.2.2.2.1
            rw [t1, p_ci_s, u1, p_cv_s, runS_s, s_X4_readSum_55, gr_4 e ks]
            generalize gr tok m 1 dp (tkS tok (tok c.1).1 c) = r0 at u2 g0 ⊢
            obtain ⟨k1, k2, sz1, k3, k4, k5⟩ := u2
            have hle2 := g0.2.1
            have hr0T := g0.1.1
            obtain ⟨sz2, b1, b2, b3⟩ := ad_s k3 k4 (sgO (tok c.1).1) (sg_en _ (by omega))
            have hk := ad_K (I := I2) (sz := sz1) (v := 0 * 64 + nI (tok c.1).1)
            have hlt : r0.2.2 = 0 → sz1 < 408 ∧ sz1 + 1 ≤ 8 + r0.2.1 ∧ x + 1 < r0.2.1 ∧ c.1 + 1 < r0.2.1 := fun hz9 => by
              obtain ⟨p1, p2, p3, -⟩ := g0.2.2 hz9
              obtain ⟨y1, y2, y3, y4⟩ := tk_z p1
              have q1 := (k5 hz9).1
              have q2 := p2 (by omega)
              rw [y4] at q2 p3
              have q2' : c.1 + 1 < r0.2.1 := q2
              have p3' : c.1 + 1 + r0.1.length ≤ r0.2.1 := p3
              omega
            have g3 := gr_p hT hV m 4 dp r0.2 (by omega) g0.1.1 g0.1.2
            obtain ⟨I4, w1, w2⟩ := ih 4 dp d sz2 (x + 1) n r0.2 (adS I2 sz1 (0 * 64 + nI (tok c.1).1)) (by omega) hp ⟨by omega, fun hz9 => by
              have := hlt hz9
              show 5 * (401 - r0.2.1) + 1 ≤ m; omega⟩ (by unfold dpG; rw [if_neg (by omega), if_pos (Or.inr rfl)]; omega) (k2.kx hk.1 (by decide)) b1 b2 (fun hz9 => by have := hlt hz9; have := (b3 (by omega)).1; omega) (fun _ hz9 => (hlt hz9).2.2.1) ⟨by omega, fun hz9 => by have := hlt hz9; omega⟩
            rw [exE_4] at w1
            rw [ev_addStep (by omega) k3 k4, p_cv_s, nI_1, w1]
            refine ⟨I4, rfl, ?_⟩
            have q3 : exR I2 I4 J tok T sz1 ([sgO (tok c.1).1] ++ (gr tok m 4 dp r0.2).1, (gr tok m 4 dp r0.2).2) := exR_tr hk.2 (fun hz9 => b3 (hlt (g3.2.2 hz9).1).1) w2
            have q2 : exR I1 I4 J tok T sz (r0.1 ++ ([sgO (tok c.1).1] ++ (gr tok m 4 dp r0.2).1), (gr tok m 4 dp r0.2).2) := exR_tr (r := ([sgO (tok c.1).1] ++ (gr tok m 4 dp r0.2).1, (gr tok m 4 dp r0.2).2)) k1 (fun hz9 => k5 (g3.2.2 hz9).1) q3
            exact exR_tr (r := (r0.1 ++ ([sgO (tok c.1).1] ++ (gr tok m 4 dp r0.2).1), (gr tok m 4 dp r0.2).2)) (l := []) (mv_K t2 t3) (fun _ => ⟨rfl, trivial, fun j _ => by rw [t2 15 (by decide)]⟩) q2
          by_cases ka : (tok c.1).1 = 43
          · rw [if_pos (show nI (tok c.1).1 = 43 by rw [ka]; rfl)]; exact hgo
          · rw [if_neg (show ¬ nI (tok c.1).1 = 43 from ne1 43 (by omega) ka), if_pos (show nI (tok c.1).1 = 45 by rw [show (tok c.1).1 = 45 by omega]; rfl)]; exact hgo
        · rw [if_neg (show ¬ nI (tok c.1).1 = 43 from ne1 43 (by omega) (by omega)), if_neg (show ¬ nI (tok c.1).1 = 45 from ne1 45 (by omega) (by omega)), gr_4n e ks]
          exact ⟨I, rfl, exK.rf, h, sz, h14, hz, fun _ => ⟨rfl, trivial, fun _ _ => rfl⟩⟩
    · rw [gr_f e]
      refine ⟨I, ex_f h e hm hd hn.1, exK.rf, h, sz, h14, hz, fun h9 => absurd h9 e⟩
end SB
