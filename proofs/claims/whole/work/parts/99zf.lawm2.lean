/-! ===== read: a law (reference), all of it ===== -/
section SK
variable {J : Nat → Nat → Int64} {d : Nat} {tok : Nat → TK} {T : Nat}
theorem lw_f {k : Nat} {c : Nat × Nat} (h : c.2 ≠ 0) : (lwG tok k c).2 = c := by
  rw [lw_n (fun h9 => h h9.1), sum_f h]; exact tk_f h
theorem if_f {k : Nat} {c : Nat × Nat} (h : (tfS (decide (k ≠ 0)) c).2 ≠ 0) : iC4 tok k c = tfS (decide (k ≠ 0)) c := by
  unfold iC4 iE3 iE2 iE1
  rw [sum_f h, tk_f h, sum_f h, tk_f h, sum_f h, tk_f h]
def lmR (I' : Nat → Nat → Int32) (J : Nat → Nat → Int64) (tok : Nat → TK) (T br cd v l : Nat) (x : Int32) (r : (List Br × List Op) × (Nat × Nat)) : Prop :=
  (r.2.2 = 0 → ∃ cd', cuM I' J tok T r.2 ∧ I' 192 12 = nI 0 ∧ I' 192 46 = nI cd' ∧ cd' ≤ 420 * v + r.2.1 ∧ cd ≤ cd' ∧ I' 192 40 = nI (br + r.1.1.length + 1) ∧ atV (420 * v) cd' I' br r.1.1 r.1.2 ∧ I' 217 (4 * v + l) = x ∧ I' 218 (4 * v + l) = nI (br + r.1.1.length + 1)) ∧ (r.2.2 ≠ 0 → cuF I' tok r.2)
theorem base_M (hd : 6 ≤ d) (hT : TKS tok T) (hV : TKV tok T) {I : Nat → Nat → Int32} {v l br cd cL n : Nat} {c : Nat × Nat} (hv : v < 2) (hl : l < 4) (h19 : I 192 19 = nI v) (h : gS I J tok T (420 * v) cd c) (hcd : 420 * v ≤ cL) (hL : c.2 = 0 → cL ≤ cd) (h40 : I 192 40 = nI br) (hbr : br < 130 * v + 130) (cuT : c.1 < T ∧ c.2 < 3) (x : Int32) :
    ∃ I', p_chk (p_in (I 192 40) 260) (p_cv (EV d T0 197 [.ref 192] (p_wr I 219 (I 192 40).toNatClampNeg (vp_nar .boolean 0), J)) (fun z1 => runS (EV d) none 4 T0 C_X12_tellLaw k_X12_tellLaw rtV f_X12_tellLaw (n + 1) 143 [.ref 192, .int (nI l), .int x, un] [] z1)) = some (none, (I', J)) ∧ kL I I' br (130 * v + 130) cL (420 * v + 420) (4 * v + l) ∧ lmR I' J tok T br cd v l x (([], (sumG tok c).1), tkS tok 59 (sumG tok c).2) := by
  have hTT := hT.2.1
  have l1 : kL I (p_wr I 219 br 0) br (130 * v + 130) cL (420 * v + 420) (4 * v + l) := row_l (by omega) hbr
  obtain ⟨I2, cd2, t1, t2, t3, t4, t5, t6⟩ := ev_termG (d := d) (J := J) (q := 4 * v + l) (by omega) hT hV (by omega) (h.row (k := 219) (br := br) (v := 0) (by omega)) (by rw [wr_ne (by decide)]; exact h40) hbr (by omega) hL
  obtain ⟨I3, u1, u2, u3, u4⟩ := ev_mustG (d := d) (J := J) (by omega) hT t4.1 4 59 (by decide) (by decide) (by decide) (by omega) (by omega)
  have g3 : gS I3 J tok T (420 * v) cd2 (tkS tok 59 (sumG tok c).2) := t4.mv u3 u4 tk_z2
  have k3 : kL I I3 br (130 * v + 130) cL (420 * v + 420) (4 * v + l) := (l1.tr t2 (Nat.le_refl _) (Nat.le_refl _)).tr (kCu.l u2 u3) (Nat.le_refl _) (Nat.le_refl _)
  rw [h40, chk_in (by omega) (by omega), nI_clamp (by omega), nar0, t1, p_cv_s, runS_s, s_X12_tellLaw_143, u1, p_cv_s]
  by_cases z : (tkS tok 59 (sumG tok c).2).2 = 0
  · have cu3 := u4.1 z
    have e13 : I3 192 13 ≤ 0 := by rw [cu3.2.1, z]; decide
    have e19 : I3 192 19 = nI v := by rw [u3 19 (by decide) (by decide) (by decide), t2.2.1 19 (by decide), wr_ne (by decide)]; exact h19
    have e40 : I3 192 40 = nI (br + 1) := by rw [u3 40 (by decide) (by decide) (by decide)]; exact t5
    obtain ⟨z1, -, -, z4⟩ := tk_z z
    have hL' := hL ((sum_p hT hV cuT.1 cuT.2).2.2 z1).1
    obtain ⟨a1, a2, a3, a4⟩ := t6 z1
    have g4 := (g3.2.1 z)
    have x4 : kp [217, 218] I3 (p_wr (p_wr I3 217 (4 * v + l) x) 218 (4 * v + l) (nI (br + 1))) := (kp.rf.wr (by decide)).wr (by decide)
    refine ⟨p_wr (p_wr I3 217 (4 * v + l) x) 218 (4 * v + l) (nI (br + 1)), ?_, k3.tr (br' := br) (cd' := cL) ⟨x4.up (by decide), fun j _ => by rw [x4 192 (by decide)], fun k a b j _ => by rw [x4 k (fun h9 => by simp only [List.mem_cons, List.not_mem_nil, or_false] at h9; omega)], fun j _ => ⟨by rw [x4 224 (by decide)], by rw [x4 225 (by decide)]⟩, fun j hj => ⟨by rw [wr_ne (by decide), wr_eq, pk_un hj], by rw [wr_eq, pk_un hj, wr_ne (by decide)]⟩⟩ (Nat.le_refl _) (Nat.le_refl _), fun _ => ⟨cd2, ?_, ?_, ?_, g4.2, ?_, ?_, ?_, ?_, ?_⟩, fun h9 => absurd z h9⟩
    · have hp : ∀ y : Option Rs, p_chk (p_in (nI (4 * v + l)) 8) y = y := fun y => chk_in (by omega) (by omega)
      dsimp only
      rw [if_pos e13, e19, e40, four_nI, hp, hp, nI_clamp (by omega)]; rfl
    · exact cu3.go x4 (by decide) (by rw [x4 192 (by decide)]) (by rw [x4 192 (by decide)]) (by rw [x4 192 (by decide)])
    · rw [x4 192 (by decide)]; exact g4.1
    · rw [x4 192 (by decide)]; exact g3.2.2.1
    · omega
    · rw [x4 192 (by decide)]; exact e40
    · refine ⟨?_, cd, ?_, ?_, ⟨by omega, ?_⟩, ?_⟩
      · rw [x4 219 (by decide), u2 219 (by decide), t3 219 (by decide), wr_eq, pk_us]
      · rw [x4 222 (by decide), u2 222 (by decide)]; exact a2
      · rw [x4 223 (by decide), u2 223 (by decide), a3, a1]
      · show cd + (sumG tok c).1.length ≤ cd2; omega
      · rw [x4 224 (by decide), x4 225 (by decide), u2 224 (by decide), u2 225 (by decide)]; exact a4
    · rw [wr_ne (by decide), wr_eq, pk_us]
    · rw [wr_eq, pk_us]; rfl
  · have cf := u4.2 z
    refine ⟨I3, ?_, k3, fun h9 => absurd h9 z, fun _ => cf⟩
    dsimp only
    rw [if_neg cf.nl]; rfl
set_option maxHeartbeats 2000000 in
theorem lw_M (hd : 6 ≤ d) (hT : TKS tok T) (hV : TKV tok T) {v l : Nat} (hv : v < 2) (hl : l < 4) (x : Int32) : ∀ (k i br cd cL n : Nat) (c : Nat × Nat) (I : Nat → Nat → Int32), i + k = 5 → I 192 19 = nI v → gS I J tok T (420 * v) cd c → 420 * v ≤ cL → (c.2 = 0 → cL ≤ cd) → I 192 40 = nI br → (c.2 = 0 → 4 * br + 2 ≤ 4 * (130 * v) + c.1) → (c.1 < T ∧ c.2 < 3) → br ≤ 130 * v + 120 → (k = 0 → c.2 ≠ 0) → 8 * (k + 1) ≤ n →
    ∃ I', runS (EV d) none 4 T0 C_X12_tellLaw k_X12_tellLaw rtV f_X12_tellLaw n 12 [.ref 192, .int (nI l), .int x, .int (nI i)] [] (I, J) = some (none, (I', J)) ∧ kL I I' br (130 * v + 130) cL (420 * v + 420) (4 * v + l) ∧ lmR I' J tok T br cd v l x (lwG tok k c) := by
  have hTT := hT.2.1
  have base : ∀ (k i br cd cL n : Nat) (c : Nat × Nat) (I : Nat → Nat → Int32), I 192 19 = nI v → gS I J tok T (420 * v) cd c → 420 * v ≤ cL → (c.2 = 0 → cL ≤ cd) → I 192 40 = nI br → (c.1 < T ∧ c.2 < 3) → br ≤ 130 * v + 120 → ¬ (c.2 = 0 ∧ (tok c.1).1 = 267) → 2 ≤ n → ∃ I', runS (EV d) none 4 T0 C_X12_tellLaw k_X12_tellLaw rtV f_X12_tellLaw n 12 [.ref 192, .int (nI l), .int x, .int (nI i)] [] (I, J) = some (none, (I', J)) ∧ kL I I' br (130 * v + 130) cL (420 * v + 420) (4 * v + l) ∧ lmR I' J tok T br cd v l x (lwG tok k c) := by
    intro k i br cd cL n c I h19 h hcd hL h40 cuT hbr hk hn
    obtain ⟨n, rfl⟩ : ∃ z, n = z + 1 + 1 := ⟨n - 2, by omega⟩
    rw [lw_n hk, runS_s, s_X12_tellLaw_12]
    have hb := base_M (d := d) (J := J) (n := n) hd hT hV hv hl h19 h hcd hL h40 (by omega) cuT x
    by_cases e : c.2 = 0
    · have cu := h.1.1 e
      rw [if_pos (show I 192 13 = 0 by rw [cu.2.1, e]; rfl), q_is' (by omega) hT cu 31 267 (by decide) (by decide) (by decide), p_ci_s, if_pos (zI_f hk)]
      exact hb
    · rw [if_neg (h.1.2 e).nz]; exact hb
  intro k
  induction k with
  | zero => intro i br cd cL n c I hi h19 h hcd hL h40 hb cuT hbr h0 hn; exact base 0 i br cd cL n c I h19 h hcd hL h40 cuT hbr (fun h9 => h0 rfl h9.1) (by omega)
  | succ k ih =>
    intro i br cd cL n c I hi h19 h hcd hL h40 hb cuT hbr h0 hn
    by_cases hk : c.2 = 0 ∧ (tok c.1).1 = 267
    · obtain ⟨n, rfl⟩ : ∃ z, n = z + 1 + 1 + 1 + 1 + 1 := ⟨n - 5, by omega⟩
      have cu := h.1.1 hk.1
      have hb1 := hb hk.1
      have h1 := cuT.1
      have hL1 := hL hk.1
      have h2 := cu.2.2.2.2.1
      have hz9 := if_z hT hV (k := k) h1 h2 hk.2
      obtain ⟨-, g1, -, g2, -, g3, g4⟩ := if_p hT hV (k := k) h1 h2 hk.2
      have lwp := lw_p hT hV k (iC4 tok k c) g4.1 g4.2
      rw [lw_y hk, runS_s, s_X12_tellLaw_12, if_pos (show I 192 13 = 0 by rw [cu.2.1, hk.1]; rfl), q_is' (by omega) hT cu 31 267 (by decide) (by decide) (by decide), p_ci_s, if_neg (by rw [zI_t hk]; decide)]
      by_cases k0 : k = 0
      · have ei : i = 4 := by omega
        subst ei
        obtain ⟨I1, t1, t2, t3, t4⟩ := ev_fail (d := d) (I := I) (J := J) (by omega) hT cu (k := 2) (by omega)
        have t1' : EV d T0 179 [.ref 192, .int 2] (I, J) = _ := t1
        have e9 : flS 2 c = (c.1, 2) := if_pos hk.1
        rw [e9] at t4
        have cf := t4.f (show (2 : Nat) ≠ 0 by omega)
        have et : tfS (decide (k ≠ 0)) c = (c.1, 2) := by unfold tfS; rw [if_pos hk.1, if_neg (fun h9 => (of_decide_eq_true h9) k0)]
        have ec : iC4 tok k c = (c.1, 2) := by rw [if_f (by rw [et]; show (2 : Nat) ≠ 0; omega), et]
        have er : (lwG tok k (iC4 tok k c)).2 = (c.1, 2) := by rw [ec]; exact lw_f (show (2 : Nat) ≠ 0 by omega)
        refine ⟨I1, ?_, kCu.l t2 t3, fun h9 => ?_, fun _ => ?_⟩
        · rw [if_pos (by decide), t1', p_cv_s, runS_s, s_X12_tellLaw_38, if_neg cf.nl]; rfl
        · exact absurd (show 2 = 0 by have h8 : (lwG tok k (iC4 tok k c)).2.2 = 0 := h9; rw [er] at h8; exact h8) (by omega)
        · show cuF I1 tok (lwG tok k (iC4 tok k c)).2; rw [er]; exact cf
      · have et : tfS (decide (k ≠ 0)) c = tkS tok 267 c := by unfold tfS; rw [if_pos hk.1, if_pos (decide_eq_true k0), go_tk (tok := tok) hk.1 hk.2 (by omega)]
        rw [if_neg (by rw [show (4 : Int32) = nI 4 from rfl, nI_eq (by omega) (by omega)]; omega), runS_s, s_X12_tellLaw_38, if_pos (show I 192 13 ≤ 0 by rw [cu.2.1, hk.1]; decide)]
        obtain ⟨I1, t1, t2, t3, t4⟩ := ev_goesOn (d := d) (I := I) (J := J) (by omega) hT cu (by omega) (by omega) hk.1
        rw [← go_tk (tok := tok) hk.1 hk.2 (by omega), ← et] at t4
        have gs1 : gS I1 J tok T (420 * v) cd (tfS (decide (k ≠ 0)) c) := h.mv t3 t4.g (fun h9 => ⟨hk.1, tf_le⟩)
        have f40 : I1 192 40 = nI br := by rw [t3 40 (by decide) (by decide) (by decide)]; exact h40
        /- the first expression -/
        have gs2 : gS (p_wr (p_wr I1 219 br 1) 220 br (nI cd)) J tok T (420 * v) cd (tfS (decide (k ≠ 0)) c) := (gs1.row (by omega)).row (by omega)
        have l2 : kL I (p_wr (p_wr I1 219 br 1) 220 br (nI cd)) br (130 * v + 130) cL (420 * v + 420) (4 * v + l) := ((kCu.l t2 t3).tr (row_l (k := 219) (by omega) (by omega)) (Nat.le_refl _) (Nat.le_refl _)).tr (row_l (k := 220) (by omega) (by omega)) (Nat.le_refl _) (Nat.le_refl _)
        obtain ⟨I3, cd3, u1, u2, u3, u4⟩ := ev_exprG (d := d) (J := J) (by omega) hT hV (by omega) gs2 (fun _ => hL1)
        have f40' : I3 192 40 = nI br := by rw [u2.2.1 40 (by decide), wr_ne (by decide), wr_ne (by decide)]; exact f40
        have e219 : I3 219 br = 1 := by rw [u2.1 219 (by decide), wr_ne (by decide), wr_eq, pk_us]
        have e220 : I3 220 br = nI cd := by rw [u2.1 220 (by decide), wr_eq, pk_us]
        obtain ⟨I4, v1, v2, v3, v4⟩ := ev_mustG (d := d) (J := J) (by omega) hT u3.1 13 60 (by decide) (by decide) (by decide) (by omega) (by omega)
        have gs4 : gS I4 J tok T (420 * v) cd3 (tkS tok 60 (iE1 tok k c).2) := u3.mv v3 v4 tk_z2
        have gs4' : gS (p_wr I4 221 br (nI cd3)) J tok T (420 * v) cd3 (tkS tok 60 (iE1 tok k c).2) := gs4.row (by omega)
        have f40'' : I4 192 40 = nI br := by rw [v3 40 (by decide) (by decide) (by decide)]; exact f40'
        have hL3 : (tkS tok 60 (iE1 tok k c).2).2 = 0 → cL ≤ cd3 := fun z => by
          have := (u4 (tk_z z).1).1
          omega
        /- the second -/
        have h80 : ∃ I5 cd5, (if I4 192 13 = 0 then p_cv (EV d T0 200 [.ref 192] (p_wr I4 221 br (nI cd3), J)) (fun z2 => runS (EV d) none 4 T0 C_X12_tellLaw k_X12_tellLaw rtV f_X12_tellLaw (n + 1 + 1) 110 [.ref 192, .int (nI l), .int x, .int (nI (i + 1))] [] z2) else runS (EV d) none 4 T0 C_X12_tellLaw k_X12_tellLaw rtV f_X12_tellLaw (n + 1 + 1) 110 [.ref 192, .int (nI l), .int x, .int (nI (i + 1))] [] (p_wr I4 221 br (nI cd3), J)) = runS (EV d) none 4 T0 C_X12_tellLaw k_X12_tellLaw rtV f_X12_tellLaw (n + 1 + 1) 110 [.ref 192, .int (nI l), .int x, .int (nI (i + 1))] [] (I5, J) ∧ kM (p_wr I4 221 br (nI cd3)) I5 cL (420 * v + 420) ∧ ((tkS tok 60 (iE1 tok k c).2).2 = 0 → kM (p_wr I4 221 br (nI cd3)) I5 cd3 (420 * v + 420)) ∧ gS I5 J tok T (420 * v) cd5 (iE2 tok k c).2 ∧ ((iE2 tok k c).2.2 = 0 → cd5 = cd3 + (iE2 tok k c).1.length ∧ atR (I5 224) (I5 225) cd3 (iE2 tok k c).1) := by
          by_cases z : (tkS tok 60 (iE1 tok k c).2).2 = 0
          · obtain ⟨I5, cd5, w1, w2, w3, w4⟩ := ev_exprG (d := d) (J := J) (cL := cd3) (by omega) hT hV (by omega) gs4' (fun _ => Nat.le_refl _)
            exact ⟨I5, cd5, by rw [if_pos (show I4 192 13 = 0 by rw [(gs4.1.1 z).2.1, z]; rfl), w1, p_cv_s], w2.dn (hL3 z), fun _ => w2, w3, w4⟩
          · have es : iE2 tok k c = ([], tkS tok 60 (iE1 tok k c).2) := sum_f z
            exact ⟨_, cd3, by rw [if_neg (gs4.1.2 z).nz], kM.rf, fun h9 => absurd h9 z, by rw [es]; exact gs4', fun h9 => absurd (by rw [es] at h9; exact h9) z⟩
        obtain ⟨I5, cd5, w1, w2, w2', w3, w4⟩ := h80
        have f5 : I5 192 40 = nI br := by rw [w2.2.1 40 (by decide), wr_ne (by decide)]; exact f40''
        obtain ⟨I6, x1, x2, x3, x4⟩ := ev_mustG (d := d) (J := J) (by omega) hT w3.1 32 268 (by decide) (by decide) (by decide) (by omega) (by omega)
        have gs6 : gS I6 J tok T (420 * v) cd5 (tkS tok 268 (iE2 tok k c).2) := w3.mv x3 x4 tk_z2
        have hL6 : (tkS tok 268 (iE2 tok k c).2).2 = 0 → cL ≤ cd5 := fun z => by
          obtain ⟨q1, -, -, q4⟩ := tk_z z
          have a1 := (w4 q1).1
          have a2 := hL3 (g2.2.2 q1).1
          omega
        obtain ⟨I7, cd7, y1, y2, y3, y4, y5, y6⟩ := ev_termG (d := d) (J := J) (q := 4 * v + l) (br := br) (bh := 130 * v + 130) (by omega) hT hV (by omega) gs6 (by rw [x3 40 (by decide) (by decide) (by decide)]; exact f5) (by omega) (by omega) (cL := if (tkS tok 268 (iE2 tok k c).2).2 = 0 then cd5 else cL) (fun z => by rw [if_pos z]; exact Nat.le_refl _)
        obtain ⟨I8, r1, r2, r3, r4⟩ := ev_mustG (d := d) (J := J) (by omega) hT y4.1 33 269 (by decide) (by decide) (by decide) (by omega) (by omega)
        have gs8 : gS I8 J tok T (420 * v) cd7 (iC4 tok k c) := y4.mv r3 r4 tk_z2
        have f8 : I8 192 40 = nI (br + 1) := by rw [r3 40 (by decide) (by decide) (by decide)]; exact y5
        have l3 : kL I I3 br (130 * v + 130) cL (420 * v + 420) (4 * v + l) := l2.tr u2.l (Nat.le_refl _) (Nat.le_refl _)
        have l5 : kL I I5 br (130 * v + 130) cL (420 * v + 420) (4 * v + l) := ((l3.tr (kCu.l v2 v3) (Nat.le_refl _) (Nat.le_refl _)).tr (row_l (k := 221) (by omega) (by omega)) (Nat.le_refl _) (Nat.le_refl _)).tr w2.l (Nat.le_refl _) (Nat.le_refl _)
        have hL7 : cL ≤ (if (tkS tok 268 (iE2 tok k c).2).2 = 0 then cd5 else cL) := by
          split
          · exact hL6 (by assumption)
          · exact Nat.le_refl _
        have l8 : kL I I8 br (130 * v + 130) cL (420 * v + 420) (4 * v + l) := ((l5.tr (kCu.l x2 x3) (Nat.le_refl _) (Nat.le_refl _)).tr y2 (Nat.le_refl _) hL7).tr (kCu.l r2 r3) (Nat.le_refl _) (Nat.le_refl _)
        have hc7 : (iC4 tok k c).2 = 0 → cd3 = cd + (iE1 tok k c).1.length ∧ cd5 = cd3 + (iE2 tok k c).1.length ∧ cd7 = cd5 + (iE3 tok k c).1.length := fun hz => by
          obtain ⟨m1, m2, m3, m4, m5, m6, m7, m8, m9, -⟩ := hz9 hz
          exact ⟨(u4 m4).1, (w4 m6).1, (y6 m8).1⟩
        obtain ⟨I11, s1, s2, s3, s4⟩ := ih (i + 1) (br + 1) cd7 (if (iC4 tok k c).2 = 0 then cd7 else cL) n (iC4 tok k c) I8 (by omega) ((l8.2.1 19 (by decide)).trans h19) gs8 (by
          split
          · have := hc7 (by assumption); omega
          · exact hcd) (fun hz => by rw [if_pos hz]; exact Nat.le_refl _) f8 (fun hz => by
          obtain ⟨m1, m2, m3, m4, m5, m6, m7, m8, m9, ⟨m10, m11, m12⟩, -⟩ := hz9 hz
          rw [m9]; show 4 * (br + 1) + 2 ≤ 4 * (130 * v) + ((iE3 tok k c).2.1 + 1); omega) g4 (by omega) (fun k0' => absurd k0' k0) (by omega)
        refine ⟨I11, ?_, l8.tr s2 (by omega) (by
          split
          · have := hc7 (by assumption); omega
          · exact Nat.le_refl _), fun hzf => ?_, s4⟩
        · rw [t1, p_cv_s]
          dsimp only
          rw [f40, chk_in (by omega) (by omega), chk_in (by omega) (by omega), nI_clamp (by omega), nar1, gs1.2.2.1, u1, p_cv_s, nI_1, runS_s, s_X12_tellLaw_80, v1, p_cv_s]
          dsimp only
          rw [f40'', chk_in (by omega) (by omega), nI_clamp (by omega), gs4.2.2.1, w1, runS_s, s_X12_tellLaw_110, x1, p_cv_s, y1, p_cv_s, runS_s, s_X12_tellLaw_120, r1, p_cv_s]
          exact s1
        · obtain ⟨cd', z1, z2, z3, z4, z5, z6, z7, z8, z9⟩ := s3 hzf
          have hz4 : (iC4 tok k c).2 = 0 := (lwp.2 hzf).1
          obtain ⟨m1, m2, m3, m4, m5, m6, m7, m8, m9, -⟩ := hz9 hz4
          obtain ⟨c3, c5, c7⟩ := hc7 hz4
          rw [if_pos hz4] at s2
          have a3 := (u4 m4).2
          have a5 := (w4 m6).2
          obtain ⟨-, b1, b2, a7⟩ := y6 m8
          have w2'' := w2' (by rw [m5])
          have hcd7 := gs8.2.2.2
          /- rows at br -/
          have rb : ∀ k, 219 ≤ k → k ≤ 223 → I11 k br = I7 k br := fun k p q => by rw [s2.2.2.1 k p q br (by omega), r2 k (fun h9 => by simp only [List.mem_cons, List.not_mem_nil, or_false] at h9; omega)]
          have rc7 : ∀ j, j < cd7 → I11 224 j = I7 224 j ∧ I11 225 j = I7 225 j := fun j hj => by
            have := s2.2.2.2.1 j (Or.inl hj)
            rw [r2 224 (by decide), r2 225 (by decide)] at this; exact this
          rw [if_pos (show (tkS tok 268 (iE2 tok k c).2).2 = 0 by rw [m7])] at y2
          have rc5 : ∀ j, j < cd5 → I11 224 j = I5 224 j ∧ I11 225 j = I5 225 j := fun j hj => by
            have p1 := rc7 j (by omega)
            have p2 := y2.2.2.2.1 j (Or.inl hj)
            rw [x2 224 (by decide), x2 225 (by decide)] at p2
            exact ⟨p1.1.trans p2.1, p1.2.trans p2.2⟩
          have rc3 : ∀ j, j < cd3 → I11 224 j = I3 224 j ∧ I11 225 j = I3 225 j := fun j hj => by
            have p1 := rc5 j (by omega)
            have p2 := w2''.2.2 j (Or.inl hj)
            rw [wr_ne (by decide), wr_ne (by decide), v2 224 (by decide), v2 225 (by decide)] at p2
            exact ⟨p1.1.trans p2.1, p1.2.trans p2.2⟩
          refine ⟨cd', z1, z2, z3, z4, by omega, ?_, ⟨?_, ⟨cd, ?_, ?_, ?_, ?_, ⟨by omega, ?_⟩, ?_, ?_, ?_⟩, z7⟩, z8, ?_⟩
          · rw [z6]; show nI (br + 1 + (lwG tok k (iC4 tok k c)).1.1.length + 1) = nI (br + ((lwG tok k (iC4 tok k c)).1.1.length + 1) + 1); congr 1; omega
          · rw [rb 219 (by omega) (by omega), y3 219 (by decide), x2 219 (by decide), w2.1 219 (by decide), wr_ne (by decide), v2 219 (by decide)]; exact e219
          · rw [rb 220 (by omega) (by omega), y3 220 (by decide), x2 220 (by decide), w2.1 220 (by decide), wr_ne (by decide), v2 220 (by decide)]; exact e220
          · rw [rb 221 (by omega) (by omega), y3 221 (by decide), x2 221 (by decide), w2.1 221 (by decide), wr_eq, pk_us, c3]; rfl
          · rw [rb 222 (by omega) (by omega), b1, c5, c3]; rfl
          · rw [rb 223 (by omega) (by omega), b2, c7, c5, c3]; rfl
          · show cd + (iE1 tok k c).1.length + (iE2 tok k c).1.length + (iE3 tok k c).1.length ≤ cd'; omega
          · exact atR_cg (iE1 tok k c).1 cd (fun j _ hj => rc3 j (by omega)) a3
          · show atR (I11 224) (I11 225) (cd + (iE1 tok k c).1.length) (iE2 tok k c).1
            rw [← c3]; exact atR_cg (iE2 tok k c).1 cd3 (fun j _ hj => rc5 j (by omega)) a5
          · show atR (I11 224) (I11 225) (cd + (iE1 tok k c).1.length + (iE2 tok k c).1.length) (iE3 tok k c).1
            rw [← c3, ← c5]; exact atR_cg (iE3 tok k c).1 cd5 (fun j _ hj => rc7 j (by omega)) a7
          · rw [z9]; show nI (br + 1 + (lwG tok k (iC4 tok k c)).1.1.length + 1) = nI (br + ((lwG tok k (iC4 tok k c)).1.1.length + 1) + 1); congr 1; omega
    · exact base (k + 1) i br cd cL n c I h19 h hcd hL h40 cuT hbr hk (by omega)
/-- a law, in the reference; its first token is behind it -/
theorem ev_tellLaw (hd : 7 ≤ d) (hT : TKS tok T) (hV : TKV tok T) {I : Nat → Nat → Int32} {v l br cd : Nat} {c : Nat × Nat} (hv : v < 2) (hl : l < 4) (h19 : I 192 19 = nI v) (h : gS I J tok T (420 * v) cd c) (hcd : 420 * v ≤ cd) (h40 : I 192 40 = nI br) (hb : c.2 = 0 → 4 * br + 1 ≤ 4 * (130 * v) + c.1) (cuT : c.1 < T ∧ c.2 < 3) (hbr : br ≤ 130 * v + 120) :
    ∃ I', EV d T0 196 [.ref 192, .int (nI l)] (I, J) = some (none, (I', J)) ∧ kL I I' br (130 * v + 130) cd (420 * v + 420) (4 * v + l) ∧ lmR I' J tok T br cd v l (nI br) (lwG tok 5 (tkS tok 61 c)) := by
  obtain ⟨d, rfl⟩ : ∃ z, d = z + 1 := ⟨d - 1, by omega⟩
  have hTT := hT.2.1
  obtain ⟨I1, t1, t2, t3, t4⟩ := ev_mustG (d := d) (J := J) (by omega) hT h.1 5 61 (by decide) (by decide) (by decide) (by omega) (by omega)
  have gs1 : gS I1 J tok T (420 * v) cd (tkS tok 61 c) := h.mv t3 t4 tk_z2
  have f40 : I1 192 40 = nI br := by rw [t3 40 (by decide) (by decide) (by decide)]; exact h40
  obtain ⟨I2, u1, u2, u3⟩ := lw_M (d := d) (J := J) (by omega) hT hV hv hl (nI br) 5 0 br cd cd 999999 (tkS tok 61 c) I1 (by omega) ((t3 19 (by decide) (by decide) (by decide)).trans h19) gs1 hcd (fun _ => Nat.le_refl _) f40 (fun hz => by
    obtain ⟨q1, -, -, q4⟩ := tk_z hz
    have := hb q1
    rw [q4]; show 4 * br + 2 ≤ 4 * (130 * v) + (c.1 + 1); omega) (tkS_lt hT (by omega) (by omega) cuT.1 cuT.2) hbr (fun h9 => absurd h9 (by omega)) (by omega)
  refine ⟨I2, ?_, (kCu.l t2 t3).tr u2 (Nat.le_refl _) (Nat.le_refl _), u3⟩
  rw [e_X12_tellLaw, runS_M, s_X12_tellLaw_0, t1, p_cv_s]
  dsimp only
  rw [f40]
  exact u1
end SK
