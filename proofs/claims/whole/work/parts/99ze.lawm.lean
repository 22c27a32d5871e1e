/-! ===== read: a law (reference) ===== -/
section SJ
variable {I : Nat → Nat → Int32} {J : Nat → Nat → Int64} {d : Nat} {tok : Nat → TK} {T : Nat}
/-- a law's branches from q on, its codes between lo and hi -/
def atV (lo hi : Nat) (I : Nat → Nat → Int32) : Nat → List Br → List Op → Prop
  | q, [], e => I 219 q = 0 ∧ ∃ c, I 222 q = nI c ∧ I 223 q = nI (c + e.length) ∧ (lo ≤ c ∧ c + e.length ≤ hi) ∧ atR (I 224) (I 225) c e
  | q, b :: r, e => I 219 q = 1 ∧ (∃ c, I 220 q = nI c ∧ I 221 q = nI (c + b.1.length) ∧ I 222 q = nI (c + b.1.length + b.2.1.length) ∧ I 223 q = nI (c + b.1.length + b.2.1.length + b.2.2.length) ∧ (lo ≤ c ∧ c + b.1.length + b.2.1.length + b.2.2.length ≤ hi) ∧ atR (I 224) (I 225) c b.1 ∧ atR (I 224) (I 225) (c + b.1.length) b.2.1 ∧ atR (I 224) (I 225) (c + b.1.length + b.2.1.length) b.2.2) ∧ atV lo hi I (q + 1) r e
theorem atV_B {lo hi : Nat} (hh : hi ≤ 840) : ∀ (r : List Br) (q : Nat) (e : List Op), atV lo hi I q r e → atB I q r e := by
  intro r
  induction r with
  | nil =>
    intro q e h
    obtain ⟨h1, c, h2, h3, h4, h5⟩ := h
    exact ⟨h1, c, h2, h3, by omega, h5⟩
  | cons b r ih =>
    intro q e h
    obtain ⟨h1, ⟨c, h2, h3, h4, h5, h6, h7⟩, h8⟩ := h
    exact ⟨h1, ⟨c, h2, h3, h4, h5, by omega, h7⟩, ih _ _ h8⟩
theorem atV_kp {lo hi : Nat} {I' : Nat → Nat → Int32} : ∀ (r : List Br) (q : Nat) (e : List Op), (∀ k, 219 ≤ k → k ≤ 223 → ∀ j, q ≤ j → j ≤ q + r.length → I' k j = I k j) → (∀ j, lo ≤ j → j < hi → I' 224 j = I 224 j ∧ I' 225 j = I 225 j) → atV lo hi I q r e → atV lo hi I' q r e := by
  intro r
  induction r with
  | nil =>
    intro q e hk hc h
    obtain ⟨h1, c, h2, h3, h4, h5⟩ := h
    have k : ∀ k, 219 ≤ k → k ≤ 223 → I' k q = I k q := fun k a b => hk k a b q (Nat.le_refl _) (Nat.le_add_right _ _)
    exact ⟨(k 219 (by omega) (by omega)).trans h1, c, (k 222 (by omega) (by omega)).trans h2, (k 223 (by omega) (by omega)).trans h3, h4, atR_cg _ _ (fun j a b => hc j (by omega) (by omega)) h5⟩
  | cons b r ih =>
    intro q e hk hc h
    obtain ⟨h1, ⟨c, h2, h3, h4, h5, h6, h7, h8, h9⟩, h10⟩ := h
    rw [List.length_cons] at hk
    have k : ∀ k, 219 ≤ k → k ≤ 223 → I' k q = I k q := fun k a b => hk k a b q (Nat.le_refl _) (Nat.le_add_right _ _)
    exact ⟨(k 219 (by omega) (by omega)).trans h1, ⟨c, (k 220 (by omega) (by omega)).trans h2, (k 221 (by omega) (by omega)).trans h3, (k 222 (by omega) (by omega)).trans h4, (k 223 (by omega) (by omega)).trans h5, h6, atR_cg _ _ (fun j a b => hc j (by omega) (by omega)) h7, atR_cg _ _ (fun j a b => hc j (by omega) (by omega)) h8, atR_cg _ _ (fun j a b => hc j (by omega) (by omega)) h9⟩, ih _ _ (fun k a b j p s => hk k a b j (by omega) (by omega)) hc h10⟩
def cuG (I : Nat → Nat → Int32) (J : Nat → Nat → Int64) (tok : Nat → TK) (T : Nat) (c : Nat × Nat) : Prop := (c.2 = 0 → cuM I J tok T c) ∧ (c.2 ≠ 0 → cuF I tok c)
theorem cuM.g {c : Nat × Nat} (h : cuM I J tok T c) : cuG I J tok T c := ⟨fun _ => h, fun h9 => h.f h9⟩
theorem cuF.g {c : Nat × Nat} (h : cuF I tok c) : cuG I J tok T c := ⟨fun h9 => absurd h9 h.2.2.1, fun _ => h⟩
theorem cuG.go {I' : Nat → Nat → Int32} {c : Nat × Nat} {X : List Nat} (h : cuG I J tok T c) (hk : kp X I I') (hX : 195 ∉ X ∧ 196 ∉ X ∧ 197 ∉ X) (h1 : I' 192 11 = I 192 11) (h3 : I' 192 13 = I 192 13) (h4 : I' 192 14 = I 192 14) : cuG I' J tok T c := ⟨fun h9 => (h.1 h9).go hk hX h1 h3 h4, fun h9 => (h.2 h9).go h3 h4⟩
theorem ev_mustF (hd : 2 ≤ d) {c : Nat × Nat} (h : cuF I tok c) (x : Int32) : EV d T0 182 [.ref 192, .int x] (I, J) = some (none, (I, J)) := by
  obtain ⟨d, rfl⟩ : ∃ z, d = z + 1 := ⟨d - 1, by omega⟩
  rw [e_X12_must, runS_M, s_X12_must_0, q_isF (by omega) h, p_ci_s, if_pos rfl, ev_failF (by omega) h, p_cv_s]; rfl
theorem ev_mustG (hd : 3 ≤ d) (hT : TKS tok T) {c : Nat × Nat} (h : cuG I J tok T c) (x : Int32) (k : Nat) (hx : x = nI (kap k)) (hk : k < 300) (hv : vK k = true) (h0 : k ≠ 0) (h1 : k ≠ 1) : ∃ I', EV d T0 182 [.ref 192, .int x] (I, J) = some (none, (I', J)) ∧ kp [192] I I' ∧ kCu I I' ∧ cuG I' J tok T (tkS tok k c) := by
  by_cases e : c.2 = 0
  · obtain ⟨I1, t1, t2, t3, t4⟩ := ev_must (d := d) (J := J) hd hT (h.1 e) hk hv h0 h1
    subst hx
    exact ⟨I1, t1, t2, t3, t4.g⟩
  · refine ⟨I, ev_mustF (by omega) (h.2 e) x, kp.rf, kCu.rf, ?_⟩
    rw [tk_f e]; exact h
/-- the reference's state in a law -/
def gS (I : Nat → Nat → Int32) (J : Nat → Nat → Int64) (tok : Nat → TK) (T B cd : Nat) (c : Nat × Nat) : Prop := cuG I J tok T c ∧ (c.2 = 0 → I 192 12 = nI 0 ∧ cd ≤ B + c.1) ∧ I 192 46 = nI cd ∧ cd ≤ B + 420
theorem gS.mv {I' : Nat → Nat → Int32} {B cd : Nat} {c c' : Nat × Nat} (h : gS I J tok T B cd c) (hk : kCu I I') (hc : cuG I' J tok T c') (hz : c'.2 = 0 → c.2 = 0 ∧ c.1 ≤ c'.1) : gS I' J tok T B cd c' :=
  ⟨hc, fun h9 => ⟨(hk 12 (by decide) (by decide) (by decide)).trans (h.2.1 (hz h9).1).1, by have := (h.2.1 (hz h9).1).2; have := (hz h9).2; omega⟩, (hk 46 (by decide) (by decide) (by decide)).trans h.2.2.1, h.2.2.2⟩
theorem tk_z2 {k : Nat} {c : Nat × Nat} (h : (tkS tok k c).2 = 0) : c.2 = 0 ∧ c.1 ≤ (tkS tok k c).1 := ⟨(tk_z h).1, tk_le⟩
theorem kM.dn {I' : Nat → Nat → Int32} {cL cd hi : Nat} (h : kM I I' cd hi) (hl : cL ≤ cd) : kM I I' cL hi := ⟨h.1, h.2.1, fun j hj => h.2.2 j (by omega)⟩
theorem ev_exprG (hd : 4 ≤ d) (hT : TKS tok T) (hV : TKV tok T) {B cd cL : Nat} {c : Nat × Nat} (hB : B + 420 ≤ 840) (h : gS I J tok T B cd c) (hL : c.2 = 0 → cL ≤ cd) : ∃ I' cd', EV d T0 200 [.ref 192] (I, J) = some (none, (I', J)) ∧ kM I I' cL (B + 420) ∧ gS I' J tok T B cd' (sumG tok c).2 ∧ ((sumG tok c).2.2 = 0 → cd' = cd + (sumG tok c).1.length ∧ atR (I' 224) (I' 225) cd (sumG tok c).1) := by
  obtain ⟨h1, h2, h3, h4⟩ := h
  by_cases e : c.2 = 0
  · have cu := h1.1 e
    obtain ⟨I1, t1, t2, t3, t4⟩ := ev_expression (d := d) (J := J) hd hT hV (B := B) (hi := B + 420) (cd := cd) rfl hB cu e (h2 e).1 h3 (h2 e).2
    have g := sum_p hT hV cu.2.2.2.1 cu.2.2.2.2.1
    by_cases z : (sumG tok c).2.2 = 0
    · obtain ⟨u1, u2, u3, u4⟩ := t3 z
      obtain ⟨-, -, q3, -⟩ := g.2.2 z
      have hT2 := hT.2.1
      have hg1 := g.1.1
      have h2' := (h2 e).2
      exact ⟨I1, cd + (sumG tok c).1.length, t1, t2.dn (hL e), ⟨u1.g, fun _ => ⟨u2, by omega⟩, u3, by omega⟩, fun _ => ⟨rfl, u4⟩⟩
    · obtain ⟨u1, cd', u2, u3⟩ := t4 z
      exact ⟨I1, cd', t1, t2.dn (hL e), ⟨u1.g, fun h9 => absurd h9 z, u2, u3⟩, fun h9 => absurd h9 z⟩
  · have cf := h1.2 e
    have x1 : kp [192] I (p_wr I 192 50 0) := kp.rf.wr (by decide)
    have f1 : ∀ j, j ≠ 50 → p_wr I 192 50 0 192 j = I 192 j := fun j hj => by rw [wr_eq, pk_un hj]
    have cf1 : cuF (p_wr I 192 50 0) tok c := cf.go (f1 13 (by decide)) (f1 14 (by decide))
    rw [sum_f e]
    refine ⟨p_wr I 192 50 0, cd, ?_, kM_o x1 (fun j hj => f1 j (fun e => hj (by rw [e]; decide))), ⟨cf1.g, fun h9 => absurd h9 e, (f1 46 (by decide)).trans h3, h4⟩, fun h9 => absurd h9 e⟩
    obtain ⟨d, rfl⟩ : ∃ z, d = z + 1 := ⟨d - 1, by omega⟩
    rw [e_X12_expression, runS_M, s_X12_expression_0, show (999999 : Nat) = 999998 + 1 from rfl, runS_s, s_X12_expression_12, if_neg (by decide), if_neg cf1.nz]; rfl
/-- what a law changes in the reference -/
def kL (I I' : Nat → Nat → Int32) (br bh cd hi q : Nat) : Prop := kp [192, 217, 218, 219, 220, 221, 222, 223, 224, 225, 226] I I' ∧ (∀ j, j ∉ [11, 12, 13, 14, 40, 46, 50] → I' 192 j = I 192 j) ∧ (∀ k, 219 ≤ k → k ≤ 223 → ∀ j, j < br ∨ bh ≤ j → I' k j = I k j) ∧ (∀ j, j < cd ∨ hi ≤ j → I' 224 j = I 224 j ∧ I' 225 j = I 225 j) ∧ ∀ j, j ≠ q → I' 217 j = I 217 j ∧ I' 218 j = I 218 j
theorem kL.rf {br bh cd hi q : Nat} : kL I I br bh cd hi q := ⟨kp.rf, fun _ _ => rfl, fun _ _ _ _ _ => rfl, fun _ _ => ⟨rfl, rfl⟩, fun _ _ => ⟨rfl, rfl⟩⟩
theorem kL.tr {I' I'' : Nat → Nat → Int32} {br br' bh cd cd' hi q : Nat} (h : kL I I' br bh cd hi q) (h' : kL I' I'' br' bh cd' hi q) (hb : br ≤ br') (hc : cd ≤ cd') : kL I I'' br bh cd hi q :=
  ⟨h.1.tr h'.1, fun j hj => (h'.2.1 j hj).trans (h.2.1 j hj), fun k a b j hj => (h'.2.2.1 k a b j (by omega)).trans (h.2.2.1 k a b j hj), fun j hj => ⟨(h'.2.2.2.1 j (by omega)).1.trans (h.2.2.2.1 j hj).1, (h'.2.2.2.1 j (by omega)).2.trans (h.2.2.2.1 j hj).2⟩, fun j hj => ⟨(h'.2.2.2.2 j hj).1.trans (h.2.2.2.2 j hj).1, (h'.2.2.2.2 j hj).2.trans (h.2.2.2.2 j hj).2⟩⟩
theorem kM.l {I' : Nat → Nat → Int32} {br bh cd hi q : Nat} (h : kM I I' cd hi) : kL I I' br bh cd hi q :=
  ⟨h.1.up (by decide), fun j hj => h.2.1 j (fun h9 => hj ((by decide : ∀ j ∈ [11, 12, 13, 14, 46, 50], j ∈ [11, 12, 13, 14, 40, 46, 50]) j h9)), fun k a b j _ => by rw [h.1 k (fun h9 => by simp only [List.mem_cons, List.not_mem_nil, or_false] at h9; omega)], h.2.2, fun j _ => ⟨by rw [h.1 217 (by decide)], by rw [h.1 218 (by decide)]⟩⟩
theorem kCu.l {I' : Nat → Nat → Int32} {br bh cd hi q : Nat} (h : kp [192] I I') (h' : kCu I I') : kL I I' br bh cd hi q :=
  kM.l (kM_o h (fun j hj => h' j (fun e => hj (by rw [e]; decide)) (fun e => hj (by rw [e]; decide)) (fun e => hj (by rw [e]; decide))))
/-- a row of the law's table is put -/
theorem row_l {k br bh cd hi q : Nat} {v : Int32} (hk : 219 ≤ k ∧ k ≤ 223) (hb : br < bh) : kL I (p_wr I k br v) br bh cd hi q := by
  have hm : k ∈ [192, 217, 218, 219, 220, 221, 222, 223, 224, 225, 226] := by simp only [List.mem_cons, List.not_mem_nil, or_false]; omega
  refine ⟨kp.rf.wr hm, fun j _ => by rw [wr_ne (by omega)], fun k' a b j hj => ?_, fun j _ => ⟨by rw [wr_ne (by omega)], by rw [wr_ne (by omega)]⟩, fun j _ => ⟨by rw [wr_ne (by omega)], by rw [wr_ne (by omega)]⟩⟩
  by_cases e : k' = k
  · subst e; rw [wr_eq, pk_un (by omega)]
  · rw [wr_ne e]
theorem gS.row {B cd k br : Nat} {v : Int32} {c : Nat × Nat} (h : gS I J tok T B cd c) (hk : 219 ≤ k ∧ k ≤ 223) : gS (p_wr I k br v) J tok T B cd c := by
  have e : p_wr I k br v 192 = I 192 := wr_ne (by omega)
  have hx : kp [k] I (p_wr I k br v) := kp.rf.wr (List.mem_singleton.mpr rfl)
  refine ⟨h.1.go hx ⟨fun h9 => ?_, fun h9 => ?_, fun h9 => ?_⟩ (by rw [e]) (by rw [e]) (by rw [e]), by rw [e]; exact h.2.1, by rw [e]; exact h.2.2.1, h.2.2.2⟩
  all_goals (rw [List.mem_singleton] at h9; omega)
theorem ev_termG (hd : 5 ≤ d) (hT : TKS tok T) (hV : TKV tok T) {B cd cL br bh q : Nat} {c : Nat × Nat} (hB : B + 420 ≤ 840) (h : gS I J tok T B cd c) (h40 : I 192 40 = nI br) (hbr : br < bh) (hbh : bh ≤ 260) (hL : c.2 = 0 → cL ≤ cd) : ∃ I' cd', EV d T0 197 [.ref 192] (I, J) = some (none, (I', J)) ∧ kL I I' br bh cL (B + 420) q ∧ kp [192, 222, 223, 224, 225, 226] I I' ∧ gS I' J tok T B cd' (sumG tok c).2 ∧ I' 192 40 = nI (br + 1) ∧ ((sumG tok c).2.2 = 0 → cd' = cd + (sumG tok c).1.length ∧ I' 222 br = nI cd ∧ I' 223 br = nI cd' ∧ atR (I' 224) (I' 225) cd (sumG tok c).1) := by
  obtain ⟨d, rfl⟩ : ∃ z, d = z + 1 := ⟨d - 1, by omega⟩
  have x1 : kp [222] I (p_wr I 222 br (nI cd)) := kp.rf.wr (by decide)
  have e192 : p_wr I 222 br (nI cd) 192 = I 192 := wr_ne (by decide)
  have l1 : kL I (p_wr I 222 br (nI cd)) br bh cL (B + 420) q := row_l (by omega) hbr
  have g1 : gS (p_wr I 222 br (nI cd)) J tok T B cd c := h.row (by omega)
  rw [e_X12_term, runS_M, s_X12_term_0, h40, chk_in (by omega) (by omega), nI_clamp (by omega), h.2.2.1]
  by_cases e : c.2 = 0
  · obtain ⟨I2, cd', t1, t2, t3, t4⟩ := ev_exprG (d := d) (J := J) (by omega) hT hV hB g1 hL
    have f40 : I2 192 40 = nI br := by rw [t2.2.1 40 (by decide), e192]; exact h40
    have x2 : kp [223, 192] I2 (p_wr (p_wr I2 223 br (nI cd')) 192 40 (nI (br + 1))) := (kp.rf.wr (by decide)).wr (by decide)
    have f2 : ∀ j, j ≠ 40 → p_wr (p_wr I2 223 br (nI cd')) 192 40 (nI (br + 1)) 192 j = I2 192 j := fun j hj => by rw [wr_eq, pk_un hj, wr_ne (by decide)]
    have l2 : kL I2 (p_wr I2 223 br (nI cd')) br bh cL (B + 420) q := row_l (by omega) hbr
    have l3 : kL (p_wr I2 223 br (nI cd')) (p_wr (p_wr I2 223 br (nI cd')) 192 40 (nI (br + 1))) br bh cL (B + 420) q := ⟨kp.rf.wr (by decide), fun j hj => by rw [wr_eq, pk_un (fun e => hj (by rw [e]; decide))], fun k a b j _ => by rw [wr_ne (by omega)], fun j _ => ⟨by rw [wr_ne (by decide)], by rw [wr_ne (by decide)]⟩, fun j _ => ⟨by rw [wr_ne (by decide)], by rw [wr_ne (by decide)]⟩⟩
    refine ⟨p_wr (p_wr I2 223 br (nI cd')) 192 40 (nI (br + 1)), cd', ?_, ((l1.tr t2.l (Nat.le_refl _) (Nat.le_refl _)).tr l2 (Nat.le_refl _) (Nat.le_refl _)).tr l3 (Nat.le_refl _) (Nat.le_refl _), ((x1.up (by decide)).tr (t2.1.up (by decide))).tr (x2.up (by decide)), ⟨t3.1.go x2 (by decide) (f2 11 (by decide)) (f2 13 (by decide)) (f2 14 (by decide)), fun h9 => ⟨(f2 12 (by decide)).trans (t3.2.1 h9).1, (t3.2.1 h9).2⟩, (f2 46 (by decide)).trans t3.2.2.1, t3.2.2.2⟩, by rw [wr_eq, pk_us], fun hz => ?_⟩
    · rw [if_pos (show I 192 13 = 0 by rw [(h.1.1 e).2.1, e]; rfl), t1, p_cv_s]
      dsimp only
      rw [f40, chk_in (by omega) (by omega), nI_clamp (by omega), t3.2.2.1, nI_1]; rfl
    · obtain ⟨a1, a2⟩ := t4 hz
      refine ⟨a1, ?_, ?_, ?_⟩
      · rw [x2 222 (by decide), t2.1 222 (by decide), wr_eq, pk_us]
      · rw [wr_ne (by decide), wr_eq, pk_us]
      · rw [x2 224 (by decide), x2 225 (by decide)]; exact a2
  · have cf := h.1.2 e
    have x2 : kp [222, 223, 192] I (p_wr (p_wr (p_wr I 222 br (nI cd)) 223 br (nI cd)) 192 40 (nI (br + 1))) := ((kp.rf.wr (by decide)).wr (by decide)).wr (by decide)
    have f2 : ∀ j, j ≠ 40 → p_wr (p_wr (p_wr I 222 br (nI cd)) 223 br (nI cd)) 192 40 (nI (br + 1)) 192 j = I 192 j := fun j hj => by rw [wr_eq, pk_un hj, wr_ne (by decide), wr_ne (by decide)]
    have l2 : kL (p_wr I 222 br (nI cd)) (p_wr (p_wr I 222 br (nI cd)) 223 br (nI cd)) br bh cL (B + 420) q := row_l (by omega) hbr
    have l3 : kL (p_wr (p_wr I 222 br (nI cd)) 223 br (nI cd)) (p_wr (p_wr (p_wr I 222 br (nI cd)) 223 br (nI cd)) 192 40 (nI (br + 1))) br bh cL (B + 420) q := ⟨kp.rf.wr (by decide), fun j hj => by rw [wr_eq, pk_un (fun e => hj (by rw [e]; decide))], fun k a b j _ => by rw [wr_ne (by omega)], fun j _ => ⟨by rw [wr_ne (by decide)], by rw [wr_ne (by decide)]⟩, fun j _ => ⟨by rw [wr_ne (by decide)], by rw [wr_ne (by decide)]⟩⟩
    rw [sum_f e]
    refine ⟨p_wr (p_wr (p_wr I 222 br (nI cd)) 223 br (nI cd)) 192 40 (nI (br + 1)), cd, ?_, (l1.tr l2 (Nat.le_refl _) (Nat.le_refl _)).tr l3 (Nat.le_refl _) (Nat.le_refl _), x2.up (by decide), ⟨(cf.go (f2 13 (by decide)) (f2 14 (by decide))).g, fun h9 => absurd h9 e, (f2 46 (by decide)).trans h.2.2.1, h.2.2.2⟩, by rw [wr_eq, pk_us], fun h9 => absurd h9 e⟩
    rw [if_neg cf.nz, chk_in (by omega) (by omega), nI_1]; rfl
end SJ
