/-! ===== read: any tell (reference) ===== -/
section ST
variable {I : Nat → Nat → Int32} {J : Nat → Nat → Int64} {d : Nat} {tok : Nat → TK} {T : Nat}
def sdN (k : Nat) : Nat := if 204 ≤ k ∧ k ≤ 207 then 10 else if (211 ≤ k ∧ k ≤ 213) ∨ k = 217 ∨ k = 218 then 4 else if 219 ≤ k ∧ k ≤ 223 then 130 else if k = 224 ∨ k = 225 then 420 else 1
def rmL : List Nat := [192, 201, 202, 203, 204, 205, 206, 207, 208, 209, 210, 211, 212, 213, 214, 215, 216, 217, 218, 219, 220, 221, 222, 223, 224, 225, 226]
/-- what a reading changes in the reference: one side alone -/
def rmF (I I' : Nat → Nat → Int32) (v : Nat) : Prop := kp rmL I I' ∧ (∀ j, j ∉ [11, 12, 13, 14, 15, 16, 20, 40, 46, 50] → I' 192 j = I 192 j) ∧ ∀ k, 202 ≤ k → k ≤ 225 → ∀ j, j < sdN k * v ∨ sdN k * v + sdN k ≤ j → I' k j = I k j
theorem rmF.rf {v : Nat} : rmF I I v := ⟨kp.rf, fun _ _ => rfl, fun _ _ _ _ _ => rfl⟩
theorem rmF.tr {I' I'' : Nat → Nat → Int32} {v : Nat} (h : rmF I I' v) (h' : rmF I' I'' v) : rmF I I'' v := ⟨h.1.tr h'.1, fun j hj => (h'.2.1 j hj).trans (h.2.1 j hj), fun k a b j hj => (h'.2.2 k a b j hj).trans (h.2.2 k a b j hj)⟩
theorem rmF_o {I' : Nat → Nat → Int32} {v : Nat} {X : List Nat} (hk : kp X I I') (hX : ∀ k ∈ X, k = 192 ∨ k = 201) (hf : ∀ j, j ∉ [11, 12, 13, 14, 15, 16, 20, 40, 46, 50] → I' 192 j = I 192 j) : rmF I I' v :=
  ⟨hk.up (fun k h9 => by rcases hX k h9 with e | e <;> rw [e] <;> decide), hf, fun k a b j _ => by rw [hk k (fun h9 => by have := hX k h9; omega)]⟩
theorem rmF_cu {I' : Nat → Nat → Int32} {v : Nat} (hk : kp [192] I I') (hf : kCu I I') : rmF I I' v := rmF_o hk (by decide) (fun j hj => hf j (fun e => hj (by rw [e]; decide)) (fun e => hj (by rw [e]; decide)) (fun e => hj (by rw [e]; decide)))
theorem rmF_cw {I' : Nat → Nat → Int32} {v : Nat} (hk : kp [192] I I') (hf : kCw I I') : rmF I I' v := rmF_o hk (by decide) (fun j hj => hf j (fun h9 => hj ((by decide : ∀ j ∈ [11, 13, 14, 15, 16], j ∈ [11, 12, 13, 14, 15, 16, 20, 40, 46, 50]) j h9)))
/-- one number of the side -/
theorem rmF_w {k v j : Nat} {x : Int32} (hk : k ∈ rmL) (h2 : 202 ≤ k ∧ k ≤ 225) (hj : sdN k * v ≤ j ∧ j < sdN k * v + sdN k) : rmF I (p_wr I k j x) v :=
  ⟨kp.rf.wr hk, fun q _ => by rw [wr_ne (by omega)], fun k' a b q hq => by
    by_cases e : k' = k
    · subst e; rw [wr_eq, pk_un (by omega)]
    · rw [wr_ne e]⟩
def cnM (I : Nat → Nat → Int32) (v : Nat) (t : Nat × Nat × Nat × Nat) : Prop := I 202 v = nI t.1 ∧ I 203 v = nI t.2.1 ∧ I 208 v = nI t.2.2.1 ∧ I 210 v = nI t.2.2.2
def vlM (I : Nat → Nat → Int32) (v : Nat) (t : Nat × Nat × Nat × Nat) : Prop := I 209 v = nI t.1 ∧ I 214 v = nI t.2.1 ∧ I 215 v = nI t.2.2.1 ∧ I 216 v = nI t.2.2.2
def seM (I : Nat → Nat → Int32) (v S : Nat) (t : (Nat → Int32) × (Nat → Int32) × (Nat → Nat) × (Nat → Nat)) : Prop := ∀ i, i < S → I 204 (10 * v + i) = t.1 i ∧ I 205 (10 * v + i) = t.2.1 i ∧ I 206 (10 * v + i) = nI (t.2.2.1 i) ∧ I 207 (10 * v + i) = nI (t.2.2.2 i)
def caM (I : Nat → Nat → Int32) (v C : Nat) (t : (Nat → Int32) × (Nat → Int32) × (Nat → Nat)) : Prop := ∀ i, i < C → I 211 (4 * v + i) = t.1 i ∧ I 212 (4 * v + i) = t.2.1 i ∧ I 213 (4 * v + i) = nI (t.2.2 i)
def lwM (I : Nat → Nat → Int32) (v br cd : Nat) (lw : Nat → List Br × List Op) : Prop := ∀ k, k < 4 → (lw k = ([], [lawD k]) ∧ I 218 (4 * v + k) = I 217 (4 * v + k)) ∨ ∃ q, I 217 (4 * v + k) = nI q ∧ I 218 (4 * v + k) = nI (q + (lw k).1.length + 1) ∧ 130 * v ≤ q ∧ q + (lw k).1.length + 1 ≤ br ∧ atV (420 * v) cd I q (lw k).1 (lw k).2
def tlM (I : Nat → Nat → Int32) (v cb : Nat) (lw : Nat → List Br × List Op) : Prop := (I 192 19 = nI v ∧ I 192 12 = nI 0) ∧ ∃ br cd, (I 192 40 = nI br ∧ 4 * br ≤ 4 * (130 * v) + cb ∧ 130 * v ≤ br) ∧ (I 192 46 = nI cd ∧ 420 * v ≤ cd ∧ cd ≤ 420 * v + cb) ∧ lwM I v br cd lw
theorem tlM_go {I' : Nat → Nat → Int32} {v cb cb' : Nat} {lw : Nat → List Br × List Op} {X : List Nat} (h : tlM I v cb lw) (hk : kp X I I') (hX : ∀ k ∈ X, ¬ (217 ≤ k ∧ k ≤ 225)) (hf : ∀ j, j ∈ [12, 19, 40, 46] → I' 192 j = I 192 j) (hb : cb ≤ cb') : tlM I' v cb' lw := by
  obtain ⟨⟨a1, a2⟩, br, cd, ⟨b1, b2, b3⟩, ⟨c1, c2, c3⟩, hl⟩ := h
  have e : ∀ k, 217 ≤ k → k ≤ 225 → I' k = I k := fun k a b => hk k (fun h9 => hX k h9 ⟨a, b⟩)
  refine ⟨⟨(hf 19 (by decide)).trans a1, (hf 12 (by decide)).trans a2⟩, br, cd, ⟨(hf 40 (by decide)).trans b1, by omega, b3⟩, ⟨(hf 46 (by decide)).trans c1, c2, by omega⟩, fun k hk4 => ?_⟩
  rw [e 217 (by omega) (by omega), e 218 (by omega) (by omega)]
  exact (hl k hk4).imp id (fun ⟨q, q1, q2, q3, q4, q5⟩ => ⟨q, q1, q2, q3, q4, atV_kp _ _ _ (fun k a b j _ _ => by rw [e k (by omega) (by omega)]) (fun j _ _ => ⟨by rw [e 224 (by omega) (by omega)], by rw [e 225 (by omega) (by omega)]⟩) q5⟩)
def RdM (I : Nat → Nat → Int32) (J : Nat → Nat → Int64) (v cb : Nat) (Y : DY) : Prop := (sfM I Y.1 ∧ nmM I J Y.2.1.1 Y.2.1.2.1 Y.2.1.2.2) ∧ cnM I v Y.2.2.1 ∧ vlM I v Y.2.2.2.1 ∧ (Y.1.1 = 0 → seM I v Y.2.2.1.2.1 Y.2.2.2.2.1 ∧ caM I v Y.2.2.1.2.2.2 Y.2.2.2.2.2.1) ∧ tlM I v cb Y.2.2.2.2.2.2
theorem cnM_go {I' : Nat → Nat → Int32} {v : Nat} {t : Nat × Nat × Nat × Nat} (h : cnM I v t) (h2 : I' 202 v = I 202 v) (h3 : I' 203 v = I 203 v) (h8 : I' 208 v = I 208 v) (h10 : I' 210 v = I 210 v) : cnM I' v t := ⟨h2.trans h.1, h3.trans h.2.1, h8.trans h.2.2.1, h10.trans h.2.2.2⟩
theorem seM_go {I' : Nat → Nat → Int32} {v S : Nat} {t : (Nat → Int32) × (Nat → Int32) × (Nat → Nat) × (Nat → Nat)} {X : List Nat} (h : seM I v S t) (hk : kp X I I') (hX : 204 ∉ X ∧ 205 ∉ X ∧ 206 ∉ X ∧ 207 ∉ X) : seM I' v S t := fun i hi => by rw [hk 204 hX.1, hk 205 hX.2.1, hk 206 hX.2.2.1, hk 207 hX.2.2.2]; exact h i hi
theorem caM_go {I' : Nat → Nat → Int32} {v C : Nat} {t : (Nat → Int32) × (Nat → Int32) × (Nat → Nat)} {X : List Nat} (h : caM I v C t) (hk : kp X I I') (hX : 211 ∉ X ∧ 212 ∉ X ∧ 213 ∉ X) : caM I' v C t := fun i hi => by rw [hk 211 hX.1, hk 212 hX.2.1, hk 213 hX.2.2]; exact h i hi
theorem ev_endsG (hd : 4 ≤ d) (hT : TKS tok T) {c : Nat × Nat} (cu : cuG I J tok T c) {m : Nat} {nm : Nat → Int64} {tw : Nat → Int32} (hn : nmM I J m nm tw) (hm : m < 14) {j : Nat} (hj : j < T) {v : Int64} (hv : c.2 = 0 → J 198 j = v) (x : Int32) :
    ∃ I' J', EV d T0 190 [.ref 192, .int (nI j), .int x] (I, J) = some (none, (I', J')) ∧ kp [192, 201] I I' ∧ kpJ [200] J J' ∧ (∀ q, q ∉ [11, 13, 14, 20] → I' 192 q = I 192 q) ∧ cuG I' J' tok T (tkS tok 59 c) ∧ ((tkS tok 59 c).2 = 0 → nmM I' J' (m + 1) (updA nm m v) (upd tw m x)) := by
  by_cases e : c.2 = 0
  · exact ev_ends hd hT cu hn hm hj (hv e) x
  · have cf := cu.2 e
    refine ⟨I, J, ?_, kp.rf, kpJ.rf, fun _ _ => rfl, by rw [tk_f e]; exact cu, fun h9 => absurd (tk_z h9).1 e⟩
    obtain ⟨d, rfl⟩ : ∃ z, d = z + 1 := ⟨d - 1, by omega⟩
    rw [e_X12_ends, runS_M, s_X12_ends_0, ev_mustF (by omega) cf, p_cv_s, if_neg cf.nl]; rfl
theorem ev_toldInt (hd : 5 ≤ d) (hT : TKS tok T) (hV : TKV tok T) {c : Nat × Nat} (cu : cuM I J tok T c) (hc : c.2 = 0) (h0 : (tok c.1).1 ≠ 0) (h1 : (tok c.1).1 ≠ 1) {s : Nat × Nat} (hs : sfM I s) (ho : orQ (tok c.1).2.1 s) {hi : Nat} (hhi : hi < 20000) :
    ∃ I' x, EV d T0 187 [.ref 192, .int (nI 0), .int (nI hi)] (I, J) = some (some (.int x), (I', J)) ∧ kp [192] I I' ∧ kCw I I' ∧ cuG I' J tok T (cu_num tok c) ∧ ((cu_num tok c).2 = 0 → x = nI (tok (c.1 + 1)).2.2.1 ∧ sfM I' (nbS 0 hi (tok (c.1 + 1)).2.2.1 (tok (c.1 + 1)).2.1 s)) := by
  obtain ⟨d, rfl⟩ : ∃ z, d = z + 1 := ⟨d - 1, by omega⟩
  have hTT := hT.2.1
  have cT := cu.2.2.2.1
  unfold cu_num
  obtain ⟨I1, t1, t2, t3, t4⟩ := ev_goesOn (d := d) (I := I) (J := J) (by omega) hT cu h0 h1 hc
  have et : tfS true c = goS c := by unfold tfS; rw [if_pos hc, if_pos rfl]
  rw [← et] at t4
  have T1 := tf_lt hT (room := true) cT (by omega) h0 h1
  have hz1 := tf_z (room := true) (c := c)
  generalize tfS true c = d1 at t4 T1 hz1 ⊢
  have ho1 : d1.2 = 0 → orQ (tok d1.1).2.1 s := fun z => by
    obtain ⟨-, -, -, e⟩ := hz1 z
    exact ho.up (Nat.le_of_lt (pl_lt hV (i := c.1) (j := d1.1) (by rw [e]; show c.1 < c.1 + 1; omega) T1.1))
  obtain ⟨I2, x2, u1, u2, u3, u4, u5⟩ := ev_boundG (d := d) (J := J) (lo := 0) (hi := hi) (by omega) hT hV t4.g T1.1 (fun _ => hs.cu t3) (by omega) hhi ho1
  obtain ⟨I3, v1, v2, v3, v4⟩ := ev_mustG (d := d) (J := J) (by omega) hT u4 4 59 (by decide) (by decide) (by decide) (by omega) (by omega)
  refine ⟨I3, x2, ?_, (t2.tr u2).tr v2, (t3.w.tr u3).tr v3.w, v4, fun z => ?_⟩
  · rw [e_X12_toldInt, runS_M, s_X12_toldInt_0, t1, p_cv_s, u1, p_ci_s, show (999999 : Nat) = 999998 + 1 from rfl, runS_s, s_X12_toldInt_11, v1, p_cv_s]; rfl
  · obtain ⟨z1, -, -, -⟩ := tk_z z
    obtain ⟨z2, -, -, -⟩ := tk_z z1
    obtain ⟨-, -, -, e⟩ := hz1 z2
    have ed : d1.1 = c.1 + 1 := by rw [e]
    obtain ⟨w1, w2⟩ := u5 z1
    rw [ed] at w1 w2
    exact ⟨w1, w2.cu v3⟩
theorem kap_q : ∀ k, k < 300 → vK k = true → ∀ q, q < 31 → 20 ≤ q → (kap k = q ↔ k = q + 236) := by decide +kernel
theorem kap_u : ∀ k, k < 300 → vK k = true → ¬ (256 ≤ k ∧ k ≤ 266) → kap k < 20 ∨ 30 < kap k := by decide +kernel
theorem neg24 : ∀ a, a < 24 → nI a - 24 < 0 := by decide +kernel
end ST
