/-! ===== read: what a text tells, so far ===== -/
abbrev DY : Type := (Nat × Nat) × (Nat × (Nat → Int64) × (Nat → Int32)) × (Nat × Nat × Nat × Nat) × (Nat × Nat × Nat × Nat) × ((Nat → Int32) × (Nat → Int32) × (Nat → Nat) × (Nat → Nat)) × ((Nat → Int32) × (Nat → Int32) × (Nat → Nat)) × (Nat → List Br × List Op)
def updA {α : Type} (f : Nat → α) (k : Nat) (x : α) (j : Nat) : α := if j = k then x else f j
theorem uA_s {α : Type} {f : Nat → α} {k : Nat} {x : α} : updA f k x k = x := if_pos rfl
theorem uA_n {α : Type} {f : Nat → α} {k j : Nat} {x : α} (h : j ≠ k) : updA f k x j = f j := if_neg h
/-- a seam's ends as bits -/
def enB (x y : Int32) : Int32 := (1 <<< (x &&& 31)) ||| (1 <<< (y &&& 31))
def hsF (f g : Nat → Int32) (x y : Int32) : Nat → Nat → Bool
  | 0, _ => false
  | k + 1, i => if enB (f i) (g i) = enB x y then true else hsF f g x y k (i + 1)
section SL
variable {I : Nat → Nat → Int32} {J : Nat → Nat → Int64} {d : Nat} {tok : Nat → TK} {T : Nat}
def anS (tok : Nat → TK) (nm : Nat → Int64) (m j : Nat) (s : Nat × Nat) : Nat × Nat := if (fnF nm (tkV (tok j)) m 0).isSome = true then ntS 3 (tok j).2.1 s else s
def tnS (x : Int32) (p : Nat) (s : Nat × Nat) : Nat × Nat := if 0 ≤ x then s else ntS 4 p s
/-! what the tells make of it; j is the token behind the first -/
def y_town (tok : Nat → TK) (j : Nat) : DY → DY
  | (s, (m, nm, tw), (N, S, W, C), vl, se, ca, lw) => (anS tok nm m j s, (m + 1, updA nm m (tkV (tok j)), upd tw m (nI N)), (N + 1, S, W, C), vl, se, ca, lw)
def y_seam (tok : Nat → TK) (j : Nat) : DY → DY
  | (s, (m, nm, tw), (N, S, W, C), vl, (f, g, l, w), ca, lw) =>
    (nbS 0 99 (tok (j + 3)).2.2.1 (tok (j + 3)).2.1 (nbS 1 99 (tok (j + 2)).2.2.1 (tok (j + 2)).2.1
      (if twF nm tw m (tkV (tok j)) = twF nm tw m (tkV (tok (j + 1))) ∨ hsF f g (twF nm tw m (tkV (tok j))) (twF nm tw m (tkV (tok (j + 1)))) S 0 = true then ntS 3 (tok (j + 1)).2.1 (tnS (twF nm tw m (tkV (tok (j + 1)))) (tok (j + 1)).2.1 (tnS (twF nm tw m (tkV (tok j))) (tok j).2.1 s)) else tnS (twF nm tw m (tkV (tok (j + 1)))) (tok (j + 1)).2.1 (tnS (twF nm tw m (tkV (tok j))) (tok j).2.1 s))),
      (m, nm, tw), (N, S + 1, W, C), vl, (upd f S (twF nm tw m (tkV (tok j))), upd g S (twF nm tw m (tkV (tok (j + 1)))), updA l S (tok (j + 2)).2.2.1, updA w S (tok (j + 3)).2.2.1), ca, lw)
def y_woman (tok : Nat → TK) (j : Nat) : DY → DY
  | (s, (m, nm, tw), (N, S, W, C), (Q, vl), se, ca, lw) => (nbS 1 99 (tok (j + 1)).2.2.1 (tok (j + 1)).2.1 (anS tok nm m j s), (m + 1, updA nm m (tkV (tok j)), upd tw m (-1)), (N, S, W + 1, C), (Q + (tok (j + 1)).2.2.1, vl), se, ca, lw)
def y_cart (tok : Nat → TK) (j : Nat) : DY → DY
  | (s, (m, nm, tw), (N, S, W, C), vl, se, (a, b, ld), lw) =>
    (nbS 0 99 (tok (j + 3)).2.2.1 (tok (j + 3)).2.1
      (if twF (updA nm m (tkV (tok j))) (upd tw m (-1)) (m + 1) (tkV (tok (j + 1))) = twF (updA nm m (tkV (tok j))) (upd tw m (-1)) (m + 1) (tkV (tok (j + 2))) then ntS 3 (tok (j + 2)).2.1 (tnS (twF (updA nm m (tkV (tok j))) (upd tw m (-1)) (m + 1) (tkV (tok (j + 2)))) (tok (j + 2)).2.1 (tnS (twF (updA nm m (tkV (tok j))) (upd tw m (-1)) (m + 1) (tkV (tok (j + 1)))) (tok (j + 1)).2.1 (anS tok nm m j s))) else tnS (twF (updA nm m (tkV (tok j))) (upd tw m (-1)) (m + 1) (tkV (tok (j + 2)))) (tok (j + 2)).2.1 (tnS (twF (updA nm m (tkV (tok j))) (upd tw m (-1)) (m + 1) (tkV (tok (j + 1)))) (tok (j + 1)).2.1 (anS tok nm m j s))),
      (m + 1, updA nm m (tkV (tok j)), upd tw m (-1)), (N, S, W, C + 1), vl, se, (upd a C (twF (updA nm m (tkV (tok j))) (upd tw m (-1)) (m + 1) (tkV (tok (j + 1)))), upd b C (twF (updA nm m (tkV (tok j))) (upd tw m (-1)) (m + 1) (tkV (tok (j + 2)))), updA ld C (tok (j + 3)).2.2.1), lw)
def y_num (tok : Nat → TK) (k j : Nat) : DY → DY
  | (s, nms, cts, (Q, th, fr, sd), se, ca, lw) => (nbS 0 (if k = 265 then 100 else 9999) (tok j).2.2.1 (tok j).2.1 s, nms, cts, (Q, if k = 264 then (tok j).2.2.1 else th, if k = 265 then (tok j).2.2.1 else fr, if k = 266 then (tok j).2.2.1 else sd), se, ca, lw)
def y_law (k : Nat) (r : List Br × List Op) : DY → DY
  | (s, nms, cts, vl, se, ca, lw) => (s, nms, cts, vl, se, ca, updA lw k r)
def cu_town (tok : Nat → TK) (N : Nat) (c : Nat × Nat) : Nat × Nat := tkS tok 59 (tkS tok 2 (tfS (decide (N < 7)) c))
def cu_seam (tok : Nat → TK) (S : Nat) (c : Nat × Nat) : Nat × Nat := tkS tok 59 (tkS tok 3 (tkS tok 3 (tkS tok 2 (tkS tok 2 (tfS (decide (S < 10)) c)))))
def cu_woman (tok : Nat → TK) (W : Nat) (c : Nat × Nat) : Nat × Nat := tkS tok 59 (tkS tok 3 (tkS tok 2 (tfS (decide (W < 3)) c)))
def cu_cart (tok : Nat → TK) (C : Nat) (c : Nat × Nat) : Nat × Nat := tkS tok 59 (tkS tok 3 (tkS tok 2 (tkS tok 2 (tkS tok 2 (tfS (decide (C < 4)) c)))))
def cu_num (tok : Nat → TK) (c : Nat × Nat) : Nat × Nat := tkS tok 59 (tkS tok 3 (tfS true c))
/-! the class's cells -/
def cnC (I : Nat → Nat → Int32) (t : Nat × Nat × Nat × Nat) : Prop := (I 4 0 = nI t.1 ∧ t.1 ≤ 7) ∧ (I 4 1 = nI t.2.1 ∧ t.2.1 ≤ 10) ∧ (I 4 2 = nI t.2.2.1 ∧ t.2.2.1 ≤ 3) ∧ (I 4 3 = nI t.2.2.2 ∧ t.2.2.2 ≤ 4)
def vlC (I : Nat → Nat → Int32) (t : Nat × Nat × Nat × Nat) : Prop := I 4 4 = nI t.1 ∧ I 4 5 = nI t.2.1 ∧ I 4 6 = nI t.2.2.1 ∧ I 4 7 = nI t.2.2.2
def seC (I : Nat → Nat → Int32) (S : Nat) (t : (Nat → Int32) × (Nat → Int32) × (Nat → Nat) × (Nat → Nat)) : Prop := ∀ i, i < S → (I 5 i = t.1 i ∧ I 6 i = t.2.1 i ∧ I 7 i = enB (t.1 i) (t.2.1 i)) ∧ I 8 i = nI (t.2.2.1 i) ∧ I 9 i = nI (t.2.2.2 i)
def caC (I : Nat → Nat → Int32) (C : Nat) (t : (Nat → Int32) × (Nat → Int32) × (Nat → Nat)) : Prop := ∀ i, i < C → I 11 i = t.1 i ∧ I 12 i = t.2.1 i ∧ I 13 i = nI (t.2.2 i)
def lwC (I : Nat → Nat → Int32) (lw : Nat → List Br × List Op) (sz : Nat) : Prop := I 14 3 = nI sz ∧ ∀ k, k < 4 → ∃ p, I 17 k = nI p ∧ atL (I 15) p (lw k).1 (lw k).2 ∧ p + lnL (lw k).1 (lw k).2 ≤ sz
def RdP (I : Nat → Nat → Int32) (cb : Nat) (Y : DY) : Prop := cnC I Y.2.2.1 ∧ vlC I Y.2.2.2.1 ∧ seC I Y.2.2.1.2.1 Y.2.2.2.2.1 ∧ caC I Y.2.2.1.2.2.2 Y.2.2.2.2.2.1 ∧ ∃ sz, lwC I Y.2.2.2.2.2.2 sz ∧ sz ≤ 8 + cb
def RdN (I : Nat → Nat → Int32) (J : Nat → Nat → Int64) (Y : DY) : Prop := sfC I Y.1 ∧ nmC I J Y.2.1.1 Y.2.1.2.1 Y.2.1.2.2 ∧ Y.2.1.1 = Y.2.2.1.1 + Y.2.2.1.2.2.1 + Y.2.2.1.2.2.2
def RdV (I : Nat → Nat → Int32) (J : Nat → Nat → Int64) (cb : Nat) (Y : DY) : Prop := RdN I J Y ∧ RdP I cb Y
theorem sfC.go {I' : Nat → Nat → Int32} {s : Nat × Nat} (h : sfC I s) (h9 : I' 3 9 = I 3 9) (h10 : I' 3 10 = I 3 10) : sfC I' s := ⟨h9.trans h.1, h.2.1, fun e => h10.trans (h.2.2.1 e), fun e => h10.trans (h.2.2.2 e)⟩
theorem RdP.kp {I' : Nat → Nat → Int32} {cb cb' : Nat} {Y : DY} (h : RdP I cb Y) (hk : ∀ k, 4 ≤ k → k ≤ 17 → I' k = I k) (hb : cb ≤ cb') : RdP I' cb' Y := by
  obtain ⟨h1, h2, h3, h4, sz, h5, h6⟩ := h
  have e4 := hk 4 (by omega) (by omega); have e5 := hk 5 (by omega) (by omega); have e6 := hk 6 (by omega) (by omega); have e7 := hk 7 (by omega) (by omega); have e8 := hk 8 (by omega) (by omega); have e9 := hk 9 (by omega) (by omega)
  have e11 := hk 11 (by omega) (by omega); have e12 := hk 12 (by omega) (by omega); have e13 := hk 13 (by omega) (by omega); have e14 := hk 14 (by omega) (by omega); have e15 := hk 15 (by omega) (by omega); have e17 := hk 17 (by omega) (by omega)
  refine ⟨?_, ?_, ?_, ?_, sz, ?_, by omega⟩
  · unfold cnC at *; rw [e4]; exact h1
  · unfold vlC at *; rw [e4]; exact h2
  · unfold seC at *; rw [e5, e6, e7, e8, e9]; exact h3
  · unfold caC at *; rw [e11, e12, e13]; exact h4
  · unfold lwC at *; rw [e14, e15, e17]; exact h5
theorem RdV.mv {I' : Nat → Nat → Int32} {cb cb' : Nat} {Y : DY} (h : RdV I J cb Y) (hk : kp [3] I I') (hf : k678 I I') (hb : cb ≤ cb') : RdV I' J cb' Y :=
  ⟨⟨h.1.1.go (hf 9 (by decide) (by decide) (by decide)) (hf 10 (by decide) (by decide) (by decide)), ⟨(hf 5 (by decide) (by decide) (by decide)).trans h.1.2.1.1, h.1.2.1.2.1, fun j hj => by rw [hk 24 (by decide)]; exact h.1.2.1.2.2 j hj⟩, h.1.2.2⟩, h.2.kp (fun k a b => hk k (fun h9 => by rw [List.mem_singleton] at h9; omega)) hb⟩
theorem wJ_s {k j : Nat} {v : Int64} : p_wrJ J k j v k j = v := by
  show (if k = k then vp_updL (J k) j v else J k) j = v
  rw [if_pos rfl]; exact if_pos rfl
theorem wJ_n {k j i : Nat} {v : Int64} (h : i ≠ j) : p_wrJ J k j v k i = J k i := by
  show (if k = k then vp_updL (J k) j v else J k) i = J k i
  rw [if_pos rfl]; exact if_neg h
theorem wJ_k {k j a : Nat} {v : Int64} (h : a ≠ k) : p_wrJ J k j v a = J a := if_neg h
theorem wJ_kp {k j : Nat} {v : Int64} : kpJ [k] J (p_wrJ J k j v) := fun a ha => wJ_k (fun e => ha (by rw [e]; exact List.mem_singleton.mpr rfl))
theorem cuC_J {J' : Nat → Nat → Int64} {c : Nat × Nat} (h : cuC I J tok T c) (hj : J' 21 = J 21) : cuC I J' tok T c := by
  unfold cuC tkC at *; rw [hj]; exact h
theorem ev_addName (hd : 3 ≤ d) (hT : TKS tok T) {c : Nat × Nat} (h : cuC I J tok T c) {s : Nat × Nat} (hs : sfC I s) {m : Nat} {nm : Nat → Int64} {tw : Nat → Int32} (hn : nmC I J m nm tw) (hm : m < 14) {j : Nat} (hj : j < T) (x : Int32) :
    ∃ I', EV d T0 49 [.ref 3, .int (nI j), .int x] (I, J) = some (none, (I', p_wrJ J 23 m (tkV (tok j)))) ∧ kp [3, 24] I I' ∧ (∀ q, q ≠ 5 → q ≠ 9 → q ≠ 10 → I' 3 q = I 3 q) ∧ cuC I' (p_wrJ J 23 m (tkV (tok j))) tok T c ∧ sfC I' (anS tok nm m j s) ∧ nmC I' (p_wrJ J 23 m (tkV (tok j))) (m + 1) (updA nm m (tkV (tok j))) (upd tw m x) := by
  obtain ⟨d, rfl⟩ : ∃ z, d = z + 1 := ⟨d - 1, by omega⟩
  have hgo : ∀ (I1 : Nat → Nat → Int32) (s1 : Nat × Nat), kp [3] I I1 → (∀ q, q ≠ 9 → q ≠ 10 → I1 3 q = I 3 q) → cuC I1 J tok T c → sfC I1 s1 → ∃ I', runS (EV d) none 3 T0 C_X4_addName k_X4_addName rtV f_X4_addName 999999 14 [.ref 3, .int (nI j), .int x] [] (I1, J) = some (none, (I', p_wrJ J 23 m (tkV (tok j)))) ∧ kp [3, 24] I I' ∧ (∀ q, q ≠ 5 → q ≠ 9 → q ≠ 10 → I' 3 q = I 3 q) ∧ cuC I' (p_wrJ J 23 m (tkV (tok j))) tok T c ∧ sfC I' s1 ∧ nmC I' (p_wrJ J 23 m (tkV (tok j))) (m + 1) (updA nm m (tkV (tok j))) (upd tw m x) := by
    intro I1 s1 a1 a2 a3 a4
    have e5 : I1 3 5 = nI m := (a2 5 (by decide) (by decide)).trans hn.1
    have x2 : kp [3, 24] I1 (p_wr (p_wr I1 24 m x) 3 5 (nI (m + 1))) := (kp.rf.wr (by decide)).wr (by decide)
    have f2 : ∀ q, q ≠ 5 → p_wr (p_wr I1 24 m x) 3 5 (nI (m + 1)) 3 q = I1 3 q := fun q hq => by rw [wr_eq, pk_un hq, wr_ne (by decide)]
    refine ⟨p_wr (p_wr I1 24 m x) 3 5 (nI (m + 1)), ?_, (a1.up (by decide)).tr x2, fun q b1 b2 b3 => (f2 q b1).trans (a2 q b2 b3), ?_, a4.go (f2 9 (by decide)) (f2 10 (by decide)), by rw [wr_eq, pk_us], by omega, fun i hi => ⟨?_, ?_⟩⟩
    · rw [show (999999 : Nat) = 999998 + 1 from rfl, runS_s, s_X4_addName_14, e5, if_neg (show ¬ (14 : Int32) ≤ nI (m) from nI_ge (a := m) (b := 14) (by omega) (by omega)), q_valueOf (by omega) hT a3 hj, p_cl_s, chk_in (by omega) (by omega)]
      dsimp only
      rw [e5, chk_in (by omega) (by omega), nI_clamp (by omega), nI_1]; rfl
    · refine cuC_J ⟨(f2 6 (by decide)).trans a3.1, (f2 7 (by decide)).trans a3.2.1, (f2 8 (by decide)).trans a3.2.2.1, a3.2.2.2.1, a3.2.2.2.2.1, by rw [x2 18 (by decide)]; exact a3.2.2.2.2.2.1, fun i hi => (a3.2.2.2.2.2.2 i hi).kp x2 (by decide)⟩ (wJ_k (by decide))
    · by_cases e : i = m
      · subst e; rw [wJ_s, uA_s]
      · rw [wJ_n e, uA_n e]; exact (hn.2.2 i (by omega)).1
    · rw [wr_ne (by decide), wr_eq]
      by_cases e : i = m
      · subst e; rw [pk_us, pk_us]
      · rw [pk_un e, pk_un e, a1 24 (by decide)]; exact (hn.2.2 i (by omega)).2
  rw [e_X4_addName, runS_M, s_X4_addName_0, q_findName (by omega) hT h hn hj, p_ci_s]
  unfold anS
  cases e : fnF nm (tkV (tok j)) m 0 with
  | none =>
    rw [if_pos (show fnI none < 0 by decide), if_neg (by decide)]
    exact hgo I s kp.rf (fun _ _ _ => rfl) h hs
  | some r =>
    have hr := fnF_b nm (tkV (tok j)) m 0 r e
    obtain ⟨I1, t1, t2, t3, t4, t5⟩ := ev_note (d := d) (I := I) (J := J) (by omega) hT h hs (k := 3) (by omega) (by omega) hj
    have t1' : EV d T0 48 [.ref 3, .int 3, .int (nI j)] (I, J) = _ := t1
    rw [if_neg (show ¬ fnI (some r) < (0 : Int32) from nI_nlt (a := r) (b := 0) (by omega) (by omega)), t1', p_cv_s, if_pos (show (some r).isSome = true from rfl)]
    exact hgo I1 _ t2 t3 t4 t5
theorem lp_hs {O : Ora} {S : Nat} (hS : I 4 1 = nI S) (h10 : S ≤ 10) {f g : Nat → Int32} (hf : ∀ i, i < S → I 7 i = enB (f i) (g i)) (x y : Int32) : ∀ (k i n : Nat), i + k = S → k < n →
    runS O none 4 T0 C_X3_hasSeam k_X3_hasSeam rtZ f_X3_hasSeam n 2 [.ref 4, .int x, .int y, .int (nI i)] [] (I, J) = some (some (.int (zI (hsF f g x y k i = true))), (I, J)) := by
  intro k
  induction k with
  | zero =>
    intro i n hi hn
    obtain ⟨n, rfl⟩ : ∃ z, n = z + 1 := ⟨n - 1, by omega⟩
    rw [runS_s, s_X3_hasSeam_2, hS, if_pos (nI_le (by omega) (by omega))]; rfl
  | succ k ih =>
    intro i n hi hn
    obtain ⟨n, rfl⟩ : ∃ z, n = z + 1 := ⟨n - 1, by omega⟩
    rw [runS_s, s_X3_hasSeam_2, hS, if_neg (nI_ge (by omega) (by omega)), chk_in (by omega) (by omega), nI_clamp (by omega), hf i (by omega)]
    unfold hsF
    by_cases e : enB (f i) (g i) = enB x y
    · rw [if_pos (show enB (f i) (g i) = (1 <<< (x &&& 31)) ||| (1 <<< (y &&& 31)) from e), if_pos e]; rfl
    · rw [if_neg (show ¬ enB (f i) (g i) = (1 <<< (x &&& 31)) ||| (1 <<< (y &&& 31)) from e), if_neg e, nI_1]
      exact ih (i + 1) n (by omega) (by omega)
theorem q_hasSeam (hd : 1 ≤ d) {S : Nat} (hS : I 4 1 = nI S) (h10 : S ≤ 10) {f g : Nat → Int32} (hf : ∀ i, i < S → I 7 i = enB (f i) (g i)) (x y : Int32) : EV d T0 32 [.ref 4, .int x, .int y] (I, J) = some (some (.int (zI (hsF f g x y S 0 = true))), (I, J)) := by
  obtain ⟨d, rfl⟩ : ∃ z, d = z + 1 := ⟨d - 1, by omega⟩
  rw [e_X3_hasSeam, runS_M, s_X3_hasSeam_0]
  exact lp_hs hS h10 hf x y S 0 999999 (by omega) (by omega)
end SL
