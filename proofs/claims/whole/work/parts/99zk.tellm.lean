/-! ===== read: names, towns, numbers (reference) ===== -/
section SP
variable {I : Nat → Nat → Int32} {J : Nat → Nat → Int64} {d : Nat} {tok : Nat → TK} {T : Nat}
/-- fields of the cursor and of the faults -/
def kCw (I I' : Nat → Nat → Int32) : Prop := ∀ j, j ∉ [11, 13, 14, 15, 16] → I' 192 j = I 192 j
theorem kCw.rf : kCw I I := fun _ _ => rfl
theorem kCw.tr {I' I'' : Nat → Nat → Int32} (h : kCw I I') (h' : kCw I' I'') : kCw I I'' := fun j hj => (h' j hj).trans (h j hj)
theorem kCu.w {I' : Nat → Nat → Int32} (h : kCu I I') : kCw I I' := fun j hj => h j (fun e => hj (by rw [e]; decide)) (fun e => hj (by rw [e]; decide)) (fun e => hj (by rw [e]; decide))
theorem wrg_w {I' : Nat → Nat → Int32} (h : ∀ q, q ≠ 15 → q ≠ 16 → I' 192 q = I 192 q) : kCw I I' := fun j hj => h j (fun e => hj (by rw [e]; decide)) (fun e => hj (by rw [e]; decide))
theorem sfM.go {I' : Nat → Nat → Int32} {s : Nat × Nat} (h : sfM I s) (h9 : I' 192 15 = I 192 15) (h10 : I' 192 16 = I 192 16) : sfM I' s := ⟨h9.trans h.1, h.2.1, fun e => h10.trans (h.2.2.1 e), h.2.2.2⟩
theorem sfM.cu {I' : Nat → Nat → Int32} {s : Nat × Nat} (h : sfM I s) (hk : kCu I I') : sfM I' s := h.go (hk 15 (by decide) (by decide) (by decide)) (hk 16 (by decide) (by decide) (by decide))
theorem nmM.go {I' : Nat → Nat → Int32} {m : Nat} {nm : Nat → Int64} {tw : Nat → Int32} (h : nmM I J m nm tw) (h20 : I' 192 20 = I 192 20) (h201 : I' 201 = I 201) : nmM I' J m nm tw := ⟨h20.trans h.1, h.2.1, fun j hj => by rw [h201]; exact h.2.2 j hj⟩
theorem tkV_nm (hV : TKV tok T) {j : Nat} (hj : j < T) (hk : (tok j).1 = 2) : tkV (tok j) = (tok j).2.2.2 := by
  unfold tkV; rw [(hV j hj).2.1 hk]; exact Int64.zero_add _
theorem nt_nt {k p : Nat} {s : Nat × Nat} (hk : k ≠ 0) : ntS k p (ntS k p s) = ntS k p s := by
  unfold ntS
  by_cases e : s.1 = 0
  · rw [if_pos e, if_neg (show ¬ k = 0 from hk)]
  · rw [if_neg e, if_neg e]
def orS (p k : Nat) (s : Nat × Nat) : Prop := s.1 = 0 ∨ s.2 < p ∨ (s.2 = p ∧ s.1 ≤ k)
theorem or_nt {p k : Nat} {s : Nat × Nat} (h : orS p k s) : orS p k (ntS k p s) := by
  unfold ntS
  by_cases e : s.1 = 0
  · rw [if_pos e]; exact Or.inr (Or.inr ⟨rfl, Nat.le_refl _⟩)
  · rw [if_neg e]; exact h
theorem lp_named (hd : 1 ≤ d) (hT : TKS tok T) {c : Nat × Nat} (hc : c.2 = 0) {m : Nat} {nm : Nat → Int64} {tw : Nat → Int32} {t : Nat} (ht : t < T) {v : Int64} (hv : J 198 t = v) : ∀ (k i n : Nat) (s : Nat × Nat) (I : Nat → Nat → Int32), cuM I J tok T c → nmM I J m nm tw → sfM I s → orS (tok t).2.1 3 s → i + k = m → k < n →
    ∃ I', runS (EV d) none 3 T0 C_X12_named k_X12_named rtI f_X12_named n 12 [.ref 192, .int (nI t), .int (nI i)] [] (I, J) = some (some (.int (nI t)), (I', J)) ∧ kp [192] I I' ∧ (∀ q, q ≠ 15 → q ≠ 16 → I' 192 q = I 192 q) ∧ cuM I' J tok T c ∧ sfM I' (if (fnF nm v k i).isSome = true then ntS 3 (tok t).2.1 s else s) := by
  have hTT := hT.2.1
  intro k
  induction k with
  | zero =>
    intro i n s I cu hn hs ho hi hk
    obtain ⟨n, rfl⟩ : ∃ z, n = z + 1 := ⟨n - 1, by omega⟩
    have h14 := hn.2.1
    rw [runS_s, s_X12_named_12, hn.1, if_pos (nI_le (by omega) (by omega))]
    exact ⟨I, rfl, kp.rf, fun _ _ _ => rfl, cu, hs⟩
  | succ k ih =>
    intro i n s I cu hn hs ho hi hk
    obtain ⟨n, rfl⟩ : ∃ z, n = z + 1 := ⟨n - 1, by omega⟩
    have h14 := hn.2.1
    rw [runS_s, s_X12_named_12, hn.1, if_neg (nI_ge (by omega) (by omega)), if_pos (show I 192 13 = 0 by rw [cu.2.1, hc]; rfl), chk_in (by omega) (by omega), chk_in (by omega) (by omega), nI_clamp (by omega), nI_clamp (by omega), (hn.2.2 i (by omega)).1, hv, nI_1]
    simp only [lg_0]
    unfold fnF
    by_cases e : nm i = v
    · obtain ⟨I1, t1, t2, t3, t4, t5⟩ := ev_wrong (d := d) (I := I) (J := J) hd hT cu hc hs (k := 3) (by omega) ht ho
      have t1' : EV d T0 180 [.ref 192, .int 3, .int (nI t)] (I, J) = _ := t1
      rw [if_pos e, if_pos e, t1', p_cv_s]
      obtain ⟨I2, u1, u2, u3, u4, u5⟩ := ih (i + 1) n _ I1 t4 (hn.go (t3 20 (by decide) (by decide)) (t2 201 (by decide))) t5 (or_nt ho) (by omega) (by omega)
      refine ⟨I2, u1, t2.tr u2, fun q a b => (u3 q a b).trans (t3 q a b), u4, ?_⟩
      rw [if_pos (show (some i).isSome = true from rfl)]
      split at u5
      · rw [nt_nt (by omega)] at u5; exact u5
      · exact u5
    · rw [if_neg e, if_neg e]
      exact ih (i + 1) n s I cu hn hs ho (by omega) (by omega)
theorem ev_named (hd : 4 ≤ d) (hT : TKS tok T) (hV : TKV tok T) {c : Nat × Nat} (cu : cuM I J tok T c) (hc : c.2 = 0) {m : Nat} {nm : Nat → Int64} {tw : Nat → Int32} (hn : nmM I J m nm tw) {s : Nat × Nat} (hs : sfM I s) (ho : s.1 = 0 ∨ s.2 < (tok c.1).2.1) :
    ∃ I', EV d T0 189 [.ref 192] (I, J) = some (some (.int (nI c.1)), (I', J)) ∧ kp [192] I I' ∧ kCw I I' ∧ cuG I' J tok T (tkS tok 2 c) ∧ ((tkS tok 2 c).2 = 0 → sfM I' (anS tok nm m c.1 s)) := by
  obtain ⟨d, rfl⟩ : ∃ z, d = z + 1 := ⟨d - 1, by omega⟩
  have h14 := hn.2.1
  obtain ⟨I1, t1, t2, t3, t4⟩ := ev_must (d := d) (I := I) (J := J) (by omega) hT cu (k := 2) (by omega) (by decide) (by omega) (by omega)
  have t1' : EV d T0 182 [.ref 192, .int 1] (I, J) = _ := t1
  rw [e_X12_named, runS_M, s_X12_named_0, t1', p_cv_s, cu.1]
  by_cases z : (tkS tok 2 c).2 = 0
  · obtain ⟨z1, z2, z3, z4⟩ := tk_z z
    have hv := (cu.2.2.2.2.2 c.1 cu.2.2.2.1).2.2.2 z2
    obtain ⟨I2, u1, u2, u3, u4, u5⟩ := lp_named (d := d) (J := J) (by omega) hT z cu.2.2.2.1 (hv.trans (tkV_nm hV cu.2.2.2.1 z2).symm) m 0 999999 s I1 t4 (hn.go (t3 20 (by decide) (by decide) (by decide)) (t2 201 (by decide))) (hs.cu t3) (ho.elim Or.inl (fun h9 => Or.inr (Or.inl h9))) (by omega) (by omega)
    exact ⟨I2, u1, t2.tr u2, t3.w.tr (wrg_w u3), u4.g, fun _ => u5⟩
  · refine ⟨I1, ?_, t2, t3.w, t4.g, fun h9 => absurd h9 z⟩
    rw [show (999999 : Nat) = 999998 + 1 from rfl, runS_s, s_X12_named_12, if_neg (t4.f z).nz]
    split <;> rfl
theorem cuM_J {J' : Nat → Nat → Int64} {c : Nat × Nat} (h : cuM I J tok T c) (hj : J' 198 = J 198) : cuM I J' tok T c := by
  unfold cuM tkM at *; rw [hj]; exact h
theorem ev_ends (hd : 4 ≤ d) (hT : TKS tok T) {c : Nat × Nat} (cu : cuG I J tok T c) {m : Nat} {nm : Nat → Int64} {tw : Nat → Int32} (hn : nmM I J m nm tw) (hm : m < 14) {j : Nat} (hj : j < T) {v : Int64} (hv : J 198 j = v) (x : Int32) :
    ∃ I' J', EV d T0 190 [.ref 192, .int (nI j), .int x] (I, J) = some (none, (I', J')) ∧ kp [192, 201] I I' ∧ kpJ [200] J J' ∧ (∀ q, q ∉ [11, 13, 14, 20] → I' 192 q = I 192 q) ∧ cuG I' J' tok T (tkS tok 59 c) ∧ ((tkS tok 59 c).2 = 0 → nmM I' J' (m + 1) (updA nm m v) (upd tw m x)) := by
  obtain ⟨d, rfl⟩ : ∃ z, d = z + 1 := ⟨d - 1, by omega⟩
  have hTT := hT.2.1
  obtain ⟨I1, t1, t2, t3, t4⟩ := ev_mustG (d := d) (J := J) (by omega) hT cu 4 59 (by decide) (by decide) (by decide) (by omega) (by omega)
  have f1 : ∀ q, q ∉ [11, 13, 14, 20] → I1 192 q = I 192 q := fun q hq => t3 q (fun e => hq (by rw [e]; decide)) (fun e => hq (by rw [e]; decide)) (fun e => hq (by rw [e]; decide))
  rw [e_X12_ends, runS_M, s_X12_ends_0, t1, p_cv_s]
  dsimp only
  by_cases z : (tkS tok 59 c).2 = 0
  · have cu1 := t4.1 z
    have e20 : I1 192 20 = nI m := by rw [t3 20 (by decide) (by decide) (by decide)]; exact hn.1
    have x2 : kp [192, 201] I1 (p_wr (p_wr I1 201 m x) 192 20 (nI (m + 1))) := (kp.rf.wr (by decide)).wr (by decide)
    have f2 : ∀ q, q ≠ 20 → p_wr (p_wr I1 201 m x) 192 20 (nI (m + 1)) 192 q = I1 192 q := fun q hq => by rw [wr_eq, pk_un hq, wr_ne (by decide)]
    have hp : ∀ y : Option Rs, p_chk (p_in (nI m) 14) y = y := fun y => chk_in (by omega) (by omega)
    refine ⟨p_wr (p_wr I1 201 m x) 192 20 (nI (m + 1)), p_wrJ J 200 m v, ?_, (t2.up (by decide)).tr x2, wJ_kp, fun q hq => (f2 q (fun e => hq (by rw [e]; decide))).trans (f1 q hq), (cuM_J (cu1.go x2 (by decide) (f2 11 (by decide)) (f2 13 (by decide)) (f2 14 (by decide))) (wJ_k (by decide))).g, fun _ => ⟨by rw [wr_eq, pk_us], by omega, fun i hi => ⟨?_, ?_⟩⟩⟩
    · rw [if_pos (show I1 192 13 ≤ 0 by rw [cu1.2.1, z]; decide), chk_in (by omega) (by omega), e20, hp, hp, nI_clamp (by omega), nI_clamp (by omega), hv, nI_1]; rfl
    · by_cases e : i = m
      · subst e; rw [wJ_s, uA_s]
      · rw [wJ_n e, uA_n e]; exact (hn.2.2 i (by omega)).1
    · rw [wr_ne (by decide), wr_eq]
      by_cases e : i = m
      · subst e; rw [pk_us, pk_us]
      · rw [pk_un e, pk_un e, t2 201 (by decide)]; exact (hn.2.2 i (by omega)).2
  · refine ⟨I1, J, ?_, t2.up (by decide), kpJ.rf, f1, t4, fun h9 => absurd h9 z⟩
    rw [if_neg (t4.2 z).nl]; rfl
/-- the town of a name, as the reference looks it up -/
def ftV (nm : Nat → Int64) (tw : Nat → Int32) (m : Nat) (v : Int64) : Int32 := match ftF nm tw v m 0 with
  | none => -1
  | some r => tw r
theorem ftF_b (nm : Nat → Int64) (tw : Nat → Int32) (v : Int64) : ∀ (k i r : Nat), ftF nm tw v k i = some r → i ≤ r ∧ r < i + k ∧ nm r = v ∧ ¬ tw r < 0 := by
  intro k
  induction k with
  | zero => intro i r h; exact absurd h (by show ¬ none = some r; exact fun h9 => by cases h9)
  | succ k ih =>
    intro i r h
    unfold ftF at h
    by_cases c : nm i = v ∧ ¬ tw i < 0
    · rw [if_pos c] at h
      have e : i = r := Option.some.inj h
      subst e; exact ⟨Nat.le_refl _, by omega, c.1, c.2⟩
    · rw [if_neg c] at h
      have := ih (i + 1) r h
      exact ⟨by omega, by omega, this.2.2⟩
theorem ev_known (hd : 4 ≤ d) (hT : TKS tok T) (hV : TKV tok T) {c : Nat × Nat} (cu : cuG I J tok T c) (cT : c.1 < T) {m : Nat} {nm : Nat → Int64} {tw : Nat → Int32} (hn : nmM I J m nm tw) {s : Nat × Nat} (hs : c.2 = 0 → sfM I s) (ho : c.2 = 0 → s.1 = 0 ∨ s.2 < (tok c.1).2.1) :
    ∃ I' x, EV d T0 191 [.ref 192] (I, J) = some (some (.int x), (I', J)) ∧ kp [192] I I' ∧ kCw I I' ∧ cuG I' J tok T (tkS tok 2 c) ∧ ((tkS tok 2 c).2 = 0 → x = ftV nm tw m (tkV (tok c.1)) ∧ sfM I' (tnS (ftV nm tw m (tkV (tok c.1))) (tok c.1).2.1 s)) := by
  obtain ⟨d, rfl⟩ : ∃ z, d = z + 1 := ⟨d - 1, by omega⟩
  have hTT := hT.2.1
  have h14 := hn.2.1
  obtain ⟨I1, t1, t2, t3, t4⟩ := ev_mustG (d := d) (J := J) (by omega) hT cu 1 2 (by decide) (by decide) (by decide) (by omega) (by omega)
  rw [e_X12_knownTown, runS_M, s_X12_knownTown_0, t1, p_cv_s]
  dsimp only
  by_cases z : (tkS tok 2 c).2 = 0
  · obtain ⟨z1, z2, z3, z4⟩ := tk_z z
    have cu0 := cu.1 z1
    have cu1 := t4.1 z
    have hv : J 198 c.1 = tkV (tok c.1) := ((cu0.2.2.2.2.2 c.1 cT).2.2.2 z2).trans (tkV_nm hV cT z2).symm
    have hn1 : nmM I1 J m nm tw := hn.go (t3 20 (by decide) (by decide) (by decide)) (t2 201 (by decide))
    obtain ⟨q, hq, hr⟩ := lp_known21 (O := EV d) (I := I1) (J := J) hn1 (j := c.1) (by omega) m 0 999999 (by omega) (by omega)
    rw [hv] at hr
    rw [if_pos (show I1 192 13 ≤ 0 by rw [cu1.2.1, z]; decide), cu0.1]
    have hs1 := (hs z1).cu t3
    have e0 : nI 0 = (0 : Int32) := rfl
    rw [e0] at hr
    unfold tnS ftV
    cases e : ftF nm tw (tkV (tok c.1)) m 0 with
    | some r =>
      rw [e] at hr
      have hb := ftF_b _ _ _ _ _ _ e
      refine ⟨I1, tw r, hr, t2, t3.w, t4, fun _ => ⟨rfl, ?_⟩⟩
      rw [if_pos (show (0 : Int32) ≤ tw r from Int32.not_lt.mp hb.2.2.2)]; exact hs1
    | none =>
      rw [e] at hr
      obtain ⟨q, rfl⟩ : ∃ z, q = z + 1 := ⟨q - 1, by omega⟩
      obtain ⟨I2, u1, u2, u3, u4, u5⟩ := ev_wrong (d := d) (I := I1) (J := J) (by omega) hT cu1 z hs1 (k := 4) (j := c.1) (by omega) cT ((ho z1).elim Or.inl (fun h9 => Or.inr (Or.inl h9)))
      have u1' : EV d T0 180 [.ref 192, .int 4, .int (nI c.1)] (I1, J) = _ := u1
      refine ⟨I2, -1, ?_, t2.tr u2, t3.w.tr (wrg_w u3), u4.g, fun _ => ⟨rfl, ?_⟩⟩
      · dsimp only at hr
        rw [hr, runS_s, s_X12_knownTown_21, hn1.1, if_pos (Int32.le_refl _), u1', p_cv_s]; rfl
      · rw [if_neg (show ¬ (0 : Int32) ≤ -1 by decide)]; exact u5
  · refine ⟨I1, -1, ?_, t2, t3.w, t4, fun h9 => absurd h9 z⟩
    rw [if_neg (t4.2 z).nl]; rfl
theorem ev_boundG (hd : 3 ≤ d) (hT : TKS tok T) (hV : TKV tok T) {c : Nat × Nat} (cu : cuG I J tok T c) (cT : c.1 < T) {s : Nat × Nat} (hs : c.2 = 0 → sfM I s) {lo hi : Nat} (hlo : lo < 20000) (hhi : hi < 20000) (ho : c.2 = 0 → s.1 = 0 ∨ s.2 < (tok c.1).2.1) :
    ∃ I' x, EV d T0 192 [.ref 192, .int (nI lo), .int (nI hi)] (I, J) = some (some (.int x), (I', J)) ∧ kp [192] I I' ∧ kCw I I' ∧ cuG I' J tok T (tkS tok 3 c) ∧ ((tkS tok 3 c).2 = 0 → x = nI (tok c.1).2.2.1 ∧ sfM I' (nbS lo hi (tok c.1).2.2.1 (tok c.1).2.1 s)) := by
  have hTT := hT.2.1
  by_cases e : c.2 = 0
  · have cu0 := cu.1 e
    by_cases k : (tok c.1).1 = 3
    · obtain ⟨I1, t1, t2, t3, t4, t5⟩ := ev_bounded (d := d) (I := I) (J := J) hd hT cu0 e k (hs e) hlo hhi (by have := ((hV c.1 cT).1 k).1; omega) ((ho e).elim Or.inl (fun h9 => Or.inr (Or.inl h9)))
      rw [← go_tk (tok := tok) e k (by omega)] at t4
      exact ⟨I1, _, t1, t2, fun j hj => t3 j (fun e => hj (by rw [e]; decide)) (fun e => hj (by rw [e]; decide)) (fun e => hj (by rw [e]; decide)) (fun e => hj (by rw [e]; decide)) (fun e => hj (by rw [e]; decide)), t4.g, fun _ => ⟨rfl, t5⟩⟩
    · obtain ⟨d, rfl⟩ : ∃ z, d = z + 1 := ⟨d - 1, by omega⟩
      obtain ⟨I1, t1, t2, t3, t4⟩ := ev_fail (d := d) (I := I) (J := J) (by omega) hT cu0 (k := 1) (by omega)
      have t1' : EV d T0 179 [.ref 192, .int 1] (I, J) = _ := t1
      have e9 : flS 1 c = tkS tok 3 c := by unfold flS tkS; rw [if_pos e, if_pos e, if_neg k]
      rw [e9] at t4
      refine ⟨I1, nI lo, ?_, t2, t3.w, t4.g, fun h9 => absurd (tk_z h9).2.1 k⟩
      rw [e_X12_bounded, runS_M, s_X12_bounded_0, if_neg (show ¬ 0 < I 192 13 by rw [cu0.2.1, e]; decide), q_is' (by omega) hT cu0 2 3 (by decide) (by decide) (by decide), p_ci_s, if_pos (zI_f (fun h9 => k h9.2)), t1', p_cv_s]; rfl
  · have cf := cu.2 e
    obtain ⟨d, rfl⟩ : ∃ z, d = z + 1 := ⟨d - 1, by omega⟩
    refine ⟨I, nI lo, ?_, kp.rf, kCw.rf, by rw [tk_f e]; exact cu, fun h9 => absurd (tk_z h9).1 e⟩
    have h3 := cf.2.2.2
    rw [e_X12_bounded, runS_M, s_X12_bounded_0, if_pos (show 0 < I 192 13 by rw [cf.1]; exact nI_lt (a := 0) (by have := cf.2.2.1; omega) (by omega)), ev_failF (by omega) cf, p_cv_s]; rfl
/-- is such a seam told? as the reference looks -/
def hsR (f g : Nat → Int32) (x y : Int32) : Nat → Nat → Bool
  | 0, _ => false
  | k + 1, i => if (f i = x ∧ g i = y) ∨ (f i = y ∧ g i = x) then true else hsR f g x y k (i + 1)
theorem lp_hsR {O : Ora} {v S : Nat} (hv : v < 2) (h19 : I 192 19 = nI v) (hS : I 203 v = nI S) (h10 : S ≤ 10) (x y : Int32) : ∀ (k i n : Nat), i + k = S → 2 * k < n →
    runS O none 4 T0 C_X12_hasSeam k_X12_hasSeam rtZ f_X12_hasSeam n 8 [.ref 192, .int x, .int y, .int (nI (10 * v + i))] [] (I, J) = some (some (.int (zI (hsR (fun i => I 204 (10 * v + i)) (fun i => I 205 (10 * v + i)) x y k i = true))), (I, J)) := by
  have ht : (10 : Int32) * nI v + nI S = nI (10 * v + S) := by rw [show (10 : Int32) * nI v = nI (10 * v) from pk_mul 10 v, nI_add]
  intro k
  induction k with
  | zero =>
    intro i n hi hn
    obtain ⟨n, rfl⟩ : ∃ z, n = z + 1 := ⟨n - 1, by omega⟩
    rw [runS_s, s_X12_hasSeam_8, h19, chk_in (by omega) (by omega), nI_clamp (by omega), hS, ht, if_pos (nI_le (by omega) (by omega))]; rfl
  | succ k ih =>
    intro i n hi hn
    obtain ⟨n, rfl⟩ : ∃ z, n = z + 1 + 1 := ⟨n - 2, by omega⟩
    have hp : ∀ y : Option Rs, p_chk (p_in (nI (10 * v + i)) 20) y = y := fun y => chk_in (by omega) (by omega)
    have hr : ∀ q, 2 * k < q → runS O none 4 T0 C_X12_hasSeam k_X12_hasSeam rtZ f_X12_hasSeam q 8 [.ref 192, .int x, .int y, .int (nI (10 * v + i + 1))] [] (I, J) = some (some (.int (zI (hsR (fun i => I 204 (10 * v + i)) (fun i => I 205 (10 * v + i)) x y k (i + 1) = true))), (I, J)) := fun q hq => ih (i + 1) q (by omega) hq
    have h49 : runS O none 4 T0 C_X12_hasSeam k_X12_hasSeam rtZ f_X12_hasSeam (n + 1) 49 [.ref 192, .int x, .int y, .int (nI (10 * v + i))] [] (I, J) = some (some (.int (zI ((if I 204 (10 * v + i) = y ∧ I 205 (10 * v + i) = x then true else hsR (fun i => I 204 (10 * v + i)) (fun i => I 205 (10 * v + i)) x y k (i + 1)) = true))), (I, J)) := by
      rw [runS_s, s_X12_hasSeam_49, hp, hp, nI_clamp (by omega), nI_1]
      by_cases e1 : I 204 (10 * v + i) = y
      · rw [if_pos e1]
        by_cases e2 : I 205 (10 * v + i) = x
        · rw [if_pos e2, if_pos ⟨e1, e2⟩]; rfl
        · rw [if_neg e2, if_neg (fun h9 => e2 h9.2)]; exact hr n (by omega)
      · rw [if_neg e1, if_neg (fun h9 => e1 h9.1)]; exact hr n (by omega)
    rw [runS_s, s_X12_hasSeam_8, h19, chk_in (by omega) (by omega), nI_clamp (by omega), hS, ht, if_neg (nI_ge (by omega) (by omega)), hp, hp, nI_clamp (by omega)]
    unfold hsR
    by_cases e1 : I 204 (10 * v + i) = x
    · rw [if_pos e1]
      by_cases e2 : I 205 (10 * v + i) = y
      · rw [if_pos e2, if_pos (Or.inl ⟨e1, e2⟩)]; rfl
      · rw [if_neg e2, h49]
        by_cases e3 : I 204 (10 * v + i) = y ∧ I 205 (10 * v + i) = x
        · rw [if_pos e3, if_pos (Or.inr e3)]
        · rw [if_neg e3, if_neg (fun h9 => h9.elim (fun h8 => e2 h8.2) e3)]
    · rw [if_neg e1, h49]
      by_cases e3 : I 204 (10 * v + i) = y ∧ I 205 (10 * v + i) = x
      · rw [if_pos e3, if_pos (Or.inr e3)]
      · rw [if_neg e3, if_neg (fun h9 => h9.elim (fun h8 => e1 h8.1) e3)]
theorem q_hasSeamR (hd : 1 ≤ d) {v S : Nat} (hv : v < 2) (h19 : I 192 19 = nI v) (hS : I 203 v = nI S) (h10 : S ≤ 10) (x y : Int32) : EV d T0 193 [.ref 192, .int x, .int y] (I, J) = some (some (.int (zI (hsR (fun i => I 204 (10 * v + i)) (fun i => I 205 (10 * v + i)) x y S 0 = true))), (I, J)) := by
  obtain ⟨d, rfl⟩ : ∃ z, d = z + 1 := ⟨d - 1, by omega⟩
  rw [e_X12_hasSeam, runS_M, s_X12_hasSeam_0, h19, show (10 : Int32) * nI v = nI (10 * v) from pk_mul 10 v]
  exact lp_hsR hv h19 hS h10 x y S 0 999999 (by omega) (by omega)
end SP
