/-! ===== read: what holds of what was told ===== -/
section SS
variable {tok : Nat → TK} {T : Nat}
theorem nt_z {k p : Nat} {s : Nat × Nat} (hk : k ≠ 0) (h : (ntS k p s).1 = 0) : False := by
  unfold ntS at h
  by_cases e : s.1 = 0
  · rw [if_pos e] at h; exact hk h
  · rw [if_neg e] at h; exact e h
theorem nt_id {k p : Nat} {s : Nat × Nat} (h : s.1 ≠ 0) : ntS k p s = s := if_neg h
theorem an_id {m j : Nat} {nm : Nat → Int64} {s : Nat × Nat} (h : s.1 ≠ 0) : anS tok nm m j s = s := by unfold anS; rw [nt_id h]; split <;> rfl
theorem tn_id {p : Nat} {x : Int32} {s : Nat × Nat} (h : s.1 ≠ 0) : tnS x p s = s := by unfold tnS; rw [nt_id h]; split <;> rfl
theorem nb_id {lo hi v p : Nat} {s : Nat × Nat} (h : s.1 ≠ 0) : nbS lo hi v p s = s := by unfold nbS; rw [nt_id h]; split <;> rfl
theorem tws_id {x y : Int32} {b : Bool} {p : Nat} {s : Nat × Nat} (h : s.1 ≠ 0) : twS x y b p s = s := by unfold twS; rw [nt_id h]; split <;> rfl
theorem an_z {m j : Nat} {nm : Nat → Int64} {s : Nat × Nat} (h : (anS tok nm m j s).1 = 0) : s.1 = 0 ∧ fnF nm (tkV (tok j)) m 0 = none := by
  unfold anS at h
  by_cases e : (fnF nm (tkV (tok j)) m 0).isSome = true
  · rw [if_pos e] at h; exact absurd h (fun h9 => nt_z (by omega) h9)
  · rw [if_neg e] at h
    refine ⟨h, ?_⟩
    cases q : fnF nm (tkV (tok j)) m 0 with
    | none => rfl
    | some r => rw [q] at e; exact absurd rfl e
theorem tn_z {p : Nat} {x : Int32} {s : Nat × Nat} (h : (tnS x p s).1 = 0) : s.1 = 0 ∧ 0 ≤ x := by
  unfold tnS at h
  by_cases e : 0 ≤ x
  · rw [if_pos e] at h; exact ⟨h, e⟩
  · rw [if_neg e] at h; exact absurd h (fun h9 => nt_z (by omega) h9)
theorem nb_z {lo hi v p : Nat} {s : Nat × Nat} (h : (nbS lo hi v p s).1 = 0) : s.1 = 0 ∧ lo ≤ v ∧ v ≤ hi := by
  unfold nbS at h
  by_cases e : inN lo hi v = true
  · rw [if_pos e] at h; exact ⟨h, of_decide_eq_true e⟩
  · rw [if_neg e] at h; exact absurd h (fun h9 => nt_z (by omega) h9)
theorem fnF_n (nm : Nat → Int64) (v : Int64) : ∀ (k i : Nat), fnF nm v k i = none → ∀ j, i ≤ j → j < i + k → nm j ≠ v := by
  intro k
  induction k with
  | zero => intro i _ j a b; omega
  | succ k ih =>
    intro i h j a b
    unfold fnF at h
    by_cases c : nm i = v
    · rw [if_pos c] at h; cases h
    · rw [if_neg c] at h
      by_cases e : j = i
      · rw [e]; exact c
      · exact ih (i + 1) h j (by omega) (by omega)
theorem ftF_n (nm : Nat → Int64) (tw : Nat → Int32) (v : Int64) : ∀ (k i : Nat), ftF nm tw v k i = none → ∀ j, i ≤ j → j < i + k → ¬ (nm j = v ∧ ¬ tw j < 0) := by
  intro k
  induction k with
  | zero => intro i _ j a b; omega
  | succ k ih =>
    intro i h j a b
    unfold ftF at h
    by_cases c : nm i = v ∧ ¬ tw i < 0
    · rw [if_pos c] at h; cases h
    · rw [if_neg c] at h
      by_cases e : j = i
      · rw [e]; exact c
      · exact ih (i + 1) h j (by omega) (by omega)
def dsN' (nm : Nat → Int64) (m : Nat) : Prop := ∀ i j, i < m → j < m → nm i = nm j → i = j
def twOk (tw : Nat → Int32) (m N : Nat) : Prop := ∀ j, j < m → tw j = -1 ∨ ∃ t, t < N ∧ tw j = nI t
theorem nI_nn {t : Nat} (h : t < 100) : (0 : Int32) ≤ nI t := nI_le (a := 0) (by omega) (by omega)
theorem ft_tw {nm : Nat → Int64} {tw : Nat → Int32} {m N : Nat} (hd : dsN' nm m) (ht : twOk tw m N) (hN : N ≤ 100) (v : Int64) : ftV nm tw m v = twF nm tw m v := by
  unfold ftV twF
  cases e : fnF nm v m 0 with
  | none =>
    have h := fnF_n nm v m 0 e
    cases e2 : ftF nm tw v m 0 with
    | none => rfl
    | some r => have := ftF_b nm tw v m 0 r e2; exact absurd this.2.2.1 (h r (by omega) (by omega))
  | some r =>
    have hr := fnF_b nm v m 0 r e
    cases e2 : ftF nm tw v m 0 with
    | none =>
      have h := ftF_n nm tw v m 0 e2 r (by omega) (by omega)
      rcases ht r (by omega) with h1 | ⟨t, h1, h2⟩
      · exact h1.symm
      · exact absurd ⟨hr.2.2, by rw [h2]; exact Int32.not_lt.mpr (nI_nn (by omega))⟩ h
    | some q =>
      have hq := ftF_b nm tw v m 0 q e2
      have : q = r := hd q r (by omega) (by omega) (by rw [hq.2.2.1, hr.2.2])
      rw [this]
theorem ftF_x {nm : Nat → Int64} {tw : Nat → Int32} {m : Nat} (v0 v : Int64) : ∀ (k i : Nat), i + k = m → ftF (updA nm m v0) (upd tw m (-1)) v (k + 1) i = ftF nm tw v k i := by
  intro k
  induction k with
  | zero =>
    intro i hi
    have e : i = m := by omega
    subst e
    unfold ftF
    rw [if_neg (fun h9 => h9.2 (by rw [pk_us]; decide))]; rfl
  | succ k ih =>
    intro i hi
    have e1 : ftF (updA nm m v0) (upd tw m (-1)) v (k + 1 + 1) i = if updA nm m v0 i = v ∧ ¬ upd tw m (-1) i < 0 then some i else ftF (updA nm m v0) (upd tw m (-1)) v (k + 1) (i + 1) := rfl
    rw [e1, uA_n (by omega), pk_un (by omega), ih (i + 1) (by omega)]; rfl
theorem ftV_x {nm : Nat → Int64} {tw : Nat → Int32} {m : Nat} (v0 v : Int64) : ftV (updA nm m v0) (upd tw m (-1)) (m + 1) v = ftV nm tw m v := by
  unfold ftV
  rw [ftF_x v0 v m 0 (by omega)]
  cases e : ftF nm tw v m 0 with
  | none => rfl
  | some r => have := ftF_b nm tw v m 0 r e; show upd tw m (-1) r = tw r; rw [pk_un (by omega)]
theorem ds_x {nm : Nat → Int64} {m : Nat} {v0 : Int64} (h : dsN' nm m) (h0 : fnF nm v0 m 0 = none) : dsN' (updA nm m v0) (m + 1) := by
  have hn := fnF_n nm v0 m 0 h0
  intro i j hi hj e
  by_cases ei : i = m
  · by_cases ej : j = m
    · omega
    · rw [ei, uA_s, uA_n ej] at e; exact absurd e.symm (hn j (by omega) (by omega))
  · by_cases ej : j = m
    · rw [ej, uA_s, uA_n ei] at e; exact absurd e (hn i (by omega) (by omega))
    · rw [uA_n ei, uA_n ej] at e; exact h i j (by omega) (by omega) e
theorem tw_x {tw : Nat → Int32} {m N N' : Nat} (h : twOk tw m N) (hN : N ≤ N') {x : Int32} (hx : x = -1 ∨ ∃ t, t < N' ∧ x = nI t) : twOk (upd tw m x) (m + 1) N' := by
  intro j hj
  by_cases e : j = m
  · rw [e, pk_us]; exact hx
  · rw [pk_un e]
    rcases h j (by omega) with h1 | ⟨t, h1, h2⟩
    · exact Or.inl h1
    · exact Or.inr ⟨t, by omega, h2⟩
theorem tw_v {nm : Nat → Int64} {tw : Nat → Int32} {m N : Nat} (ht : twOk tw m N) (v : Int64) : twF nm tw m v = -1 ∨ ∃ t, t < N ∧ twF nm tw m v = nI t := by
  unfold twF
  cases e : fnF nm v m 0 with
  | none => exact Or.inl rfl
  | some r => have := fnF_b nm v m 0 r e; exact ht r (by omega)
theorem tw_p {nm : Nat → Int64} {tw : Nat → Int32} {m N : Nat} (ht : twOk tw m N) {v : Int64} (h : 0 ≤ twF nm tw m v) : ∃ t, t < N ∧ twF nm tw m v = nI t := by
  rcases tw_v (nm := nm) ht v with e | e
  · rw [e] at h; exact absurd h (by decide)
  · exact e
/-- two ends as bits, and as they are -/
theorem en_eq (a : Nat) (ha : a < 7) (b : Nat) (hb : b < 7) (x : Nat) (hx : x < 7) (y : Nat) (hy : y < 7) (hab : a ≠ b) (hxy : x ≠ y) : enB (nI a) (nI b) = enB (nI x) (nI y) ↔ (a = x ∧ b = y) ∨ (a = y ∧ b = x) := by
  have hbt : ∀ p q j, p < 7 → q < 7 → bt (enB (nI p) (nI q)) j = (decide (p = j) || decide (q = j)) := fun p q j hp hq => one_or (by omega) (by omega) j
  constructor
  · intro h
    have h1 := hbt a b a ha hb
    rw [h, hbt x y a hx hy, decide_eq_true (rfl : a = a), Bool.true_or] at h1
    have h2 := hbt a b b ha hb
    rw [h, hbt x y b hx hy, decide_eq_true (rfl : b = b), Bool.or_true] at h2
    simp only [Bool.or_eq_true, decide_eq_true_eq] at h1 h2
    omega
  · rintro (⟨rfl, rfl⟩ | ⟨rfl, rfl⟩)
    · rfl
    · apply b_ext
      intro j _
      rw [hbt a b j ha hb, hbt b a j hb ha, Bool.or_comm]
theorem hs_eq {f g f' g' : Nat → Int32} {N a b : Nat} (hN : N ≤ 7) (ha : a < N) (hb : b < N) (hab : a ≠ b) : ∀ (k i : Nat), (∀ j, i ≤ j → j < i + k → (∃ p q, f j = nI p ∧ g j = nI q ∧ p < N ∧ q < N ∧ p ≠ q) ∧ f' j = f j ∧ g' j = g j) → hsR f' g' (nI a) (nI b) k i = hsF f g (nI a) (nI b) k i := by
  intro k
  induction k with
  | zero => intro i _; rfl
  | succ k ih =>
    intro i h
    obtain ⟨⟨p, q, h1, h2, h3, h4, h5⟩, h6, h7⟩ := h i (by omega) (by omega)
    unfold hsR hsF
    have hx : ((f' i = nI a ∧ g' i = nI b) ∨ (f' i = nI b ∧ g' i = nI a)) ↔ enB (f i) (g i) = enB (nI a) (nI b) := by
      rw [h6, h7, h1, h2, en_eq p (by omega) q (by omega) a (by omega) b (by omega) h5 hab, nI_eq (by omega) (by omega), nI_eq (by omega) (by omega), nI_eq (by omega) (by omega), nI_eq (by omega) (by omega)]
    by_cases e : enB (f i) (g i) = enB (nI a) (nI b)
    · rw [if_pos (hx.mpr e), if_pos e]
    · rw [if_neg (fun h9 => e (hx.mp h9)), if_neg e]
      exact ih (i + 1) (fun j a b => h j (by omega) (by omega))
/-- all that holds of what was told -/
def seV (f g : Nat → Int32) (l w : Nat → Nat) (S N : Nat) : Prop := ∀ i, i < S → (∃ p q, f i = nI p ∧ g i = nI q ∧ p < N ∧ q < N ∧ p ≠ q) ∧ 1 ≤ l i ∧ l i ≤ 99 ∧ w i ≤ 99
def caV (a b : Nat → Int32) (ld : Nat → Nat) (C N : Nat) : Prop := ∀ i, i < C → (∃ p q, a i = nI p ∧ b i = nI q ∧ p < N ∧ q < N ∧ p ≠ q) ∧ ld i ≤ 99
def PY (tok : Nat → TK) (cb : Nat) : DY → Prop
  | (s, (m, nm, tw), (N, S, W, C), (Q, th, fr, sd), (f, g, l, w), (a, b, ld), lw) => orQ (tok cb).2.1 s ∧ (s.1 = 0 → dsN' nm m) ∧ twOk tw m N ∧ (s.1 = 0 → seV f g l w S N ∧ caV a b ld C N ∧ (th ≤ 9999 ∧ fr ≤ 100 ∧ sd ≤ 9999) ∧ Q ≤ 99 * W) ∧ (∀ k, k < 4 → okL (lw k).1 (lw k).2) ∧ (N ≤ 7 ∧ S ≤ 10 ∧ W ≤ 3 ∧ C ≤ 4) ∧ m = N + W + C
theorem seV.N {f g : Nat → Int32} {l w : Nat → Nat} {S N N' : Nat} (h : seV f g l w S N) (hN : N ≤ N') : seV f g l w S N' := fun i hi => by
  obtain ⟨⟨p, q, a, b, c, d, e⟩, r⟩ := h i hi
  exact ⟨⟨p, q, a, b, by omega, by omega, e⟩, r⟩
theorem caV.N {a b : Nat → Int32} {ld : Nat → Nat} {C N N' : Nat} (h : caV a b ld C N) (hN : N ≤ N') : caV a b ld C N' := fun i hi => by
  obtain ⟨⟨p, q, x, y, c, d, e⟩, r⟩ := h i hi
  exact ⟨⟨p, q, x, y, by omega, by omega, e⟩, r⟩
theorem py_T (hT : TKS tok T) (hV : TKV tok T) {c : Nat × Nat} (cT' : c.1 < T) (hc : c.2 = 0) {Y : DY} (h : PY tok c.1 Y) (hz : (tlC tok Y c).2 = 0) : PY tok (tlC tok Y c).1 (tlY tok Y c) ∧ c.1 < (tlC tok Y c).1 ∧ (tlC tok Y c).1 < T := by
  have hTT := hT.2.1
  obtain ⟨s, ⟨m, nm, tw⟩, ⟨N, S, W, C⟩, ⟨Q, th, fr, sd⟩, ⟨f, g, l, w⟩, ⟨a, b, ld⟩, lw⟩ := Y
  obtain ⟨h1, h2, h3, h4, h5, ⟨h6, h7, h8, h9⟩, h10⟩ := h
  unfold tlC at hz ⊢
  unfold tlY
  by_cases k56 : (tok c.1).1 = 256
  · rw [if_pos k56] at hz ⊢
    rw [if_pos k56]
    have hz' : (cu_town tok N c).2 = 0 := hz
    show PY tok (cu_town tok N c).1 _ ∧ c.1 < (cu_town tok N c).1 ∧ (cu_town tok N c).1 < T
    unfold cu_town at hz' ⊢
    obtain ⟨a1, -, a3, a4⟩ := tk_z hz'
    obtain ⟨b1, -, b3, b4⟩ := tk_z a1
    obtain ⟨-, g2, -, g4⟩ := tf_z b1
    have g2' := of_decide_eq_true g2
    have eT : tkS tok 59 (tkS tok 2 (tfS (decide (N < 7)) c)) = (c.1 + 3, 0) := by rw [a4, b4, g4]
    have hT3 := tkS_lt hT (k := 59) (by omega) (by omega) (tkS_lt hT (k := 2) (by omega) (by omega) (tf_lt hT (room := decide (N < 7)) cT' (by omega) (by omega) (by omega)).1 (tf_lt hT (room := decide (N < 7)) cT' (by omega) (by omega) (by omega)).2).1 (tkS_lt hT (k := 2) (by omega) (by omega) (tf_lt hT (room := decide (N < 7)) cT' (by omega) (by omega) (by omega)).1 (tf_lt hT (room := decide (N < 7)) cT' (by omega) (by omega) (by omega)).2).2
    rw [eT] at hT3 ⊢
    have h3T : c.1 + 3 < T := hT3.1
    refine ⟨⟨(h1.up (Nat.le_of_lt (pl_lt hV (by show c.1 < c.1 + 3; omega) h3T))).an (pl_lt hV (by show c.1 + 1 < c.1 + 3; omega) h3T), fun z => ?_, tw_x h3 (Nat.le_succ N) (Or.inr ⟨N, Nat.lt_succ_self N, rfl⟩), fun z => ?_, h5, ⟨by show N + 1 ≤ 7; omega, h7, h8, h9⟩, by show m + 1 = N + 1 + W + C; omega⟩, by show c.1 < c.1 + 3; omega, h3T⟩
    · obtain ⟨y1, y2⟩ := an_z z; exact ds_x (h2 y1) y2
    · obtain ⟨y1, y2⟩ := an_z z
      obtain ⟨q1, q2, q3, q4⟩ := h4 y1
      exact ⟨q1.N (Nat.le_succ N), q2.N (Nat.le_succ N), q3, q4⟩
  rw [if_neg k56] at hz ⊢
  rw [if_neg k56]
  by_cases k57 : (tok c.1).1 = 257
  · rw [if_pos k57] at hz ⊢
    rw [if_pos k57]
    have hz' : (cu_seam tok S c).2 = 0 := hz
    show PY tok (cu_seam tok S c).1 _ ∧ c.1 < (cu_seam tok S c).1 ∧ (cu_seam tok S c).1 < T
    unfold cu_seam at hz' ⊢
    have ft := tf_lt hT (room := decide (S < 10)) cT' (by omega) (by omega) (by omega)
    have t1 := tkS_lt hT (k := 2) (by omega) (by omega) ft.1 ft.2
    have t2 := tkS_lt hT (k := 2) (by omega) (by omega) t1.1 t1.2
    have t3 := tkS_lt hT (k := 3) (by omega) (by omega) t2.1 t2.2
    have t4 := tkS_lt hT (k := 3) (by omega) (by omega) t3.1 t3.2
    have t5 := tkS_lt hT (k := 59) (by omega) (by omega) t4.1 t4.2
    obtain ⟨a1, -, a3, a4⟩ := tk_z hz'
    obtain ⟨b1, -, b3, b4⟩ := tk_z a1
    obtain ⟨c1, -, c3, c4⟩ := tk_z b1
    obtain ⟨d1, -, d3, d4⟩ := tk_z c1
    obtain ⟨e1, -, e3, e4⟩ := tk_z d1
    obtain ⟨-, g2, -, g4⟩ := tf_z e1
    have g2' := of_decide_eq_true g2
    have eT : tkS tok 59 (tkS tok 3 (tkS tok 3 (tkS tok 2 (tkS tok 2 (tfS (decide (S < 10)) c))))) = (c.1 + 6, 0) := by rw [a4, b4, c4, d4, e4, g4]
    rw [eT] at t5 ⊢
    have h3T : c.1 + 6 < T := t5.1
    have pp : ∀ i, i < 6 → (tok (c.1 + i)).2.1 < (tok (c.1 + 6)).2.1 := fun i hi => pl_lt hV (by omega) h3T
    have o0 : orQ (tok (c.1 + 6)).2.1 s := h1.up (Nat.le_of_lt (pp 0 (by omega)))
    refine ⟨⟨?_, fun z => ?_, h3, fun z => ?_, h5, ⟨h6, by show S + 1 ≤ 10; omega, h8, h9⟩, h10⟩, by show c.1 < c.1 + 6; omega, h3T⟩
    · refine orQ.nb (orQ.nb ?_ (pp 3 (by omega))) (pp 4 (by omega))
      split
      · exact (((o0.tn (pp 1 (by omega))).tn (pp 2 (by omega))).nt (pp 2 (by omega)))
      · exact ((o0.tn (pp 1 (by omega))).tn (pp 2 (by omega)))
    · obtain ⟨y1, -⟩ := nb_z z
      obtain ⟨y2, -⟩ := nb_z y1
      split at y2
      · exact absurd y2 (fun h9 => nt_z (by omega) h9)
      · exact h2 (tn_z (tn_z y2).1).1
    · obtain ⟨y1, -, w2⟩ := nb_z z
      obtain ⟨y2, l1, l2⟩ := nb_z y1
      split at y2
      · exact absurd y2 (fun h9 => nt_z (by omega) h9)
      · next hno =>
        obtain ⟨y3, tb0⟩ := tn_z y2
        obtain ⟨y4, ta0⟩ := tn_z y3
        obtain ⟨q1, q2, q3, q4⟩ := h4 y4
        refine ⟨fun i hi => ?_, q2, q3, q4⟩
        by_cases e : i = S
        · subst e
          rw [pk_us, pk_us, uA_s, uA_s]
          obtain ⟨p, p1, p2⟩ := tw_p h3 ta0
          obtain ⟨q, p3, p4⟩ := tw_p h3 tb0
          refine ⟨⟨p, q, p2, p4, p1, p3, fun e9 => hno (Or.inl (by rw [p2, p4, e9]))⟩, l1, l2, w2⟩
        · rw [pk_un e, pk_un e, uA_n e, uA_n e]; exact q1 i (by omega)
  rw [if_neg k57] at hz ⊢
  rw [if_neg k57]
  by_cases k58 : (tok c.1).1 = 258
  · rw [if_pos k58] at hz ⊢
    rw [if_pos k58]
    have hz' : (cu_woman tok W c).2 = 0 := hz
    show PY tok (cu_woman tok W c).1 _ ∧ c.1 < (cu_woman tok W c).1 ∧ (cu_woman tok W c).1 < T
    unfold cu_woman at hz' ⊢
    have ft := tf_lt hT (room := decide (W < 3)) cT' (by omega) (by omega) (by omega)
    have t1 := tkS_lt hT (k := 2) (by omega) (by omega) ft.1 ft.2
    have t2 := tkS_lt hT (k := 3) (by omega) (by omega) t1.1 t1.2
    have t3 := tkS_lt hT (k := 59) (by omega) (by omega) t2.1 t2.2
    obtain ⟨a1, -, a3, a4⟩ := tk_z hz'
    obtain ⟨b1, -, b3, b4⟩ := tk_z a1
    obtain ⟨c1, -, c3, c4⟩ := tk_z b1
    obtain ⟨-, g2, -, g4⟩ := tf_z c1
    have g2' := of_decide_eq_true g2
    have eT : tkS tok 59 (tkS tok 3 (tkS tok 2 (tfS (decide (W < 3)) c))) = (c.1 + 4, 0) := by rw [a4, b4, c4, g4]
    rw [eT] at t3 ⊢
    have h3T : c.1 + 4 < T := t3.1
    have pp : ∀ i, i < 4 → (tok (c.1 + i)).2.1 < (tok (c.1 + 4)).2.1 := fun i hi => pl_lt hV (by omega) h3T
    refine ⟨⟨((h1.up (Nat.le_of_lt (pp 0 (by omega)))).an (pp 1 (by omega))).nb (pp 2 (by omega)), fun z => ?_, tw_x h3 (Nat.le_refl N) (Or.inl rfl), fun z => ?_, h5, ⟨h6, h7, by show W + 1 ≤ 3; omega, h9⟩, by show m + 1 = N + (W + 1) + C; omega⟩, by show c.1 < c.1 + 4; omega, h3T⟩
    · obtain ⟨y0, -⟩ := nb_z z
      obtain ⟨y1, y2⟩ := an_z y0; exact ds_x (h2 y1) y2
    · obtain ⟨y0, -, v2⟩ := nb_z z
      obtain ⟨y1, y2⟩ := an_z y0
      obtain ⟨q1, q2, q3, q4⟩ := h4 y1
      exact ⟨q1, q2, q3, by show Q + (tok (c.1 + 1 + 1)).2.2.1 ≤ 99 * (W + 1); omega⟩
  rw [if_neg k58] at hz ⊢
  rw [if_neg k58]
  by_cases k59 : (tok c.1).1 = 259
  · rw [if_pos k59] at hz ⊢
    rw [if_pos k59]
    have hz' : (cu_cart tok C c).2 = 0 := hz
    show PY tok (cu_cart tok C c).1 _ ∧ c.1 < (cu_cart tok C c).1 ∧ (cu_cart tok C c).1 < T
    unfold cu_cart at hz' ⊢
    have ft := tf_lt hT (room := decide (C < 4)) cT' (by omega) (by omega) (by omega)
    have t1 := tkS_lt hT (k := 2) (by omega) (by omega) ft.1 ft.2
    have t2 := tkS_lt hT (k := 2) (by omega) (by omega) t1.1 t1.2
    have t3 := tkS_lt hT (k := 2) (by omega) (by omega) t2.1 t2.2
    have t4 := tkS_lt hT (k := 3) (by omega) (by omega) t3.1 t3.2
    have t5 := tkS_lt hT (k := 59) (by omega) (by omega) t4.1 t4.2
    obtain ⟨a1, -, a3, a4⟩ := tk_z hz'
    obtain ⟨b1, -, b3, b4⟩ := tk_z a1
    obtain ⟨c1, -, c3, c4⟩ := tk_z b1
    obtain ⟨d1, -, d3, d4⟩ := tk_z c1
    obtain ⟨e1, -, e3, e4⟩ := tk_z d1
    obtain ⟨-, g2, -, g4⟩ := tf_z e1
    have g2' := of_decide_eq_true g2
    have eT : tkS tok 59 (tkS tok 3 (tkS tok 2 (tkS tok 2 (tkS tok 2 (tfS (decide (C < 4)) c))))) = (c.1 + 6, 0) := by rw [a4, b4, c4, d4, e4, g4]
    rw [eT] at t5 ⊢
    have h3T : c.1 + 6 < T := t5.1
    have pp : ∀ i, i < 6 → (tok (c.1 + i)).2.1 < (tok (c.1 + 6)).2.1 := fun i hi => pl_lt hV (by omega) h3T
    have o0 : orQ (tok (c.1 + 6)).2.1 s := h1.up (Nat.le_of_lt (pp 0 (by omega)))
    have h3' : twOk (upd tw m (-1)) (m + 1) N := tw_x h3 (Nat.le_refl N) (Or.inl rfl)
    refine ⟨⟨?_, fun z => ?_, h3', fun z => ?_, h5, ⟨h6, h7, h8, by show C + 1 ≤ 4; omega⟩, by show m + 1 = N + W + (C + 1); omega⟩, by show c.1 < c.1 + 6; omega, h3T⟩
    · refine orQ.nb ?_ (pp 4 (by omega))
      split
      · exact (((o0.an (pp 1 (by omega))).tn (pp 2 (by omega))).tn (pp 3 (by omega))).nt (pp 3 (by omega))
      · exact (((o0.an (pp 1 (by omega))).tn (pp 2 (by omega))).tn (pp 3 (by omega)))
    · obtain ⟨y2, -⟩ := nb_z z
      split at y2
      · exact absurd y2 (fun h9 => nt_z (by omega) h9)
      · obtain ⟨y3, y4⟩ := an_z (tn_z (tn_z y2).1).1
        exact ds_x (h2 y3) y4
    · obtain ⟨y2, -, w2⟩ := nb_z z
      split at y2
      · exact absurd y2 (fun h9 => nt_z (by omega) h9)
      · next hno =>
        obtain ⟨y3, tb0⟩ := tn_z y2
        obtain ⟨y4, ta0⟩ := tn_z y3
        obtain ⟨y5, y6⟩ := an_z y4
        obtain ⟨q1, q2, q3, q4⟩ := h4 y5
        refine ⟨q1, fun i hi => ?_, q3, q4⟩
        by_cases e : i = C
        · subst e
          rw [pk_us, pk_us, uA_s]
          obtain ⟨p, p1, p2⟩ := tw_p h3' ta0
          obtain ⟨q, p3, p4⟩ := tw_p h3' tb0
          exact ⟨⟨p, q, p2, p4, p1, p3, fun e9 => hno (by rw [p2, p4, e9])⟩, w2⟩
        · rw [pk_un e, pk_un e, uA_n e]; exact q2 i (by omega)
  rw [if_neg k59] at hz ⊢
  rw [if_neg k59]
  by_cases kn : 264 ≤ (tok c.1).1 ∧ (tok c.1).1 ≤ 266
  · rw [if_pos kn] at hz ⊢
    rw [if_pos kn]
    unfold cu_num at hz ⊢
    have ft := tf_lt hT (room := true) cT' (by omega) (by omega) (by omega)
    have t1 := tkS_lt hT (k := 3) (by omega) (by omega) ft.1 ft.2
    have t2 := tkS_lt hT (k := 59) (by omega) (by omega) t1.1 t1.2
    obtain ⟨a1, -, a3, a4⟩ := tk_z hz
    obtain ⟨b1, -, b3, b4⟩ := tk_z a1
    obtain ⟨-, g2, -, g4⟩ := tf_z b1
    have eT : tkS tok 59 (tkS tok 3 (tfS true c)) = (c.1 + 3, 0) := by rw [a4, b4, g4]
    rw [eT] at t2 ⊢
    have h3T : c.1 + 3 < T := t2.1
    have pp : ∀ i, i < 3 → (tok (c.1 + i)).2.1 < (tok (c.1 + 3)).2.1 := fun i hi => pl_lt hV (by omega) h3T
    refine ⟨⟨(h1.up (Nat.le_of_lt (pp 0 (by omega)))).nb (pp 1 (by omega)), fun z => h2 (nb_z z).1, h3, fun z => ?_, h5, ⟨h6, h7, h8, h9⟩, h10⟩, by show c.1 < c.1 + 3; omega, h3T⟩
    obtain ⟨y0, v1, v2⟩ := nb_z z
    obtain ⟨q1, q2, ⟨q3, q3', q3''⟩, q4⟩ := h4 y0
    refine ⟨q1, q2, ⟨?_, ?_, ?_⟩, q4⟩
    · by_cases e : (tok c.1).1 = 264
      · rw [if_pos e]; rw [if_neg (by omega)] at v2; exact v2
      · rw [if_neg e]; exact q3
    · by_cases e : (tok c.1).1 = 265
      · rw [if_pos e]; rw [if_pos e] at v2; exact v2
      · rw [if_neg e]; exact q3'
    · by_cases e : (tok c.1).1 = 266
      · rw [if_pos e]; rw [if_neg (by omega)] at v2; exact v2
      · rw [if_neg e]; exact q3''
  rw [if_neg kn] at hz ⊢
  rw [if_neg kn]
  by_cases kl : 260 ≤ (tok c.1).1 ∧ (tok c.1).1 ≤ 263
  · rw [if_pos kl] at hz ⊢
    have t1 := tkS_lt hT (k := (tok c.1).1) (by omega) (by omega) cT' (by omega : c.2 < 3)
    have t2 := tkS_lt hT (k := 61) (by omega) (by omega) t1.1 t1.2
    obtain ⟨lp1, lp2⟩ := lw_p hT hV 5 (tkS tok 61 (tkS tok (tok c.1).1 c)) t2.1 t2.2
    obtain ⟨v1, v2, v3, v4⟩ := lp2 hz
    obtain ⟨w1, -, -, w4⟩ := tk_z v1
    obtain ⟨-, -, -, x4⟩ := tk_z w1
    have ew : (tkS tok 61 (tkS tok (tok c.1).1 c)).1 = c.1 + 1 + 1 := by rw [w4, x4]
    have v4'' : (tkS tok 61 (tkS tok (tok c.1).1 c)).1 + 4 * (lawT tok c).1.1.length + 2 ≤ (lawT tok c).2.1 := v4
    have v4' : c.1 + 1 + 1 + 4 * (lawT tok c).1.1.length + 2 ≤ (lawT tok c).2.1 := by omega
    have hlT : (lawT tok c).2.1 < T := lp1.1
    refine ⟨⟨h1.up (Nat.le_of_lt (pl_lt hV (by omega) hlT)), h2, h3, h4, fun k hk => ?_, ⟨h6, h7, h8, h9⟩, h10⟩, by omega, hlT⟩
    show okL (updA lw ((tok c.1).1 - 260) (lawT tok c).1 k).1 (updA lw ((tok c.1).1 - 260) (lawT tok c).1 k).2
    by_cases e : k = (tok c.1).1 - 260
    · rw [e, uA_s]; exact v2
    · rw [uA_n e]; exact h5 k hk
  · rw [if_neg kl] at hz; exact absurd (show 1 = 0 from hz) (by omega)
end SS
