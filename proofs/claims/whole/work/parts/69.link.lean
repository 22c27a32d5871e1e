/-! ===== both sides' ways and sets of towns, in plain numbers ===== -/
theorem shM_nat {g : Nat → Int32} {h : Nat → Nat} {a b x : Nat} (hg : ∀ j, j < 7 → g j = nI (h j) ∧ h j ≤ 99999) (ha : a < 7) (hb : b < 7) (hx : x ≤ 99999) : ∀ j, j < 7 → shM g a b (nI x) j = nI (rlN h a b x j) ∧ rlN h a b x j ≤ 99999 := by
  intro j hj
  refine ⟨?_, Nat.le_trans rlN_le (hg j hj).2⟩
  have h1 := (hg a ha).2
  have h2 := (hg b hb).2
  unfold shM rlN
  rw [(hg a ha).1, (hg b hb).1, nI_add]
  by_cases hc : h a + x < h b
  · rw [if_pos hc, if_neg (nI_ge hc (by omega))]
    by_cases e : j = b
    · subst e; rw [pk_us, if_pos rfl]
    · rw [pk_un e, if_neg e]; exact (hg j hj).1
  · rw [if_neg hc, if_pos (nI_le (by omega) (by omega))]; exact (hg j hj).1
theorem frS_nat {fs sc w : Nat → Nat} {wy g : Nat → Int32} {h : Nat → Nat} {i : Nat} (hi : fs i < 7 ∧ sc i < 7 ∧ w i ≤ 99999 ∧ wy i = nI (w i)) (hg : ∀ j, j < 7 → g j = nI (h j) ∧ h j ≤ 99999) : ∀ j, j < 7 → frS fs sc wy g i j = nI (stN fs sc w h i j) ∧ stN fs sc w h i j ≤ 99999 := by
  obtain ⟨h1, h2, h3, h4⟩ := hi
  unfold frS stN
  rw [h4]
  by_cases hc : w i < 99999
  · rw [if_pos hc, if_pos (show nI (w i) < (99999 : Int32) from nI_lt (b := 99999) hc (by omega))]
    exact shM_nat (shM_nat hg h1 h2 h3) h2 h1 h3
  · rw [if_neg hc, if_neg (show ¬ nI (w i) < (99999 : Int32) from nI_nlt (b := 99999) (by omega) (by omega))]
    exact hg
theorem frO_nat {S : Nat} {fs sc w : Nat → Nat} {wy : Nat → Int32} (hw : ∀ i, i < S → fs i < 7 ∧ sc i < 7 ∧ w i ≤ 99999 ∧ wy i = nI (w i)) : ∀ (k i : Nat) (g : Nat → Int32) (h : Nat → Nat), i + k = S → (∀ j, j < 7 → g j = nI (h j) ∧ h j ≤ 99999) → ∀ j, j < 7 → (List.range' i k).foldl (frS fs sc wy) g j = nI ((List.range' i k).foldl (stN fs sc w) h j) ∧ (List.range' i k).foldl (stN fs sc w) h j ≤ 99999 := by
  intro k
  induction k with
  | zero => intro i g h _ hg; exact hg
  | succ k ih => intro i g h hi hg; exact ih (i + 1) _ _ (by omega) (frS_nat (hw i (by omega)) hg)
theorem frR_nat {S : Nat} {fs sc w : Nat → Nat} {wy : Nat → Int32} (hw : ∀ i, i < S → fs i < 7 ∧ sc i < 7 ∧ w i ≤ 99999 ∧ wy i = nI (w i)) : ∀ (k : Nat) (g : Nat → Int32) (h : Nat → Nat), (∀ j, j < 7 → g j = nI (h j) ∧ h j ≤ 99999) → ∀ j, j < 7 → frR S fs sc wy k g j = nI (itN S fs sc w k h j) ∧ itN S fs sc w k h j ≤ 99999 := by
  intro k
  induction k with
  | zero => intro g h hg; exact hg
  | succ k ih => intro g h hg; exact ih _ _ (frO_nat hw S 0 g h (by omega) hg)
theorem st_nat {q : Nat → Int32} {t : Nat} : ∀ j, j < 7 → upd (fillF q 99999 7) t 0 j = nI (g0N t j) ∧ g0N t j ≤ 99999 := by
  intro j hj
  refine ⟨?_, g0N_le⟩
  unfold upd fillF g0N
  by_cases e : j = t
  · rw [if_pos e, if_pos e]; rfl
  · rw [if_neg e, if_neg e, if_pos hj]; rfl
/-- ways that may be gone: 1 .. 99; 99999 else -/
def wOK (P : PP) (w : Nat → Nat) : Prop := ∀ i, i < xS P → w i = 99999 ∨ (1 ≤ w i ∧ w i ≤ 99)
/-- how far all is from t -/
def dsP (P : PP) (w : Nat → Nat) (t : Nat) : Nat → Nat := dsN (xN P) (xS P) (xf P) (xg P) w t
theorem okP {P : PP} {I : Nat → Nat → Int32} (h : PlR P I) {w : Nat → Nat} (hw : wOK P w) : okN (xN P) (xS P) (xf P) (xg P) w := by
  refine ⟨h.N7, fun i hi => ?_⟩
  obtain ⟨-, ⟨g1, g2, g3⟩, -⟩ := h.sm hi
  exact ⟨g1, g2, by rcases hw i hi with e | e <;> omega⟩
theorem refP_of {P : PP} {I : Nat → Nat → Int32} (h : PlR P I) : refP I (xv P) (xN P) (xS P) (xf P) (xg P) := by
  refine ⟨h.v, h.v2, h.Nm, h.N7, h.Sm, h.S10, fun i hi => ?_⟩
  obtain ⟨-, ⟨g1, g2, g3⟩, -, -, -, f6, f7, -⟩ := h.sm hi
  have := h.N7
  exact ⟨f6, by omega, f7, by omega⟩
section LkA
variable {P : PP} {I : Nat → Nat → Int32} {J : Nat → Nat → Int64} {d : Nat}
theorem far_nat (h : PlR P I) {w : Nat → Nat} (hw : wOK P w) {wy q : Nat → Int32} (hwy : ∀ i, i < xS P → wy i = nI (w i)) (t : Nat) : ∀ j, j < 7 → frR (xS P) (xf P) (xg P) wy (xN P) (upd (fillF q 99999 7) t 0) j = nI (dsP P w t j) := by
  intro j hj
  refine (frR_nat (w := w) (fun i hi => ?_) (xN P) _ _ st_nat j hj).1
  obtain ⟨-, ⟨g1, g2, g3⟩, -⟩ := h.sm hi
  have := h.N7
  exact ⟨by omega, by omega, by rcases hw i hi with e | e <;> omega, hwy i hi⟩
theorem ev_farR (hd : 1 ≤ d) (h : PlR P I) {w : Nat → Nat} (hw : wOK P w) (hwy : ∀ i, i < xS P → I 232 i = nI (w i)) {t : Nat} (ht : t < xN P) : ∃ f, EV d T0 222 [.ref 192, .int (nI t)] (I, J) = some (none, (cs I 231 f, J)) ∧ ∀ j, j < 7 → f j = nI (dsP P w t j) := by
  obtain ⟨d, rfl⟩ : ∃ z, d = z + 1 := ⟨d - 1, by omega⟩
  have := h.N7
  exact ⟨_, ev_fillsFar d (refP_of h) (show t < 7 by omega), far_nat h hw hwy t⟩
/-- the class's number for a distance -/
def dI (m : Nat) : Int32 := if m < 99999 then nI m else 1000000
theorem rounds_same {S : Nat} {seams : Int32} {fs sc : Nat → Nat} {wy wyR : Nat → Int32} (hw : sameW S seams fs sc wy wyR) (hS : S ≤ 10) : ∀ (k B : Nat) (f g : Nat → Int32), sameD B f g → B + 198 * S * k < 99999 → sameD (B + 198 * S * k) (itR S seams fs sc wy k f) (frR S fs sc wyR k g) := by
  intro k
  induction k with
  | zero => intro B f g h _; exact h
  | succ k ih =>
    intro B f g h hB
    have e : 198 * S * (k + 1) = 198 * S * k + 198 * S := Nat.mul_succ _ _
    have h1 := sameD_round hw h (by omega)
    have h2 := ih (B + 198 * S) _ _ h1 (by omega)
    rw [show B + 198 * S * (k + 1) = B + 198 * S + 198 * S * k by omega]
    exact h2
theorem ev_measP (hd : 3 ≤ d) (h : PlR P I) {a : Int32} {w : Nat → Nat} (hw : ∀ i, i < xS P → (bt a i = false ∧ w i = 99999) ∨ (bt a i = true ∧ 1 ≤ w i ∧ w i ≤ 99 ∧ I 176 i = nI (w i))) {t : Nat} (ht : t < xN P) :
    ∃ f, EV d T0 14 [.ref 172, .int a, .ref 176, .int (nI t)] (I, J) = some (none, (cs I 173 f, J)) ∧ ∀ j, j < 7 → f j = dI (dsP P w t j) := by
  obtain ⟨d, rfl⟩ : ∃ z, d = z + 3 := ⟨d - 3, by omega⟩
  have h7 := h.N7
  have h10 := h.S10
  have hE : ends2 I (xS P) (xf P) (xg P) := fun i hi => by
    obtain ⟨⟨f1, f2⟩, ⟨g1, g2, g3⟩, -⟩ := h.sm hi
    exact ⟨f1, by omega, f2, by omega⟩
  have hok : wOK P w := fun i hi => by rcases hw i hi with ⟨-, e⟩ | ⟨-, e1, e2, -⟩; exact Or.inl e; exact Or.inr ⟨e1, e2⟩
  refine ⟨_, ev_measure d h.S h10 hE a (show t < 7 by omega), fun j hj => ?_⟩
  have hsw : sameW (xS P) a (xf P) (xg P) (I 176) (fun i => nI (w i)) := by
    intro i hi
    obtain ⟨-, ⟨g1, g2, g3⟩, -⟩ := h.sm hi
    refine ⟨by omega, by omega, ?_⟩
    rcases hw i hi with ⟨e1, e2⟩ | ⟨e1, e2, e3, e4⟩
    · refine Or.inl ⟨(bitOf_iff (by omega)).mpr e1, ?_⟩
      show ¬ nI (w i) < (99999 : Int32)
      rw [e2]; decide
    · refine Or.inr ⟨(bitOf_t (by omega)).mpr e1, ?_, w i, e3, e4, rfl⟩
      show nI (w i) < (99999 : Int32)
      exact nI_lt (b := 99999) (by omega) (by omega)
  have hm : measF I (xS P) (xf P) (xg P) a t = itR (xS P) a (xf P) (xg P) (I 176) 7 (upd (fillF (I 173) 1000000 7) t 0) := msR_it 7 1 _ (fun e => absurd e (by decide))
  rw [hm]
  have hb : 198 * xS P * 7 ≤ 13860 := by
    have : 198 * xS P ≤ 1980 := by omega
    omega
  have h1 := rounds_same hsw h10 7 0 _ _ (sameD_start (p := I 173) (q := I 173) (t := t)) (by omega) j hj
  have h2 := (frR_nat (S := xS P) (fs := xf P) (sc := xg P) (w := w) (wy := fun i => nI (w i)) (fun i hi => by
    obtain ⟨-, ⟨g1, g2, g3⟩, -⟩ := h.sm hi
    exact ⟨by omega, by omega, by rcases hok i hi with e | e <;> omega, rfl⟩) 7 _ _ (st_nat (q := I 173) (t := t)) j hj)
  rw [ds_it (okP h hok) ht h7] at h2
  change _ = nI (dsP P w t j) ∧ dsP P w t j ≤ 99999 at h2
  unfold dI
  rcases h1 with ⟨g1, f1⟩ | ⟨m, hm, f1, g1⟩
  · rw [g1] at h2
    have e9 : (99999 : Nat) = dsP P w t j := (nI_eq (by omega) (by have := h2.2; omega)).mp h2.1
    rw [if_neg (by omega)]
    exact f1
  · rw [g1] at h2
    have e9 : m = dsP P w t j := (nI_eq (by omega) (by have := h2.2; omega)).mp h2.1
    rw [if_pos (by omega), ← e9]
    exact f1
/-! sets of towns -/
theorem one_or {a b : Nat} (ha : a < 32) (hb : b < 32) (j : Nat) : bt ((1 <<< (nI a &&& 31)) ||| (1 <<< (nI b &&& 31))) j = (decide (a = j) || decide (b = j)) := by rw [b_or, b_one ha, b_one hb]
theorem and_ends {t : Int32} {a b : Nat} (ha : a < 32) (hb : b < 32) : ((1 <<< (nI a &&& 31)) ||| (1 <<< (nI b &&& 31))) &&& t = 0 ↔ (bt t a = false ∧ bt t b = false) := by
  constructor
  · intro h
    have h1 := congrArg (fun z => bt z a) h
    have h2 := congrArg (fun z => bt z b) h
    rw [b_and, one_or ha hb, b_0] at h1 h2
    simp at h1 h2
    exact ⟨h1, h2⟩
  · rintro ⟨h1, h2⟩
    apply b_ext
    intro j hj
    rw [b_and, one_or ha hb, b_0]
    by_cases e : a = j
    · subst e; rw [h1, Bool.and_false]
    · by_cases e2 : b = j
      · subst e2; rw [h2, Bool.and_false]
      · rw [decide_eq_false e, decide_eq_false e2]; rfl
theorem bt_spr (h : PlR P I) (a w0 : Int32) (b : Nat) : ∀ (k i : Nat) (w : Int32), i + k = xS P → (bt ((List.range' i k).foldl (sprS I a w0) w) b = true ↔ bt w b = true ∨ ∃ j, i ≤ j ∧ j < xS P ∧ bt a j = true ∧ (bt w0 (xf P j) = true ∨ bt w0 (xg P j) = true) ∧ (b = xf P j ∨ b = xg P j)) := by
  have h7 := h.N7
  have h10 := h.S10
  intro k
  induction k with
  | zero =>
    intro i w hi
    show bt w b = true ↔ _
    constructor
    · exact Or.inl
    · rintro (h | ⟨j, h1, h2, -⟩)
      · exact h
      · omega
  | succ k ih =>
    intro i w hi
    show bt ((List.range' (i + 1) k).foldl (sprS I a w0) (sprS I a w0 w i)) b = true ↔ _
    rw [ih (i + 1) _ (by omega)]
    obtain ⟨-, ⟨g1, g2, g3⟩, f3, -⟩ := h.sm (i := i) (by omega)
    have hst : bt (sprS I a w0 w i) b = true ↔ bt w b = true ∨ (bt a i = true ∧ (bt w0 (xf P i) = true ∨ bt w0 (xg P i) = true) ∧ (b = xf P i ∨ b = xg P i)) := by
      unfold sprS
      rw [f3]
      by_cases h1 : bitOf a (nI i) = 0
      · rw [if_pos h1]
        have h2 := (bitOf_iff (by omega)).mp h1
        rw [h2]; simp
      · rw [if_neg h1]
        have h2 := (bitOf_t (by omega)).mp h1
        by_cases h3 : ((1 <<< (nI (xf P i) &&& 31)) ||| (1 <<< (nI (xg P i) &&& 31))) &&& w0 = 0
        · rw [if_pos h3]
          obtain ⟨h4, h5⟩ := (and_ends (by omega) (by omega)).mp h3
          rw [h4, h5]; simp
        · rw [if_neg h3, b_or, one_or (by omega) (by omega)]
          have h4 : bt w0 (xf P i) = true ∨ bt w0 (xg P i) = true := by
            rcases hq : bt w0 (xf P i) with _ | _
            · rcases hr : bt w0 (xg P i) with _ | _
              · exact absurd ((and_ends (by omega) (by omega)).mpr ⟨hq, hr⟩) h3
              · exact Or.inr rfl
            · exact Or.inl rfl
          simp only [Bool.or_eq_true, decide_eq_true_eq]
          constructor
          · rintro (h | h | h)
            · exact Or.inl h
            · exact Or.inr ⟨h2, h4, Or.inl h.symm⟩
            · exact Or.inr ⟨h2, h4, Or.inr h.symm⟩
          · rintro (h | ⟨-, -, h | h⟩)
            · exact Or.inl h
            · exact Or.inr (Or.inl h.symm)
            · exact Or.inr (Or.inr h.symm)
    rw [hst]
    constructor
    · rintro ((h | ⟨h1, h2, h3⟩) | ⟨j, h1, h2⟩)
      · exact Or.inl h
      · exact Or.inr ⟨i, Nat.le_refl _, by omega, h1, h2, h3⟩
      · exact Or.inr ⟨j, by omega, h2⟩
    · rintro (h | ⟨j, h1, h2, h3⟩)
      · exact Or.inl (Or.inl h)
      · by_cases e : j = i
        · subst e; exact Or.inl (Or.inr h3)
        · exact Or.inr ⟨j, by omega, h2, h3⟩
/-- ways of one along a set of seams -/
def uW (A : Nat → Bool) (i : Nat) : Nat := if A i = true then 1 else 99999
theorem uW_ok {A : Nat → Bool} : wOK P (uW A) := by
  intro i _
  unfold uW
  split
  · exact Or.inr ⟨by omega, by omega⟩
  · exact Or.inl rfl
theorem uW_1 {A : Nat → Bool} {S : Nat} : ∀ i, i < S → uW A i < 99999 → uW A i = 1 := by
  intro i _ h
  unfold uW at h ⊢
  split at h
  · rename_i e; rw [if_pos e]
  · omega
def itS (I : Nat → Nat → Int32) (S : Nat) (a : Int32) : Nat → Int32 → Int32
  | 0, w => w
  | k + 1, w => itS I S a k (sprF I S a w)
theorem itS_s {S : Nat} {a : Int32} : ∀ (k : Nat) (w : Int32), itS I S a (k + 1) w = sprF I S a (itS I S a k w) := by
  intro k
  induction k with
  | zero => intro w; rfl
  | succ k ih => intro w; exact ih (sprF I S a w)
theorem itS_fix {S : Nat} {a w : Int32} (h : sprF I S a w = w) : ∀ k, itS I S a k w = w := by
  intro k
  induction k with
  | zero => rfl
  | succ k ih => show itS I S a k (sprF I S a w) = w; rw [h]; exact ih
theorem rch_it {S : Nat} {a : Int32} : ∀ (k : Nat) (w : Int32), rchF I S a k w = itS I S a k w := by
  intro k
  induction k with
  | zero => intro w; rfl
  | succ k ih =>
    intro w
    unfold rchF
    by_cases h : sprF I S a w = w
    · rw [if_pos h]; exact (itS_fix h (k + 1)).symm
    · rw [if_neg h]; exact ih _
theorem bt_itS (h : PlR P I) {a : Int32} {t : Nat} (ht : t < xN P) : ∀ (k b : Nat), k ≤ 90000 → (bt (itS I (xS P) a k (1 <<< (nI t &&& 31))) b = true ↔ dsP P (uW (bt a)) t b ≤ k) := by
  have h7 := h.N7
  have hok := okP h (uW_ok (A := bt a))
  intro k
  induction k with
  | zero =>
    intro b _
    show bt (1 <<< (nI t &&& 31)) b = true ↔ _
    rw [b_one (by omega), decide_eq_true_eq]
    constructor
    · rintro rfl; rw [dsP, ds_t]; exact Nat.le_refl _
    · intro hb
      refine Classical.byContradiction (fun hne => ?_)
      obtain ⟨i, x, e1, e2⟩ := ds_inv (N := xN P) (S := xS P) (fs := xf P) (sc := xg P) (w := uW (bt a)) (t := t) b (by unfold dsP at hb; omega) (fun e => hne e.symm)
      have := uW_1 i e1.1 e1.2.1
      unfold dsP at hb
      omega
  | succ k ih =>
    intro b hk
    rw [itS_s]
    unfold sprF
    rw [bt_spr h a _ b (xS P) 0 _ (by omega), ih b (by omega)]
    constructor
    · rintro (hb | ⟨j, -, h2, h3, h4, h5⟩)
      · omega
      · have hw : uW (bt a) j = 1 := by unfold uW; rw [if_pos h3]
        rw [ih _ (by omega), ih _ (by omega)] at h4
        have s1 := ds_stb hok ht j (xf P j) (xg P j) ⟨h2, by omega, Or.inl ⟨rfl, rfl⟩⟩
        have s2 := ds_stb hok ht j (xg P j) (xf P j) ⟨h2, by omega, Or.inr ⟨rfl, rfl⟩⟩
        unfold dsP at h4 ⊢
        rcases h5 with rfl | rfl <;> omega
    · intro hb
      by_cases hb2 : dsP P (uW (bt a)) t b ≤ k
      · exact Or.inl hb2
      · right
        have hbt : b ≠ t := fun e => by subst e; unfold dsP at hb2; rw [ds_t] at hb2; omega
        obtain ⟨i, x, e1, e2⟩ := ds_inv (N := xN P) (S := xS P) (fs := xf P) (sc := xg P) (w := uW (bt a)) (t := t) b (by unfold dsP at hb; omega) hbt
        have hw := uW_1 i e1.1 e1.2.1
        have ha : bt a i = true := by
          unfold uW at hw
          split at hw
          · assumption
          · omega
        have hx : dsP P (uW (bt a)) t x ≤ k := by unfold dsP at hb ⊢; omega
        refine ⟨i, Nat.zero_le _, e1.1, ha, ?_, ?_⟩
        · rw [ih _ (by omega), ih _ (by omega)]
          rcases e1.2.2 with ⟨rfl, -⟩ | ⟨rfl, -⟩
          · exact Or.inl hx
          · exact Or.inr hx
        · rcases e1.2.2 with ⟨-, e⟩ | ⟨-, e⟩
          · exact Or.inr e
          · exact Or.inl e
/-- two towns are joined by a set of seams -/
def jnP (P : PP) (A : Nat → Bool) (t b : Nat) : Prop := dsP P (uW A) t b < 99999
theorem dsu_lt (h : PlR P I) {A : Nat → Bool} {t b : Nat} (ht : t < xN P) (hj : jnP P A t b) : dsP P (uW A) t b < xN P := ds_lt (okP h uW_ok) ht uW_1 hj
theorem bt_rch (h : PlR P I) {a : Int32} {t : Nat} (ht : t < xN P) (b : Nat) : bt (rchF I (xS P) a 7 (1 <<< (nI t &&& 31))) b = true ↔ jnP P (bt a) t b := by
  have h7 := h.N7
  rw [rch_it, bt_itS h ht 7 b (by omega)]
  constructor
  · intro hb; unfold jnP; omega
  · intro hb; have := dsu_lt h ht hb; omega
end LkA
