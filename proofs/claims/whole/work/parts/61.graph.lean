/-! ===== least sums over seams, in plain numbers; 99999: not reached ===== -/
/-- one relaxing step -/
def rlN (g : Nat → Nat) (a b w : Nat) : Nat → Nat := if g a + w < g b then (fun j => if j = b then g a + w else g j) else g
def stN (fs sc w g : Nat → Nat) (i : Nat) : Nat → Nat := if w i < 99999 then rlN (rlN g (fs i) (sc i) (w i)) (sc i) (fs i) (w i) else g
def roN (S : Nat) (fs sc w g : Nat → Nat) : Nat → Nat := (List.range' 0 S).foldl (stN fs sc w) g
def itN (S : Nat) (fs sc w : Nat → Nat) : Nat → (Nat → Nat) → (Nat → Nat)
  | 0, g => g
  | k + 1, g => itN S fs sc w k (roN S fs sc w g)
def g0N (t : Nat) : Nat → Nat := fun j => if j = t then 0 else 99999
/-- a seam that may be gone along from a to b -/
def edN (S : Nat) (fs sc w : Nat → Nat) (i a b : Nat) : Prop := i < S ∧ w i < 99999 ∧ ((a = fs i ∧ b = sc i) ∨ (a = sc i ∧ b = fs i))
def stbN (S : Nat) (fs sc w g : Nat → Nat) : Prop := ∀ i a b, edN S fs sc w i a b → g b ≤ g a + w i
def invN (S : Nat) (fs sc w : Nat → Nat) (t : Nat) (g : Nat → Nat) : Prop := ∀ b, g b < 99999 → b ≠ t → ∃ i a, edN S fs sc w i a b ∧ g a + w i ≤ g b
theorem rlN_le {g : Nat → Nat} {a b w j : Nat} : rlN g a b w j ≤ g j := by
  unfold rlN
  split
  · rename_i h
    dsimp only
    split
    · rename_i e; subst e; omega
    · exact Nat.le_refl _
  · exact Nat.le_refl _
theorem rlN_at {g : Nat → Nat} {a b w : Nat} : rlN g a b w b ≤ g a + w := by
  unfold rlN
  split
  · rename_i h
    dsimp only
    rw [if_pos rfl]
    exact Nat.le_refl _
  · omega
theorem stN_le {fs sc w g : Nat → Nat} {i j : Nat} : stN fs sc w g i j ≤ g j := by
  unfold stN
  split
  · exact Nat.le_trans rlN_le rlN_le
  · exact Nat.le_refl _
theorem foN_le {fs sc w : Nat → Nat} : ∀ (l : List Nat) (g : Nat → Nat) (j : Nat), l.foldl (stN fs sc w) g j ≤ g j := by
  intro l
  induction l with
  | nil => intro g j; exact Nat.le_refl _
  | cons i l ih => intro g j; exact Nat.le_trans (ih _ j) stN_le
theorem roN_le {S : Nat} {fs sc w g : Nat → Nat} {j : Nat} : roN S fs sc w g j ≤ g j := foN_le _ _ _
theorem itN_le {S : Nat} {fs sc w : Nat → Nat} : ∀ (k : Nat) (g : Nat → Nat) (j : Nat), itN S fs sc w k g j ≤ g j := by
  intro k
  induction k with
  | zero => intro g j; exact Nat.le_refl _
  | succ k ih => intro g j; exact Nat.le_trans (ih _ j) roN_le
theorem itN_s {S : Nat} {fs sc w : Nat → Nat} : ∀ (k : Nat) (g : Nat → Nat), itN S fs sc w (k + 1) g = roN S fs sc w (itN S fs sc w k g) := by
  intro k
  induction k with
  | zero => intro g; rfl
  | succ k ih => intro g; exact ih (roN S fs sc w g)
theorem itN_add {S : Nat} {fs sc w : Nat → Nat} : ∀ (k m : Nat) (g : Nat → Nat), itN S fs sc w (k + m) g = itN S fs sc w m (itN S fs sc w k g) := by
  intro k
  induction k with
  | zero => intro m g; rw [Nat.zero_add]; rfl
  | succ k ih =>
    intro m g
    rw [show k + 1 + m = (k + m) + 1 by omega]
    exact ih m (roN S fs sc w g)
theorem stN_ed {S : Nat} {fs sc w g : Nat → Nat} {i a b : Nat} (h : edN S fs sc w i a b) : stN fs sc w g i b ≤ g a + w i := by
  obtain ⟨_, h2, h3⟩ := h
  unfold stN
  rw [if_pos h2]
  rcases h3 with ⟨rfl, rfl⟩ | ⟨rfl, rfl⟩
  · exact Nat.le_trans rlN_le rlN_at
  · refine Nat.le_trans rlN_at ?_
    have := rlN_le (g := g) (a := fs i) (b := sc i) (w := w i) (j := sc i)
    omega
theorem foN_ed {S : Nat} {fs sc w : Nat → Nat} {i a b : Nat} (h : edN S fs sc w i a b) : ∀ (l : List Nat) (g : Nat → Nat), i ∈ l → l.foldl (stN fs sc w) g b ≤ g a + w i := by
  intro l
  induction l with
  | nil => intro g hi; cases hi
  | cons x l ih =>
    intro g hi
    rcases List.mem_cons.mp hi with rfl | hi
    · exact Nat.le_trans (foN_le l _ b) (stN_ed h)
    · have h1 := ih (stN fs sc w g x) hi
      have h2 := stN_le (fs := fs) (sc := sc) (w := w) (g := g) (i := x) (j := a)
      show l.foldl (stN fs sc w) (stN fs sc w g x) b ≤ g a + w i
      omega
theorem roN_ed {S : Nat} {fs sc w g : Nat → Nat} {i a b : Nat} (h : edN S fs sc w i a b) : roN S fs sc w g b ≤ g a + w i :=
  foN_ed h _ g (by rw [List.mem_range'_1]; exact ⟨Nat.zero_le _, by rw [Nat.zero_add]; exact h.1⟩)
theorem rlN_inv {S : Nat} {fs sc w g : Nat → Nat} {t i a b : Nat} (h : edN S fs sc w i a b) (hg : invN S fs sc w t g) : invN S fs sc w t (rlN g a b (w i)) := by
  intro c hc hct
  have hle : ∀ j, rlN g a b (w i) j ≤ g j := fun j => rlN_le
  by_cases hu : g a + w i < g b
  · have e : rlN g a b (w i) = (fun j => if j = b then g a + w i else g j) := by unfold rlN; rw [if_pos hu]
    by_cases hcb : c = b
    · subst hcb
      refine ⟨i, a, h, ?_⟩
      have h1 : rlN g a c (w i) c = g a + w i := by rw [e]; exact if_pos rfl
      rw [h1]
      have := hle a
      omega
    · have h1 : rlN g a b (w i) c = g c := by rw [e]; exact if_neg hcb
      rw [h1] at hc
      obtain ⟨i', a', e1, e2⟩ := hg c hc hct
      refine ⟨i', a', e1, ?_⟩
      rw [h1]
      have := hle a'
      omega
  · have e : rlN g a b (w i) = g := by unfold rlN; rw [if_neg hu]
    rw [e] at hc ⊢
    exact hg c hc hct
theorem stN_inv {S : Nat} {fs sc w g : Nat → Nat} {t i : Nat} (hi : i < S) (hg : invN S fs sc w t g) : invN S fs sc w t (stN fs sc w g i) := by
  unfold stN
  split
  · rename_i h
    exact rlN_inv ⟨hi, h, Or.inr ⟨rfl, rfl⟩⟩ (rlN_inv ⟨hi, h, Or.inl ⟨rfl, rfl⟩⟩ hg)
  · exact hg
theorem foN_inv {S : Nat} {fs sc w : Nat → Nat} {t : Nat} : ∀ (l : List Nat) (g : Nat → Nat), (∀ i ∈ l, i < S) → invN S fs sc w t g → invN S fs sc w t (l.foldl (stN fs sc w) g) := by
  intro l
  induction l with
  | nil => intro g _ h; exact h
  | cons x l ih => intro g hl h; exact ih _ (fun i hi => hl i (List.mem_cons_of_mem _ hi)) (stN_inv (hl x List.mem_cons_self) h)
theorem roN_inv {S : Nat} {fs sc w g : Nat → Nat} {t : Nat} (h : invN S fs sc w t g) : invN S fs sc w t (roN S fs sc w g) :=
  foN_inv _ g (fun i hi => by rw [List.mem_range'_1] at hi; omega) h
theorem itN_inv {S : Nat} {fs sc w : Nat → Nat} {t : Nat} : ∀ (k : Nat) (g : Nat → Nat), invN S fs sc w t g → invN S fs sc w t (itN S fs sc w k g) := by
  intro k
  induction k with
  | zero => intro g h; exact h
  | succ k ih => intro g h; exact ih _ (roN_inv h)
theorem g0N_inv {S : Nat} {fs sc w : Nat → Nat} {t : Nat} : invN S fs sc w t (g0N t) := by
  intro b hb hbt
  unfold g0N at hb
  rw [if_neg hbt] at hb
  omega
/-- what is stable lies below what was reached -/
theorem leN {S : Nat} {fs sc w g h : Nat → Nat} {t : Nat} (hw : ∀ i, i < S → 1 ≤ w i) (hs : stbN S fs sc w g) (h0 : g t = 0) (hg : ∀ b, g b ≤ 99999) (hi : invN S fs sc w t h) : ∀ (n b : Nat), h b ≤ n → g b ≤ h b := by
  intro n
  induction n with
  | zero =>
    intro b hb
    by_cases hbt : b = t
    · subst hbt; omega
    · obtain ⟨i, a, e1, e2⟩ := hi b (by omega) hbt
      have := hw i e1.1
      omega
  | succ n ih =>
    intro b hb
    by_cases hbt : b = t
    · subst hbt; omega
    · by_cases hf : h b < 99999
      · obtain ⟨i, a, e1, e2⟩ := hi b hf hbt
        have h1 := hw i e1.1
        have h2 := ih a (by omega)
        have h3 := hs i a b e1
        omega
      · have := hg b
        omega
/-- how many of the first n are nearer than m -/
def cntN (F : Nat → Nat) (m : Nat) : Nat → Nat
  | 0 => 0
  | n + 1 => cntN F m n + (if F n < m then 1 else 0)
theorem cntN_le {F : Nat → Nat} {m : Nat} : ∀ n, cntN F m n ≤ n := by
  intro n
  induction n with
  | zero => exact Nat.le_refl _
  | succ n ih =>
    unfold cntN
    split <;> omega
theorem cntN_mono {F : Nat → Nat} {m m' : Nat} (h : m ≤ m') : ∀ n, cntN F m n ≤ cntN F m' n := by
  intro n
  induction n with
  | zero => exact Nat.le_refl _
  | succ n ih =>
    unfold cntN
    split <;> split <;> omega
theorem cntN_lt {F : Nat → Nat} {m m' c : Nat} (h : m ≤ m') (h1 : ¬ F c < m) (h2 : F c < m') : ∀ n, c < n → cntN F m n < cntN F m' n := by
  intro n
  induction n with
  | zero => intro hc; omega
  | succ n ih =>
    intro hc
    unfold cntN
    by_cases e : c = n
    · subst e
      have := cntN_mono (F := F) h c
      rw [if_neg h1, if_pos h2]
      omega
    · have := ih (by omega)
      split <;> split <;> omega
theorem cntN_ub {F : Nat → Nat} {m c : Nat} (h1 : ¬ F c < m) : ∀ n, c < n → cntN F m n < n := by
  intro n
  induction n with
  | zero => intro hc; omega
  | succ n ih =>
    intro hc
    unfold cntN
    by_cases e : c = n
    · subst e
      have := cntN_le (F := F) (m := m) c
      rw [if_neg h1]
      omega
    · have := ih (by omega)
      split <;> omega
/-- all ends are towns, all ways are 1 or more -/
def okN (N S : Nat) (fs sc w : Nat → Nat) : Prop := N ≤ 7 ∧ ∀ i, i < S → fs i < N ∧ sc i < N ∧ 1 ≤ w i
theorem foN_out {N S : Nat} {fs sc w : Nat → Nat} (ok : okN N S fs sc w) {j : Nat} (hj : N ≤ j) : ∀ (l : List Nat) (g : Nat → Nat), (∀ i ∈ l, i < S) → l.foldl (stN fs sc w) g j = g j := by
  intro l
  induction l with
  | nil => intro g _; rfl
  | cons x l ih =>
    intro g hl
    have hx := ok.2 x (hl x List.mem_cons_self)
    rw [List.foldl_cons, ih _ (fun i hi => hl i (List.mem_cons_of_mem _ hi))]
    have hr : ∀ (g : Nat → Nat) (a b w : Nat), b < N → rlN g a b w j = g j := by
      intro g a b w hb
      unfold rlN
      split
      · dsimp only
        rw [if_neg (by omega)]
      · rfl
    unfold stN
    split
    · rw [hr _ _ _ _ hx.1, hr _ _ _ _ hx.2.1]
    · rfl
theorem roN_out {N S : Nat} {fs sc w g : Nat → Nat} (ok : okN N S fs sc w) {j : Nat} (hj : N ≤ j) : roN S fs sc w g j = g j :=
  foN_out ok hj _ g (fun i hi => by rw [List.mem_range'_1] at hi; omega)
theorem itN_out {N S : Nat} {fs sc w : Nat → Nat} (ok : okN N S fs sc w) {j : Nat} (hj : N ≤ j) : ∀ (k : Nat) (g : Nat → Nat), itN S fs sc w k g j = g j := by
  intro k
  induction k with
  | zero => intro g; rfl
  | succ k ih => intro g; exact (ih _).trans (roN_out ok hj)
def smN (g : Nat → Nat) : Nat := g 0 + g 1 + g 2 + g 3 + g 4 + g 5 + g 6
theorem roN_sm {N S : Nat} {fs sc w g : Nat → Nat} (ok : okN N S fs sc w) : roN S fs sc w g = g ∨ smN (roN S fs sc w g) < smN g := by
  by_cases h : smN (roN S fs sc w g) < smN g
  · exact Or.inr h
  · left
    funext j
    by_cases hj : j < 7
    · have hl := fun j => roN_le (S := S) (fs := fs) (sc := sc) (w := w) (g := g) (j := j)
      have l0 := hl 0; have l1 := hl 1; have l2 := hl 2; have l3 := hl 3; have l4 := hl 4; have l5 := hl 5; have l6 := hl 6
      unfold smN at h
      have hc : j = 0 ∨ j = 1 ∨ j = 2 ∨ j = 3 ∨ j = 4 ∨ j = 5 ∨ j = 6 := by omega
      rcases hc with rfl | rfl | rfl | rfl | rfl | rfl | rfl <;> omega
    · exact roN_out ok (by have := ok.1; omega)
theorem itN_stop {N S : Nat} {fs sc w : Nat → Nat} (ok : okN N S fs sc w) (g : Nat → Nat) : ∃ K, roN S fs sc w (itN S fs sc w K g) = itN S fs sc w K g := by
  have h : ∀ k, (∃ K, roN S fs sc w (itN S fs sc w K g) = itN S fs sc w K g) ∨ smN (itN S fs sc w k g) + k ≤ smN g := by
    intro k
    induction k with
    | zero => exact Or.inr (Nat.le_refl _)
    | succ k ih =>
      rcases ih with ih | ih
      · exact Or.inl ih
      · rcases roN_sm (g := itN S fs sc w k g) ok with h1 | h1
        · exact Or.inl ⟨k, h1⟩
        · right
          rw [itN_s]
          omega
  rcases h (smN g + 1) with h1 | h1
  · exact h1
  · omega
theorem itN_fix {S : Nat} {fs sc w g : Nat → Nat} (h : roN S fs sc w g = g) : ∀ k, itN S fs sc w k g = g := by
  intro k
  induction k with
  | zero => rfl
  | succ k ih =>
    show itN S fs sc w k (roN S fs sc w g) = g
    rw [h]
    exact ih
theorem roN_stb {S : Nat} {fs sc w g : Nat → Nat} (h : roN S fs sc w g = g) : stbN S fs sc w g := by
  intro i a b e
  have := roN_ed (g := g) e
  rw [h] at this
  exact this
/-- how far all is from t -/
def dsN (N S : Nat) (fs sc w : Nat → Nat) (t : Nat) : Nat → Nat := itN S fs sc w N (g0N t)
theorem g0N_le {t j : Nat} : g0N t j ≤ 99999 := by unfold g0N; split <;> omega
theorem it0_le {S : Nat} {fs sc w : Nat → Nat} {k t j : Nat} : itN S fs sc w k (g0N t) j ≤ 99999 := Nat.le_trans (itN_le _ _ _) g0N_le
theorem it0_t {S : Nat} {fs sc w : Nat → Nat} {k t : Nat} : itN S fs sc w k (g0N t) t = 0 := by
  have := itN_le (S := S) (fs := fs) (sc := sc) (w := w) k (g0N t) t
  unfold g0N at this
  rw [if_pos rfl] at this
  unfold g0N
  omega
theorem it_enough {N S : Nat} {fs sc w : Nat → Nat} (ok : okN N S fs sc w) {t : Nat} (ht : t < N) {k : Nat} (hk : N ≤ k + 1) : roN S fs sc w (itN S fs sc w k (g0N t)) = itN S fs sc w k (g0N t) := by
  obtain ⟨K, hK⟩ := itN_stop ok (g0N t)
  have hw : ∀ i, i < S → 1 ≤ w i := fun i hi => (ok.2 i hi).2.2
  have hst := roN_stb hK
  have hlow : ∀ k b, itN S fs sc w K (g0N t) b ≤ itN S fs sc w k (g0N t) b := fun k b => leN hw hst it0_t (fun _ => it0_le) (itN_inv k _ g0N_inv) _ b (Nat.le_refl _)
  have hinv := itN_inv K (g0N t) (g0N_inv (S := S) (fs := fs) (sc := sc) (w := w) (t := t))
  have hup : ∀ k b, b < N → cntN (itN S fs sc w K (g0N t)) (itN S fs sc w K (g0N t) b) N ≤ k → itN S fs sc w k (g0N t) b ≤ itN S fs sc w K (g0N t) b := by
    intro k
    induction k with
    | zero =>
      intro b hb hc
      by_cases hbt : b = t
      · subst hbt
        rw [it0_t, it0_t]
        exact Nat.le_refl _
      · by_cases hf : itN S fs sc w K (g0N t) b < 99999
        · obtain ⟨i, a, e1, e2⟩ := hinv b hf hbt
          have ha : a < N := by
            rcases e1.2.2 with ⟨e, _⟩ | ⟨e, _⟩ <;> rw [e]
            · exact (ok.2 i e1.1).1
            · exact (ok.2 i e1.1).2.1
          have h1 := hw i e1.1
          have h2 := cntN_lt (F := itN S fs sc w K (g0N t)) (m := itN S fs sc w K (g0N t) a) (m' := itN S fs sc w K (g0N t) b) (c := a) (by omega) (by omega) (by omega) N ha
          omega
        · have := it0_le (S := S) (fs := fs) (sc := sc) (w := w) (k := 0) (t := t) (j := b)
          omega
    | succ k ih =>
      intro b hb hc
      by_cases hbt : b = t
      · subst hbt
        rw [it0_t, it0_t]
        exact Nat.le_refl _
      · by_cases hf : itN S fs sc w K (g0N t) b < 99999
        · obtain ⟨i, a, e1, e2⟩ := hinv b hf hbt
          have ha : a < N := by
            rcases e1.2.2 with ⟨e, _⟩ | ⟨e, _⟩ <;> rw [e]
            · exact (ok.2 i e1.1).1
            · exact (ok.2 i e1.1).2.1
          have h1 := hw i e1.1
          have h2 := cntN_lt (F := itN S fs sc w K (g0N t)) (m := itN S fs sc w K (g0N t) a) (m' := itN S fs sc w K (g0N t) b) (c := a) (by omega) (by omega) (by omega) N ha
          have h3 := ih a ha (by omega)
          have h4 := roN_ed (g := itN S fs sc w k (g0N t)) e1
          rw [itN_s]
          omega
        · have := it0_le (S := S) (fs := fs) (sc := sc) (w := w) (k := k + 1) (t := t) (j := b)
          omega
  have heq : itN S fs sc w k (g0N t) = itN S fs sc w K (g0N t) := by
    funext b
    by_cases hb : b < N
    · have h1 := hlow k b
      have h2 := cntN_ub (F := itN S fs sc w K (g0N t)) (m := itN S fs sc w K (g0N t) b) (c := b) (Nat.lt_irrefl _) N hb
      have h3 := hup k b hb (by omega)
      omega
    · rw [itN_out ok (by omega), itN_out ok (by omega)]
  rw [heq]
  exact hK
theorem ds_it {N S : Nat} {fs sc w : Nat → Nat} (ok : okN N S fs sc w) {t : Nat} (ht : t < N) {k : Nat} (hk : N ≤ k) : itN S fs sc w k (g0N t) = dsN N S fs sc w t := by
  unfold dsN
  have h := it_enough ok ht (k := N) (by omega)
  rw [show k = N + (k - N) by omega, itN_add]
  exact itN_fix h _
theorem ds_stb {N S : Nat} {fs sc w : Nat → Nat} (ok : okN N S fs sc w) {t : Nat} (ht : t < N) : stbN S fs sc w (dsN N S fs sc w t) := roN_stb (it_enough ok ht (by omega))
theorem ds_inv {N S : Nat} {fs sc w : Nat → Nat} {t : Nat} : invN S fs sc w t (dsN N S fs sc w t) := itN_inv _ _ g0N_inv
theorem ds_t {N S : Nat} {fs sc w : Nat → Nat} {t : Nat} : dsN N S fs sc w t t = 0 := it0_t
theorem ds_le {N S : Nat} {fs sc w : Nat → Nat} {t j : Nat} : dsN N S fs sc w t j ≤ 99999 := it0_le
theorem ds_out {N S : Nat} {fs sc w : Nat → Nat} (ok : okN N S fs sc w) {t j : Nat} (ht : t < N) (hj : N ≤ j) : dsN N S fs sc w t j = 99999 := by
  unfold dsN
  rw [itN_out ok hj]
  unfold g0N
  rw [if_neg (by omega)]
/-- more seams, or shorter ones, never make it farther -/
theorem ds_mono {N S : Nat} {fs sc w w' : Nat → Nat} (ok : okN N S fs sc w) (ok' : okN N S fs sc w') {t : Nat} (ht : t < N) (h : ∀ i, i < S → w i < 99999 → w' i ≤ w i) (b : Nat) : dsN N S fs sc w' t b ≤ dsN N S fs sc w t b := by
  refine leN (fun i hi => (ok.2 i hi).2.2) (fun i a b e => ?_) ds_t (fun _ => ds_le) ds_inv _ b (Nat.le_refl _)
  have h1 := h i e.1 e.2.1
  have h2 := ds_stb ok' ht i a b ⟨e.1, by have := e.2.1; omega, e.2.2⟩
  omega
/-- with ways of one: what is reached is fewer than N away -/
theorem ds_small {N S : Nat} {fs sc w : Nat → Nat} (ok : okN N S fs sc w) {t : Nat} (ht : t < N) (h1 : ∀ i, i < S → w i < 99999 → w i = 1) : ∀ n b, dsN N S fs sc w t b ≤ n → dsN N S fs sc w t b < 99999 → dsN N S fs sc w t b ≤ cntN (dsN N S fs sc w t) (dsN N S fs sc w t b) N := by
  intro n
  induction n with
  | zero => intro b hb _; omega
  | succ n ih =>
    intro b hb hf
    by_cases hbt : b = t
    · subst hbt; rw [ds_t]; exact Nat.zero_le _
    · obtain ⟨i, a, e1, e2⟩ := ds_inv b hf hbt
      have ha : a < N := by
        rcases e1.2.2 with ⟨e, _⟩ | ⟨e, _⟩ <;> rw [e]
        · exact (ok.2 i e1.1).1
        · exact (ok.2 i e1.1).2.1
      have hw := h1 i e1.1 e1.2.1
      have h2 := cntN_lt (F := dsN N S fs sc w t) (m := dsN N S fs sc w t a) (m' := dsN N S fs sc w t b) (c := a) (by omega) (by omega) (by omega) N ha
      have h3 := ih a (by omega) (by omega)
      have h4 := ds_stb ok ht i a b e1
      omega
theorem ds_lt {N S : Nat} {fs sc w : Nat → Nat} (ok : okN N S fs sc w) {t : Nat} (ht : t < N) (h1 : ∀ i, i < S → w i < 99999 → w i = 1) {b : Nat} (hf : dsN N S fs sc w t b < 99999) : dsN N S fs sc w t b < N := by
  by_cases hb : b < N
  · have h2 := ds_small ok ht h1 _ b (Nat.le_refl _) hf
    have h3 := cntN_ub (F := dsN N S fs sc w t) (m := dsN N S fs sc w t b) (c := b) (Nat.lt_irrefl _) N hb
    omega
  · rw [ds_out ok ht (by omega)] at hf
    omega
