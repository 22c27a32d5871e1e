/-- the seams that are gone along, and their ways, as both sides have them -/
def sameW (S : Nat) (seams : Int32) (fs sc : Nat → Nat) (wy wyR : Nat → Int32) : Prop := ∀ i, i < S → fs i < 7 ∧ sc i < 7 ∧ ((bitOf seams (nI i) = 0 ∧ ¬ wyR i < 99999) ∨ (¬ bitOf seams (nI i) = 0 ∧ wyR i < 99999 ∧ ∃ x, x ≤ 99 ∧ wy i = nI x ∧ wyR i = nI x))
theorem sameD_fold {S : Nat} {seams : Int32} {fs sc : Nat → Nat} {wy wyR : Nat → Int32} (hw : sameW S seams fs sc wy wyR) : ∀ (k i B : Nat) (q : Int32 × (Nat → Int32)) (g : Nat → Int32), i + k = S → sameD B q.2 g → B + 198 * k < 99999 →
    sameD (B + 198 * k) ((List.range' i k).foldl (msS seams fs sc wy) q).2 ((List.range' i k).foldl (frS fs sc wyR) g) := by
  intro k
  induction k with
  | zero =>
    intro i B q g _ h _
    exact h
  | succ k ih =>
    intro i B q g hi h hB
    obtain ⟨h1, h2, h3⟩ := hw i (by omega)
    have e1 : (List.range' i (k + 1)).foldl (msS seams fs sc wy) q = (List.range' (i + 1) k).foldl (msS seams fs sc wy) (msS seams fs sc wy q i) := rfl
    have e2 : (List.range' i (k + 1)).foldl (frS fs sc wyR) g = (List.range' (i + 1) k).foldl (frS fs sc wyR) (frS fs sc wyR g i) := rfl
    rw [e1, e2]
    have hs : sameD (B + 198) (msS seams fs sc wy q i).2 (frS fs sc wyR g i) := by
      unfold msS frS
      rcases h3 with ⟨h4, h5⟩ | ⟨h4, h5, x, hx, w1, w2⟩
      · rw [if_pos h4, if_neg h5]
        exact sameD_up h (by omega)
      · rw [if_neg h4, if_pos h5, w1, w2]
        exact sameD_up (sameD_step (sameD_step h hx (by omega) h1 h2) hx (by omega) h2 h1) (by omega)
    have h9 := ih (i + 1) (B + 198) _ _ (by omega) hs (by omega)
    exact sameD_up h9 (by omega)
/-- a round of each side -/
theorem sameD_round {S B : Nat} {seams : Int32} {fs sc : Nat → Nat} {wy wyR : Nat → Int32} {f g : Nat → Int32} (hw : sameW S seams fs sc wy wyR) (h : sameD B f g) (hB : B + 198 * S < 99999) : sameD (B + 198 * S) (msO S seams fs sc wy f).2 (frO S fs sc wyR g) :=
  sameD_fold hw S 0 B (0, f) g (by omega) h hB
/-- where both begin -/
theorem sameD_start {p q : Nat → Int32} {t : Nat} : sameD 0 (upd (fillF p 1000000 7) t 0) (upd (fillF q 99999 7) t 0) := by
  intro j hj
  unfold upd fillF
  by_cases e : j = t
  · rw [if_pos e, if_pos e]
    exact Or.inr ⟨0, Nat.le_refl _, rfl, rfl⟩
  · rw [if_neg e, if_neg e, if_pos hj, if_pos hj]
    exact Or.inl ⟨rfl, rfl⟩
