/-! ===== read: expressions, as the tokens tell them ===== -/
section RZ
variable {tok : Nat → TK} {T : Nat} {b : Nat → Nat} {n : Nat}
/-- numbers below 10000, places that grow -/
def TKV (tok : Nat → TK) (T : Nat) : Prop := ∀ j, j < T → ((tok j).1 = 3 → (tok j).2.2.1 < 10000 ∧ (tok j).2.2.2 = 0) ∧ ((tok j).1 = 2 → (tok j).2.2.1 = 0) ∧ (j + 1 < T → (tok j).2.1 < (tok (j + 1)).2.1)
theorem dg_v : ∀ (k p v m : Nat), (dgF b n k p v).1 ≤ p + m → (dgF b n k p v).2 < (v + 1) * 10 ^ m := by
  intro k
  induction k with
  | zero =>
    intro p v m _
    show v < (v + 1) * 10 ^ m
    have : 1 ≤ 10 ^ m := Nat.pos_of_ne_zero (by exact Nat.ne_of_gt (Nat.pow_pos (by omega)))
    exact Nat.lt_of_lt_of_le (Nat.lt_succ_self v) (Nat.le_mul_of_pos_right _ this)
  | succ k ih =>
    intro p v m h
    have h10 : ∀ q : Nat, 1 ≤ 10 ^ q := fun q => Nat.pos_of_ne_zero (by exact Nat.ne_of_gt (Nat.pow_pos (by omega)))
    unfold dgF at h ⊢
    by_cases c : isD (b p) = true
    · rw [if_pos c] at h ⊢
      have hb := (dg_b (b := b) (n := n) k (p + 1) (10 * v + (b p - 48))).1
      obtain ⟨m, rfl⟩ : ∃ z, m = z + 1 := ⟨m - 1, by omega⟩
      have := ih (p + 1) (10 * v + (b p - 48)) m (by omega)
      have hd : b p - 48 ≤ 9 := by have := of_decide_eq_true c; omega
      refine Nat.lt_of_lt_of_le this ?_
      rw [Nat.pow_succ, Nat.mul_comm (10 ^ m) 10, ← Nat.mul_assoc]
      exact Nat.mul_le_mul_right _ (by omega)
    · rw [if_neg c]
      exact Nat.lt_of_lt_of_le (Nat.lt_succ_self v) (Nat.le_mul_of_pos_right _ (h10 m))
theorem lt_b1 : ∀ (k p : Nat) (v : Int64), p ≤ (ltF b n k p v).1 := by
  intro k
  induction k with
  | zero => intro p v; exact Nat.le_refl _
  | succ k ih =>
    intro p v
    unfold ltF
    split
    · have := ih (p + 1) (adL v (b p)); omega
    · exact Nat.le_refl _
theorem sc1_w {p : Nat} : (((sc1 b n p).1.1 = 3 → (sc1 b n p).1.2.2.1 < 10000 ∧ (sc1 b n p).1.2.2.2 = 0) ∧ ((sc1 b n p).1.1 = 2 → (sc1 b n p).1.2.2.1 = 0)) ∧ (sc1 b n p).1.2.1 = p ∧ p < (sc1 b n p).2 := by
  unfold sc1
  by_cases c : n ≤ p
  · rw [if_pos c]; exact ⟨⟨fun h => absurd (show 0 = 3 from h) (by decide), fun _ => rfl⟩, rfl, by show p < p + 1; omega⟩
  · rw [if_neg c]
    by_cases c1 : isL (b p) = true
    · rw [if_pos c1]
      refine ⟨⟨fun h => ⟨by show 0 < 10000; omega, ?_⟩, fun _ => rfl⟩, rfl, ?_⟩
      · exfalso
        have h : (if (ltF b n (n - p) p 0).1 - p ≤ 8 then srF (ltF b n (n - p) p 0).2 23 0 else 1) = 3 := h
        split at h
        · rcases sr_b (ltF b n (n - p) p 0).2 23 0 rfl with e | e <;> omega
        · omega
      · show p < (ltF b n (n - p) p 0).1
        obtain ⟨k, hk⟩ : ∃ z, n - p = z + 1 := ⟨n - p - 1, by omega⟩
        rw [hk]; unfold ltF; rw [if_pos c1]
        have := lt_b1 (b := b) (n := n) k (p + 1) (adL 0 (b p)); omega
    · rw [if_neg c1]
      by_cases c2 : isD (b p) = true
      · rw [if_pos c2]
        refine ⟨⟨fun h => ⟨?_, rfl⟩, fun h => ?_⟩, rfl, ?_⟩
        · have h : (if (dgF b n (n - p) p 0).1 - p ≤ 4 then 3 else 1) = 3 := h
          show (dgF b n (n - p) p 0).2 < 10000
          by_cases c4 : (dgF b n (n - p) p 0).1 - p ≤ 4
          · have := dg_v (b := b) (n := n) (n - p) p 0 4 (by omega)
            omega
          · rw [if_neg c4] at h; omega
        · exfalso
          have h : (if (dgF b n (n - p) p 0).1 - p ≤ 4 then 3 else 1) = 2 := h
          split at h <;> omega
        · show p < (dgF b n (n - p) p 0).1
          obtain ⟨k, hk⟩ : ∃ z, n - p = z + 1 := ⟨n - p - 1, by omega⟩
          rw [hk]; unfold dgF; rw [if_pos c2]
          have := (dg_b (b := b) (n := n) k (p + 1) (10 * 0 + (b p - 48))).1; omega
      · rw [if_neg c2]
        refine ⟨⟨fun h => ⟨by show 0 < 10000; omega, rfl⟩, fun _ => rfl⟩, rfl, by show p < p + 1; omega⟩
theorem scL_v : ∀ (k p : Nat), (∀ j, j < (scL b n k p).length → p ≤ ((scL b n k p).getD j tk0).2.1 ∧ (((scL b n k p).getD j tk0).1 = 3 → ((scL b n k p).getD j tk0).2.2.1 < 10000 ∧ ((scL b n k p).getD j tk0).2.2.2 = 0) ∧ (((scL b n k p).getD j tk0).1 = 2 → ((scL b n k p).getD j tk0).2.2.1 = 0) ∧ (j + 1 < (scL b n k p).length → ((scL b n k p).getD j tk0).2.1 < ((scL b n k p).getD (j + 1) tk0).2.1)) := by
  intro k
  induction k with
  | zero => intro p j hj; exact absurd hj (Nat.not_lt_zero _)
  | succ k ih =>
    intro p
    have hbl := (bl_b (b := b) (n := n) (n - p) p).1
    have hv := sc1_w (b := b) (n := n) (p := blF b n (n - p) p)
    unfold scL
    generalize sc1 b n (blF b n (n - p) p) = r at hv ⊢
    by_cases c : r.1.1 = 0 ∨ r.1.1 = 1
    · rw [if_pos c]
      intro j hj
      have e : j = 0 := by rw [List.length_cons, List.length_nil] at hj; omega
      subst e
      refine ⟨?_, hv.1.1, hv.1.2, fun h9 => ?_⟩
      · show p ≤ r.1.2.1; omega
      · rw [List.length_cons, List.length_nil] at h9; omega
    · rw [if_neg c]
      intro j hj
      rw [List.length_cons] at hj ⊢
      cases j with
      | zero =>
        refine ⟨?_, hv.1.1, hv.1.2, fun h9 => ?_⟩
        · show p ≤ r.1.2.1; omega
        · have := (ih r.2 0 (by omega)).1
          show r.1.2.1 < ((scL b n k r.2).getD 0 tk0).2.1
          omega
      | succ j =>
        obtain ⟨g1, g2, g3, g4⟩ := ih r.2 j (by omega)
        refine ⟨?_, g2, g3, fun h9 => g4 (by omega)⟩
        show p ≤ ((scL b n k r.2).getD j tk0).2.1
        omega
theorem TKV_of : TKV (fun j => (scL b n 401 0).getD j tk0) (scL b n 401 0).length := fun j hj => (scL_v 401 0 j hj).2
/-! expressions -/
def sgO (k : Nat) : Op := (if k = 43 then 2 else if k = 45 then 3 else if k = 42 then 4 else 5, 0)
/-- mode 0: a unit, 1: a product, 2: a sum, 3: a product's rest, 4: a sum's rest -/
def gr (tok : Nat → TK) : Nat → Nat → Nat → Nat × Nat → List Op × (Nat × Nat)
  | 0, _, _, c => ([], (c.1, 1))
  | n + 1, md, dp, c =>
    if c.2 = 0 then
      (if md = 0 then
        (if (tok c.1).1 = 3 then ([(0, (tok c.1).2.2.1)], tkS tok 3 c)
        else if 270 ≤ (tok c.1).1 ∧ (tok c.1).1 ≤ 278 then ([(1, (tok c.1).1 - 270)], tkS tok (tok c.1).1 c)
        else if (tok c.1).1 = 40 then (if dp < 6 then ((gr tok n 2 (dp + 1) (tkS tok 40 c)).1, tkS tok 41 (gr tok n 2 (dp + 1) (tkS tok 40 c)).2) else ([], (c.1, 2)))
        else ([], (c.1, 1)))
      else if md = 1 then ((gr tok n 0 dp c).1 ++ (gr tok n 3 dp (gr tok n 0 dp c).2).1, (gr tok n 3 dp (gr tok n 0 dp c).2).2)
      else if md = 2 then ((gr tok n 1 dp c).1 ++ (gr tok n 4 dp (gr tok n 1 dp c).2).1, (gr tok n 4 dp (gr tok n 1 dp c).2).2)
      else if md = 3 then (if (tok c.1).1 = 42 ∨ (tok c.1).1 = 47 then ((gr tok n 0 dp (tkS tok (tok c.1).1 c)).1 ++ sgO (tok c.1).1 :: (gr tok n 3 dp (gr tok n 0 dp (tkS tok (tok c.1).1 c)).2).1, (gr tok n 3 dp (gr tok n 0 dp (tkS tok (tok c.1).1 c)).2).2) else ([], c))
      else (if (tok c.1).1 = 43 ∨ (tok c.1).1 = 45 then ((gr tok n 1 dp (tkS tok (tok c.1).1 c)).1 ++ sgO (tok c.1).1 :: (gr tok n 4 dp (gr tok n 1 dp (tkS tok (tok c.1).1 c)).2).1, (gr tok n 4 dp (gr tok n 1 dp (tkS tok (tok c.1).1 c)).2).2) else ([], c)))
    else ([], c)
variable {m md dp : Nat} {c : Nat × Nat}
theorem gr_f (h : c.2 ≠ 0) : gr tok (m + 1) md dp c = ([], c) := by rw [gr, if_neg h]
theorem gr_int (h : c.2 = 0) (h1 : (tok c.1).1 = 3) : gr tok (m + 1) 0 dp c = ([(0, (tok c.1).2.2.1)], tkS tok 3 c) := by rw [gr, if_pos h, if_pos rfl, if_pos h1]
theorem gr_var (h : c.2 = 0) (h1 : 270 ≤ (tok c.1).1 ∧ (tok c.1).1 ≤ 278) : gr tok (m + 1) 0 dp c = ([(1, (tok c.1).1 - 270)], tkS tok (tok c.1).1 c) := by rw [gr, if_pos h, if_pos rfl, if_neg (by omega), if_pos h1]
theorem gr_par (h : c.2 = 0) (h1 : (tok c.1).1 = 40) (h6 : dp < 6) : gr tok (m + 1) 0 dp c = ((gr tok m 2 (dp + 1) (tkS tok 40 c)).1, tkS tok 41 (gr tok m 2 (dp + 1) (tkS tok 40 c)).2) := by rw [gr, if_pos h, if_pos rfl, if_neg (by omega), if_neg (by omega), if_pos h1, if_pos h6]
theorem gr_deep (h : c.2 = 0) (h1 : (tok c.1).1 = 40) (h6 : ¬ dp < 6) : gr tok (m + 1) 0 dp c = ([], (c.1, 2)) := by rw [gr, if_pos h, if_pos rfl, if_neg (by omega), if_neg (by omega), if_pos h1, if_neg h6]
theorem gr_bad (h : c.2 = 0) (h1 : (tok c.1).1 ≠ 3) (h2 : ¬ (270 ≤ (tok c.1).1 ∧ (tok c.1).1 ≤ 278)) (h3 : (tok c.1).1 ≠ 40) : gr tok (m + 1) 0 dp c = ([], (c.1, 1)) := by rw [gr, if_pos h, if_pos rfl, if_neg h1, if_neg h2, if_neg h3]
theorem gr_1 (h : c.2 = 0) : gr tok (m + 1) 1 dp c = ((gr tok m 0 dp c).1 ++ (gr tok m 3 dp (gr tok m 0 dp c).2).1, (gr tok m 3 dp (gr tok m 0 dp c).2).2) := by rw [gr, if_pos h, if_neg (by omega), if_pos rfl]
theorem gr_2 (h : c.2 = 0) : gr tok (m + 1) 2 dp c = ((gr tok m 1 dp c).1 ++ (gr tok m 4 dp (gr tok m 1 dp c).2).1, (gr tok m 4 dp (gr tok m 1 dp c).2).2) := by rw [gr, if_pos h, if_neg (by omega), if_neg (by omega), if_pos rfl]
theorem gr_3 (h : c.2 = 0) (h1 : (tok c.1).1 = 42 ∨ (tok c.1).1 = 47) : gr tok (m + 1) 3 dp c = ((gr tok m 0 dp (tkS tok (tok c.1).1 c)).1 ++ sgO (tok c.1).1 :: (gr tok m 3 dp (gr tok m 0 dp (tkS tok (tok c.1).1 c)).2).1, (gr tok m 3 dp (gr tok m 0 dp (tkS tok (tok c.1).1 c)).2).2) := by rw [gr, if_pos h, if_neg (by omega), if_neg (by omega), if_neg (by omega), if_pos rfl, if_pos h1]
theorem gr_3n (h : c.2 = 0) (h1 : ¬ ((tok c.1).1 = 42 ∨ (tok c.1).1 = 47)) : gr tok (m + 1) 3 dp c = ([], c) := by rw [gr, if_pos h, if_neg (by omega), if_neg (by omega), if_neg (by omega), if_pos rfl, if_neg h1]
theorem gr_4 (h : c.2 = 0) (h1 : (tok c.1).1 = 43 ∨ (tok c.1).1 = 45) : gr tok (m + 1) 4 dp c = ((gr tok m 1 dp (tkS tok (tok c.1).1 c)).1 ++ sgO (tok c.1).1 :: (gr tok m 4 dp (gr tok m 1 dp (tkS tok (tok c.1).1 c)).2).1, (gr tok m 4 dp (gr tok m 1 dp (tkS tok (tok c.1).1 c)).2).2) := by rw [gr, if_pos h, if_neg (by omega), if_neg (by omega), if_neg (by omega), if_neg (by omega), if_pos h1]
theorem gr_4n (h : c.2 = 0) (h1 : ¬ ((tok c.1).1 = 43 ∨ (tok c.1).1 = 45)) : gr tok (m + 1) 4 dp c = ([], c) := by rw [gr, if_pos h, if_neg (by omega), if_neg (by omega), if_neg (by omega), if_neg (by omega), if_neg h1]
/-! take, in words -/
theorem tk_f {k : Nat} (h : c.2 ≠ 0) : tkS tok k c = c := if_neg h
theorem tk_z {k : Nat} (h : (tkS tok k c).2 = 0) : c.2 = 0 ∧ (tok c.1).1 = k ∧ c.1 < 400 ∧ tkS tok k c = (c.1 + 1, 0) := by
  unfold tkS at h ⊢
  by_cases e : c.2 = 0
  · rw [if_pos e] at h ⊢
    by_cases e1 : (tok c.1).1 = k
    · rw [if_pos e1] at h ⊢
      by_cases e2 : c.1 < 400
      · rw [if_pos e2]; exact ⟨e, e1, e2, rfl⟩
      · rw [if_neg e2] at h; exact absurd h (by show ¬ 2 = 0; omega)
    · rw [if_neg e1] at h; exact absurd h (by show ¬ 1 = 0; omega)
  · rw [if_neg e] at h; exact absurd h e
theorem tk_le {k : Nat} : c.1 ≤ (tkS tok k c).1 := by
  unfold tkS
  split
  · split
    · split
      · show c.1 ≤ c.1 + 1; omega
      · exact Nat.le_refl _
    · exact Nat.le_refl _
  · exact Nat.le_refl _
/-- what room an expression wants -/
def rmG (md s dp : Nat) : Prop := dp ≤ 6 ∧ s + 2 * (6 - dp) + (if md = 0 then 1 else if md = 1 ∨ md = 3 then 2 else 3) ≤ 30
def okG (md s : Nat) (l : List Op) : Prop := if md ≤ 2 then okE l s (s + 1) else okE l (s + 1) (s + 1)
theorem sg_ok {k s : Nat} (hs : s + 2 ≤ 30) {l : List Op} (h : okE l (s + 1) (s + 1)) : okE (sgO k :: l) (s + 2) (s + 1) := by
  refine Or.inr (Or.inr ⟨?_, ?_, rfl, ⟨by omega, by omega⟩, h⟩)
  · show 2 ≤ (if k = 43 then 2 else if k = 45 then 3 else if k = 42 then 4 else 5); repeat' split
    all_goals omega
  · show (if k = 43 then 2 else if k = 45 then 3 else if k = 42 then 4 else 5) ≤ 5; repeat' split
    all_goals omega
def is4 (k : Nat) : Prop := k = 42 ∨ k = 47
def is3 (k : Nat) : Prop := k = 43 ∨ k = 45
def GP (tok : Nat → TK) (T md dp : Nat) (c : Nat × Nat) (r : List Op × (Nat × Nat)) : Prop :=
  (r.2.1 < T ∧ r.2.2 < 3) ∧ c.1 ≤ r.2.1 ∧ (r.2.2 = 0 → c.2 = 0 ∧ (md ≤ 2 → c.1 < r.2.1) ∧ c.1 + r.1.length ≤ r.2.1 ∧ (∀ s, rmG md s dp → okG md s r.1) ∧ (md = 1 ∨ md = 2 ∨ md = 3 → ¬ is4 (tok r.2.1).1) ∧ (md = 4 → ¬ is4 (tok c.1).1 → ¬ is4 (tok r.2.1).1) ∧ (md = 2 ∨ md = 4 → ¬ is3 (tok r.2.1).1))
theorem GP_f {k : Nat} (h1 : c.1 < T) (hk : k = 1 ∨ k = 2) : GP tok T md dp c ([], (c.1, k)) :=
  ⟨⟨h1, by show k < 3; omega⟩, Nat.le_refl _, fun h => absurd (show k = 0 from h) (by omega)⟩
set_option maxHeartbeats 1000000 in
theorem gr_p (hT : TKS tok T) (hV : TKV tok T) : ∀ (m md dp : Nat) (c : Nat × Nat), md ≤ 4 → c.1 < T → c.2 < 3 → GP tok T md dp c (gr tok m md dp c) := by
  intro m
  induction m with
  | zero => intro md dp c _ h1 _; exact GP_f h1 (Or.inl rfl)
  | succ m ih =>
    intro md dp c h4 h1 h2
    by_cases e : c.2 = 0
    · have hmd : md = 0 ∨ md = 1 ∨ md = 2 ∨ md = 3 ∨ md = 4 := by omega
      have o0 : ∀ {s : Nat} {l : List Op}, okG 0 s l = okE l s (s + 1) := fun {s l} => if_pos (by omega)
      have o1 : ∀ {s : Nat} {l : List Op}, okG 1 s l = okE l s (s + 1) := fun {s l} => if_pos (by omega)
      have o2 : ∀ {s : Nat} {l : List Op}, okG 2 s l = okE l s (s + 1) := fun {s l} => if_pos (by omega)
      have o3 : ∀ {s : Nat} {l : List Op}, okG 3 s l = okE l (s + 1) (s + 1) := fun {s l} => if_neg (by omega)
      have o4 : ∀ {s : Nat} {l : List Op}, okG 4 s l = okE l (s + 1) (s + 1) := fun {s l} => if_neg (by omega)
      rcases hmd with rfl | rfl | rfl | rfl | rfl
      · by_cases k3 : (tok c.1).1 = 3
        · rw [gr_int e k3]
          refine ⟨tkS_lt hT (by omega) (by omega) h1 h2, tk_le, fun hz => ?_⟩
          obtain ⟨-, -, -, z4⟩ := tk_z hz
          dsimp only
          rw [z4]
          refine ⟨e, fun _ => Nat.lt_succ_self _, Nat.le_refl _, fun s hs => ?_, fun h => absurd h (by omega), fun h => absurd h (by omega), fun h => absurd h (by omega)⟩
          rw [o0]
          exact Or.inl ⟨rfl, ((hV c.1 h1).1 k3).1, by unfold rmG at hs; rw [if_pos rfl] at hs; omega, rfl⟩
        · by_cases kv : 270 ≤ (tok c.1).1 ∧ (tok c.1).1 ≤ 278
          · rw [gr_var e kv]
            refine ⟨tkS_lt hT (by omega) (by omega) h1 h2, tk_le, fun hz => ?_⟩
            obtain ⟨-, -, -, z4⟩ := tk_z hz
            dsimp only
            rw [z4]
            refine ⟨e, fun _ => Nat.lt_succ_self _, Nat.le_refl _, fun s hs => ?_, fun h => absurd h (by omega), fun h => absurd h (by omega), fun h => absurd h (by omega)⟩
            rw [o0]
            exact Or.inr (Or.inl ⟨rfl, by show (tok c.1).1 - 270 < 9; omega, by unfold rmG at hs; rw [if_pos rfl] at hs; omega, rfl⟩)
          · by_cases k4 : (tok c.1).1 = 40
            · by_cases k6 : dp < 6
              · rw [gr_par e k4 k6]
                have hl := tkS_lt hT (k := 40) (by omega) (by omega) h1 h2
                have g2 := ih 2 (dp + 1) (tkS tok 40 c) (by omega) hl.1 hl.2
                have hle : c.1 ≤ (tkS tok 40 c).1 := tk_le
                generalize gr tok m 2 (dp + 1) (tkS tok 40 c) = r at g2 ⊢
                have hl2 := tkS_lt hT (k := 41) (by omega) (by omega) g2.1.1 g2.1.2
                have hle2 : r.2.1 ≤ (tkS tok 41 r.2).1 := tk_le
                have hle3 := g2.2.1
                refine ⟨hl2, by show c.1 ≤ (tkS tok 41 r.2).1; omega, fun hz => ?_⟩
                obtain ⟨z1, z2, z3, z4⟩ := tk_z hz
                obtain ⟨q1, q2, q3, q4, -, -, -⟩ := g2.2.2 z1
                obtain ⟨y1, y2, y3, y4⟩ := tk_z q1
                rw [y4] at q2 q3
                dsimp only at q2 q3 ⊢
                rw [z4]
                refine ⟨e, fun _ => ?_, ?_, fun s hs => ?_, fun h => absurd h (by omega), fun h => absurd h (by omega), fun h => absurd h (by omega)⟩
                · show c.1 < r.2.1 + 1; omega
                · show c.1 + r.1.length ≤ r.2.1 + 1; omega
                · rw [o0]
                  have := q4 s (by unfold rmG at hs ⊢; rw [if_pos rfl] at hs; rw [if_neg (by omega), if_neg (by omega)]; omega)
                  rw [o2] at this; exact this
              · rw [gr_deep e k4 k6]; exact GP_f h1 (Or.inr rfl)
            · rw [gr_bad e k3 kv k4]; exact GP_f h1 (Or.inl rfl)
      · rw [gr_1 e]
        have g0 := ih 0 dp c (by omega) h1 h2
        generalize gr tok m 0 dp c = r0 at g0 ⊢
        have g3 := ih 3 dp r0.2 (by omega) g0.1.1 g0.1.2
        generalize gr tok m 3 dp r0.2 = r3 at g3 ⊢
        have hle := g3.2.1
        refine ⟨g3.1, Nat.le_trans g0.2.1 g3.2.1, fun hz => ?_⟩
        obtain ⟨q1, -, q3, q4, q5, -, -⟩ := g3.2.2 hz
        obtain ⟨-, p2, p3, p4, -, -, -⟩ := g0.2.2 q1
        have p2' := p2 (by omega)
        refine ⟨e, fun _ => ?_, ?_, fun s hs => ?_, fun _ => q5 (Or.inr (Or.inr rfl)), fun h => absurd h (by omega), fun h => absurd h (by omega)⟩
        · show c.1 < r3.2.1; omega
        · show c.1 + (r0.1 ++ r3.1).length ≤ r3.2.1; rw [List.length_append]; omega
        · have hr : dp ≤ 6 ∧ s + 2 * (6 - dp) + 2 ≤ 30 := hs
          have a1 := p4 s ⟨hr.1, by rw [if_pos rfl]; omega⟩
          have a2 := q4 s ⟨hr.1, by show s + 2 * (6 - dp) + 2 ≤ 30; omega⟩
          rw [o0] at a1; rw [o3] at a2; rw [o1]
          exact okE_app _ _ _ _ _ a1 a2
      · rw [gr_2 e]
        have g0 := ih 1 dp c (by omega) h1 h2
        generalize gr tok m 1 dp c = r0 at g0 ⊢
        have g3 := ih 4 dp r0.2 (by omega) g0.1.1 g0.1.2
        generalize gr tok m 4 dp r0.2 = r3 at g3 ⊢
        have hle := g3.2.1
        refine ⟨g3.1, Nat.le_trans g0.2.1 g3.2.1, fun hz => ?_⟩
        obtain ⟨q1, -, q3, q4, -, q6, q7⟩ := g3.2.2 hz
        obtain ⟨-, p2, p3, p4, p5, -, -⟩ := g0.2.2 q1
        have p2' := p2 (by omega)
        refine ⟨e, fun _ => ?_, ?_, fun s hs => ?_, fun _ => q6 rfl (p5 (Or.inl rfl)), fun h => absurd h (by omega), fun _ => q7 (Or.inr rfl)⟩
        · show c.1 < r3.2.1; omega
        · show c.1 + (r0.1 ++ r3.1).length ≤ r3.2.1; rw [List.length_append]; omega
        · have hr : dp ≤ 6 ∧ s + 2 * (6 - dp) + 3 ≤ 30 := hs
          have a1 := p4 s ⟨hr.1, by show s + 2 * (6 - dp) + 2 ≤ 30; omega⟩
          have a2 := q4 s ⟨hr.1, by show s + 2 * (6 - dp) + 3 ≤ 30; omega⟩
          rw [o1] at a1; rw [o4] at a2; rw [o2]
          exact okE_app _ _ _ _ _ a1 a2
      · by_cases ks : (tok c.1).1 = 42 ∨ (tok c.1).1 = 47
        · rw [gr_3 e ks]
          have hl := tkS_lt hT (k := (tok c.1).1) (by omega) (by omega) h1 h2
          have hle0 : c.1 ≤ (tkS tok (tok c.1).1 c).1 := tk_le
          have g0 := ih 0 dp (tkS tok (tok c.1).1 c) (by omega) hl.1 hl.2
          generalize gr tok m 0 dp (tkS tok (tok c.1).1 c) = r0 at g0 ⊢
          have g3 := ih 3 dp r0.2 (by omega) g0.1.1 g0.1.2
          generalize gr tok m 3 dp r0.2 = r3 at g3 ⊢
          have hle := g3.2.1
          have hle1 := g0.2.1
          refine ⟨g3.1, by show c.1 ≤ r3.2.1; omega, fun hz => ?_⟩
          obtain ⟨q1, -, q3, q4, q5, -, -⟩ := g3.2.2 hz
          obtain ⟨p1, p2, p3, p4, -, -, -⟩ := g0.2.2 q1
          obtain ⟨y1, y2, y3, y4⟩ := tk_z p1
          rw [y4] at p3
          dsimp only at p3
          refine ⟨e, fun h => absurd h (by omega), ?_, fun s hs => ?_, fun _ => q5 (Or.inr (Or.inr rfl)), fun h => absurd h (by omega), fun h => absurd h (by omega)⟩
          · show c.1 + (r0.1 ++ sgO (tok c.1).1 :: r3.1).length ≤ r3.2.1; rw [List.length_append, List.length_cons]; omega
          · have hr : dp ≤ 6 ∧ s + 2 * (6 - dp) + 2 ≤ 30 := hs
            have a1 := p4 (s + 1) ⟨hr.1, by rw [if_pos rfl]; omega⟩
            have a2 := q4 s ⟨hr.1, by show s + 2 * (6 - dp) + 2 ≤ 30; omega⟩
            rw [o0] at a1; rw [o3] at a2; rw [o3]
            exact okE_app _ _ _ _ _ a1 (sg_ok (by omega) a2)
        · rw [gr_3n e ks]
          exact ⟨⟨h1, h2⟩, Nat.le_refl _, fun _ => ⟨e, fun h => absurd h (by omega), Nat.le_refl _, fun s _ => by rw [o3]; rfl, fun _ => ks, fun h => absurd h (by omega), fun h => absurd h (by omega)⟩⟩
      · by_cases ks : (tok c.1).1 = 43 ∨ (tok c.1).1 = 45
        · rw [gr_4 e ks]
          have hl := tkS_lt hT (k := (tok c.1).1) (by omega) (by omega) h1 h2
          have hle0 : c.1 ≤ (tkS tok (tok c.1).1 c).1 := tk_le
          have g0 := ih 1 dp (tkS tok (tok c.1).1 c) (by omega) hl.1 hl.2
          generalize gr tok m 1 dp (tkS tok (tok c.1).1 c) = r0 at g0 ⊢
          have g3 := ih 4 dp r0.2 (by omega) g0.1.1 g0.1.2
          generalize gr tok m 4 dp r0.2 = r3 at g3 ⊢
          have hle := g3.2.1
          have hle1 := g0.2.1
          refine ⟨g3.1, by show c.1 ≤ r3.2.1; omega, fun hz => ?_⟩
          obtain ⟨q1, -, q3, q4, -, q6, q7⟩ := g3.2.2 hz
          obtain ⟨p1, p2, p3, p4, p5, -, -⟩ := g0.2.2 q1
          obtain ⟨y1, y2, y3, y4⟩ := tk_z p1
          rw [y4] at p3
          dsimp only at p3
          refine ⟨e, fun h => absurd h (by omega), ?_, fun s hs => ?_, fun h => absurd h (by omega), fun _ _ => q6 rfl (p5 (Or.inl rfl)), fun _ => q7 (Or.inr rfl)⟩
          · show c.1 + (r0.1 ++ sgO (tok c.1).1 :: r3.1).length ≤ r3.2.1; rw [List.length_append, List.length_cons]; omega
          · have hr : dp ≤ 6 ∧ s + 2 * (6 - dp) + 3 ≤ 30 := hs
            have a1 := p4 (s + 1) ⟨hr.1, by show s + 1 + 2 * (6 - dp) + 2 ≤ 30; omega⟩
            have a2 := q4 s ⟨hr.1, by show s + 2 * (6 - dp) + 3 ≤ 30; omega⟩
            rw [o1] at a1; rw [o4] at a2; rw [o4]
            exact okE_app _ _ _ _ _ a1 (sg_ok (by omega) a2)
        · rw [gr_4n e ks]
          exact ⟨⟨h1, h2⟩, Nat.le_refl _, fun _ => ⟨e, fun h => absurd h (by omega), Nat.le_refl _, fun s _ => by rw [o4]; rfl, fun h => absurd h (by omega), fun _ h => h, fun _ => ks⟩⟩
    · rw [gr_f e]
      exact ⟨⟨h1, h2⟩, Nat.le_refl _, fun h => absurd h e⟩
/-- enough fuel -/
def muG (md n : Nat) (c : Nat × Nat) : Prop := 1 ≤ n ∧ (c.2 = 0 → 5 * (401 - c.1) + (if md = 2 then 3 else if md = 1 then 2 else 1) ≤ n)
end RZ
