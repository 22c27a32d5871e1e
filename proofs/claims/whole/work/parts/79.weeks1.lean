/-! ===== weeks: lots, the next seam, carts ===== -/
def mixF (h v : Int32) : Int32 := (((h ^^^ v) * 1103515245) + 12345) ^^^ (((((h ^^^ v) * 1103515245) + 12345).toUInt32 >>> ((15 : Int32).toUInt32 &&& Int32.toUInt32 31)).toInt32)
def lotF (sd wk : Int32) : Int32 := ((mixF (mixF sd 107) (4 * wk)).toUInt32 >>> ((1 : Int32).toUInt32 &&& Int32.toUInt32 31)).toInt32 - ((mixF (mixF sd 107) (4 * wk)).toUInt32 >>> ((1 : Int32).toUInt32 &&& Int32.toUInt32 31)).toInt32 / 100 * 100
theorem lotF_nI (sd wk : Int32) : ∃ m, m < 100 ∧ lotF sd wk = nI m := by
  unfold lotF
  obtain ⟨n, hn, e⟩ : ∃ n, n < 2 ^ 31 ∧ ((mixF (mixF sd 107) (4 * wk)).toUInt32 >>> ((1 : Int32).toUInt32 &&& Int32.toUInt32 31)).toInt32 = nI n := by
    refine ⟨(mixF (mixF sd 107) (4 * wk)).toBitVec.toNat / 2 ^ 1, ?_, ?_⟩
    · have := (mixF (mixF sd 107) (4 * wk)).toBitVec.isLt
      omega
    · apply Int32.toBitVec_inj.mp
      apply BitVec.eq_of_toNat_eq
      rw [pk_ushr _ 1 1 (by decide), pk_tn (by have := (mixF (mixF sd 107) (4 * wk)).toBitVec.isLt; omega)]
  rw [e]
  exact ⟨n % 100, Nat.mod_lt _ (by omega), pk_rem (d := 100) hn (by omega) (by omega)⟩
/-- there is a frost -/
def fzP (P : PP) (sd wk : Int32) : Prop := ¬ xz P ≤ lotF sd wk
/-- the other end of a seam -/
def othN (P : PP) (i a : Nat) : Nat := if xf P i = a then xg P i else xf P i
def nxT (b : Option (Nat × Nat)) (i x : Nat) : Option (Nat × Nat) := match b with
  | none => some (i, x)
  | some q => if q.2 ≤ x then some q else some (i, x)
def nxS (P : PP) (w D : Nat → Nat) (a : Nat) (b : Option (Nat × Nat)) (i : Nat) : Option (Nat × Nat) :=
  if (xf P i = a ∨ xg P i = a) ∧ w i < 99999 ∧ D (othN P i a) < 99999 then nxT b i (w i + D (othN P i a)) else b
def nxF (P : PP) (w D : Nat → Nat) (a : Nat) : Option (Nat × Nat) := (List.range' 0 (xS P)).foldl (nxS P w D a) none
def qU (q : Nat → Nat → Int32) (c f : Nat) (x : Int32) : Nat → Nat → Int32 := fun c' f' => if c' = c ∧ f' = f then x else q c' f'
/-- a cart, that is on the road, goes on -/
def mvG (P : PP) (s : Nat → Nat) (wk : Int32) (x : (Nat → Nat → Int32) × (Nat → Int32)) (c i o : Nat) : (Nat → Nat → Int32) × (Nat → Int32) :=
  (if o = xb P c then qU (qU (qU (qU x.1 c 2 (x.1 c 2 + tollF P i (nI (s i)) wk (nI (xd P c)))) c 0 (nI o)) c 1 0) c 4 (x.1 c 4 + 1) else qU (qU x.1 c 2 (x.1 c 2 + tollF P i (nI (s i)) wk (nI (xd P c)))) c 0 (nI o),
   fun j => if j = i then x.2 i + nI (xd P c) else x.2 j)
def mvC (P : PP) (s : Nat → Nat) (wk : Int32) (x : (Nat → Nat → Int32) × (Nat → Int32)) (c : Nat) : (Nat → Nat → Int32) × (Nat → Int32) :=
  if x.1 c 1 = 1 then (match nxF P (wyW P s wk) (dsP P (wyW P s wk) (xb P c)) (x.1 c 0).toNatClampNeg with
    | none => (qU x.1 c 3 (x.1 c 3 + 1), x.2)
    | some q => mvG P s wk x c q.1 (othN P q.1 (x.1 c 0).toNatClampNeg)) else x
/-- carts as they may be -/
def ctV (P : PP) (q : Nat → Nat → Int32) : Prop := ∀ c, c < xC P → (∃ t, t < xN P ∧ q c 0 = nI t) ∧ (q c 1 = 0 ∨ q c 1 = 1)
def ctC (P : PP) (g : Nat → Int32) (q : Nat → Nat → Int32) : Prop := ∀ c, c < xC P → ∀ f, f < 5 → g (5 * c + f) = q c f
def ctM (P : PP) (g : Nat → Int32) (q : Nat → Nat → Int32) : Prop := ∀ c, c < xC P → ∀ f, f < 5 → g (10 + 4 * f + c) = q c f
theorem ctC.set {P : PP} {g : Nat → Int32} {q : Nat → Nat → Int32} (h : ctC P g q) {c f : Nat} (hf : f < 5) (x : Int32) : ctC P (upd g (5 * c + f) x) (qU q c f x) := by
  intro c' hc' f' hf'
  unfold qU
  by_cases e : c' = c ∧ f' = f
  · obtain ⟨rfl, rfl⟩ := e; rw [pk_us, if_pos ⟨rfl, rfl⟩]
  · rw [pk_un (by omega), if_neg e]; exact h c' hc' f' hf'
theorem ctM.set {P : PP} {g : Nat → Int32} {q : Nat → Nat → Int32} (h : ctM P g q) (h4 : xC P ≤ 4) {c f : Nat} (hc : c < 4) (x : Int32) : ctM P (upd g (10 + 4 * f + c) x) (qU q c f x) := by
  intro c' hc' f' hf'
  unfold qU
  by_cases e : c' = c ∧ f' = f
  · obtain ⟨rfl, rfl⟩ := e; rw [pk_us, if_pos ⟨rfl, rfl⟩]
  · rw [pk_un (by omega), if_neg e]; exact h c' hc' f' hf'
theorem qU_ne {q : Nat → Nat → Int32} {c f c' f' : Nat} {x : Int32} (h : ¬ (c' = c ∧ f' = f)) : qU q c f x c' f' = q c' f' := if_neg h
theorem qU_eq {q : Nat → Nat → Int32} {c f : Nat} {x : Int32} : qU q c f x c f = x := if_pos ⟨rfl, rfl⟩
/-- what is reached is less than 99 for each town -/
theorem ds_bnd {N S : Nat} {fs sc w : Nat → Nat} (ok : okN N S fs sc w) {t : Nat} (ht : t < N) (h1 : ∀ i, i < S → w i < 99999 → w i ≤ 99) : ∀ n b, dsN N S fs sc w t b ≤ n → dsN N S fs sc w t b < 99999 → dsN N S fs sc w t b ≤ 99 * cntN (dsN N S fs sc w t) (dsN N S fs sc w t b) N := by
  intro n
  induction n with
  | zero => intro b hb _; omega
  | succ n ih =>
    intro b hb hf
    by_cases hbt : b = t
    · subst hbt; rw [ds_t]; exact Nat.zero_le _
    · obtain ⟨i, a, e1, e2⟩ := ds_inv b hf hbt
      have ha : a < N := by
        rcases e1.2.2 with ⟨e, _⟩ | ⟨e, _⟩ <;> rw [e]
        · exact (ok.2 i e1.1).1
        · exact (ok.2 i e1.1).2.1
      have hw := h1 i e1.1 e1.2.1
      have hw1 := (ok.2 i e1.1).2.2
      have h2 := cntN_lt (F := dsN N S fs sc w t) (m := dsN N S fs sc w t a) (m' := dsN N S fs sc w t b) (c := a) (by omega) (by omega) (by omega) N ha
      have h3 := ih a (by omega) (by omega)
      have h4 := ds_stb ok ht i a b e1
      omega
section QI
variable {P : PP} {I : Nat → Nat → Int32} {J : Nat → Nat → Int64} {d : Nat} {s : Nat → Nat} {wk : Int32}
theorem dsP_bnd (h : PlR P I) {w : Nat → Nat} (hw : wOK P w) {t b : Nat} (ht : t < xN P) (hf : dsP P w t b < 99999) : dsP P w t b ≤ 693 := by
  have h7 := h.N7
  have h1 := ds_bnd (okP h hw) ht (fun i hi hlt => by rcases hw i hi with e | e <;> omega) _ b (Nat.le_refl _) hf
  have h2 := cntN_le (F := dsN (xN P) (xS P) (xf P) (xg P) w t) (m := dsN (xN P) (xS P) (xf P) (xg P) w t b) (xN P)
  unfold dsP
  omega
theorem othN_lt (h : PlR P I) {i a : Nat} (hi : i < xS P) : othN P i a < xN P := by
  obtain ⟨-, ⟨g1, g2, g3⟩, -⟩ := h.sm hi
  unfold othN
  split <;> assumption
theorem q_mixed (hd : 1 ≤ d) (a b : Int32) (ij : IJ) : EV d T0 88 [.int a, .int b] ij = some (some (.int (mixF a b)), ij) := by
  obtain ⟨d, rfl⟩ : ∃ z, d = z + 1 := ⟨d - 1, by omega⟩
  obtain ⟨I, J⟩ := ij
  rw [e_X7_mixed, runS_M, s_X7_mixed_0]; rfl
theorem q_mixedR (hd : 1 ≤ d) (a b : Int32) (ij : IJ) : EV d T0 211 [.int a, .int b] ij = some (some (.int (mixF a b)), ij) := by
  obtain ⟨d, rfl⟩ : ∃ z, d = z + 1 := ⟨d - 1, by omega⟩
  obtain ⟨I, J⟩ := ij
  rw [e_X12_mixed, runS_M, s_X12_mixed_0]; rfl
theorem ev_isFrost (hd : 3 ≤ d) (h : PlR P I) (w sd : Int32) : EV d T0 77 [.ref 174, .int w, .int sd] (I, J) = some (some (.int (zI (¬ xz P ≤ lotF sd w))), (I, J)) := by
  obtain ⟨d, rfl⟩ : ∃ z, d = z + 2 := ⟨d - 2, by omega⟩
  obtain ⟨z1, z2, m, hm, z3⟩ := h.fz
  obtain ⟨q, hq, e⟩ := lotF_nI sd w
  rw [e_X7_isFrost, runS_M, s_X7_isFrost_0, z1]
  by_cases h0 : xz P ≤ 0
  · rw [if_pos h0, zI_f (fun hn => hn (by
      rw [e]
      rw [z3] at h0 ⊢
      rw [le0_nI (by omega)] at h0
      subst h0
      exact nI_le (by omega) (by omega)))]
    rfl
  · rw [if_neg h0, e_X7_lotOfHundred, runS_M, s_X7_lotOfHundred_0, q_mixed (by omega), p_ci_s, q_mixed (by omega), p_ci_s]
    show p_ci (some (some (.int (lotF sd w)), (I, J))) _ = _
    rw [p_ci_s]
    show (if I 25 6 ≤ lotF sd w then _ else _) = _
    rw [z1]
    by_cases hc : xz P ≤ lotF sd w
    · rw [if_pos hc, zI_f (fun q => q hc)]; rfl
    · rw [if_neg hc, zI_t hc]; rfl
theorem ev_isFrostR (hd : 2 ≤ d) (h : PlR P I) : EV d T0 212 [.ref 192] (I, J) = some (some (.int (zI (¬ xz P ≤ lotF (I 192 56) (I 230 31)))), (I, J)) := by
  obtain ⟨d, rfl⟩ : ∃ z, d = z + 1 := ⟨d - 1, by omega⟩
  have hv := h.v2
  obtain ⟨z1, z2, -⟩ := h.fz
  rw [e_X12_isFrost, runS_M, s_X12_isFrost_0, q_mixedR (by omega), p_ci_s, q_mixedR (by omega), p_ci_s]
  show p_chk (p_in (I 192 18) 2) (if I 215 (I 192 18).toNatClampNeg ≤ lotF (I 192 56) (I 230 31) then _ else _) = _
  rw [h.v, chk_in hv (by omega), nI_clamp (by omega), z2]
  by_cases hc : xz P ≤ lotF (I 192 56) (I 230 31)
  · rw [if_pos hc, zI_f (fun q => q hc)]; rfl
  · rw [if_neg hc, zI_t hc, show (999999 : Nat) = 999998 + 1 from rfl, runS_s, s_X12_isFrost_38]; rfl
theorem ev_othC (hd : 1 ≤ d) (h : PlR P I) {i a : Nat} (hi : i < xS P) (ha : a < 100) : EV d T0 85 [.ref 174, .int (nI i), .int (nI a)] (I, J) = some (some (.int (nI (othN P i a))), (I, J)) := by
  obtain ⟨d, rfl⟩ : ∃ z, d = z + 1 := ⟨d - 1, by omega⟩
  have h10 := h.S10
  have h7 := h.N7
  obtain ⟨⟨f1, f2⟩, ⟨g1, g2, g3⟩, -⟩ := h.sm hi
  have hp : ∀ x : Option Rs, p_chk (p_in (nI i) 10) x = x := fun x => chk_in (by omega) (by omega)
  rw [e_X7_otherEnd, runS_M, s_X7_otherEnd_0]
  simp only [hp, nI_clamp (show i < 2 ^ 31 by omega), f1, f2, eq_nI (show xf P i < 2 ^ 31 by omega) (show a < 2 ^ 31 by omega)]
  unfold othN
  by_cases e : xf P i = a
  · rw [if_pos e, if_pos e]; rfl
  · rw [if_neg e, if_neg e]; rfl
def nbI (b : Option (Nat × Nat)) : Int32 := match b with
  | none => -1
  | some q => nI q.1
def nlI (z : Int32) (b : Option (Nat × Nat)) : Int32 := match b with
  | none => z
  | some q => nI q.2
def nbV (P : PP) (b : Option (Nat × Nat)) : Prop := ∀ q, b = some q → q.1 < xS P ∧ q.2 ≤ 1000
theorem nx_V (h : PlR P I) {w D : Nat → Nat} {a : Nat} (hw : wOK P w) (hD : ∀ b, D b < 99999 → D b ≤ 693) {b : Option (Nat × Nat)} (hb : nbV P b) {i : Nat} (hi : i < xS P) : nbV P (nxS P w D a b i) := by
  intro q hq
  unfold nxS at hq
  have hwi := hw i hi
  split at hq
  · rename_i hc
    have h9 := hD _ hc.2.2
    unfold nxT at hq
    cases b with
    | none => cases hq; exact ⟨hi, by dsimp only; omega⟩
    | some p =>
      dsimp only at hq
      split at hq
      · cases hq; exact hb _ rfl
      · cases hq; exact ⟨hi, by dsimp only; omega⟩
  · exact hb q hq
theorem lp_next (hd : 2 ≤ d) (h : PlR P I) {m : Int32} {w D : Nat → Nat} {a : Nat} (ha : a < xN P) (hw : ∀ i, i < xS P → (bt m i = false ∧ w i = 99999) ∨ (bt m i = true ∧ 1 ≤ w i ∧ w i ≤ 99 ∧ I 176 i = nI (w i))) (hD : ∀ b, D b < 99999 → D b ≤ 693) (hD9 : ∀ b, D b ≤ 99999) (hf : ∀ j, j < 7 → I 173 j = dI (D j)) : ∀ (k i n : Nat) (b : Option (Nat × Nat)), i + k = xS P → k < n → nbV P b →
    runS (EV d) none 7 T0 C_X7_nextSeam k_X7_nextSeam rtI f_X7_nextSeam n 8 [.ref 174, .int m, .int (nI a), .int (nbI b), .int (nlI 0 b), .int (nI i), un] [] (I, J) = some (some (.int (nbI ((List.range' i k).foldl (nxS P w D a) b))), (I, J)) := by
  have h10 := h.S10
  have h7 := h.N7
  have hok : wOK P w := fun i hi => by rcases hw i hi with ⟨-, e⟩ | ⟨-, e1, e2, -⟩; exact Or.inl e; exact Or.inr ⟨e1, e2⟩
  intro k
  induction k with
  | zero =>
    intro i n b hi hn hb
    obtain ⟨n, rfl⟩ : ∃ z, n = z + 1 := ⟨n - 1, by omega⟩
    rw [runS_s, s_X7_nextSeam_8, h.S, if_pos (nI_le (by omega) (by omega))]
    rfl
  | succ k ih =>
    intro i n b hi hn hb
    obtain ⟨n, rfl⟩ : ∃ z, n = z + 1 := ⟨n - 1, by omega⟩
    have hi' : i < xS P := by omega
    obtain ⟨-, ⟨g1, g2, g3⟩, f3, -⟩ := h.sm hi'
    have hst : (List.range' i (k + 1)).foldl (nxS P w D a) b = (List.range' (i + 1) k).foldl (nxS P w D a) (nxS P w D a b i) := rfl
    have hV := nx_V h (a := a) hok hD hb hi'
    rw [runS_s, s_X7_nextSeam_8, h.S, if_neg (nI_ge (by omega) (by omega)), q_bit (by omega) _ (by omega), p_ci_s, nI_1, hst]
    rcases hw i hi' with ⟨e1, e2⟩ | ⟨e1, e2, e3, e4⟩
    · rw [zI_f (by rw [e1]; decide), if_pos rfl, show nxS P w D a b i = b from if_neg (fun q => by omega)]
      exact ih (i + 1) n b (by omega) (by omega) hb
    · rw [zI_t e1, if_neg (by decide), chk_in (by omega) (by omega)]
      dsimp only
      rw [nI_clamp (by omega), f3, q_bit (by omega) _ (by omega), p_ci_s]
      by_cases hinc : xf P i = a ∨ xg P i = a
      · have hb2 : bt ((1 <<< (nI (xf P i) &&& 31)) ||| (1 <<< (nI (xg P i) &&& 31))) a = true := by
          rw [one_or (by omega) (by omega)]
          rcases hinc with e | e <;> simp [e]
        have ho := othN_lt h (a := a) hi'
        obtain ⟨d, rfl⟩ : ∃ z, d = z + 1 := ⟨d - 1, by omega⟩
        rw [zI_t hb2, if_neg (by decide), ev_othC (by omega) h hi' (by omega), p_ci_s, ev_isReached d _ _ (show othN P i a < 7 by omega), p_ci_s, hf _ (by omega)]
        have hz : zI (¬ (1000000 : Int32) ≤ dI (D (othN P i a))) = zI (D (othN P i a) < 99999) := z_cg (by rw [dI_reach (hD9 _)]; exact Classical.not_not)
        rw [hz]
        by_cases hr : D (othN P i a) < 99999
        · have hDb := hD _ hr
          rw [zI_t hr, if_neg (by decide), chk_in (by omega) (by omega), ev_othC (by omega) h hi' (by omega), p_ci_s, chk_in (by omega) (by omega)]
          dsimp only
          simp only [nI_clamp (show othN P i a < 2 ^ 31 by omega), e4, hf _ (show othN P i a < 7 by omega), show dI (D (othN P i a)) = nI (D (othN P i a)) from if_pos hr, nI_add]
          have hn1 : nxS P w D a b i = nxT b i (w i + D (othN P i a)) := if_pos ⟨hinc, by omega, hr⟩
          cases b with
          | none =>
            rw [if_pos (show nbI none < 0 by decide)]
            unfold nxT at hn1
            dsimp only at hn1
            rw [hn1] at hV ⊢
            exact ih (i + 1) n (some (i, w i + D (othN P i a))) (by omega) (by omega) hV
          | some q =>
            have hq := hb q rfl
            rw [if_neg (show ¬ nbI (some q) < 0 from nI_pos (by omega))]
            unfold nxT at hn1
            dsimp only at hn1
            show (if nI q.2 ≤ nI (w i + D (othN P i a)) then _ else _) = _
            by_cases hc : q.2 ≤ w i + D (othN P i a)
            · rw [if_pos (nI_le hc (by omega))]
              rw [if_pos hc] at hn1
              rw [hn1]
              exact ih (i + 1) n (some q) (by omega) (by omega) hb
            · rw [if_neg (nI_ge (by omega) (by omega))]
              rw [if_neg hc] at hn1
              rw [hn1] at hV ⊢
              exact ih (i + 1) n (some (i, w i + D (othN P i a))) (by omega) (by omega) hV
        · rw [zI_f hr, if_pos rfl, show nxS P w D a b i = b from if_neg (fun q => hr q.2.2)]
          exact ih (i + 1) n b (by omega) (by omega) hb
      · have hb2 : bt ((1 <<< (nI (xf P i) &&& 31)) ||| (1 <<< (nI (xg P i) &&& 31))) a = false := by
          rw [one_or (by omega) (by omega)]
          have e1 : ¬ xf P i = a := fun q => hinc (Or.inl q)
          have e2 : ¬ xg P i = a := fun q => hinc (Or.inr q)
          simp [e1, e2]
        rw [zI_f (by rw [hb2]; decide), if_pos rfl, show nxS P w D a b i = b from if_neg (fun q => hinc q.1)]
        exact ih (i + 1) n b (by omega) (by omega) hb
theorem ev_next (hd : 3 ≤ d) (h : PlR P I) {m : Int32} {w D : Nat → Nat} {a : Nat} (ha : a < xN P) (hw : ∀ i, i < xS P → (bt m i = false ∧ w i = 99999) ∨ (bt m i = true ∧ 1 ≤ w i ∧ w i ≤ 99 ∧ I 176 i = nI (w i))) (hD : ∀ b, D b < 99999 → D b ≤ 693) (hD9 : ∀ b, D b ≤ 99999) (hf : ∀ j, j < 7 → I 173 j = dI (D j)) : EV d T0 84 [.ref 174, .int m, .int (nI a)] (I, J) = some (some (.int (nbI (nxF P w D a))), (I, J)) := by
  obtain ⟨d, rfl⟩ : ∃ z, d = z + 1 := ⟨d - 1, by omega⟩
  have h10 := h.S10
  rw [e_X7_nextSeam, runS_M, s_X7_nextSeam_0]
  exact lp_next (by omega) h ha hw hD hD9 hf (xS P) 0 999999 none (by omega) (by omega) (fun q hq => by cases hq)
theorem nxF_V (h : PlR P I) {w D : Nat → Nat} {a : Nat} (hw : wOK P w) (hD : ∀ b, D b < 99999 → D b ≤ 693) : nbV P (nxF P w D a) := by
  have hg : ∀ (k i : Nat) (b : Option (Nat × Nat)), i + k = xS P → nbV P b → nbV P ((List.range' i k).foldl (nxS P w D a) b) := by
    intro k
    induction k with
    | zero => intro i b _ hb; exact hb
    | succ k ih => intro i b hi hb; exact ih (i + 1) _ (by omega) (nx_V h hw hD hb (by omega))
  exact hg (xS P) 0 none (by omega) (fun q hq => by cases hq)
/-! the reference's road -/
theorem lp_road (hd : 1 ≤ d) (h : PlR P I) {w D : Nat → Nat} {a c : Nat} (hc : c < 4) (ha : a < xN P) (hat : I 230 (10 + c) = nI a) (hw : wOK P w) (hwy : ∀ i, i < xS P → I 232 i = nI (w i)) (hD : ∀ b, D b < 99999 → D b ≤ 693) (hD9 : ∀ b, D b ≤ 99999) (hf : ∀ j, j < 7 → I 231 j = nI (D j)) : ∀ (k i n : Nat) (b : Option (Nat × Nat)), i + k = xS P → 3 * k < n → nbV P b →
    runS (EV d) none 6 T0 C_X12_roadOf k_X12_roadOf rtI f_X12_roadOf n 26 [.ref 192, .int (nI c), .int (nbI b), .int (nlI 99999 b), .int (nI i), un] [] (I, J) = some (some (.int (nbI ((List.range' i k).foldl (nxS P w D a) b))), (I, J)) := by
  have h10 := h.S10
  have h7 := h.N7
  have hv := h.v2
  have e10 : (10 : Int32) + nI c = nI (10 + c) := nI_add 10 c
  intro k
  induction k with
  | zero =>
    intro i n b hi hn hb
    obtain ⟨n, rfl⟩ : ∃ z, n = z + 1 := ⟨n - 1, by omega⟩
    rw [runS_s, s_X12_roadOf_26, h.v, chk_in hv (by omega), nI_clamp (by omega), h.Sm, if_pos (nI_le (by omega) (by omega))]
    rfl
  | succ k ih =>
    intro i n b hi hn hb
    obtain ⟨n, rfl⟩ : ∃ z, n = z + 1 + 1 + 1 := ⟨n - 3, by omega⟩
    have hi' : i < xS P := by omega
    obtain ⟨-, ⟨g1, g2, g3⟩, -⟩ := h.sm hi'
    have hst : (List.range' i (k + 1)).foldl (nxS P w D a) b = (List.range' (i + 1) k).foldl (nxS P w D a) (nxS P w D a b i) := rfl
    have hV := nx_V h (a := a) hw hD hb hi'
    have hsk : ∀ b', nxS P w D a b i = b' → nbV P b' → runS (EV d) none 6 T0 C_X12_roadOf k_X12_roadOf rtI f_X12_roadOf (n + 1) 129 [.ref 192, .int (nI c), .int (nbI b'), .int (nlI 99999 b'), .int (nI i), un] [] (I, J) = some (some (.int (nbI ((List.range' (i + 1) k).foldl (nxS P w D a) (nxS P w D a b i)))), (I, J)) := by
      intro b' e hb'
      rw [runS_s, s_X12_roadOf_129, nI_1, e]
      exact ih (i + 1) n b' (by omega) (by omega) hb'
    have hsk2 : nxS P w D a b i = b → runS (EV d) none 6 T0 C_X12_roadOf k_X12_roadOf rtI f_X12_roadOf (n + 1 + 1) 129 [.ref 192, .int (nI c), .int (nbI b), .int (nlI 99999 b), .int (nI i), un] [] (I, J) = some (some (.int (nbI ((List.range' (i + 1) k).foldl (nxS P w D a) (nxS P w D a b i)))), (I, J)) := by
      intro e
      rw [runS_s, s_X12_roadOf_129, nI_1, e]
      exact ih (i + 1) (n + 1) b (by omega) (by omega) hb
    rw [runS_s, s_X12_roadOf_26, h.v, chk_in hv (by omega), nI_clamp (by omega), h.Sm, if_neg (nI_ge (by omega) (by omega)), e10, chk_in (by omega) (by omega), nI_clamp (by omega), hat, ev_otherEnd hd h hi' (by omega), p_ci_s, hst]
    by_cases hinc : xf P i = a ∨ xg P i = a
    · have eo : (if xf P i = a then nI (xg P i) else if xg P i = a then nI (xf P i) else (-1 : Int32)) = nI (othN P i a) := by
        unfold othN
        by_cases e1 : xf P i = a
        · rw [if_pos e1, if_pos e1]
        · rw [if_neg e1, if_neg e1, if_pos (hinc.resolve_left e1)]
      have ho := othN_lt h (a := a) hi'
      have hwi := hw i hi'
      have e9 : ((99999 : Int32) ≤ nI (w i)) = (99999 ≤ w i) := le_nI (a := 99999) (by omega) (by rcases hwi with e | e <;> omega)
      rw [eo, if_neg (nI_pos (by omega)), chk_in (by omega) (by omega)]
      simp only [nI_clamp (show i < 2 ^ 31 by omega), hwy i hi', e9]
      by_cases hw9 : 99999 ≤ w i
      · rw [if_pos hw9]
        exact hsk2 (if_neg (fun q => by omega))
      · rw [if_neg hw9]
        have hDo := hD9 (othN P i a)
        have e8 : ((99999 : Int32) ≤ nI (D (othN P i a))) = (99999 ≤ D (othN P i a)) := le_nI (a := 99999) (by omega) (by omega)
        have hp : ∀ x : Option Rs, p_chk (p_in (nI (othN P i a)) 7) x = x := fun x => chk_in (by omega) (by omega)
        have hp2 : ∀ x : Option Rs, p_chk (p_in (nI i) 10) x = x := fun x => chk_in (by omega) (by omega)
        rw [runS_s, s_X12_roadOf_75, hp, nI_clamp (by omega), hf _ (by omega)]
        simp only [e8, hp, hp2, nI_clamp (show i < 2 ^ 31 by omega), hwy i hi', nI_add]
        by_cases hr : 99999 ≤ D (othN P i a)
        · rw [if_pos hr]
          exact hsk b (if_neg (fun q => by omega)) hb
        · rw [if_neg hr]
          have hDb := hD (othN P i a) (by omega)
          have hn1 : nxS P w D a b i = nxT b i (w i + D (othN P i a)) := if_pos ⟨hinc, by omega, by omega⟩
          cases b with
          | none =>
            rw [if_pos (show nI (w i + D (othN P i a)) < nlI 99999 none from nI_lt (b := 99999) (by rcases hwi with e | e <;> omega) (by omega))]
            unfold nxT at hn1
            dsimp only at hn1
            rw [hn1] at hV
            exact hsk _ hn1 hV
          | some q =>
            have hq := hb q rfl
            unfold nxT at hn1
            dsimp only at hn1
            show (if nI (w i + D (othN P i a)) < nI q.2 then _ else _) = _
            by_cases hcq : q.2 ≤ w i + D (othN P i a)
            · rw [if_neg (nI_nlt hcq (by rcases hwi with e | e <;> omega))]
              rw [if_pos hcq] at hn1
              exact hsk _ hn1 hb
            · rw [if_pos (nI_lt (by omega) (by omega))]
              rw [if_neg hcq] at hn1
              rw [hn1] at hV
              exact hsk _ hn1 hV
    · have e1 : ¬ xf P i = a := fun q => hinc (Or.inl q)
      have e2 : ¬ xg P i = a := fun q => hinc (Or.inr q)
      rw [if_neg e1, if_neg e2, if_pos (by decide)]
      exact hsk2 (if_neg (fun q => hinc q.1))
end QI
