/-! ===== read: expressions (class) ===== -/
section SA
variable {I : Nat → Nat → Int32} {J : Nat → Nat → Int64} {d : Nat} {tok : Nat → TK} {T : Nat}
theorem atC_app {f : Nat → Int32} : ∀ (l m : List Op) (p : Nat), atC f p l → atC f (p + l.length) m → atC f p (l ++ m) := by
  intro l
  induction l with
  | nil => intro m p _ h; exact h
  | cons o l ih =>
    intro m p h1 h2
    refine ⟨h1.1, ih m (p + 1) h1.2 ?_⟩
    rw [List.length_cons] at h2
    rw [show p + 1 + l.length = p + (l.length + 1) by omega]; exact h2
theorem atC_cg {f g : Nat → Int32} : ∀ (l : List Op) (p : Nat), (∀ j, p ≤ j → j < p + l.length → g j = f j) → atC f p l → atC g p l := by
  intro l
  induction l with
  | nil => intro p _ _; trivial
  | cons o l ih =>
    intro p h h1
    rw [List.length_cons] at h
    exact ⟨(h p (Nat.le_refl _) (by omega)).trans h1.1, ih (p + 1) (fun j a b => h j (by omega) (by omega)) h1.2⟩
def adS (I : Nat → Nat → Int32) (sz : Nat) (v : Int32) : Nat → Nat → Int32 := if sz < 408 then p_wr (p_wr I 15 sz v) 14 3 (nI (sz + 1)) else I
theorem ev_addStep (hd : 1 ≤ d) {sz : Nat} (h : I 14 3 = nI sz) (hz : sz ≤ 408) (x y : Int32) : EV d T0 5 [.ref 14, .int x, .int y] (I, J) = some (none, (adS I sz (y * 64 + x), J)) := by
  obtain ⟨d, rfl⟩ : ∃ z, d = z + 1 := ⟨d - 1, by omega⟩
  rw [e_X0_addStep, runS_M, s_X0_addStep_0, h]
  unfold adS
  by_cases c : sz < 408
  · rw [if_pos c, if_neg (show ¬ (408 : Int32) ≤ nI (sz) from nI_ge (a := sz) (b := 408) (by omega) (by omega)), chk_in c (by omega), nI_clamp (by omega), nI_1]; rfl
  · rw [if_neg c, if_pos (show (408 : Int32) ≤ nI (sz) from nI_le (a := 408) (b := sz) (by omega) (by omega))]; rfl
/-- what an expression leaves alone -/
def exK (I I' : Nat → Nat → Int32) : Prop := kp [3, 14, 15] I I' ∧ k678 I I' ∧ ∀ j, j ≠ 3 → I' 14 j = I 14 j
theorem exK.rf : exK I I := ⟨kp.rf, fun _ _ _ _ => rfl, fun _ _ => rfl⟩
theorem exK.tr {I' I'' : Nat → Nat → Int32} (h : exK I I') (h' : exK I' I'') : exK I I'' := ⟨h.1.tr h'.1, fun j p q r => (h'.2.1 j p q r).trans (h.2.1 j p q r), fun j p => (h'.2.2 j p).trans (h.2.2 j p)⟩
theorem cuC.kx {I' : Nat → Nat → Int32} {c : Nat × Nat} {X : List Nat} (h : cuC I J tok T c) (hk : kp X I I') (hX : 3 ∉ X ∧ 18 ∉ X ∧ 19 ∉ X ∧ 20 ∉ X) : cuC I' J tok T c := by
  obtain ⟨a1, a2, a3, a4, a5, a6, a7⟩ := h
  refine ⟨by rw [hk 3 hX.1]; exact a1, by rw [hk 3 hX.1]; exact a2, by rw [hk 3 hX.1]; exact a3, a4, a5, by rw [hk 18 hX.2.1]; exact a6, fun j hj => (a7 j hj).kp hk hX.2.2⟩
def exR (I I' : Nat → Nat → Int32) (J : Nat → Nat → Int64) (tok : Nat → TK) (T sz : Nat) (r : List Op × (Nat × Nat)) : Prop := exK I I' ∧ cuC I' J tok T r.2 ∧ ∃ sz', I' 14 3 = nI sz' ∧ sz' ≤ 408 ∧ (r.2.2 = 0 → sz' = sz + r.1.length ∧ atC (I' 15) sz r.1 ∧ ∀ j, j < sz → I' 15 j = I 15 j)
theorem exR_tr {I1 I2 : Nat → Nat → Int32} {sz sz1 : Nat} {l : List Op} {r : List Op × (Nat × Nat)} (a : exK I I1) (b : r.2.2 = 0 → sz1 = sz + l.length ∧ atC (I1 15) sz l ∧ ∀ j, j < sz → I1 15 j = I 15 j) (h3 : exR I1 I2 J tok T sz1 r) : exR I I2 J tok T sz (l ++ r.1, r.2) := by
  obtain ⟨x1, x4, sz2, y1, y2, y3⟩ := h3
  refine ⟨a.tr x1, x4, sz2, y1, y2, fun h => ?_⟩
  obtain ⟨u1, u2, u3⟩ := b h
  obtain ⟨v1, v2, v3⟩ := y3 h
  subst u1
  refine ⟨?_, ?_, fun j hj => (v3 j (by omega)).trans (u3 j hj)⟩
  · show sz2 = sz + (l ++ r.1).length; rw [List.length_append]; omega
  · exact atC_app _ _ _ (atC_cg _ _ (fun j _ hj => v3 j hj) u2) v2
theorem mv_K {I' : Nat → Nat → Int32} (t2 : kp [3] I I') (t3 : k678 I I') : exK I I' := ⟨t2.up (by decide), t3, fun j _ => by rw [t2 14 (by decide)]⟩
theorem exR_mv {I' : Nat → Nat → Int32} {c : Nat × Nat} {sz : Nat} (t2 : kp [3] I I') (t3 : k678 I I') (t4 : cuC I' J tok T c) (h14 : I 14 3 = nI sz) (hz : sz ≤ 408) : exR I I' J tok T sz ([], c) :=
  ⟨mv_K t2 t3, t4, sz, by rw [t2 14 (by decide)]; exact h14, hz, fun _ => ⟨rfl, trivial, fun j _ => by rw [t2 15 (by decide)]⟩⟩
theorem exR_r {I1 I2 : Nat → Nat → Int32} {sz : Nat} {r : List Op × (Nat × Nat)} {c : Nat × Nat} (h : exR I I1 J tok T sz r) (t2 : kp [3] I1 I2) (t3 : k678 I1 I2) (t4 : cuC I2 J tok T c) (hc : c.2 = 0 → r.2.2 = 0) : exR I I2 J tok T sz (r.1, c) := by
  obtain ⟨x1, x4, sz2, y1, y2, y3⟩ := h
  refine ⟨x1.tr (mv_K t2 t3), t4, sz2, by rw [t2 14 (by decide)]; exact y1, y2, fun h9 => ?_⟩
  obtain ⟨v1, v2, v3⟩ := y3 (hc h9)
  rw [t2 15 (by decide)]
  exact ⟨v1, v2, v3⟩
theorem ad_K {sz : Nat} {v : Int32} : kp [14, 15] I (adS I sz v) ∧ exK I (adS I sz v) := by
  unfold adS
  by_cases e : sz < 408
  · rw [if_pos e]
    have x1 : kp [14, 15] I (p_wr (p_wr I 15 sz v) 14 3 (nI (sz + 1))) := (kp.rf.wr (by decide)).wr (by decide)
    exact ⟨x1, x1.up (by decide), fun j _ _ _ => by rw [x1 3 (by decide)], fun j hj => by rw [wr_eq, pk_un hj, wr_ne (by decide)]⟩
  · rw [if_neg e]; exact ⟨kp.rf, exK.rf⟩
theorem ad_s {sz : Nat} (h14 : I 14 3 = nI sz) (hz : sz ≤ 408) (o : Op) {v : Int32} (hv : v = nI (enC o)) : ∃ sz1, adS I sz v 14 3 = nI sz1 ∧ sz1 ≤ 408 ∧ (sz < 408 → sz1 = sz + 1 ∧ atC (adS I sz v 15) sz [o] ∧ ∀ j, j < sz → adS I sz v 15 j = I 15 j) := by
  unfold adS
  by_cases e : sz < 408
  · rw [if_pos e]
    refine ⟨sz + 1, by rw [wr_eq, pk_us], by omega, fun _ => ⟨rfl, ⟨?_, trivial⟩, fun j hj => ?_⟩⟩
    · rw [wr_ne (by decide), wr_eq, pk_us, hv]
    · rw [wr_ne (by decide), wr_eq, pk_un (by omega)]
  · rw [if_neg e]; exact ⟨sz, h14, hz, fun h => absurd h e⟩
/-- the class at a mode -/
def exE (d md dp x n : Nat) (I : Nat → Nat → Int32) (J : Nat → Nat → Int64) : Option Rs :=
  if md = 0 then EV d T0 45 [.ref 3, .int (nI dp)] (I, J) else if md = 1 then EV d T0 44 [.ref 3, .int (nI dp)] (I, J) else if md = 2 then EV d T0 43 [.ref 3, .int (nI dp)] (I, J)
  else if md = 3 then runS (EV d) none 4 T0 C_X4_readProduct k_X4_readProduct rtV f_X4_readProduct n 7 [.ref 3, .int (nI dp), .int (nI x), un] [] (I, J)
  else runS (EV d) none 4 T0 C_X4_readSum k_X4_readSum rtV f_X4_readSum n 7 [.ref 3, .int (nI dp), .int (nI x), un] [] (I, J)
theorem exE_0 {dp x n : Nat} : exE d 0 dp x n I J = EV d T0 45 [.ref 3, .int (nI dp)] (I, J) := if_pos rfl
theorem exE_1 {dp x n : Nat} : exE d 1 dp x n I J = EV d T0 44 [.ref 3, .int (nI dp)] (I, J) := (if_neg (by omega)).trans (if_pos rfl)
theorem exE_2 {dp x n : Nat} : exE d 2 dp x n I J = EV d T0 43 [.ref 3, .int (nI dp)] (I, J) := (if_neg (by omega)).trans ((if_neg (by omega)).trans (if_pos rfl))
theorem exE_3 {dp x n : Nat} : exE d 3 dp x n I J = runS (EV d) none 4 T0 C_X4_readProduct k_X4_readProduct rtV f_X4_readProduct n 7 [.ref 3, .int (nI dp), .int (nI x), un] [] (I, J) := (if_neg (by omega)).trans ((if_neg (by omega)).trans ((if_neg (by omega)).trans (if_pos rfl)))
theorem exE_4 {dp x n : Nat} : exE d 4 dp x n I J = runS (EV d) none 4 T0 C_X4_readSum k_X4_readSum rtV f_X4_readSum n 7 [.ref 3, .int (nI dp), .int (nI x), un] [] (I, J) := (if_neg (by omega)).trans ((if_neg (by omega)).trans ((if_neg (by omega)).trans (if_neg (by omega))))
def dpG (md dp : Nat) : Nat := (if md = 0 ∨ md = 3 then 2 else if md = 1 ∨ md = 4 then 3 else 4) + 3 * (6 - dp)
/-- with a fault nothing is done -/
theorem ex_f {c : Nat × Nat} (h : cuC I J tok T c) (hc : c.2 ≠ 0) {md dp x n : Nat} (hm : md ≤ 4) (hd : dpG md dp ≤ d) (hn : 1 ≤ n) : exE d md dp x n I J = some (none, (I, J)) := by
  have e8 : I 3 8 = nI c.2 := h.2.2.1
  have h3 := h.2.2.2.2.1
  have ne : ¬ nI c.2 = (0 : Int32) := by rw [eq0_nI (by omega)]; exact hc
  have u0 : ∀ {d : Nat}, 2 ≤ d → EV d T0 45 [.ref 3, .int (nI dp)] (I, J) = some (none, (I, J)) := by
    intro d hd
    obtain ⟨d, rfl⟩ : ∃ z, d = z + 1 := ⟨d - 1, by omega⟩
    rw [e_X4_readUnit, runS_M, s_X4_readUnit_0, e8, if_neg ne]; rfl
  have l3 : ∀ {d n x : Nat}, 1 ≤ n → runS (EV d) none 4 T0 C_X4_readProduct k_X4_readProduct rtV f_X4_readProduct n 7 [.ref 3, .int (nI dp), .int (nI x), un] [] (I, J) = some (none, (I, J)) := by
    intro d n x hn
    obtain ⟨n, rfl⟩ : ∃ z, n = z + 1 := ⟨n - 1, by omega⟩
    rw [runS_s, s_X4_readProduct_7, e8, if_neg ne]
    split <;> rfl
  have l4 : ∀ {d n x : Nat}, 1 ≤ n → runS (EV d) none 4 T0 C_X4_readSum k_X4_readSum rtV f_X4_readSum n 7 [.ref 3, .int (nI dp), .int (nI x), un] [] (I, J) = some (none, (I, J)) := by
    intro d n x hn
    obtain ⟨n, rfl⟩ : ∃ z, n = z + 1 := ⟨n - 1, by omega⟩
    rw [runS_s, s_X4_readSum_7, e8, if_neg ne]
    split <;> rfl
  have u1 : ∀ {d : Nat}, 3 ≤ d → EV d T0 44 [.ref 3, .int (nI dp)] (I, J) = some (none, (I, J)) := by
    intro d hd
    obtain ⟨d, rfl⟩ : ∃ z, d = z + 1 := ⟨d - 1, by omega⟩
    rw [e_X4_readProduct, runS_M, s_X4_readProduct_0, u0 (by omega), p_cv_s]
    exact l3 (x := 0) (by omega)
  have hmd : md = 0 ∨ md = 1 ∨ md = 2 ∨ md = 3 ∨ md = 4 := by omega
  rcases hmd with rfl | rfl | rfl | rfl | rfl
  · rw [exE_0]; unfold dpG at hd; rw [if_pos (Or.inl rfl)] at hd; exact u0 (by omega)
  · rw [exE_1]; unfold dpG at hd; rw [if_neg (by omega), if_pos (Or.inl rfl)] at hd; exact u1 (by omega)
  · rw [exE_2]; unfold dpG at hd; rw [if_neg (by omega), if_neg (by omega)] at hd
    obtain ⟨d, rfl⟩ : ∃ z, d = z + 1 := ⟨d - 1, by omega⟩
    rw [e_X4_readSum, runS_M, s_X4_readSum_0, u1 (by omega), p_cv_s]
    exact l4 (x := 0) (by omega)
  · rw [exE_3]; exact l3 hn
  · rw [exE_4]; exact l4 hn
end SA
