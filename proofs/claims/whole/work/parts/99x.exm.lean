/-! ===== read: expressions (reference): what waits ===== -/
section SC
variable {I : Nat → Nat → Int32} {J : Nat → Nat → Int64} {d : Nat} {tok : Nat → TK} {T : Nat}
def isW (w : Nat) : Prop := w = 40 ∨ w = 42 ∨ w = 47 ∨ w = 43 ∨ w = 45
/-- what waits, the last first -/
def wst (f : Nat → Int32) : List Nat → Prop
  | [] => True
  | w :: l => (f l.length = nI (kap w) ∧ isW w) ∧ wst f l
theorem wst_up {f : Nat → Int32} {j : Nat} {x : Int32} : ∀ {l : List Nat}, wst f l → l.length ≤ j → wst (upd f j x) l := by
  intro l
  induction l with
  | nil => intro _ _; trivial
  | cons w l ih =>
    intro h hj
    rw [List.length_cons] at hj
    exact ⟨⟨(pk_un (by omega)).trans h.1.1, h.1.2⟩, ih h.2 (by omega)⟩
theorem wst_push {f : Nat → Int32} {w : Nat} {l : List Nat} (h : wst f l) (hw : isW w) : wst (upd f l.length (nI (kap w))) (w :: l) := ⟨⟨pk_us, hw⟩, wst_up h (Nat.le_refl _)⟩
theorem wst_app {f : Nat → Int32} : ∀ (l m : List Nat), wst f (l ++ m) → wst f m := by
  intro l
  induction l with
  | nil => intro m h; exact h
  | cons w l ih => intro m h; exact ih m h.2
def nsg : List Nat → Nat
  | [] => 0
  | w :: l => (if w = 40 then 0 else 1) + nsg l
theorem nsg_app : ∀ (l m : List Nat), nsg (l ++ m) = nsg l + nsg m := by
  intro l
  induction l with
  | nil => intro m; show nsg m = 0 + nsg m; omega
  | cons w l ih => intro m; show (if w = 40 then 0 else 1) + nsg (l ++ m) = (if w = 40 then 0 else 1) + nsg l + nsg m; rw [ih]; omega
theorem atR_cg {f g f' g' : Nat → Int32} : ∀ (l : List Op) (p : Nat), (∀ j, p ≤ j → j < p + l.length → f' j = f j ∧ g' j = g j) → atR f g p l → atR f' g' p l := by
  intro l
  induction l with
  | nil => intro p _ _; trivial
  | cons o l ih =>
    intro p h h1
    rw [List.length_cons] at h
    exact ⟨⟨(h p (Nat.le_refl _) (by omega)).1.trans h1.1.1, (h p (Nat.le_refl _) (by omega)).2.trans h1.1.2⟩, ih (p + 1) (fun j a b => h j (by omega) (by omega)) h1.2⟩
theorem atR_app {f g : Nat → Int32} : ∀ (l m : List Op) (p : Nat), atR f g p l → atR f g (p + l.length) m → atR f g p (l ++ m) := by
  intro l
  induction l with
  | nil => intro m p _ h; exact h
  | cons o l ih =>
    intro m p h1 h2
    refine ⟨h1.1, ih m (p + 1) h1.2 ?_⟩
    rw [List.length_cons] at h2
    rw [show p + 1 + l.length = p + (l.length + 1) by omega]; exact h2
def emI (I : Nat → Nat → Int32) (cd : Nat) (x y : Int32) : Nat → Nat → Int32 := p_wr (p_wr (p_wr I 224 cd x) 225 cd y) 192 46 (nI (cd + 1))
theorem ev_emit (hd : 1 ≤ d) {cd : Nat} (h : I 192 46 = nI cd) (hc : cd < 840) (x y : Int32) : EV d T0 198 [.ref 192, .int x, .int y] (I, J) = some (none, (emI I cd x y, J)) := by
  obtain ⟨d, rfl⟩ : ∃ z, d = z + 1 := ⟨d - 1, by omega⟩
  rw [e_X12_emit, runS_M, s_X12_emit_0, h, chk_in hc (by omega), chk_in hc (by omega), nI_clamp (by omega), nI_1]; rfl
/-- what an expression changes: rows from cd up to hi -/
def kM (I I' : Nat → Nat → Int32) (cd hi : Nat) : Prop := kp [192, 224, 225, 226] I I' ∧ (∀ j, j ∉ [11, 12, 13, 14, 46, 50] → I' 192 j = I 192 j) ∧ ∀ j, j < cd ∨ hi ≤ j → I' 224 j = I 224 j ∧ I' 225 j = I 225 j
theorem kM.rf {cd hi : Nat} : kM I I cd hi := ⟨kp.rf, fun _ _ => rfl, fun _ _ => ⟨rfl, rfl⟩⟩
theorem kM.tr {I' I'' : Nat → Nat → Int32} {cd cd' hi : Nat} (h : kM I I' cd hi) (h' : kM I' I'' cd' hi) (hl : cd ≤ cd') : kM I I'' cd hi :=
  ⟨h.1.tr h'.1, fun j hj => (h'.2.1 j hj).trans (h.2.1 j hj), fun j hj => ⟨(h'.2.2 j (by omega)).1.trans (h.2.2 j hj).1, (h'.2.2 j (by omega)).2.trans (h.2.2 j hj).2⟩⟩
theorem em_K {cd hi : Nat} {x y : Int32} (hc : cd < hi) : kM I (emI I cd x y) cd hi := by
  refine ⟨((kp.rf.wr (by decide)).wr (by decide)).wr (by decide), fun j hj => ?_, fun j hj => ⟨?_, ?_⟩⟩
  · show p_wr (p_wr (p_wr I 224 cd x) 225 cd y) 192 46 (nI (cd + 1)) 192 j = I 192 j
    rw [wr_eq, pk_un (fun e => hj (by rw [e]; decide)), wr_ne (by decide), wr_ne (by decide)]
  · show p_wr (p_wr (p_wr I 224 cd x) 225 cd y) 192 46 (nI (cd + 1)) 224 j = I 224 j
    rw [wr_ne (by decide), wr_ne (by decide), wr_eq, pk_un (by omega)]
  · show p_wr (p_wr (p_wr I 224 cd x) 225 cd y) 192 46 (nI (cd + 1)) 225 j = I 225 j
    rw [wr_ne (by decide), wr_eq, pk_un (by omega), wr_ne (by decide)]
theorem em_46 {cd : Nat} {x y : Int32} : emI I cd x y 192 46 = nI (cd + 1) := by unfold emI; rw [wr_eq, pk_us]
theorem em_f {cd j : Nat} {x y : Int32} (h : j ≠ 46) : emI I cd x y 192 j = I 192 j := by unfold emI; rw [wr_eq, pk_un h, wr_ne (by decide), wr_ne (by decide)]
theorem em_c {cd k : Nat} {x y : Int32} (h : k ≠ 224 ∧ k ≠ 225 ∧ k ≠ 192) : emI I cd x y k = I k := by unfold emI; rw [wr_ne h.2.2, wr_ne h.2.1, wr_ne h.1]
theorem em_at {cd : Nat} (o : Op) : atR (emI I cd (nI o.1) (nI o.2) 224) (emI I cd (nI o.1) (nI o.2) 225) cd [o] := by
  refine ⟨⟨?_, ?_⟩, trivial⟩
  · unfold emI; rw [wr_ne (by decide), wr_ne (by decide), wr_eq, pk_us]
  · unfold emI; rw [wr_ne (by decide), wr_eq, pk_us]
/-- what stops the coming out -/
def stW (a : Int32) (w : Nat) : Prop := w = 40 ∨ (a ≠ 0 ∧ (w = 43 ∨ w = 45))
def stL (a : Int32) : List Nat → Prop
  | [] => True
  | w :: _ => stW a w
def goL (a : Int32) : List Nat → Prop
  | [] => True
  | w :: l => (isW w ∧ ¬ stW a w) ∧ goL a l
theorem lp_out {a : Int32} {hi : Nat} (hh : hi ≤ 840) : ∀ (sg ws : List Nat) (cd n : Nat) (I : Nat → Nat → Int32), goL a sg → stL a ws → I 192 46 = nI cd → cd + sg.length ≤ hi → I 192 50 = nI (sg ++ ws).length → wst (I 226) (sg ++ ws) → (sg ++ ws).length ≤ 63 → 2 * sg.length + 1 ≤ n →
    ∃ I', runS (EV (d + 1)) none 3 T0 C_X12_comesOut k_X12_comesOut rtV f_X12_comesOut n 0 [.ref 192, .int a, un] [] (I, J) = some (none, (I', J)) ∧ kp [192, 224, 225] I I' ∧ kM I I' cd hi ∧ (∀ j, j ≠ 46 → j ≠ 50 → I' 192 j = I 192 j) ∧ I' 192 46 = nI (cd + sg.length) ∧ I' 192 50 = nI ws.length ∧ atR (I' 224) (I' 225) cd (sg.map sgO) := by
  intro sg
  induction sg with
  | nil =>
    intro ws cd n I _ h2 h3 h4 h5 h6 h7 h8
    rw [List.nil_append] at h5 h6 h7
    obtain ⟨n, rfl⟩ : ∃ z, n = z + 1 := ⟨n - 1, by omega⟩
    rw [runS_s, s_X12_comesOut_0, h5]
    refine ⟨I, ?_, kp.rf, kM.rf, fun _ _ _ => rfl, h3, h5, trivial⟩
    cases ws with
    | nil => rw [if_pos (show nI ([] : List Nat).length ≤ 0 by decide)]; rfl
    | cons w ws =>
      rw [List.length_cons] at h7 ⊢
      rw [if_neg (show ¬ nI (ws.length + 1) ≤ (0 : Int32) from nI_ge (a := 0) (by omega) (by omega)), nI_pred, chk_in (by omega) (by omega), nI_clamp (by omega), h6.1.1]
      have hst : stW a w := h2
      rcases hst with rfl | ⟨ha, rfl | rfl⟩
      · rw [if_pos (by decide)]; rfl
      · rw [if_neg (by decide), if_neg ha, if_pos (by decide)]; rfl
      · rw [if_neg (by decide), if_neg ha, if_neg (by decide), if_pos (by decide)]; rfl
  | cons w sg ih =>
    intro ws cd n I h1 h2 h3 h4 h5 h6 h7 h8
    rw [List.length_cons] at h4 h8
    rw [List.cons_append, List.length_cons] at h5 h7
    rw [List.cons_append] at h6
    obtain ⟨n, rfl⟩ : ∃ z, n = z + 1 + 1 := ⟨n - 2, by omega⟩
    rw [runS_s, s_X12_comesOut_0, h5, if_neg (show ¬ nI ((sg ++ ws).length + 1) ≤ (0 : Int32) from nI_ge (a := 0) (by omega) (by omega)), nI_pred, chk_in (by omega) (by omega), nI_clamp (by omega), h6.1.1]
    have k0 : kp [192] I (p_wr I 192 50 (nI (sg ++ ws).length)) := kp.rf.wr (by decide)
    have hgo : ∀ x : Int32, x = nI (sgO w).1 → ∃ I', p_cv (EV (d + 1) T0 198 [.ref 192, .int x, .int 0] (p_wr I 192 50 (nI (sg ++ ws).length), J)) (fun z1 => runS (EV (d + 1)) none 3 T0 C_X12_comesOut k_X12_comesOut rtV f_X12_comesOut n 0 [.ref 192, .int a, un] [] z1) = some (none, (I', J)) ∧ kp [192, 224, 225] I I' ∧ kM I I' cd hi ∧ (∀ j, j ≠ 46 → j ≠ 50 → I' 192 j = I 192 j) ∧ I' 192 46 = nI (cd + (sg.length + 1)) ∧ I' 192 50 = nI ws.length ∧ atR (I' 224) (I' 225) cd ((w :: sg).map sgO) := by
      intro x hx
      have e46 : p_wr I 192 50 (nI (sg ++ ws).length) 192 46 = nI cd := by rw [wr_eq, pk_un (by decide)]; exact h3
      rw [ev_emit (by omega) e46 (by omega), p_cv_s, hx]
      let I1 := emI (p_wr I 192 50 (nI (sg ++ ws).length)) cd (nI (sgO w).1) 0
      have f1 : ∀ j, j ≠ 46 → j ≠ 50 → I1 192 j = I 192 j := fun j a1 a2 => by show emI _ _ _ _ 192 j = _; rw [em_f a1, wr_eq, pk_un a2]
      have f50 : I1 192 50 = nI (sg ++ ws).length := by show emI _ _ _ _ 192 50 = _; rw [em_f (by decide), wr_eq, pk_us]
      have f226 : I1 226 = I 226 := by show emI _ _ _ _ 226 = _; rw [em_c (by decide), wr_ne (by decide)]
      have fk : kp [192, 224, 225] I I1 := fun k hk => by
        show emI _ _ _ _ k = _
        have h9 : k ≠ 192 ∧ k ≠ 224 ∧ k ≠ 225 := ⟨fun e => hk (by rw [e]; decide), fun e => hk (by rw [e]; decide), fun e => hk (by rw [e]; decide)⟩
        rw [em_c ⟨h9.2.1, h9.2.2, h9.1⟩, wr_ne h9.1]
      have fa : atR (I1 224) (I1 225) cd [sgO w] := em_at (sgO w)
      have fm0 : kM (p_wr I 192 50 (nI (sg ++ ws).length)) I1 cd hi := em_K (by omega)
      have fm : kM I I1 cd hi := kM.tr (I' := p_wr I 192 50 (nI (sg ++ ws).length)) ⟨k0.up (by decide), fun j hj => by rw [wr_eq, pk_un (fun e => hj (by rw [e]; decide))], fun j _ => ⟨by rw [wr_ne (by decide)], by rw [wr_ne (by decide)]⟩⟩ fm0 (Nat.le_refl _)
      obtain ⟨I2, u1, u2, u3, u4, u5, u6, u7⟩ := ih ws (cd + 1) n I1 h1.2 h2 em_46 (by omega) f50 (by rw [f226]; exact h6.2) (by omega) (by omega)
      refine ⟨I2, u1, fk.tr u2, fm.tr u3 (by omega), fun j a1 a2 => (u4 j a1 a2).trans (f1 j a1 a2), by rw [u5]; congr 1; omega, u6, ?_⟩
      refine atR_app [sgO w] (sg.map sgO) cd (atR_cg _ _ (fun j q1 q2 => ?_) fa) u7
      have q3 : j < cd + 1 := q2
      exact u3.2.2 j (by omega)
    obtain ⟨hw, hs⟩ := h1.1
    have h40 : w ≠ 40 := fun e => hs (Or.inl e)
    have h43 : ¬ (a ≠ 0 ∧ (w = 43 ∨ w = 45)) := fun e => hs (Or.inr e)
    have hn6 : ¬ nI (kap w) = (6 : Int32) := by
      rcases hw with rfl | rfl | rfl | rfl | rfl
      · exact absurd rfl h40
      all_goals decide
    rw [if_neg hn6]
    have h52 : ∃ I', runS (EV (d + 1)) none 3 T0 C_X12_comesOut k_X12_comesOut rtV f_X12_comesOut (n + 1) 52 [.ref 192, .int a, .int (nI (kap w))] [] (p_wr I 192 50 (nI (sg ++ ws).length), J) = some (none, (I', J)) ∧ kp [192, 224, 225] I I' ∧ kM I I' cd hi ∧ (∀ j, j ≠ 46 → j ≠ 50 → I' 192 j = I 192 j) ∧ I' 192 46 = nI (cd + (sg.length + 1)) ∧ I' 192 50 = nI ws.length ∧ atR (I' 224) (I' 225) cd ((w :: sg).map sgO) := by
      rw [runS_s, s_X12_comesOut_52]
      rcases hw with rfl | rfl | rfl | rfl | rfl
      · exact absurd rfl h40
      · rw [if_neg (by decide), if_neg (by decide), if_pos (by decide)]; exact hgo _ (by decide)
      · rw [if_neg (by decide), if_neg (by decide), if_neg (by decide)]; exact hgo _ (by decide)
      · rw [if_pos (by decide)]; exact hgo _ (by decide)
      · rw [if_neg (by decide), if_pos (by decide)]; exact hgo _ (by decide)
    by_cases ha : a = 0
    · rw [if_pos ha]; exact h52
    · rw [if_neg ha]
      have h8 : ¬ nI (kap w) = (8 : Int32) ∧ ¬ nI (kap w) = (9 : Int32) := by
        rcases hw with rfl | rfl | rfl | rfl | rfl
        · exact absurd rfl h40
        · decide
        · decide
        · exact absurd ⟨ha, Or.inl rfl⟩ h43
        · exact absurd ⟨ha, Or.inr rfl⟩ h43
      rw [if_neg h8.1, if_neg h8.2]; exact h52
theorem ev_out (hd : 2 ≤ d) {a : Int32} {hi : Nat} (hh : hi ≤ 840) {sg ws : List Nat} {cd : Nat} (h1 : goL a sg) (h2 : stL a ws) (h3 : I 192 46 = nI cd) (h4 : cd + sg.length ≤ hi) (h5 : I 192 50 = nI (sg ++ ws).length) (h6 : wst (I 226) (sg ++ ws)) (h7 : (sg ++ ws).length ≤ 63) :
    ∃ I', EV d T0 199 [.ref 192, .int a] (I, J) = some (none, (I', J)) ∧ kp [192, 224, 225] I I' ∧ kM I I' cd hi ∧ (∀ j, j ≠ 46 → j ≠ 50 → I' 192 j = I 192 j) ∧ I' 192 46 = nI (cd + sg.length) ∧ I' 192 50 = nI ws.length ∧ atR (I' 224) (I' 225) cd (sg.map sgO) := by
  obtain ⟨d, rfl⟩ : ∃ z, d = z + 2 := ⟨d - 2, by omega⟩
  rw [e_X12_comesOut]
  rw [List.length_append] at h7
  exact lp_out hh sg ws cd 1000000 I h1 h2 h3 h4 h5 h6 (by rw [List.length_append]; omega) (by omega)
/-- all that waits up to a bracket -/
theorem w_split {f : Nat → Int32} : ∀ (l : List Nat), wst f l → ∃ sg ws, l = sg ++ ws ∧ goL 0 sg ∧ stL 0 ws ∧ sg.length ≤ nsg l := by
  intro l
  induction l with
  | nil => intro _; exact ⟨[], [], rfl, trivial, trivial, Nat.le_refl _⟩
  | cons w l ih =>
    intro h
    by_cases e : w = 40
    · exact ⟨[], w :: l, rfl, trivial, Or.inl e, Nat.zero_le _⟩
    · obtain ⟨sg, ws, q1, q2, q3, q4⟩ := ih h.2
      refine ⟨w :: sg, ws, by rw [q1]; rfl, ⟨⟨h.1.2, fun h9 => h9.elim e (fun h8 => h8.1 rfl)⟩, q2⟩, q3, ?_⟩
      show sg.length + 1 ≤ (if w = 40 then 0 else 1) + nsg l
      rw [if_neg e]; omega
end SC
