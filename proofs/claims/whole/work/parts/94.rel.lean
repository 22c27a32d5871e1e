/-! ===== the reference's history; the whole relation ===== -/
section QZ
variable {P : PP} {I : Nat → Nat → Int32} {J : Nat → Nat → Int64} {d : Nat} {y : YS}
theorem lp_rec1 {O : Ora} {g : Nat → Int32} : ∀ (k i n : Nat), i + k = 1248 →
    runS O none 2 T0 C_X12_records k_X12_records rtV f_X12_records (n + k + 1) 11 [.ref 192, .int (nI i)] [] (cs I 235 (fun j => if j < i then g (j + 32) else g j), J) = runS O none 2 T0 C_X12_records k_X12_records rtV f_X12_records n 51 [.ref 192, .int 0] [] (p_wr (cs I 235 (fun j => if j < 1248 then g (j + 32) else g j)) 192 62 (I 192 62 - 1), J) := by
  intro k
  induction k with
  | zero =>
    intro i n hi
    have e : i = 1248 := by omega
    subst e
    rw [Nat.add_zero, runS_s, s_X12_records_11, if_pos (by decide), cs_ne (show (192 : Nat) ≠ 235 by decide)]
  | succ k ih =>
    intro i n hi
    have e1 : nI i + 32 = nI (i + 32) := nI_add i 32
    rw [show n + (k + 1) + 1 = (n + k + 1) + 1 by omega, runS_s, s_X12_records_11, if_neg (show ¬ (1248 : Int32) ≤ nI (i) from nI_ge (a := i) (b := 1248) (by omega) (by omega)), e1, chk_in (by omega) (by omega), chk_in (by omega) (by omega), nI_clamp (by omega), nI_clamp (by omega), nI_1, wr_cs2, cs_eq]
    have e2 : upd (fun j => if j < i then g (j + 32) else g j) i ((fun j => if j < i then g (j + 32) else g j) (i + 32)) = fun j => if j < i + 1 then g (j + 32) else g j := by
      funext j
      by_cases c : j = i
      · subst c; rw [pk_us]; dsimp only; rw [if_neg (by omega), if_pos (by omega)]
      · rw [pk_un c]
        by_cases c2 : j < i
        · rw [if_pos c2, if_pos (by omega)]
        · rw [if_neg c2, if_neg (by omega)]
    rw [e2]
    exact ih (i + 1) n (by omega)
theorem lp_rec2 {O : Ora} {g : Nat → Int32} {U : Nat} (hU : U < 40) (h62 : I 192 62 = nI U) : ∀ (k i n : Nat), i + k = 32 →
    runS O none 2 T0 C_X12_records k_X12_records rtV f_X12_records (n + k) 51 [.ref 192, .int (nI i)] [] (cs I 235 (fun j => if 32 * U ≤ j ∧ j < 32 * U + i then I 229 (j - 32 * U) else g j), J) = runS O none 2 T0 C_X12_records k_X12_records rtV f_X12_records n 51 [.ref 192, .int (nI 32)] [] (cs I 235 (fun j => if 32 * U ≤ j ∧ j < 32 * U + 32 then I 229 (j - 32 * U) else g j), J) := by
  intro k
  induction k with
  | zero =>
    intro i n hi
    have e : i = 32 := by omega
    subst e
    rfl
  | succ k ih =>
    intro i n hi
    have e1 : (32 : Int32) * nI U + nI i = nI (32 * U + i) := by rw [show (32 : Int32) * nI U = nI (32 * U) from pk_mul 32 U, nI_add]
    rw [show n + (k + 1) = (n + k) + 1 by omega, runS_s, s_X12_records_51, if_neg (show ¬ (32 : Int32) ≤ nI (i) from nI_ge (a := i) (b := 32) (by omega) (by omega)), chk_in (by omega) (by omega), cs_ne (show (192 : Nat) ≠ 235 by decide), h62, e1, chk_in (by omega) (by omega), nI_clamp (by omega), nI_clamp (by omega), nI_1, cs_ne (show (229 : Nat) ≠ 235 by decide), wr_cs2]
    have e2 : upd (fun j => if 32 * U ≤ j ∧ j < 32 * U + i then I 229 (j - 32 * U) else g j) (32 * U + i) (I 229 i) = fun j => if 32 * U ≤ j ∧ j < 32 * U + (i + 1) then I 229 (j - 32 * U) else g j := by
      funext j
      by_cases c : j = 32 * U + i
      · subst c; rw [pk_us, if_pos ⟨by omega, by omega⟩, show 32 * U + i - 32 * U = i by omega]
      · rw [pk_un c]
        by_cases c2 : 32 * U ≤ j ∧ j < 32 * U + i
        · rw [if_pos c2, if_pos ⟨by omega, by omega⟩]
        · rw [if_neg c2, if_neg (by omega)]
    rw [e2]
    exact ih (i + 1) n (by omega)
def k62 (I I' : Nat → Nat → Int32) : Prop := ∀ j, j ≠ 62 → I' 192 j = I 192 j
theorem ev_records (hd : 2 ≤ d) (hp : PlR P I) (hy : stM P (I 229) y) (ho : okY P y) {U : Nat} {h : Nat → YS} (hh : hiM P I U h) : ∃ I', EV d T0 232 [.ref 192] (I, J) = some (none, (I', J)) ∧ kp [235, 192, 229] I I' ∧ k62 I I' ∧ hiM P I' (pshU U) (pshH U h y) ∧ ∀ j, j < 32 → I' 229 j = I 230 j := by
  obtain ⟨d, rfl⟩ : ∃ z, d = z + 2 := ⟨d - 2, by omega⟩
  obtain ⟨u1, u2, u3⟩ := hh
  /- the second half: a history g of V rows, V below 40 -/
  have fin : ∀ (I0 : Nat → Nat → Int32) (V n : Nat), V < 40 → 40 < n → I0 192 62 = nI V → I0 229 = I 229 → ∃ I', runS (EV (d + 1)) none 2 T0 C_X12_records k_X12_records rtV f_X12_records n 51 [.ref 192, .int 0] [] (I0, J) = some (none, (I', J)) ∧ kp [235, 192, 229] I0 I' ∧ k62 I0 I' ∧ I' 192 62 = nI (V + 1) ∧ (∀ j, I' 235 j = if 32 * V ≤ j ∧ j < 32 * V + 32 then I 229 (j - 32 * V) else I0 235 j) ∧ ∀ j, j < 32 → I' 229 j = I0 230 j := by
    intro I0 V n hV hn h62 h229
    obtain ⟨n, rfl⟩ : ∃ z, n = z + 1 + 32 := ⟨n - 33, by omega⟩
    have hz := lp_rec2 (O := EV (d + 1)) (J := J) (I := I0) (g := I0 235) hV h62 32 0 (n + 1) (by omega)
    have e0 : (fun j => if 32 * V ≤ j ∧ j < 32 * V + 0 then I0 229 (j - 32 * V) else I0 235 j) = I0 235 := by
      funext j; rw [if_neg (by omega)]
    rw [e0, cs_self] at hz
    refine ⟨cs (p_wr (cs I0 235 (fun j => if 32 * V ≤ j ∧ j < 32 * V + 32 then I0 229 (j - 32 * V) else I0 235 j)) 192 62 (nI V + 1)) 229 (cpF (I0 230) (I0 229) 32), ?_, ((kp.rf.cs (by decide)).wr (by decide)).cs (by decide), fun j hj => ?_, ?_, fun j => ?_, fun j hj => ?_⟩
    · refine hz.trans ?_
      rw [runS_s, s_X12_records_51, if_pos (by decide)]
      rw [cs_ne (show (192 : Nat) ≠ 235 by decide), h62, ev_keepsRow, p_cv_s, wr_ne (show (230 : Nat) ≠ 192 by decide), wr_ne (show (229 : Nat) ≠ 192 by decide), cs_ne (show (230 : Nat) ≠ 235 by decide), cs_ne (show (229 : Nat) ≠ 235 by decide)]
      rfl
    · rw [cs_ne (by decide), wr_eq, pk_un hj, cs_ne (by decide)]
    · rw [cs_ne (by decide), wr_eq, pk_us, nI_1]
    · rw [cs_ne (by decide), wr_ne (by decide), cs_eq, h229]
    · rw [cs_eq]; exact if_pos hj
  rw [e_X12_records, runS_M, s_X12_records_0]
  by_cases hU : U = 40
  · subst hU
    let I0 := p_wr (cs I 235 (fun j => if j < 1248 then I 235 (j + 32) else I 235 j)) 192 62 (I 192 62 - 1)
    have k0 : kp [235, 192, 229] I I0 := (kp.rf.cs (by decide)).wr (by decide)
    have f0 : k62 I I0 := fun j hj => by show p_wr (cs I 235 _) 192 62 _ 192 j = _; rw [wr_eq, pk_un hj, cs_ne (by decide)]
    have e62 : I0 192 62 = nI 39 := by show p_wr (cs I 235 _) 192 62 _ 192 62 = _; rw [wr_eq, pk_us, u1]; rfl
    have e235 : I0 235 = fun j => if j < 1248 then I 235 (j + 32) else I 235 j := by show p_wr (cs I 235 _) 192 62 _ 235 = _; rw [wr_ne (by decide), cs_eq]
    have e229 : I0 229 = I 229 := by show p_wr (cs I 235 _) 192 62 _ 229 = _; rw [wr_ne (by decide), cs_ne (by decide)]
    have e230 : I0 230 = I 230 := by show p_wr (cs I 235 _) 192 62 _ 230 = _; rw [wr_ne (by decide), cs_ne (by decide)]
    obtain ⟨I1, t1, t2, t3, t4, t5, t6⟩ := fin I0 39 998750 (by decide) (by decide) e62 e229
    refine ⟨I1, ?_, k0.tr t2, fun j hj => (t3 j hj).trans (f0 j hj), ⟨?_, ?_, fun k hk => ?_⟩, fun j hj => by rw [t6 j hj, e230]⟩
    · rw [if_pos (show I 192 62 = 40 by rw [u1]; rfl)]
      have hz := lp_rec1 (O := EV (d + 1)) (J := J) (I := I) (g := I 235) 1248 0 998750 (by omega)
      have e0 : (fun j => if j < 0 then I 235 (j + 32) else I 235 j) = I 235 := by funext j; rw [if_neg (by omega)]
      rw [e0, cs_self] at hz
      exact hz.trans t1
    · rw [t4]; rfl
    · unfold pshU; rw [if_pos rfl]; exact Nat.le_refl _
    · unfold pshU at hk; rw [if_pos rfl] at hk
      unfold pshH; rw [if_pos rfl]
      by_cases c : k = 39
      · subst c
        rw [if_pos rfl]
        refine ⟨ho, hy.cg hp (fun j hj => ?_)⟩
        rw [t5, if_pos ⟨by omega, by omega⟩, Nat.add_sub_cancel_left]
      · rw [if_neg c]
        obtain ⟨q1, q2⟩ := u3 (k + 1) (by omega)
        refine ⟨q1, q2.cg hp (fun j hj => ?_)⟩
        rw [t5, if_neg (by omega), e235]
        dsimp only
        rw [if_pos (by omega)]; congr 1; omega
  · obtain ⟨I1, t1, t2, t3, t4, t5, t6⟩ := fin I U 999999 (by omega) (by decide) u1 rfl
    refine ⟨I1, ?_, t2, t3, ⟨?_, ?_, fun k hk => ?_⟩, t6⟩
    · rw [if_neg (show ¬ I 192 62 = 40 by rw [u1, show (nI U = (40 : Int32)) = (U = 40) from eq_nI (b := 40) (by omega) (by omega)]; exact hU)]
      exact t1
    · unfold pshU; rw [if_neg hU]; exact t4
    · unfold pshU; rw [if_neg hU]; omega
    · unfold pshU at hk; rw [if_neg hU] at hk
      unfold pshH; rw [if_neg hU]
      by_cases c : k = U
      · subst c
        rw [if_pos rfl]
        refine ⟨ho, hy.cg hp (fun j hj => ?_)⟩
        rw [t5, if_pos ⟨by omega, by omega⟩, Nat.add_sub_cancel_left]
      · rw [if_neg c]
        obtain ⟨q1, q2⟩ := u3 k (by omega)
        refine ⟨q1, q2.cg hp (fun j hj => ?_)⟩
        rw [t5, if_neg (by omega)]
/-! the relation -/
abbrev AS : Type := YS × (Nat × (Nat → YS)) × (Nat → Option YS) × (Nat × (Nat → Nat × Nat × Nat))
/-- the tape and its bytes, the place of a fault, women, stitches -/
abbrev ES : Type := Nat × (Nat → Int32) × Int32 × Int32 × Nat
def slC (P : PP) (I : Nat → Nat → Int32) (s : Nat) (o : Option YS) : Prop := match o with
  | none => I 168 s = 0
  | some y => I 168 s = 1 ∧ okY P y ∧ stC P I (183 + 3 * s) y
def slM (P : PP) (I : Nat → Nat → Int32) (s : Nat) (o : Option YS) : Prop := match o with
  | none => I 241 s = 0
  | some y => I 241 s = 1 ∧ okY P y ∧ stM P (fun j => I 242 (32 * s + j)) y
def RC (P : PP) (I : Nat → Nat → Int32) (A : AS) : Prop := stC P I 39 A.1 ∧ okY P A.1 ∧ hiC P I A.2.1.1 A.2.1.2 ∧ (∀ s, s < 3 → slC P I s (A.2.2.1 s)) ∧ TDC P I A.2.2.2.1 A.2.2.2.2
def RM (P : PP) (I : Nat → Nat → Int32) (A : AS) : Prop := stM P (I 229) A.1 ∧ okY P A.1 ∧ hiM P I A.2.1.1 A.2.1.2 ∧ (∀ s, s < 3 → slM P I s (A.2.2.1 s)) ∧ TDM P I A.2.2.2.1 A.2.2.2.2
def TC (I : Nat → Nat → Int32) (E : ES) : Prop := I 1 1 = nI E.1 ∧ E.1 ≤ 2000 ∧ (∀ j, j < E.1 → I 2 j = E.2.1 j) ∧ I 0 12 = E.2.2.1 ∧ I 25 2 = E.2.2.2.1 ∧ I 25 4 = nI E.2.2.2.2 ∧ E.2.2.2.2 ≤ 297
def TM (P : PP) (I : Nat → Nat → Int32) (E : ES) : Prop := I 192 2 = nI E.1 ∧ E.1 ≤ 2000 ∧ (∀ j, j < E.1 → I 193 j = E.2.1 j) ∧ I 192 17 = E.2.2.1 ∧ I 208 (xv P) = E.2.2.2.1 ∧ I 209 (xv P) = nI E.2.2.2.2 ∧ E.2.2.2.2 ≤ 297
def SC (P : PP) (I : Nat → Nat → Int32) (A : AS) (E : ES) : Prop := PlR P I ∧ RC P I A ∧ TC I E
def SM (P : PP) (I : Nat → Nat → Int32) (A : AS) (E : ES) : Prop := PlR P I ∧ RM P I A ∧ TM P I E
/-- cells that the class's calls leave alone, and cells and fields that the reference's calls leave alone -/
def FC (I I' : Nat → Nat → Int32) : Prop := ∀ k, (3 ≤ k ∧ k < 37) ∨ k = 38 ∨ 192 ≤ k → I' k = I k
def FM (I I' : Nat → Nat → Int32) : Prop := (∀ k, k < 192 ∨ (194 ≤ k ∧ k < 227) → I' k = I k) ∧ ∀ j, j ∉ [2, 53, 56, 57, 62, 65] → I' 192 j = I 192 j
theorem FC.rf : FC I I := fun _ _ => rfl
theorem FC.tr {I' I'' : Nat → Nat → Int32} (h : FC I I') (h' : FC I' I'') : FC I I'' := fun k hk => (h' k hk).trans (h k hk)
theorem FM.rf : FM I I := ⟨fun _ _ => rfl, fun _ _ => rfl⟩
theorem FM.tr {I' I'' : Nat → Nat → Int32} (h : FM I I') (h' : FM I' I'') : FM I I'' := ⟨fun k hk => (h'.1 k hk).trans (h.1 k hk), fun j hj => (h'.2 j hj).trans (h.2 j hj)⟩
theorem FC.of {I' : Nat → Nat → Int32} {X : List Nat} (h : kp X I I') (hX : ∀ k ∈ X, ¬ ((3 ≤ k ∧ k < 37) ∨ k = 38 ∨ 192 ≤ k)) : FC I I' := fun k hk => h k (fun h9 => hX k h9 hk)
theorem FM.of {I' : Nat → Nat → Int32} {X : List Nat} (h : kp X I I') (hX : ∀ k ∈ X, ¬ (k < 192 ∨ (194 ≤ k ∧ k < 227))) (hf : ∀ j, j ∉ [2, 53, 56, 57, 62, 65] → I' 192 j = I 192 j) : FM I I' := ⟨fun k hk => h k (fun h9 => hX k h9 hk), hf⟩
theorem PlR.FC {I' : Nat → Nat → Int32} (h : PlR P I) (hf : FC I I') : PlR P I' := h.kp (fun k hk => hf k ((by decide : ∀ k ∈ plC, (3 ≤ k ∧ k < 37) ∨ k = 38 ∨ 192 ≤ k) k hk)) (by rw [hf 192 (by omega)])
theorem PlR.FM {I' : Nat → Nat → Int32} (h : PlR P I) (hf : FM I I') : PlR P I' := h.kp (fun k hk => hf.1 k ((by decide : ∀ k ∈ plC, k < 192 ∨ (194 ≤ k ∧ k < 227)) k hk)) (hf.2 18 (by decide))
theorem RM.FC {I' : Nat → Nat → Int32} {A : AS} (h : RM P I A) (hf : FC I I') : RM P I' A := by
  have e : ∀ k, 192 ≤ k → I' k = I k := fun k hk => hf k (by omega)
  unfold RM hiM TDM slM at *
  rw [e 229 (by omega), e 192 (by omega), e 235 (by omega), e 237 (by omega), e 238 (by omega), e 239 (by omega), e 241 (by omega), e 242 (by omega)]
  exact h
theorem TM.FC {I' : Nat → Nat → Int32} {E : ES} (h : TM P I E) (hf : FC I I') : TM P I' E := by
  have e : ∀ k, 192 ≤ k → I' k = I k := fun k hk => hf k (by omega)
  unfold TM at *
  rw [e 192 (by omega), e 193 (by omega), e 208 (by omega), e 209 (by omega)]
  exact h
theorem RC.FM {I' : Nat → Nat → Int32} {A : AS} (h : RC P I A) (hf : FM I I') : RC P I' A := by
  have e : ∀ k, k < 192 → I' k = I k := fun k hk => hf.1 k (by omega)
  obtain ⟨h1, h2, ⟨o, o1, o2, o3, o4, o5⟩, h4, h5⟩ := h
  refine ⟨h1.cg (e _ (by decide)) (e _ (by decide)) (e _ (by decide)), h2, ⟨o, o1, by rw [e 45 (by decide)]; exact o2, by rw [e 45 (by decide)]; exact o3, o4, fun k hk => ⟨(o5 k hk).1, (o5 k hk).2.cg (e _ (by omega)) (e _ (by omega)) (e _ (by omega))⟩⟩, fun s hs => ?_, ?_⟩
  · have := h4 s hs
    unfold slC at *
    cases c : A.2.2.1 s with
    | none => rw [c] at this; dsimp only at *; rw [e 168 (by decide)]; exact this
    | some y => rw [c] at this; dsimp only at *; rw [e 168 (by decide)]; exact ⟨this.1, this.2.1, this.2.2.cg (e _ (by omega)) (e _ (by omega)) (e _ (by omega))⟩
  · unfold TDC at *
    rw [e 178 (by decide), e 179 (by decide), e 180 (by decide), e 181 (by decide)]; exact h5
theorem TC.FM {I' : Nat → Nat → Int32} {E : ES} (h : TC I E) (hf : FM I I') : TC I' E := by
  have e : ∀ k, k < 192 → I' k = I k := fun k hk => hf.1 k (by omega)
  unfold TC at *
  rw [e 0 (by omega), e 1 (by omega), e 2 (by omega), e 25 (by omega)]
  exact h
theorem SC.FM {I' : Nat → Nat → Int32} {A : AS} {E : ES} (h : SC P I A E) (hf : FM I I') : SC P I' A E := ⟨h.1.FM hf, h.2.1.FM hf, h.2.2.FM hf⟩
theorem SM.FC {I' : Nat → Nat → Int32} {A : AS} {E : ES} (h : SM P I A E) (hf : FC I I') : SM P I' A E := ⟨h.1.FC hf, h.2.1.FC hf, h.2.2.FC hf⟩
/-- a class's call: its answer, and what it makes of the state -/
def cKK (d n : Nat) (as : List Value) (P : PP) (I : Nat → Nat → Int32) (J : Nat → Nat → Int64) (v : Int32) (A : AS) (E : ES) : Prop := ∃ I', EV d T0 n as (I, J) = some (some (.int v), (I', J)) ∧ FC I I' ∧ SC P I' A E
def mKK (d n : Nat) (as : List Value) (P : PP) (I : Nat → Nat → Int32) (J : Nat → Nat → Int64) (v : Int32) (A : AS) (E : ES) : Prop := ∃ I', EV d T0 n as (I, J) = some (some (.int v), (I', J)) ∧ FM I I' ∧ SM P I' A E
theorem SC.sc {I' : Nat → Nat → Int32} {A : AS} {E : ES} (h : SC P I A E) (hk : kp scC I I') : FC I I' ∧ SC P I' A E := by
  have hf : FC I I' := FC.of hk (by decide)
  obtain ⟨hp, ⟨h1, h2, ⟨o, o1, o2, o3, o4, o5⟩, h4, h5⟩, h6⟩ := h
  have e : ∀ k, (k = 39 ∨ k = 40 ∨ k = 41 ∨ (45 ≤ k ∧ k < 169) ∨ (178 ≤ k ∧ k < 182) ∨ (183 ≤ k ∧ k < 192) ∨ k < 3) → I' k = I k := fun k hc => hk k (fun h9 => by
    have := (by decide : ∀ k ∈ scC, ¬ (k = 39 ∨ k = 40 ∨ k = 41 ∨ (45 ≤ k ∧ k < 169) ∨ (178 ≤ k ∧ k < 182) ∨ (183 ≤ k ∧ k < 192) ∨ k < 3)) k h9
    exact this hc)
  refine ⟨hf, hp.FC hf, ⟨h1.cg (e _ (by omega)) (e _ (by omega)) (e _ (by omega)), h2, ⟨o, o1, by rw [e 45 (by omega)]; exact o2, by rw [e 45 (by omega)]; exact o3, o4, fun k hk => ⟨(o5 k hk).1, (o5 k hk).2.cg (e _ (by omega)) (e _ (by omega)) (e _ (by omega))⟩⟩, fun s hs => ?_, ?_⟩, ?_⟩
  · have := h4 s hs
    unfold slC at *
    cases c : A.2.2.1 s with
    | none => rw [c] at this; dsimp only at *; rw [e 168 (by omega)]; exact this
    | some y => rw [c] at this; dsimp only at *; rw [e 168 (by omega)]; exact ⟨this.1, this.2.1, this.2.2.cg (e _ (by omega)) (e _ (by omega)) (e _ (by omega))⟩
  · unfold TDC at *
    rw [e 178 (by omega), e 179 (by omega), e 180 (by omega), e 181 (by omega)]; exact h5
  · unfold TC at *
    rw [e 0 (by omega), e 1 (by omega), e 2 (by omega), hf 25 (by omega)]; exact h6
theorem SM.sc {I' : Nat → Nat → Int32} {A : AS} {E : ES} (h : SM P I A E) (hk : kp scM I I') (h5 : k567 I I') : FM I I' ∧ SM P I' A E := by
  have hf : FM I I' := FM.of hk (by decide) (fun j hj => h5 j (fun c => hj (by rw [c]; decide)) (fun c => hj (by rw [c]; decide)) (fun c => hj (by rw [c]; decide)))
  refine ⟨hf, h.1.FM hf, ?_, ?_⟩
  · have := h.2.1
    unfold RM hiM TDM slM at *
    rw [hk 229 (by decide), h5 62 (by decide) (by decide) (by decide), h5 65 (by decide) (by decide) (by decide), hk 235 (by decide), hk 237 (by decide), hk 238 (by decide), hk 239 (by decide), hk 241 (by decide), hk 242 (by decide)]
    exact this
  · have := h.2.2
    unfold TM at *
    rw [h5 2 (by decide) (by decide) (by decide), hk 193 (by decide), h5 17 (by decide) (by decide) (by decide), hk 208 (by decide), hk 209 (by decide)]
    exact this
theorem cKK_of {n : Nat} {as : List Value} {v : Int32} {A : AS} {E : ES} (h : SC P I A E) (hq : CQ d n as I J v) : cKK d n as P I J v A E := by
  obtain ⟨I1, t1, t2⟩ := hq
  exact ⟨I1, t1, (h.sc t2).1, (h.sc t2).2⟩
theorem mKK_of {n : Nat} {as : List Value} {v : Int32} {A : AS} {E : ES} (h : SM P I A E) (hq : MQq d n as I J v) : mKK d n as P I J v A E := by
  obtain ⟨I1, t1, t2, t3⟩ := hq
  exact ⟨I1, t1, (h.sc t2 t3).1, (h.sc t2 t3).2⟩
theorem SC.cx {A : AS} {E : ES} (h : SC P I A E) : CX_39 P I A.1.2 := ⟨h.1, h.2.1.1.1, h.2.1.1.2.1, h.2.1.1.2.2.1, h.2.1.2.1.1⟩
theorem SM.nx {A : AS} {E : ES} (h : SM P I A E) : NX P I A.1.2 := ⟨h.1, h.2.1.1.1, h.2.1.1.2.1, h.2.1.1.2.2.1, h.2.1.2.1.1⟩
end QZ
