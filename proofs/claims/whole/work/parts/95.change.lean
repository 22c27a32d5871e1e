/-! ===== calls that change what is: cut, unpick, send, weeks ===== -/
section RA
variable {P : PP} {I : Nat → Nat → Int32} {J : Nat → Nat → Int64} {d : Nat} {A : AS} {E : ES}
/-- what was is recorded; y is what is now -/
def pushA (A : AS) (y : YS) : AS := (y, (pshU A.2.1.1, pshH A.2.1.1 A.2.1.2 A.1), A.2.2)
def setS (y : YS) (e m : Nat) : YS := (y.1, (fun i => if i = e then m else y.2.1 i), y.2.2)
theorem SC.keep (hd : 2 ≤ d) (h : SC P I A E) : ∃ I', EV d T0 25 [.ref 45, .ref 39] (I, J) = some (none, (I', J)) ∧ FC I I' ∧ SC P I' (A.1, (pshU A.2.1.1, pshH A.2.1.1 A.2.1.2 A.1), A.2.2) E ∧ I' 39 = I 39 ∧ I' 40 = I 40 ∧ I' 41 = I 41 := by
  obtain ⟨hp, ⟨h1, h2, h3, h4, h5⟩, h6⟩ := h
  obtain ⟨I1, t1, t2, t3⟩ := ev_keep (d := d) (J := J) hd hp h1 h2 h3
  have hf : FC I I1 := FC.of t2 (by decide +kernel)
  refine ⟨I1, t1, hf, ⟨hp.FC hf, ⟨h1.cg (t2 39 (by decide)) (t2 40 (by decide)) (t2 41 (by decide)), h2, t3, fun s hs => ?_, ?_⟩, ?_⟩, t2 39 (by decide), t2 40 (by decide), t2 41 (by decide)⟩
  · have := h4 s hs
    have e : ∀ k, 167 ≤ k → I1 k = I k := fun k hk => t2 k (fun h9 => by
      unfold pastL at h9
      rcases List.mem_cons.mp h9 with c | c
      · omega
      · have := List.mem_range'_1.mp c; omega)
    unfold slC at *
    dsimp only
    cases c : A.2.2.1 s with
    | none => rw [c] at this; dsimp only at *; rw [e 168 (by omega)]; exact this
    | some y => rw [c] at this; dsimp only at *; rw [e 168 (by omega)]; exact ⟨this.1, this.2.1, this.2.2.cg (e _ (by omega)) (e _ (by omega)) (e _ (by omega))⟩
  · unfold TDC at *
    rw [t2 178 (by decide), t2 179 (by decide), t2 180 (by decide), t2 181 (by decide)]; exact h5
  · unfold TC at *
    rw [t2 0 (by decide), t2 1 (by decide), t2 2 (by decide), t2 25 (by decide)]; exact h6
def nowL : List Nat := [39, 40, 41, 37, 170, 173, 175, 176]
theorem SC.now {I' : Nat → Nat → Int32} {y : YS} (h : SC P I A E) (hk : kp nowL I I') (hy : stC P I' 39 y) (ho : okY P y) : FC I I' ∧ SC P I' (y, A.2) E := by
  have hf : FC I I' := FC.of hk (by decide)
  obtain ⟨hp, ⟨h1, h2, ⟨o, o1, o2, o3, o4, o5⟩, h4, h5⟩, h6⟩ := h
  have e : ∀ k, ((45 ≤ k ∧ k < 169) ∨ (178 ≤ k ∧ k < 182) ∨ (183 ≤ k ∧ k < 192) ∨ k < 3) → I' k = I k := fun k hc => hk k (fun h9 => by
    have := (by decide : ∀ k ∈ nowL, ¬ ((45 ≤ k ∧ k < 169) ∨ (178 ≤ k ∧ k < 182) ∨ (183 ≤ k ∧ k < 192) ∨ k < 3)) k h9
    exact this hc)
  refine ⟨hf, hp.FC hf, ⟨hy, ho, ⟨o, o1, by rw [e 45 (by omega)]; exact o2, by rw [e 45 (by omega)]; exact o3, o4, fun k hk => ⟨(o5 k hk).1, (o5 k hk).2.cg (e _ (by omega)) (e _ (by omega)) (e _ (by omega))⟩⟩, fun s hs => ?_, ?_⟩, ?_⟩
  · have := h4 s hs
    unfold slC at *
    dsimp only
    cases c : A.2.2.1 s with
    | none => rw [c] at this; dsimp only at *; rw [e 168 (by omega)]; exact this
    | some y => rw [c] at this; dsimp only at *; rw [e 168 (by omega)]; exact ⟨this.1, this.2.1, this.2.2.cg (e _ (by omega)) (e _ (by omega)) (e _ (by omega))⟩
  · unfold TDC at *
    rw [e 178 (by omega), e 179 (by omega), e 180 (by omega), e 181 (by omega)]; exact h5
  · unfold TC at *
    rw [e 0 (by omega), e 1 (by omega), e 2 (by omega), hf 25 (by omega)]; exact h6
theorem SM.rec (hd : 2 ≤ d) {y : YS} (h : SM P I A E) (hy : stM P (I 230) y) (ho : okY P y) : ∃ I', EV d T0 232 [.ref 192] (I, J) = some (none, (I', J)) ∧ FM I I' ∧ SM P I' (pushA A y) E ∧ (∀ j, j < 32 → I' 229 j = I 230 j) := by
  obtain ⟨hp, ⟨h1, h2, h3, h4, h5⟩, h6⟩ := h
  obtain ⟨I1, t1, t2, t3, t4, t5⟩ := ev_records (d := d) (J := J) hd hp h1 h2 h3
  have hf : FM I I1 := FM.of t2 (by decide) (fun j hj => t3 j (fun c => hj (by rw [c]; decide)))
  refine ⟨I1, t1, hf, ⟨hp.FM hf, ⟨hy.cg hp t5, ho, t4, fun s hs => ?_, ?_⟩, ?_⟩, t5⟩
  · have := h4 s hs
    unfold slM at *
    rw [t2 241 (by decide), t2 242 (by decide)]; exact this
  · unfold TDM at *
    rw [t3 65 (by decide), t2 237 (by decide), t2 238 (by decide), t2 239 (by decide)]; exact h5
  · unfold TM at *
    rw [t3 2 (by decide), t2 193 (by decide), t3 17 (by decide), t2 208 (by decide), t2 209 (by decide)]; exact h6
/-- the reference's row is what is now -/
theorem SM.row (hd : 1 ≤ d) (h : SM P I A E) : ∃ I', EV d T0 210 [.ref 192] (I, J) = some (none, (I', J)) ∧ FM I I' ∧ SM P I' A E ∧ stM P (I' 230) A.1 ∧ I' 192 56 = xe P ∧ I' 192 57 = 0 ∧ (∀ j, j < 32 → I' 230 j = I 229 j) := by
  obtain ⟨I1, t1, t2, t3, t4, t5, t6, t7⟩ := h.nx.row (d := d) (J := J) hd
  have hs := h.sc (t2.up (by decide)) t3
  exact ⟨I1, t1, hs.1, hs.2, h.2.1.1.cg h.1 t7, t4, t5, t7⟩
theorem stC.setS {y : YS} (h : stC P I 39 y) {e m : Nat} (hm : m ≤ 99) : stC P (p_wr I 40 e (nI m)) 39 (setS y e m) := by
  refine ⟨fun i hi => ?_, ?_, ?_, ?_⟩
  · show p_wr I 40 e (nI m) 40 i = _ ∧ _
    rw [wr_eq]
    show _ = nI (if i = e then m else y.2.1 i) ∧ (if i = e then m else y.2.1 i) ≤ 99
    by_cases c : i = e
    · subst c; rw [pk_us, if_pos rfl]; exact ⟨rfl, hm⟩
    · rw [pk_un c, if_neg c]; exact h.1 i hi
  · rw [wr_ne (by decide)]; exact h.2.1
  · show ctC P (p_wr I 40 e (nI m) 41) _; rw [wr_ne (by decide)]; exact h.2.2.1
  · rw [wr_ne (by decide)]; exact h.2.2.2
theorem stM.setS {y : YS} (hp : PlR P I) {g : Nat → Int32} (h : stM P g y) {e m : Nat} (he : e < xS P) (hm : m ≤ 99) : stM P (upd g e (nI m)) (setS y e m) := by
  have h10 := hp.S10
  refine ⟨fun i hi => ?_, ?_, fun c hc f hf => ?_, ?_⟩
  · show upd g e (nI m) i = nI (if i = e then m else y.2.1 i) ∧ (if i = e then m else y.2.1 i) ≤ 99
    by_cases c : i = e
    · subst c; rw [pk_us, if_pos rfl]; exact ⟨rfl, hm⟩
    · rw [pk_un c, if_neg c]; exact h.1 i hi
  · rw [pk_un (by omega)]; exact h.2.1
  · rw [pk_un (by omega)]; exact h.2.2.1 c hc f hf
  · rw [pk_un (by omega)]; exact h.2.2.2
/-! cut -/
def cutV (P : PP) (A : AS) (a : Int32) : Int32 := if oneOf a (xS P) = 0 then -1 else if A.1.2.1 a.toNatClampNeg = 0 then -2 else nI (A.1.2.1 a.toNatClampNeg)
def cutA (P : PP) (A : AS) (a : Int32) : AS := if oneOf a (xS P) = 0 then A else if A.1.2.1 a.toNatClampNeg = 0 then A else pushA A (setS A.1 a.toNatClampNeg 0)
theorem c_cut (hd : 3 ≤ d) (h : SC P I A E) (a : Int32) : cKK d 128 [.ref 0, .int a] P I J (cutV P A a) (cutA P A a) E := by
  obtain ⟨d, rfl⟩ : ∃ z, d = z + 1 := ⟨d - 1, by omega⟩
  have h10 := h.1.S10
  unfold cKK cutV cutA
  rw [e_X11_cut, runS_M, s_X11_cut_0, q_seam (by omega) h.1, p_ci_s]
  rcases oneOf_c (a := a) (N := xS P) (by omega) with e | ⟨e, i, hi, rfl⟩
  · simp only [if_pos e]; exact ⟨I, rfl, FC.rf, h⟩
  have hne : ¬ oneOf (nI i) (xS P) = 0 := by rw [e]; decide
  have hs := h.2.1.1.1 i hi
  have hs1 : I 40 i = nI (A.1.2.1 i) := hs.1
  simp only [if_neg hne, nI_clamp (show i < 2 ^ 31 by omega)]
  rw [chk_in (by omega) (by omega)]
  simp only [hs1, eq0_nI (show A.1.2.1 i < 2 ^ 31 by have := hs.2; omega)]
  by_cases c : A.1.2.1 i = 0
  · simp only [if_pos c]; exact ⟨I, rfl, FC.rf, h⟩
  simp only [if_neg c]
  obtain ⟨I1, t1, t2, t3, -, -, -⟩ := h.keep (d := d) (J := J) (by omega)
  have k1 : kp nowL I1 (p_wr I1 40 i (nI 0)) := kp.rf.wr (by decide)
  have h3 := t3.now k1 (t3.2.1.1.setS (e := i) (m := 0) (by omega)) ⟨h.2.1.2.1.1, h.2.1.2.1.2⟩
  refine ⟨_, ?_, t2.tr h3.1, h3.2⟩
  rw [t1, p_cv_s, show (999999 : Nat) = 999998 + 1 from rfl, runS_s, s_X11_cut_38, chk_in (by omega) (by omega), nI_clamp (by omega)]
  rfl
theorem m_cut (hd : 3 ≤ d) (h : SM P I A E) (a : Int32) : mKK d 234 [.ref 192, .int a] P I J (cutV P A a) (cutA P A a) E := by
  obtain ⟨d, rfl⟩ : ∃ z, d = z + 1 := ⟨d - 1, by omega⟩
  have h10 := h.1.S10
  unfold mKK cutV cutA
  rw [e_X12_cut, runS_M, s_X12_cut_0, q_seamR (by omega) h.1, p_ci_s]
  rcases oneOf_c (a := a) (N := xS P) (by omega) with e | ⟨e, i, hi, rfl⟩
  · simp only [if_pos e]; exact ⟨I, rfl, FM.rf, h⟩
  have hne : ¬ oneOf (nI i) (xS P) = 0 := by rw [e]; decide
  have hs := h.2.1.1.1 i hi
  simp only [if_neg hne, nI_clamp (show i < 2 ^ 31 by omega)]
  rw [chk_in (by omega) (by omega)]
  simp only [hs.1, eq0_nI (show A.1.2.1 i < 2 ^ 31 by have := hs.2; omega)]
  by_cases c : A.1.2.1 i = 0
  · simp only [if_pos c]; exact ⟨I, rfl, FM.rf, h⟩
  simp only [if_neg c]
  obtain ⟨I1, t1, t2, t3, t4, -, -, -⟩ := h.row (d := d) (J := J) (by omega)
  have k1 : kp scM I1 (p_wr I1 230 i (nI 0)) := kp.rf.wr (by decide)
  have f1 : k567 I1 (p_wr I1 230 i (nI 0)) := k567.kp (X := [230]) (kp.rf.wr (by decide)) (by decide)
  have h2 := t3.sc k1 f1
  obtain ⟨I2, u1, u2, u3, -⟩ := h2.2.rec (d := d) (J := J) (by omega) (y := setS A.1 i 0) (by rw [wr_eq]; exact t4.setS h.1 hi (by omega)) ⟨h.2.1.2.1.1, h.2.1.2.1.2⟩
  refine ⟨I2, ?_, (t2.tr h2.1).tr u2, u3⟩
  have e4 : I1 230 i = nI (A.1.2.1 i) := (t4.1 i hi).1
  rw [t1, p_cv_s, show (999999 : Nat) = 999998 + 1 from rfl, runS_s, s_X12_cut_26, chk_in (by omega) (by omega), chk_in (by omega) (by omega), nI_clamp (by omega), e4]
  have u1' : EV d T0 232 [.ref 192] (p_wr I1 230 i 0, J) = _ := u1
  rw [u1', p_cv_s]
  rfl
/-! unpick -/
def unN (s n : Nat) : Nat := if s < n then s else n
def unT (m : Nat) : Nat := if m < 9999 then m else 9999
def setT (y : YS) (t : Int32) : YS := (t, y.2)
def unY (A : AS) (i n : Nat) : YS := setT (setS A.1 i (A.1.2.1 i - unN (A.1.2.1 i) n)) (nI (unT (A.1.1.toNatClampNeg + unN (A.1.2.1 i) n)))
def unV (P : PP) (A : AS) (a b : Int32) : Int32 := if oneOf a (xS P) = 0 then -1 else if zI (¬ b < 1 ∧ ¬ 99 < b) = 0 then -1 else if A.1.2.1 a.toNatClampNeg = 0 then -2 else (unY A a.toNatClampNeg b.toNatClampNeg).1
def unA (P : PP) (A : AS) (a b : Int32) : AS := if oneOf a (xS P) = 0 then A else if zI (¬ b < 1 ∧ ¬ 99 < b) = 0 then A else if A.1.2.1 a.toNatClampNeg = 0 then A else pushA A (unY A a.toNatClampNeg b.toNatClampNeg)
theorem un_ok (h : okY P A.1) (i n : Nat) : okY P (unY A i n) := ⟨h.1, _, (by unfold unT; split <;> omega : unT _ ≤ 9999), rfl⟩
theorem stC.setT {y : YS} (h : stC P I 39 y) (t : Int32) : stC P (p_wr I 39 1 t) 39 (setT y t) :=
  ⟨by show swR P (p_wr I 39 1 t 40) _; rw [wr_ne (by decide)]; exact h.1, by rw [wr_eq, pk_un (by decide)]; exact h.2.1, by show ctC P (p_wr I 39 1 t 41) _; rw [wr_ne (by decide)]; exact h.2.2.1, by rw [wr_eq, pk_us]; rfl⟩
theorem stM.setT {y : YS} (hp : PlR P I) {g : Nat → Int32} (h : stM P g y) (t : Int32) : stM P (upd g 30 t) (setT y t) := by
  have h10 := hp.S10
  have hC := hp.C4
  refine ⟨fun i hi => ?_, ?_, fun c hc f hf => ?_, ?_⟩
  · rw [pk_un (by omega)]; exact h.1 i hi
  · rw [pk_un (by omega)]; exact h.2.1
  · rw [pk_un (by omega)]; exact h.2.2.1 c hc f hf
  · rw [pk_us]; rfl
theorem unT_C {m : Nat} (hm : m < 20000) : (if nI m < (9999 : Int32) then nI m else 9999) = nI (unT m) := by
  simp only [show (nI m < (9999 : Int32)) = (m < 9999) from lt_nI (b := 9999) (by omega) (by omega)]
  unfold unT
  by_cases c : m < 9999
  · rw [if_pos c, if_pos c]
  · rw [if_neg c, if_neg c]; rfl
theorem ev_held9 (hd : 1 ≤ d) {m : Nat} (hm : m < 20000) (ij : IJ) : EV d T0 204 [.int (nI m), .int 0, .int 9999] ij = some (some (.int (nI (unT m))), ij) := by
  obtain ⟨d, rfl⟩ : ∃ z, d = z + 1 := ⟨d - 1, by omega⟩
  obtain ⟨I, J⟩ := ij
  rw [e_X12_held, runS_M, s_X12_held_0, if_pos (show (0 : Int32) ≤ nI (m) from nI_le (a := 0) (b := m) (by omega) (by omega))]
  simp only [show (nI m ≤ (9999 : Int32)) = (m ≤ 9999) from le_nI (b := 9999) (by omega) (by omega)]
  unfold unT
  by_cases c : m < 9999
  · rw [if_pos (by omega), if_pos c]; rfl
  · rw [if_neg c]
    by_cases c2 : m ≤ 9999
    · rw [if_pos c2, show m = 9999 by omega]; rfl
    · rw [if_neg c2]; rfl
theorem un_C {s n : Nat} (hs : s ≤ 99) (hn : n ≤ 99) : (if nI s < nI n then nI s else nI n) = nI (unN s n) := by
  simp only [lt_nI (show s < 2 ^ 31 by omega) (show n < 2 ^ 31 by omega)]
  unfold unN
  by_cases c : s < n
  · rw [if_pos c, if_pos c]
  · rw [if_neg c, if_neg c]
theorem c_unpick (hd : 3 ≤ d) (h : SC P I A E) (a b : Int32) : cKK d 129 [.ref 0, .int a, .int b] P I J (unV P A a b) (unA P A a b) E := by
  obtain ⟨d, rfl⟩ : ∃ z, d = z + 1 := ⟨d - 1, by omega⟩
  have h10 := h.1.S10
  unfold cKK unV unA
  rw [e_X11_unpick, runS_M, s_X11_unpick_0, q_seam (by omega) h.1, p_ci_s]
  rcases oneOf_c (a := a) (N := xS P) (by omega) with e | ⟨e, i, hi, rfl⟩
  · simp only [if_pos e]; exact ⟨I, rfl, FC.rf, h⟩
  have hne : ¬ oneOf (nI i) (xS P) = 0 := by rw [e]; decide
  simp only [if_neg hne]
  rw [q_within (by omega), p_ci_s]
  rcases in_c (n := b) (lo := 1) (hi := 99) (l := 1) (h := 99) rfl rfl (by omega) (by omega) with e2 | ⟨e2, n, n1, n2, rfl⟩
  · simp only [if_pos e2]; exact ⟨I, rfl, FC.rf, h⟩
  have hne2 : ¬ zI (¬ nI n < (1 : Int32) ∧ ¬ (99 : Int32) < nI n) = 0 := by rw [e2]; decide
  have hs := h.2.1.1.1 i hi
  have hs1 : I 40 i = nI (A.1.2.1 i) := hs.1
  have hle := hs.2
  simp only [if_neg hne2, nI_clamp (show i < 2 ^ 31 by omega), nI_clamp (show n < 2 ^ 31 by omega)]
  rw [show (999999 : Nat) = 999997 + 1 + 1 from rfl, runS_s, s_X11_unpick_20, chk_in (by omega) (by omega), nI_clamp (by omega)]
  simp only [hs1, eq0_nI (show A.1.2.1 i < 2 ^ 31 by omega)]
  by_cases c : A.1.2.1 i = 0
  · simp only [if_pos c]; exact ⟨I, rfl, FC.rf, h⟩
  simp only [if_neg c]
  obtain ⟨I1, t1, t2, t3, q1, q2, q3⟩ := h.keep (d := d) (J := J) (by omega)
  obtain ⟨T, hT, eT⟩ := h.2.1.2.1.2
  have hu : unN (A.1.2.1 i) n ≤ A.1.2.1 i ∧ unN (A.1.2.1 i) n ≤ n := by unfold unN; split <;> omega
  have x1 : I1 40 i = nI (A.1.2.1 i) := by rw [q2]; exact hs1
  have x2 : I1 39 1 = nI T := by rw [q1, ← eT]; exact h.2.1.1.2.2.2
  let I2 := p_wr (p_wr I1 40 i (nI (A.1.2.1 i - unN (A.1.2.1 i) n))) 39 1 (nI (unT (T + unN (A.1.2.1 i) n)))
  have k1 : kp nowL I1 I2 := (kp.rf.wr (by decide)).wr (by decide)
  have hY : unY A i n = setT (setS A.1 i (A.1.2.1 i - unN (A.1.2.1 i) n)) (nI (unT (T + unN (A.1.2.1 i) n))) := by unfold unY; rw [eT, nI_clamp (by omega)]
  have h3 := t3.now (y := unY A i n) k1 (by rw [hY]; exact (t3.2.1.1.setS (by omega)).setT _) (un_ok h.2.1.2.1 i n)
  refine ⟨I2, ?_, t2.tr h3.1, h3.2⟩
  have hp : ∀ z : Option Rs, p_chk (p_in (nI i) 10) z = z := fun z => chk_in (by omega) (by omega)
  rw [t1, p_cv_s, hp, hp, hp]
  simp only [x1, un_C hle n2, pk_sub (show unN (A.1.2.1 i) n ≤ A.1.2.1 i from hu.1)]
  rw [runS_s, s_X11_unpick_73]
  have x3 : p_wr I1 40 i (nI (A.1.2.1 i - unN (A.1.2.1 i) n)) 39 1 = nI T := by rw [wr_ne (by decide)]; exact x2
  rw [x3, nI_add, unT_C (by omega), hY]
  rfl
theorem m_unpick (hd : 3 ≤ d) (h : SM P I A E) (a b : Int32) : mKK d 235 [.ref 192, .int a, .int b] P I J (unV P A a b) (unA P A a b) E := by
  obtain ⟨d, rfl⟩ : ∃ z, d = z + 1 := ⟨d - 1, by omega⟩
  have h10 := h.1.S10
  unfold mKK unV unA
  rw [e_X12_unpick, runS_M, s_X12_unpick_0, q_seamR (by omega) h.1, p_ci_s]
  rcases oneOf_c (a := a) (N := xS P) (by omega) with e | ⟨e, i, hi, rfl⟩
  · simp only [if_pos e]; exact ⟨I, rfl, FM.rf, h⟩
  have hne : ¬ oneOf (nI i) (xS P) = 0 := by rw [e]; decide
  simp only [if_neg hne]
  rw [q_in (by omega), p_ci_s]
  rcases in_c (n := b) (lo := 1) (hi := 99) (l := 1) (h := 99) rfl rfl (by omega) (by omega) with e2 | ⟨e2, n, n1, n2, rfl⟩
  · simp only [if_pos e2]; exact ⟨I, rfl, FM.rf, h⟩
  have hne2 : ¬ zI (¬ nI n < (1 : Int32) ∧ ¬ (99 : Int32) < nI n) = 0 := by rw [e2]; decide
  have hs := h.2.1.1.1 i hi
  have hle := hs.2
  simp only [if_neg hne2, nI_clamp (show i < 2 ^ 31 by omega), nI_clamp (show n < 2 ^ 31 by omega)]
  rw [show (999999 : Nat) = 999996 + 1 + 1 + 1 from rfl, runS_s, s_X12_unpick_20, chk_in (by omega) (by omega), nI_clamp (by omega)]
  simp only [hs.1, eq0_nI (show A.1.2.1 i < 2 ^ 31 by omega)]
  by_cases c : A.1.2.1 i = 0
  · simp only [if_pos c]; exact ⟨I, rfl, FM.rf, h⟩
  simp only [if_neg c]
  obtain ⟨I1, t1, t2, t3, t4, -, -, -⟩ := h.row (d := d) (J := J) (by omega)
  obtain ⟨T, hT, eT⟩ := h.2.1.2.1.2
  have hu : unN (A.1.2.1 i) n ≤ A.1.2.1 i ∧ unN (A.1.2.1 i) n ≤ n := by unfold unN; split <;> omega
  have x1 : I1 230 i = nI (A.1.2.1 i) := (t4.1 i hi).1
  have x2 : I1 230 30 = nI T := by rw [← eT]; exact t4.2.2.2
  have hY : unY A i n = setT (setS A.1 i (A.1.2.1 i - unN (A.1.2.1 i) n)) (nI (unT (T + unN (A.1.2.1 i) n))) := by unfold unY; rw [eT, nI_clamp (by omega)]
  let I2 := p_wr (p_wr I1 230 i (nI (A.1.2.1 i - unN (A.1.2.1 i) n))) 230 30 (nI (unT (T + unN (A.1.2.1 i) n)))
  have k1 : kp [230] I1 I2 := (kp.rf.wr (by decide)).wr (by decide)
  have h2 := t3.sc (k1.up (by decide)) (k567.kp k1 (by decide))
  obtain ⟨I3, u1, u2, u3, u4⟩ := h2.2.rec (d := d) (J := J) (by omega) (y := unY A i n) (by
    show stM P (p_wr (p_wr I1 230 i _) 230 30 _ 230) _
    rw [hY, wr_eq, wr_eq]; exact (t4.setS h.1 hi (by omega)).setT h.1 _) (un_ok h.2.1.2.1 i n)
  refine ⟨I3, ?_, (t2.tr h2.1).tr u2, u3⟩
  have hp : ∀ z : Option Rs, p_chk (p_in (nI i) 32) z = z := fun z => chk_in (by omega) (by omega)
  have x3 : p_wr I1 230 i (nI (A.1.2.1 i - unN (A.1.2.1 i) n)) 230 30 = nI T := by rw [wr_eq, pk_un (by omega)]; exact x2
  have tail : runS (EV d) none 4 T0 C_X12_unpick k_X12_unpick rtI f_X12_unpick (999996 + 1 + 1) 67 [.ref 192, un, un, .int (nI (unN (A.1.2.1 i) n))] [] (p_wr I1 230 i (nI (A.1.2.1 i - unN (A.1.2.1 i) n)), J) = some (some (.int (unY A i n).1), (I3, J)) := by
    rw [runS_s, s_X12_unpick_67, x3, nI_add, ev_held9 (by omega) (by omega), p_ci_s]
    dsimp only
    have u1' : EV d T0 232 [.ref 192] (p_wr (p_wr I1 230 i (nI (A.1.2.1 i - unN (A.1.2.1 i) n))) 230 30 (nI (unT (T + unN (A.1.2.1 i) n))), J) = _ := u1
    rw [u1', p_cv_s, runS_s, s_X12_unpick_94, u3.2.1.1.2.2.2]
    rfl
  rw [t1, p_cv_s, hp, hp, hp, hp, hp]
  simp only [x1, le_nI (show A.1.2.1 i < 2 ^ 31 by omega) (show n < 2 ^ 31 by omega)]
  by_cases c2 : A.1.2.1 i ≤ n
  · have e9 : unN (A.1.2.1 i) n = A.1.2.1 i := by unfold unN; split <;> omega
    rw [if_pos c2, pk_sub (Nat.le_refl _)]
    rw [e9] at tail; exact tail
  · have e9 : unN (A.1.2.1 i) n = n := by unfold unN; split <;> omega
    rw [if_neg c2, hp, pk_sub (show n ≤ A.1.2.1 i by omega)]
    rw [e9] at tail; exact tail
end RA
