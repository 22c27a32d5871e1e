/-! ===== feed, back, place, cart, count ===== -/
section RF
variable {P : PP} {I : Nat → Nat → Int32} {J : Nat → Nat → Int64} {d : Nat} {A : AS} {E : ES}
theorem SC.tape {I' : Nat → Nat → Int32} {E' : ES} (h : SC P I A E) (hk : kp [1, 2] I I') (ht : TC I' E') : FC I I' ∧ SC P I' A E' := by
  have hf : FC I I' := FC.of hk (by decide)
  have e : ∀ k, 3 ≤ k → I' k = I k := fun k hc => hk k (by simp only [List.mem_cons, List.not_mem_nil, or_false]; omega)
  obtain ⟨hp, ⟨h1, h2, ⟨o, o1, o2, o3, o4, o5⟩, h4, h5⟩, h6⟩ := h
  refine ⟨hf, hp.FC hf, ⟨h1.cg (e _ (by omega)) (e _ (by omega)) (e _ (by omega)), h2, ⟨o, o1, by rw [e 45 (by omega)]; exact o2, by rw [e 45 (by omega)]; exact o3, o4, fun k hk => ⟨(o5 k hk).1, (o5 k hk).2.cg (e _ (by omega)) (e _ (by omega)) (e _ (by omega))⟩⟩, fun s hs => ?_, ?_⟩, ht⟩
  · have := h4 s hs
    unfold slC at *
    cases c : A.2.2.1 s with
    | none => rw [c] at this; dsimp only at *; rw [e 168 (by omega)]; exact this
    | some y => rw [c] at this; dsimp only at *; rw [e 168 (by omega)]; exact ⟨this.1, this.2.1, this.2.2.cg (e _ (by omega)) (e _ (by omega)) (e _ (by omega))⟩
  · unfold TDC at *
    rw [e 178 (by omega), e 179 (by omega), e 180 (by omega), e 181 (by omega)]; exact h5
theorem SM.tape {I' : Nat → Nat → Int32} {E' : ES} (h : SM P I A E) (hk : kp [192, 193] I I') (h5 : ∀ j, j ≠ 2 → I' 192 j = I 192 j) (ht : TM P I' E') : FM I I' ∧ SM P I' A E' := by
  have hf : FM I I' := FM.of hk (by decide) (fun j hj => h5 j (fun c => hj (by rw [c]; decide)))
  refine ⟨hf, h.1.FM hf, ?_, ht⟩
  have := h.2.1
  unfold RM hiM TDM slM at *
  rw [hk 229 (by decide), h5 62 (by decide), h5 65 (by decide), hk 235 (by decide), hk 237 (by decide), hk 238 (by decide), hk 239 (by decide), hk 241 (by decide), hk 242 (by decide)]
  exact this
def byK (x k : Int32) : Int32 := vp_nar .byte ((x >>> (k &&& 31)).toInt8.toInt32)
def pu1 (E : ES) (v : Int32) : ES := (E.1 + 1, upd E.2.1 E.1 v, E.2.2)
def pu4 (E : ES) (x : Int32) : ES := pu1 (pu1 (pu1 (pu1 E (byK x 24)) (byK x 16)) (byK x 8)) (byK x 0)
theorem SC.pu (h : SC P I A E) (hE : E.1 < 2000) (v : Int32) : FC I (p_wr (p_wr I 2 E.1 v) 1 1 (nI (E.1 + 1))) ∧ SC P (p_wr (p_wr I 2 E.1 v) 1 1 (nI (E.1 + 1))) A (pu1 E v) := by
  obtain ⟨q1, q2, q3, q4, q5, q6, q7⟩ := h.2.2
  refine h.tape ((kp.rf.wr (by decide)).wr (by decide)) ⟨by rw [wr_eq, pk_us]; rfl, by unfold pu1; dsimp only; omega, fun j hj => ?_, ?_, ?_, ?_, q7⟩
  · rw [wr_ne (by decide), wr_eq]
    unfold pu1 at hj ⊢
    dsimp only at hj ⊢
    by_cases c : j = E.1
    · subst c; rw [pk_us, pk_us]
    · rw [pk_un c, pk_un c]; exact q3 j (by omega)
  · rw [wr_ne (by decide), wr_ne (by decide)]; exact q4
  · rw [wr_ne (by decide), wr_ne (by decide)]; exact q5
  · rw [wr_ne (by decide), wr_ne (by decide)]; exact q6
theorem SM.pu (h : SM P I A E) (hE : E.1 < 2000) (v : Int32) : FM I (p_wr (p_wr I 193 E.1 v) 192 2 (nI (E.1 + 1))) ∧ SM P (p_wr (p_wr I 193 E.1 v) 192 2 (nI (E.1 + 1))) A (pu1 E v) := by
  obtain ⟨q1, q2, q3, q4, q5, q6, q7⟩ := h.2.2
  refine h.tape ((kp.rf.wr (by decide)).wr (by decide)) (fun j hj => by rw [wr_eq, pk_un hj, wr_ne (by decide)]) ⟨by rw [wr_eq, pk_us]; rfl, by unfold pu1; dsimp only; omega, fun j hj => ?_, ?_, ?_, ?_, q7⟩
  · rw [wr_ne (by decide), wr_eq]
    unfold pu1 at hj ⊢
    dsimp only at hj ⊢
    by_cases c : j = E.1
    · subst c; rw [pk_us, pk_us]
    · rw [pk_un c, pk_un c]; exact q3 j (by omega)
  · rw [wr_eq, pk_un (by decide), wr_ne (by decide)]; exact q4
  · rw [wr_ne (by decide), wr_ne (by decide)]; exact q5
  · rw [wr_ne (by decide), wr_ne (by decide)]; exact q6
theorem app1 {O : Ora} {n : Nat} (h : SC P I A E) (hE : E.1 < 2000) (x k : Int32) (hk : ¬ k < 0) : runS O none 3 T0 C_X9_append k_X9_append rtV f_X9_append (n + 1) 3 [.ref 1, .int x, .int k] [] (I, J) = runS O none 3 T0 C_X9_append k_X9_append rtV f_X9_append n 3 [.ref 1, .int x, .int (k + (-8))] [] (p_wr (p_wr I 2 E.1 (byK x k)) 1 1 (nI (E.1 + 1)), J) := by
  rw [runS_s, s_X9_append_3, if_neg hk, h.2.2.1, if_neg (show ¬ (2000 : Int32) ≤ nI (E.1) from nI_ge (a := E.1) (b := 2000) (by omega) (by omega)), chk_in hE (by omega), nI_clamp (by omega), nI_1]
  rfl
theorem put1 {O : Ora} {n : Nat} (h : SM P I A E) (hE : E.1 < 2000) (x k : Int32) (hk : ¬ k < 0) : runS O none 3 T0 C_X12_put k_X12_put rtV f_X12_put (n + 1) 3 [.ref 192, .int x, .int k] [] (I, J) = runS O none 3 T0 C_X12_put k_X12_put rtV f_X12_put n 3 [.ref 192, .int x, .int (k + (-8))] [] (p_wr (p_wr I 193 E.1 (byK x k)) 192 2 (nI (E.1 + 1)), J) := by
  rw [runS_s, s_X12_put_3, if_neg hk, h.2.2.1, chk_in hE (by omega), nI_clamp (by omega), nI_1]
  rfl
theorem ev_append (hd : 1 ≤ d) (h : SC P I A E) (hE : E.1 + 4 ≤ 2000) (x : Int32) : ∃ I', EV d T0 102 [.ref 1, .int x] (I, J) = some (none, (I', J)) ∧ FC I I' ∧ SC P I' A (pu4 E x) := by
  obtain ⟨d, rfl⟩ : ∃ z, d = z + 1 := ⟨d - 1, by omega⟩
  obtain ⟨f1, s1⟩ := h.pu (by omega) (byK x 24)
  obtain ⟨f2, s2⟩ := s1.pu (by unfold pu1; dsimp only; omega) (byK x 16)
  obtain ⟨f3, s3⟩ := s2.pu (by unfold pu1; dsimp only; omega) (byK x 8)
  obtain ⟨f4, s4⟩ := s3.pu (by unfold pu1; dsimp only; omega) (byK x 0)
  refine ⟨_, ?_, ((f1.tr f2).tr f3).tr f4, s4⟩
  rw [e_X9_append, runS_M, s_X9_append_0, show (999999 : Nat) = 999994 + 1 + 1 + 1 + 1 + 1 from rfl, app1 h (by omega) x 24 (by decide), show (24 : Int32) + (-8) = 16 from rfl, app1 s1 (by unfold pu1; dsimp only; omega) x 16 (by decide), show (16 : Int32) + (-8) = 8 from rfl, app1 s2 (by unfold pu1; dsimp only; omega) x 8 (by decide), show (8 : Int32) + (-8) = 0 from rfl, app1 s3 (by unfold pu1; dsimp only; omega) x 0 (by decide), runS_s, s_X9_append_3, if_pos (by decide)]
  rfl
theorem ev_put (hd : 1 ≤ d) (h : SM P I A E) (hE : E.1 + 4 ≤ 2000) (x : Int32) : ∃ I', EV d T0 168 [.ref 192, .int x] (I, J) = some (none, (I', J)) ∧ FM I I' ∧ SM P I' A (pu4 E x) := by
  obtain ⟨d, rfl⟩ : ∃ z, d = z + 1 := ⟨d - 1, by omega⟩
  obtain ⟨f1, s1⟩ := h.pu (by omega) (byK x 24)
  obtain ⟨f2, s2⟩ := s1.pu (by unfold pu1; dsimp only; omega) (byK x 16)
  obtain ⟨f3, s3⟩ := s2.pu (by unfold pu1; dsimp only; omega) (byK x 8)
  obtain ⟨f4, s4⟩ := s3.pu (by unfold pu1; dsimp only; omega) (byK x 0)
  refine ⟨_, ?_, ((f1.tr f2).tr f3).tr f4, s4⟩
  rw [e_X12_put, runS_M, s_X12_put_0, show (999999 : Nat) = 999994 + 1 + 1 + 1 + 1 + 1 from rfl, put1 h (by omega) x 24 (by decide), show (24 : Int32) + (-8) = 16 from rfl, put1 s1 (by unfold pu1; dsimp only; omega) x 16 (by decide), show (16 : Int32) + (-8) = 8 from rfl, put1 s2 (by unfold pu1; dsimp only; omega) x 8 (by decide), show (8 : Int32) + (-8) = 0 from rfl, put1 s3 (by unfold pu1; dsimp only; omega) x 0 (by decide), runS_s, s_X12_put_3, if_pos (by decide)]
  rfl
theorem pu4_1 (E : ES) (x : Int32) : (pu4 E x).1 = E.1 + 4 := rfl
def fdE (E : ES) (a b c e f : Int32) : ES := if E.1 + 20 ≤ 2000 then pu4 (pu4 (pu4 (pu4 (pu4 E a) b) c) e) f else E
def fdV (E : ES) : Int32 := if E.1 + 20 ≤ 2000 then nI (E.1 + 20) else -1
theorem c_feed (hd : 2 ≤ d) (h : SC P I A E) (a b c e f : Int32) : cKK d 120 [.ref 0, .int a, .int b, .int c, .int e, .int f] P I J (fdV E) A (fdE E a b c e f) := by
  obtain ⟨d, rfl⟩ : ∃ z, d = z + 2 := ⟨d - 2, by omega⟩
  have hE := h.2.2.2.1
  have q1 := h.2.2.1
  unfold cKK fdV fdE
  rw [e_X11_feed, runS_M, s_X11_feed_0, e_X9_hasRoomFor, runS_M, s_X9_hasRoomFor_0, q1, show nI E.1 + 20 = nI (E.1 + 20) from nI_add E.1 20]
  simp only [show ((2000 : Int32) < nI (E.1 + 20)) = (2000 < E.1 + 20) from lt_nI (a := 2000) (by omega) (by omega)]
  by_cases cc : E.1 + 20 ≤ 2000
  · simp only [if_pos cc]
    rw [if_neg (by omega)]
    obtain ⟨I1, t1, t2, t3⟩ := ev_append (d := d + 1) (J := J) (by omega) h (by omega) a
    obtain ⟨I2, u1, u2, u3⟩ := ev_append (d := d + 1) (J := J) (by omega) t3 (by rw [pu4_1]; omega) b
    obtain ⟨I3, v1, v2, v3⟩ := ev_append (d := d + 1) (J := J) (by omega) u3 (by rw [pu4_1, pu4_1]; omega) c
    obtain ⟨I4, w1, w2, w3⟩ := ev_append (d := d + 1) (J := J) (by omega) v3 (by rw [pu4_1, pu4_1, pu4_1]; omega) e
    obtain ⟨I5, y1, y2, y3⟩ := ev_append (d := d + 1) (J := J) (by omega) w3 (by rw [pu4_1, pu4_1, pu4_1, pu4_1]; omega) f
    refine ⟨I5, ?_, (((t2.tr u2).tr v2).tr w2).tr y2, y3⟩
    show p_ci (some (some (.int 1), (I, J))) _ = _
    rw [p_ci_s, if_neg (by decide), t1, p_cv_s, show (999999 : Nat) = 999996 + 1 + 1 + 1 from rfl, runS_s, s_X11_feed_22, u1, p_cv_s, v1, p_cv_s, runS_s, s_X11_feed_38, w1, p_cv_s, y1, p_cv_s, runS_s, s_X11_feed_56, y3.2.2.1]
    rfl
  · simp only [if_neg cc]
    rw [if_pos (by omega)]
    exact ⟨I, rfl, FC.rf, h⟩
theorem m_feed (hd : 2 ≤ d) (h : SM P I A E) (a b c e f : Int32) : mKK d 167 [.ref 192, .int a, .int b, .int c, .int e, .int f] P I J (fdV E) A (fdE E a b c e f) := by
  obtain ⟨d, rfl⟩ : ∃ z, d = z + 1 := ⟨d - 1, by omega⟩
  have hE := h.2.2.2.1
  have q1 := h.2.2.1
  unfold mKK fdV fdE
  rw [e_X12_feed, runS_M, s_X12_feed_0, q1, show nI E.1 + 20 = nI (E.1 + 20) from nI_add E.1 20]
  simp only [show (nI (E.1 + 20) ≤ (2000 : Int32)) = (E.1 + 20 ≤ 2000) from le_nI (b := 2000) (by omega) (by omega)]
  by_cases cc : E.1 + 20 ≤ 2000
  · simp only [if_pos cc]
    obtain ⟨I1, t1, t2, t3⟩ := ev_put (d := d) (J := J) (by omega) h (by omega) a
    obtain ⟨I2, u1, u2, u3⟩ := ev_put (d := d) (J := J) (by omega) t3 (by rw [pu4_1]; omega) b
    obtain ⟨I3, v1, v2, v3⟩ := ev_put (d := d) (J := J) (by omega) u3 (by rw [pu4_1, pu4_1]; omega) c
    obtain ⟨I4, w1, w2, w3⟩ := ev_put (d := d) (J := J) (by omega) v3 (by rw [pu4_1, pu4_1, pu4_1]; omega) e
    obtain ⟨I5, y1, y2, y3⟩ := ev_put (d := d) (J := J) (by omega) w3 (by rw [pu4_1, pu4_1, pu4_1, pu4_1]; omega) f
    refine ⟨I5, ?_, (((t2.tr u2).tr v2).tr w2).tr y2, y3⟩
    rw [t1, p_cv_s, u1, p_cv_s, show (999999 : Nat) = 999997 + 1 + 1 from rfl, runS_s, s_X12_feed_25, v1, p_cv_s, w1, p_cv_s, runS_s, s_X12_feed_36, y1, p_cv_s]
    dsimp only
    rw [y3.2.2.1]
    rfl
  · simp only [if_neg cc]
    exact ⟨I, rfl, FM.rf, h⟩
/-! back, place -/
def bkOK (E : ES) (a : Int32) : Bool := decide (¬ a < 0 ∧ a ≤ nI E.1)
def bkE (E : ES) (a : Int32) : ES := if bkOK E a = true then (E.1 - a.toNatClampNeg, E.2) else E
def bkV (E : ES) (a : Int32) : Int32 := if bkOK E a = true then nI (E.1 - a.toNatClampNeg) else -1
theorem bk_c (hE : E.1 ≤ 2000) {a : Int32} (h1 : ¬ a < 0) (h2 : a ≤ nI E.1) : ∃ m, m ≤ E.1 ∧ a = nI m := by
  have e0 : (0 : Int32).toInt = 0 := by decide
  rw [Int32.lt_iff_toInt_lt, e0] at h1
  rw [Int32.le_iff_toInt_le, nI_toInt (by omega)] at h2
  refine ⟨a.toInt.toNat, by omega, ?_⟩
  apply Int32.toInt_inj.mp
  rw [nI_toInt (by omega)]; omega
theorem c_back (hd : 1 ≤ d) (h : SC P I A E) (a : Int32) : cKK d 121 [.ref 0, .int a] P I J (bkV E a) A (bkE E a) := by
  obtain ⟨d, rfl⟩ : ∃ z, d = z + 1 := ⟨d - 1, by omega⟩
  have hE := h.2.2.2.1
  have q1 := h.2.2.1
  unfold cKK bkV bkE
  rw [e_X11_back, runS_M, s_X11_back_0, q1]
  by_cases c1 : a < 0
  · have hb : ¬ bkOK E a = true := fun h9 => (of_decide_eq_true h9).1 c1
    simp only [if_neg hb]
    rw [if_pos c1]; exact ⟨I, rfl, FC.rf, h⟩
  · by_cases c2 : a ≤ nI E.1
    · have hb : bkOK E a = true := decide_eq_true ⟨c1, c2⟩
      obtain ⟨m, hm, rfl⟩ := bk_c hE c1 c2
      simp only [if_pos hb, nI_clamp (show m < 2 ^ 31 by omega)]
      rw [if_neg c1, if_pos c2, pk_sub hm]
      obtain ⟨-, -, r3, r4, r5, r6, r7⟩ := h.2.2
      have h1 := h.tape (E' := (E.1 - m, E.2)) (I' := p_wr I 1 1 (nI (E.1 - m))) (kp.rf.wr (by decide)) ⟨by rw [wr_eq, pk_us], by dsimp only; omega, fun j hj => by rw [wr_ne (by decide)]; exact r3 j (by dsimp only at hj; omega), by rw [wr_ne (by decide)]; exact r4, by rw [wr_ne (by decide)]; exact r5, by rw [wr_ne (by decide)]; exact r6, r7⟩
      exact ⟨_, rfl, h1.1, h1.2⟩
    · have hb : ¬ bkOK E a = true := fun h9 => c2 (of_decide_eq_true h9).2
      simp only [if_neg hb]
      rw [if_neg c1, if_neg c2]; exact ⟨I, rfl, FC.rf, h⟩
theorem m_back (hd : 1 ≤ d) (h : SM P I A E) (a : Int32) : mKK d 169 [.ref 192, .int a] P I J (bkV E a) A (bkE E a) := by
  obtain ⟨d, rfl⟩ : ∃ z, d = z + 1 := ⟨d - 1, by omega⟩
  have hE := h.2.2.2.1
  have q1 := h.2.2.1
  unfold mKK bkV bkE
  rw [e_X12_back, runS_M, s_X12_back_0, q1]
  by_cases c1 : a < 0
  · have hb : ¬ bkOK E a = true := fun h9 => (of_decide_eq_true h9).1 c1
    simp only [if_neg hb]
    rw [if_pos c1]; exact ⟨I, rfl, FM.rf, h⟩
  · by_cases c2 : a ≤ nI E.1
    · have hb : bkOK E a = true := decide_eq_true ⟨c1, c2⟩
      obtain ⟨m, hm, rfl⟩ := bk_c hE c1 c2
      simp only [if_pos hb, nI_clamp (show m < 2 ^ 31 by omega)]
      rw [if_neg c1, if_pos c2, pk_sub hm]
      obtain ⟨-, -, r3, r4, r5, r6, r7⟩ := h.2.2
      have h1 := h.tape (E' := (E.1 - m, E.2)) (I' := p_wr I 192 2 (nI (E.1 - m))) (kp.rf.wr (by decide)) (fun j hj => by rw [wr_eq, pk_un hj]) ⟨by rw [wr_eq, pk_us], by dsimp only; omega, fun j hj => by rw [wr_ne (by decide)]; exact r3 j (by dsimp only at hj; omega), by rw [wr_eq, pk_un (by decide)]; exact r4, by rw [wr_ne (by decide)]; exact r5, by rw [wr_ne (by decide)]; exact r6, r7⟩
      exact ⟨_, rfl, h1.1, h1.2⟩
    · have hb : ¬ bkOK E a = true := fun h9 => c2 (of_decide_eq_true h9).2
      simp only [if_neg hb]
      rw [if_neg c1, if_neg c2]; exact ⟨I, rfl, FM.rf, h⟩
theorem c_place (hd : 1 ≤ d) (h : SC P I A E) : cKK d 123 [.ref 0] P I J E.2.2.1 A E := by
  obtain ⟨d, rfl⟩ : ∃ z, d = z + 1 := ⟨d - 1, by omega⟩
  refine ⟨I, ?_, FC.rf, h⟩
  rw [e_X11_place, runS_M, s_X11_place_0, h.2.2.2.2.2.1]; rfl
theorem m_place (hd : 1 ≤ d) (h : SM P I A E) : mKK d 185 [.ref 192] P I J E.2.2.1 A E := by
  obtain ⟨d, rfl⟩ : ∃ z, d = z + 1 := ⟨d - 1, by omega⟩
  refine ⟨I, ?_, FM.rf, h⟩
  rw [e_X12_place, runS_M, s_X12_place_0, h.2.2.2.2.2.1]; rfl
end RF
