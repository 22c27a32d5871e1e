/-! ===== the literals, carried along ===== -/
def SG (ad : Nat → Nat) (A : Nat → Prop) (U : State) (H : Heap) : Prop := SGs ad A U H ∧ vk_R "SewnRoads$Tokens" 29 tx1 (ad 100001) U ∧ vk_R "SewnRoads$Tokens" 78 tx2 (ad 100003) U
theorem SGs.ad {ad ad' : Nat → Nat} {A : Nat → Prop} {U : State} {H : Heap} (h : SGs ad A U H) (had : ∀ k, 100000 ≤ k → ad' k = ad k) : SGs ad' A U H := by
  have e1 : (fun i => ad' (100001 + 2 * i)) = (fun i => ad (100001 + 2 * i)) := funext (fun i => had _ (by omega))
  have e2 : (fun i => ad' (100002 + 2 * i)) = (fun i => ad (100002 + 2 * i)) := funext (fun i => had _ (by omega))
  unfold SGs at h ⊢
  rw [e1, e2]
  exact h
theorem SG.go {ad ad' : Nat → Nat} {A B : Nat → Prop} {s U : State} {H0 H : Heap} (h : SG ad A s H0) (hW : s.WarmedH U.vm) (hq : ∀ a : Nat, a < H0.size → ¬ A a → H[a]? = H0[a]?) (hAB : ∀ q, B q → A q) (had : ∀ k, 100000 ≤ k → ad' k = ad k) : SG ad' B U H := by
  refine ⟨(h.1.go hW.alike hq hAB).ad had, ?_, ?_⟩
  · rw [had _ (by decide)]; exact h.2.1.warm hW
  · rw [had _ (by decide)]; exact h.2.2.warm hW
theorem SG.same {ad : Nat → Nat} {A : Nat → Prop} {u U : State} {H : Heap} (hv : U.vm = u.vm) (h : SG ad A u H) : SG ad A U H :=
  ⟨h.1.go (by rw [hv]; exact Vm.Alike.refl u.vm) (fun _ _ _ => rfl) (fun _ h => h), h.2.1.same hv, h.2.2.same hv⟩
/-! ===== calls of methods that have a contract ===== -/
def p_wd (D : va_G) (aT : Nat → ClassId) (ad : Nat → Nat) (T : PT) (ij : IJ) (U : State) : Prop := va_P D vwCl (p_ws aT ad T ij) U.heap ∧ va_K D vwCl (p_tys aT) U ∧ va_D (fun _ => True) (p_ws aT ad T ij) ∧ (∀ k j, T.2.2.2 k j ≤ T.1) ∧ (∀ w ∈ nws, va_Nw w U) ∧ SG ad (va_A (p_ws aT ad T ij) U.heap.size) U U.heap
def p_B (D : va_G) (aT : Nat → ClassId) (ad : Nat → Nat) (T : PT) (A1 : Nat → Prop) (ij : IJ) (_ : Unit) (t : State) : Prop := va_P D vwCl (p_ws aT ad T ij) t.heap ∧ va_D A1 (p_ws aT ad T ij)
def p_Q (D : va_G) (aT : Nat → ClassId) (ad : Nat → Nat) (T : PT) (A1 : Nat → Prop) (r : Rs) : Array Value → State → Outcome → State → Prop := match r.1 with
  | none => va_Qv (fun _ => True) (p_B D aT ad T A1 r.2) A1
  | some (.int v) => va_Qi (fun x _ => x = v) (p_B D aT ad T A1 r.2) A1
  | some (.long v) => va_Ql (fun x _ => x = v) (p_B D aT ad T A1 r.2) A1
  | _ => fun _ _ _ _ => False
def p_rm (d : Nat) : Room := { frames := d + 4, cells := 0, slots := 0, locals := 64 * (d + 4) }
/-- the contract of method y at height d: in the world of T, ij, with these arguments it returns r -/
def MetC (l : Launch) (d y : Nat) (T : PT) (as : List Value) (ij : IJ) (r : Rs) : Prop := ∀ (D : va_G) (aT : Nat → ClassId) (ad : Nat → Nat) (sz : Nat),
  Met l (mN y) (Cond.code (mN y) (mB y) (mL y) (mR y) :: gtb) (p_rm d) (va_Pc (as.map (sv ad)) (fun U => U.heap.size = sz ∧ p_wd D aT ad T ij U)) (p_Q D aT ad T (va_A (p_ws aT ad T ij) sz) r) 0 0 (va_A (p_ws aT ad T ij) sz)
theorem gtb_cons {y : Nat} (h : mF y) : GoodIn gtb (Cond.code (mN y) (mB y) (mL y) (mR y) :: gtb) := by
  intro w hw
  rcases List.mem_cons.mp hw with rfl | hw
  · exact gtb_good _ h.1
  · exact gtb_good _ hw
set_option maxRecDepth 100000 in
theorem rm_ar {d q a b : Nat} (hR : d + 5 ≤ a ∧ 64 * (d + 5) ≤ b) (hq : q ≤ 40) : d + 4 + 1 ≤ a ∧ 8 + (q + 11) + 64 * (d + 4) ≤ b := by
  obtain ⟨h1, h2⟩ := hR
  exact ⟨by omega, by omega⟩
section PC
variable {p : Program} {l : Launch} {e : Env} {R : Room} {s : State} {m : MethodId} {args : Array Value} {below : List Frame} {meth : Method} {c : Code} {Q : State → Prop} {cc : ByteArray} {own : String}
variable {D : va_G} {aT : Nat → ClassId} {A : Nat → Prop} {H0 : Heap} {ad0 : Nat → Nat} {N0 S0 : Nat} {pc : Nat} {L st : List Value} {T : PT} {ij : IJ} {α : Type} {r : α} {d : Nat}
theorem blind_wd {av : List Value} {sz : Nat} : FrameBlind (va_Pc av (fun U => U.heap.size = sz ∧ p_wd D aT ad0 T ij U)) := by
  intro a U g mk q
  obtain ⟨q0, q1, qP, qK, qD, qT, qN, qG⟩ := q
  exact ⟨q0, q1, qP, va_K.moved (u := U) (U := U.calling g mk a) (Vm.Alike.refl U.vm) qK, qD, qT, nws_same (u := U) (U := U.calling g mk a) rfl qN, SG.same (u := U) (U := U.calling g mk a) rfl qG⟩
theorem in_A {ad : Nat → Nat} {H : Heap} {locs : List Loc} (hAq : ∀ q, H0.size ≤ q → A q) (hD : va_D A (p_ws aT ad T ij)) (hS : va_S A H0 H locs) : ∀ q, va_A (p_ws aT ad T ij) H.size q → A q := by
  intro q hq
  rcases hq with ⟨k, E, hk⟩ | hq
  · exact hD.2 k _ hk
  · exact hAq q (Nat.le_trans hS.1 hq)
theorem g_out {k : List Value → IJ → Option α} {rk : Nat} {o : Option Rs} {rest : List Value} (hAq : ∀ q, H0.size ≤ q → A q)
    (hrun : ∀ r0, o = some r0 → ∀ ad H locs cells slots ls, p_ok D aT A H0 ad0 N0 S0 T ij ad H locs cells slots → pl_has ad ls L → ∃ a9 : Array Value, va_Run p l e R s m args below meth c H locs cells slots 0 0 (F0 m pc ls (st.map (sv ad))) (rest.map (sv ad)) (p_Q D aT ad T (va_A (p_ws aT ad T ij) H.size) r0 a9) (va_A (p_ws aT ad T ij) H.size))
    (h : p_out k rk o rest = some r) (hk : ∀ st' ij', k st' ij' = some r → GW (fun H locs cells slots g => W p l e R s m args below meth c H locs cells slots Q g) m (p_ok D aT A H0 ad0 N0 S0) (pc + 3) L st' T ij') : GW (fun H locs cells slots g => W p l e R s m args below meth c H locs cells slots Q g) m (p_ok D aT A H0 ad0 N0 S0) pc L st T ij := by
  unfold p_out at h
  split at h
  · unfold p_cv at h
    split at h
    · rename_i ij'
      intro ad H locs cells slots ls ho hl
      obtain ⟨a9, hr⟩ := hrun _ rfl ad H locs cells slots ls ho hl
      have hr' : va_Run p l e R s m args below meth c H locs cells slots 0 0 (F0 m pc ls (st.map (sv ad))) (rest.map (sv ad)) (va_Qv (fun _ => True) (p_B D aT ad T (va_A (p_ws aT ad T ij) H.size) ij') (va_A (p_ws aT ad T ij) H.size) a9) (va_A (p_ws aT ad T ij) H.size) := hr
      have hin := in_A hAq ho.2.1 ho.2.2.2.1
      refine va_callv hr' ho.2.2.2.1 (fun q _ h => hin q h) hin (fun u t H1 locs1 ht hvm hp hB hz hk1 hS => ?_)
      obtain ⟨hP, hD⟩ := hB
      rw [ht] at hP
      exact hk _ _ h ad H1 locs1 cells slots ls ⟨hP, hD.weaken (fun _ q _ hq => hin q.1 hq), ho.2.2.1, hS, ho.2.2.2.2⟩ hl
    · cases h
  · unfold p_ci at h
    split at h
    · rename_i v ij'
      intro ad H locs cells slots ls ho hl
      obtain ⟨a9, hr⟩ := hrun _ rfl ad H locs cells slots ls ho hl
      have hr' : va_Run p l e R s m args below meth c H locs cells slots 0 0 (F0 m pc ls (st.map (sv ad))) (rest.map (sv ad)) (va_Qi (fun x _ => x = v) (p_B D aT ad T (va_A (p_ws aT ad T ij) H.size) ij') (va_A (p_ws aT ad T ij) H.size) a9) (va_A (p_ws aT ad T ij) H.size) := hr
      have hin := in_A hAq ho.2.1 ho.2.2.2.1
      refine va_calli hr' ho.2.2.2.1 (fun q _ h => hin q h) hin (fun x u t H1 locs1 ht hvm hp hB hz hk1 hS => ?_)
      obtain ⟨hP, hD⟩ := hB
      rw [ht] at hP
      subst hp
      exact hk _ _ h ad H1 locs1 cells slots ls ⟨hP, hD.weaken (fun _ q _ hq => hin q.1 hq), ho.2.2.1, hS, ho.2.2.2.2⟩ hl
    · cases h
  · unfold p_cl at h
    split at h
    · rename_i v ij'
      intro ad H locs cells slots ls ho hl
      obtain ⟨a9, hr⟩ := hrun _ rfl ad H locs cells slots ls ho hl
      have hr' : va_Run p l e R s m args below meth c H locs cells slots 0 0 (F0 m pc ls (st.map (sv ad))) (rest.map (sv ad)) (va_Ql (fun x _ => x = v) (p_B D aT ad T (va_A (p_ws aT ad T ij) H.size) ij') (va_A (p_ws aT ad T ij) H.size) a9) (va_A (p_ws aT ad T ij) H.size) := hr
      have hin := in_A hAq ho.2.1 ho.2.2.2.1
      refine va_calll hr' ho.2.2.2.1 (fun q _ h => hin q h) hin (fun x u t H1 locs1 ht hvm hp hB hz hk1 hS => ?_)
      obtain ⟨hP, hD⟩ := hB
      rw [ht] at hP
      subst hp
      exact hk _ _ h ad H1 locs1 cells slots ls ⟨hP, hD.weaken (fun _ q _ hq => hin q.1 hq), ho.2.2.1, hS, ho.2.2.2.2⟩ hl
    · cases h
theorem st_split {ad : Nat → Nat} {b : Nat} : st.map (sv ad) = ((st.take b).reverse.map (sv ad)).reverse ++ (st.drop b).map (sv ad) := by
  rw [← List.map_reverse, List.reverse_reverse, ← List.map_append, List.take_append_drop]
theorem mc_room {y : Nat} (h : mF y) (hR : d + 5 ≤ R.frames ∧ 64 * (d + 5) ≤ R.locals) : (p_rm d).frames + 1 ≤ R.frames ∧ 8 + (mL y + 11) + (p_rm d).locals ≤ R.locals := by
  exact rm_ar hR h.2.2.2.1
theorem g_callS {O : Ora} {k : List Value → IJ → Option α} {y b rk idx : Nat} (hx : p.tables.exec = Jvm.exec) (hb : c.code = cc) (hml : c.maxLocals = L.length) (hown : s.vm.findClass own = some m.cls) (hts : ∀ w ∈ gtb, w.before args s = true) (hK : va_K D vwCl (p_tys aT) s) (hN : ∀ w ∈ nws, va_Nw w s) (hG : SG ad0 A s H0) (hAq : ∀ q, H0.size ≤ q → A q)
    (hR : d + 5 ≤ R.frames ∧ 64 * (d + 5) ≤ R.locals) (hRc : T.1 ≤ N0 + R.cells ∧ T.2.1 ≤ S0 + R.slots) (hO : ∀ r0, O T y (st.take b).reverse ij = some r0 → MetC l d y T (st.take b).reverse ij r0)
    (hF : mF y) (hkd : mK y = 0) (hn : mP y b) (hlk : Cond.methodLink own idx (mN y) ∈ gtb ∨ ∃ host, Cond.methodLinkNest own idx (mN y) host ∈ nws) (hd : decode cc pc = .ok (.invokestatic idx, 3))
    (h : p_call O T ij y b rk st k = some r) (hk : ∀ st' ij', k st' ij' = some r → GW (fun H locs cells slots g => W p l e R s m args below meth c H locs cells slots Q g) m (p_ok D aT A H0 ad0 N0 S0) (pc + 3) L st' T ij') : GW (fun H locs cells slots g => W p l e R s m args below meth c H locs cells slots Q g) m (p_ok D aT A H0 ad0 N0 S0) pc L st T ij := by
  unfold p_call at h
  simp only [p_bif_dec] at h
  split at h
  · rename_i hbl
    split at h
    · rename_i hwd
      refine g_out hAq (fun r0 hr0 ad H locs cells slots ls ho hl => ?_) h hk
      have hM := hO r0 hr0 D aT ad H.size
      have hp : PreS s H (va_Pc ((st.take b).reverse.map (sv ad)) (fun U => U.heap.size = H.size ∧ p_wd D aT ad T ij U)) ((st.take b).reverse.map (sv ad)) :=
        ⟨blind_wd, fun U hU hW => ⟨rfl, by rw [hU], by rw [hU]; exact ho.1, va_K.moved hW.alike hK, ho.2.1.weaken (fun _ _ _ _ => trivial), ho.2.2.1, nws_warm hW hN, by rw [hU]; exact hG.go hW ho.2.2.2.1.2.1 (in_A hAq ho.2.1 ho.2.2.2.1) (fun k hk => ho.2.2.2.2.2.2 k (Or.inr hk))⟩⟩
      have hlen : ((st.take b).reverse.map (sv ad)).length = b := by simp; omega
      have hw8 : 2 * (F0 m pc ls (st.map (sv ad))).monitorRoom + (((st.drop b).map (sv ad)).map fun v => v.category).sum ≤ 8 := lv_room (by rw [sv_words]; exact hwd)
      have hf : cells + 0 ≤ R.cells ∧ slots + 0 ≤ R.slots := by
        have h5 := ho.2.2.2.2.1
        have h6 := ho.2.2.2.2.2.1
        omega
      rcases hlk with hlk | ⟨host, hlk⟩
      · exact ⟨_, va_runS ⟨hx, hb, hml, hown, hts⟩ hM ⟨callB_of b hts (gtb_cons hF) rfl rfl rfl (hts _ hF.2.1) (hts _ hlk) ⟨hF.2.2.1.1, hF.2.2.1.2, hn⟩ (mc_room hF hR), hts _ (hF.2.2.2.2.2.1 hkd)⟩ hp rfl hlen hl.1 st_split hw8 hd hf⟩
      · exact ⟨_, va_runSN ⟨hx, hb, hml, hown, hts⟩ hM ⟨va_cnB b hts (gtb_cons hF) rfl rfl rfl (hN _ hlk) (hts _ hF.2.1) ⟨hF.2.2.1.1, hF.2.2.1.2, hn⟩ (mc_room hF hR), hts _ (hF.2.2.2.2.2.1 hkd), trivial⟩ hp rfl hlen hl.1 st_split hw8 hd hf⟩
    · cases h
  · cases h
theorem g_callV {O : Ora} {k : List Value → IJ → Option α} {y b rk idx cn : Nat} (hx : p.tables.exec = Jvm.exec) (hb : c.code = cc) (hml : c.maxLocals = L.length) (hown : s.vm.findClass own = some m.cls) (hts : ∀ w ∈ gtb, w.before args s = true) (hK : va_K D vwCl (p_tys aT) s) (hN : ∀ w ∈ nws, va_Nw w s) (hG : SG ad0 A s H0) (hAq : ∀ q, H0.size ≤ q → A q)
    (hR : d + 5 ≤ R.frames ∧ 64 * (d + 5) ≤ R.locals) (hRc : T.1 ≤ N0 + R.cells ∧ T.2.1 ≤ S0 + R.slots) (hO : ∀ r0, O T y (st.take b).reverse ij = some r0 → MetC l d y T (st.take b).reverse ij r0)
    (hF : mF y) (hkd : mK y = cn + 1) (hb1 : 1 ≤ b) (hn : mP y (b - 1)) (hlk : Cond.methodLink own idx (mN y) ∈ gtb) (hd : decode cc pc = .ok (.invokevirtual idx, 3))
    (h : p_inw O T ij y b [rk, cn] st k = some r) (hk : ∀ st' ij', k st' ij' = some r → GW (fun H locs cells slots g => W p l e R s m args below meth c H locs cells slots Q g) m (p_ok D aT A H0 ad0 N0 S0) (pc + 3) L st' T ij') : GW (fun H locs cells slots g => W p l e R s m args below meth c H locs cells slots Q g) m (p_ok D aT A H0 ad0 N0 S0) pc L st T ij := by
  unfold p_inw at h
  dsimp only at h
  simp only [p_bif_dec] at h
  split at h
  · rename_i q as' has
    split at h
    · rename_i hq
      unfold p_call at h
      simp only [p_bif_dec] at h
      split at h
      · rename_i hbl
        split at h
        · rename_i hwd
          refine g_out hAq (fun r0 hr0 ad H locs cells slots ls ho hl => ?_) h hk
          have hM := hO r0 hr0 D aT ad H.size
          rw [has] at hM
          obtain ⟨k1, k2⟩ := kd_in hq (by have := (hF.2.2.2.2.2.2 cn hkd).2.2; omega)
          obtain ⟨ty0, f1, -⟩ := cf_all cn (hF.2.2.2.2.2.2 cn hkd).2.2
          have hc : (p_ws aT ad T ij)[q]? = some (ad q, .inr (cn, p_obj ad T ij q cn (p_kd T q).2)) := by
            rw [ws_get k1]; unfold p_cell; rw [k2, hq, if_pos (by have := (hF.2.2.2.2.2.2 cn hkd).2.2; omega)]
          have hp : PreV s H (cT cn).1 (ad q) (va_Pc ((Value.ref q :: as').map (sv ad)) (fun U => U.heap.size = H.size ∧ p_wd D aT ad T ij U)) (as'.map (sv ad)) :=
            ⟨blind_wd, va_recv hK ho.1 f1 hc, fun U hU hW => ⟨rfl, by rw [hU], by rw [hU]; exact ho.1, va_K.moved hW.alike hK, ho.2.1.weaken (fun _ _ _ _ => trivial), ho.2.2.1, nws_warm hW hN, by rw [hU]; exact hG.go hW ho.2.2.2.1.2.1 (in_A hAq ho.2.1 ho.2.2.2.1) (fun k hk => ho.2.2.2.2.2.2 k (Or.inr hk))⟩⟩
          have hlen : (as'.map (sv ad)).length = b - 1 := by
            have h9 : (st.take b).reverse.length = b := by simp; omega
            rw [has] at h9
            simp only [List.length_cons] at h9
            simp; omega
          have hw8 : 2 * (F0 m pc ls (st.map (sv ad))).monitorRoom + (((st.drop b).map (sv ad)).map fun v => v.category).sum ≤ 8 := lv_room (by rw [sv_words]; exact hwd)
          have hstk : st.map (sv ad) = (as'.map (sv ad)).reverse ++ .ref (ad q) :: (st.drop b).map (sv ad) := by
            rw [st_split (b := b), has]
            simp [sv]
          have hf : cells + 0 ≤ R.cells ∧ slots + 0 ≤ R.slots := by
            have h5 := ho.2.2.2.2.1
            have h6 := ho.2.2.2.2.2.1
            omega
          exact ⟨_, va_runV ⟨hx, hb, hml, hown, hts⟩ hM ⟨callB_of (b - 1) hts (gtb_cons hF) rfl rfl rfl (hts _ hF.2.1) (hts _ hlk) ⟨hF.2.2.1.1, hF.2.2.1.2, hn⟩ (mc_room hF hR), hts _ (hF.2.2.2.2.2.2 cn hkd).1, hts _ (hF.2.2.2.2.2.2 cn hkd).2.1⟩ hp rfl hlen hl.1 hstk hw8 hd hf⟩
        · cases h
      · cases h
    · cases h
  · cases h
/-- a string method's call keeps the world -/
theorem g_keep {ad : Nat → Nat} {H H1 : Heap} {locs locs1 : List Loc} {cells slots : Nat} (ho : p_ok D aT A H0 ad0 N0 S0 T ij ad H locs cells slots) (hq : ∀ q : Nat, q < H.size → H1[q]? = H[q]?) (hS : va_S A H0 H1 locs1) : p_ok D aT A H0 ad0 N0 S0 T ij ad H1 locs1 cells slots := by
  refine ⟨ho.1.kept (fun k q hk => ?_), ho.2.1, ho.2.2.1, hS, ho.2.2.2.2⟩
  by_cases hl : q.1 < H.size
  · exact hq _ hl
  · exfalso
    have := (ho.1 k q hk).lt
    omega
theorem g_str {k : List Value → Option α} {w idx : Nat} (hx : p.tables.exec = Jvm.exec) (hb : c.code = cc) (hml : c.maxLocals = L.length) (hown : s.vm.findClass "SewnRoads$Tokens" = some m.cls) (hts : ∀ w ∈ gtb, w.before args s = true) (hG : SG ad0 A s H0) (hH0 : H0 = s.heap) (hAq : ∀ q, H0.size ≤ q → A q)
    (hR : d + 5 ≤ R.frames ∧ 64 * (d + 5) ≤ R.locals) (hRc : T.1 ≤ N0 + R.cells ∧ T.2.1 ≤ S0 + R.slots) (hw : (w = 1 ∧ idx = 31) ∨ (w = 2 ∧ idx = 37) ∨ (w = 3 ∧ idx = 80)) (hd : decode cc pc = .ok (.invokevirtual idx, 3))
    (h : p_str w st k = some r) (hk : ∀ st', k st' = some r → GW (fun H locs cells slots g => W p l e R s m args below meth c H locs cells slots Q g) m (p_ok D aT A H0 ad0 N0 S0) (pc + 3) L st' T ij) : GW (fun H locs cells slots g => W p l e R s m args below meth c H locs cells slots Q g) m (p_ok D aT A H0 ad0 N0 S0) pc L st T ij := by
  subst hH0
  have F : ∀ (ad : Nat → Nat) (H : Heap) (locs : List Loc) (cells slots : Nat) (ls : Array Slot) (dd : Nat), dd ≤ 4 → p_ok D aT A s.heap ad0 N0 S0 T ij ad H locs cells slots → pl_has ad ls L → KF p m c cc ls s args "SewnRoads$Tokens" A ad H locs R cells slots dd := by
    intro ad H locs cells slots ls dd hdd ho hl
    have h5 := ho.2.2.2.2.1
    have h6 := ho.2.2.2.2.2.1
    exact ⟨⟨hx, hb, by rw [hml, hl.1], hown, hts⟩, hG.1.ad (fun k hk => ho.2.2.2.2.2.2 k (Or.inr hk)), ho.2.2.2.1, hAq, ⟨by omega, by omega⟩, by omega, by omega⟩
  rcases hw with ⟨rfl, rfl⟩ | ⟨rfl, rfl⟩ | ⟨rfl, rfl⟩
  · unfold p_str at h
    simp only [p_bif_dec] at h
    split at h
    · rename_i q r'
      split at h
      · rename_i hc
        obtain ⟨rfl, hwd⟩ := hc
        intro ad H locs cells slots ls ho hl
        refine k_callV (as := []) (i := 0) (v := 128) (by decide) (F ad H locs cells slots ls 1 (by omega) ho hl) (c_len l ad (i := 0) (by decide)) wk_len_c wk_iS wk_len_i wk_len_v wl_len_31 ⟨by decide, by decide, rfl⟩ (by decide) (by rw [sv_words]; exact hwd) hd (fun H1 locs1 hq hS => ?_)
        exact hk _ h ad H1 locs1 cells slots ls (g_keep ho hq hS) hl
      · cases h
    · cases h
  · unfold p_str at h
    simp only [p_bif_dec, p_chk_ite] at h
    split at h
    · rename_i i q r'
      split at h
      · rename_i hc
        obtain ⟨rfl, hwd⟩ := hc
        split at h
        · rename_i hin
          have hin := in_lt (by decide) hin
          obtain ⟨j, hj, rfl⟩ : ∃ j, j < 128 ∧ i = nI j := vp_in_of hin (by decide)
          rw [nI_clamp (by omega)] at h
          intro ad H locs cells slots ls ho hl
          refine k_callV (as := [.int (nI j)]) (i := 0) (v := kch j) (by decide) (F ad H locs cells slots ls 3 (by omega) ho hl) (c_chr l ad hj) wk_chr_c wk_iS wk_chr_i wk_chr_v wl_chr_37 ⟨by decide, by decide, rfl⟩ (by decide) (by rw [sv_words]; exact hwd) hd (fun H1 locs1 hq hS => ?_)
          exact hk _ h ad H1 locs1 cells slots ls (g_keep ho hq hS) hl
        · cases h
      · cases h
    · cases h
  · unfold p_str at h
    simp only [p_bif_dec] at h
    split at h
    · rename_i x q r'
      split at h
      · rename_i hc
        obtain ⟨rfl, hwd⟩ := hc
        intro ad H locs cells slots ls ho hl
        refine k_callV (as := [.int x]) (i := 1) (v := kix x) (by decide) (F ad H locs cells slots ls 3 (by omega) ho hl) (c_ix1 l ad x) wk_ix1_c wk_iS wk_ix1_i wk_ix1_v wl_ix1_80 ⟨by decide, by decide, rfl⟩ (by decide) (by rw [sv_words]; exact hwd) hd (fun H1 locs1 hq hS => ?_)
        exact hk _ h ad H1 locs1 cells slots ls (g_keep ho hq hS) hl
      · cases h
    · cases h
end PC
