/-! ===== fields, copies, calls ===== -/
theorem obj_get {ad : Nat → Nat} {T : PT} {ij : IJ} {k ci n b : Nat} (h : b < n) : (p_obj ad T ij k ci n)[b]? = some (p_fv ad T ij k ci b) := by
  unfold p_obj
  rw [List.getElem?_map, List.getElem?_range h]
  rfl
theorem obj_set {ad : Nat → Nat} {T : PT} {ij : IJ} {k ci n b : Nat} {x : Int32} (h : b < n) (hf : p_fk ci b ≠ 2) : p_obj ad T (p_wr ij.1 k b x, ij.2) k ci n = (p_obj ad T ij k ci n).set b (.int x) := by
  apply List.ext_getElem?
  intro j
  by_cases hj : j < n
  · rw [obj_get hj]
    by_cases e : b = j
    · subst e
      rw [List.getElem?_set_self (by unfold p_obj; simpa using h)]
      unfold p_fv
      rw [if_neg hf]
      simp only [wr_eq, upd, if_true]
    · rw [List.getElem?_set_ne e, obj_get hj]
      unfold p_fv
      simp only [wr_eq]
      have e2 : ¬ j = b := fun q => e q.symm
      simp only [upd, if_neg e2]
  · rw [List.getElem?_eq_none (by unfold p_obj; simp; omega), List.getElem?_eq_none (by unfold p_obj; simp; omega)]
section PF
variable {p : Program} {l : Launch} {e : Env} {R : Room} {s : State} {m : MethodId} {args : Array Value} {below : List Frame} {meth : Method} {c : Code} {Q : State → Prop} {cc : ByteArray} {own : String}
variable {D : va_G} {aT : Nat → ClassId} {A : Nat → Prop} {H0 : Heap} {ad0 : Nat → Nat} {N0 S0 : Nat} {pc : Nat} {L st : List Value} {T : PT} {ij : IJ} {α : Type} {r : α}
theorem g_get {k : List Value → Option α} {a b idx : Nat} (hx : p.tables.exec = Jvm.exec) (hb : c.code = cc) (hown : s.vm.findClass own = some m.cls) (hts : ∀ w ∈ gtb, w.before args s = true) (hK : va_K D vwCl (p_tys aT) s) (hN : ∀ w ∈ nws, va_Nw w s) (ha : a < 13) (hbN : b < (cT a).2.2)
    (hlk : Cond.fieldLink own idx ((cT a).2.1 b).1 ((cT a).2.1 b).2.1 ((cT a).2.1 b).2.2.1 ∈ gtb ∨ ∃ host, Cond.fieldLinkNest own idx ((cT a).2.1 b).1 ((cT a).2.1 b).2.1 ((cT a).2.1 b).2.2.1 host ∈ nws) (hd : decode cc pc = .ok (.getfield idx, 3))
    (h : p_get T ij a b st k = some r) (hk : ∀ st', k st' = some r → GW (fun H locs cells slots g => W p l e R s m args below meth c H locs cells slots Q g) m (p_ok D aT A H0 ad0 N0 S0) (pc + 3) L st' T ij) : GW (fun H locs cells slots g => W p l e R s m args below meth c H locs cells slots Q g) m (p_ok D aT A H0 ad0 N0 S0) pc L st T ij := by
  unfold p_get at h
  simp only [p_bif_dec, p_chk_ite] at h
  split at h
  · rename_i q r'
    split at h
    · rename_i hkd
      split at h
      · rename_i hbn
        intro ad H locs cells slots ls ho hl
        obtain ⟨k1, k2⟩ := kd_in hkd (by omega)
        obtain ⟨ty0, f1, f2, f3, f4, f5, f6⟩ := cf_all a ha
        have hc : (p_ws aT ad T ij)[q]? = some (ad q, .inr (a, p_obj ad T ij q a (p_kd T q).2)) := by
          rw [ws_get k1]; unfold p_cell; rw [k2, hkd, if_pos (by omega)]
        have hgo : ∀ v, p_fv ad T ij q a b = v → W p l e R s m args below meth c H locs cells slots Q (F0 m (pc + 3) ls (v :: r'.map (sv ad))) → W p l e R s m args below meth c H locs cells slots Q (F0 m pc ls (.ref (ad q) :: r'.map (sv ad))) := by
          intro v hv hw
          subst hv
          rcases hlk with hlk | ⟨host, hlk⟩
          · exact va_get hx hb hts f2 hown hK ho.1 q hc f1 b hbN (hts _ hlk) (fun _ h9 => h9) (obj_get hbn) hd hw
          · exact va_getN hx hb hts f2 hown hK ho.1 q hc f1 b hbN (va_Nw.use rfl (hN _ hlk)) (fun _ h9 => h9) (obj_get hbn) hd hw
        split at h
        · rename_i hfk
          split at h
          · cases h
          · rename_i t ht
            have h1 := hk _ h ad H locs cells slots ls ho hl
            exact hgo (.ref (ad t)) (by unfold p_fv; rw [if_pos hfk, ht]; rfl) h1
        · rename_i hfk
          have h1 := hk _ h ad H locs cells slots ls ho hl
          exact hgo (.int (ij.1 q b)) (by unfold p_fv; rw [if_neg hfk]) h1
      · cases h
    · cases h
  · cases h
theorem nar_b {x : Int32} (h : vp_nar .boolean x = x) : narrow .boolean (.int x) = .int x := by
  unfold vp_nar at h
  simp only [narrow] at h ⊢
  rw [h]
theorem fit_b {x : Int32} (h : vp_nar .boolean x = x) : fits .boolean (.int x) = true := by
  have h1 := nar_b h
  obtain ⟨j, hj, he⟩ := pk_andE x (m := 1) 1 rfl
  simp only [narrow] at h1
  have h2 : x &&& 1 = x := by first | exact Value.int.inj h1 | simpa using h1
  rw [he] at h2
  have hj2 : j = 0 ∨ j = 1 := by omega
  rcases hj2 with rfl | rfl
  · rw [← h2]; rfl
  · rw [← h2]; rfl
theorem g_put {k : List Value → IJ → Option α} {a b idx : Nat} (hx : p.tables.exec = Jvm.exec) (hb : c.code = cc) (hown : s.vm.findClass own = some m.cls) (hts : ∀ w ∈ gtb, w.before args s = true) (hK : va_K D vwCl (p_tys aT) s) (ha : a < 13) (hbN : b < (cT a).2.2)
    (hlk : Cond.fieldLink own idx ((cT a).2.1 b).1 ((cT a).2.1 b).2.1 ((cT a).2.1 b).2.2.1 ∈ gtb) (hd : decode cc pc = .ok (.putfield idx, 3))
    (h : p_put T ij a b st k = some r) (hk : ∀ st' ij', k st' ij' = some r → GW (fun H locs cells slots g => W p l e R s m args below meth c H locs cells slots Q g) m (p_ok D aT A H0 ad0 N0 S0) (pc + 3) L st' T ij') : GW (fun H locs cells slots g => W p l e R s m args below meth c H locs cells slots Q g) m (p_ok D aT A H0 ad0 N0 S0) pc L st T ij := by
  unfold p_put at h
  simp only [p_bif_dec, p_chk_ite] at h
  split at h
  · rename_i x q r'
    split at h
    · rename_i hkd
      split at h
      · rename_i hbn
        obtain ⟨k1, k2⟩ := kd_in hkd (by omega)
        obtain ⟨ty0, f1, f2, f3, f4, f5, f6⟩ := cf_all a ha
        have hgo : p_fk a b ≠ 2 → ((cT a).2.1 b).2.2.2 = false → narrow (ty0 b) (.int x) = .int x → fits (ty0 b) (.int x) = true → k r' (p_wr ij.1 q b x, ij.2) = some r → GW (fun H locs cells slots g => W p l e R s m args below meth c H locs cells slots Q g) m (p_ok D aT A H0 ad0 N0 S0) pc L (.int x :: .ref q :: r') T ij := by
          intro hf hfin hn hfit h
          intro ad H locs cells slots ls ho hl
          have hc : (p_ws aT ad T ij)[q]? = some (ad q, .inr (a, p_obj ad T ij q a (p_kd T q).2)) := by
            rw [ws_get k1]; unfold p_cell; rw [k2, hkd, if_pos (by omega)]
          refine va_put (v := .int x) hx hb hts f2 ty0 f3 f4 hown hK ho.1 ho.2.1 ho.2.2.2.1 q hc f1 b hbN (hts _ hlk) (fun _ h9 => h9) hfin (f3 b hbN) hn hfit (by unfold p_obj; simpa using hbn) hd (fun H1 locs1 hP hD hS => ?_)
          have he := ws_set (ij := ij) (aT := aT) (ad := ad) (ij' := (p_wr ij.1 q b x, ij.2)) (E := .inr (a, (p_obj ad T ij q a (p_kd T q).2).set b (.int x))) k1 (by unfold p_cell; rw [k2, hkd, if_pos (by omega), obj_set hbn hf]) (fun j hj => cell_same (wr_ne hj) rfl)
          rw [he] at hP hD
          exact hk _ _ h ad H1 locs1 cells slots ls ⟨hP, hD, ho.2.2.1, hS, ho.2.2.2.2⟩ hl
        split at h
        · rename_i hfk
          exact hgo (by rw [hfk]; decide) (f5 b hbN hfk).2 (by rw [(f5 b hbN hfk).1]; exact vp_nar_int x) (by rw [(f5 b hbN hfk).1]; rfl) h
        · rename_i hfk
          split at h
          · rename_i hn
            have hn := p01_nar hn
            exact hgo (by rw [hfk]; decide) (f6 b hbN hfk).2 (by rw [(f6 b hbN hfk).1]; exact nar_b hn) (by rw [(f6 b hbN hfk).1]; exact fit_b hn) h
          · cases h
        · cases h
      · cases h
    · cases h
  · cases h
theorem g_acp {k : List Value → IJ → Option α} {idx : Nat} (hx : p.tables.exec = Jvm.exec) (hb : c.code = cc) (hml : c.maxLocals = L.length) (hown : s.vm.findClass own = some m.cls) (hts : ∀ w ∈ gtb, w.before args s = true) (hK : va_K D vwCl (p_tys aT) s)
    (hlk : Cond.methodLink own idx arraycopyName ∈ gtb ∧ Cond.native arraycopyName ∈ gtb ∧ Cond.static arraycopyName ∈ gtb ∧ Cond.initialized "java/lang/System" ∈ gtb) (hR : 1 ≤ R.frames ∧ 64 ≤ R.locals) (hd : decode cc pc = .ok (.invokestatic idx, 3))
    (h : p_acp T ij st k = some r) (hk : ∀ st' ij', k st' ij' = some r → GW (fun H locs cells slots g => W p l e R s m args below meth c H locs cells slots Q g) m (p_ok D aT A H0 ad0 N0 S0) (pc + 3) L st' T ij') : GW (fun H locs cells slots g => W p l e R s m args below meth c H locs cells slots Q g) m (p_ok D aT A H0 ad0 N0 S0) pc L st T ij := by
  unfold p_acp at h
  simp only [p_bif_dec, p_chk_ite] at h
  split at h
  · rename_i n dp q1 sp q0 r'
    split at h
    · rename_i hk0
      split at h
      · rename_i hk1
        split at h
        · rename_i hcd
          obtain ⟨c1, c2, c3, c4, c5, c6⟩ := hcd
          obtain ⟨a1, a2⟩ := kd_in hk0 (by decide)
          obtain ⟨b1, b2⟩ := kd_in hk1 (by decide)
          intro ad H locs cells slots ls ho hl
          have hc0 : (p_ws aT ad T ij)[q0]? = some (ad q0, .inl (aT 100, (p_kd T q0).2, .inl (ij.1 q0))) := by
            rw [ws_get a1]; unfold p_cell; rw [a2, hk0, if_neg (by decide), if_neg (by decide), if_neg (by decide)]
          have hc1 : (p_ws aT ad T ij)[q1]? = some (ad q1, .inl (aT 100, (p_kd T q1).2, .inl (ij.1 q1))) := by
            rw [ws_get b1]; unfold p_cell; rw [b2, hk1, if_neg (by decide), if_neg (by decide), if_neg (by decide)]
          refine va_copyi hx hb (by rw [hml, hl.1]) hown (hts _ hlk.1) (hts _ hlk.2.1) (hts _ hlk.2.2.1) (hts _ hlk.2.2.2) hK ho.1 ho.2.1 ho.2.2.2.1 q0 q1 0 0 hc0 hc1 rfl rfl rfl (Int32.not_lt.mpr c1) (Int32.not_lt.mpr c2) (Int32.not_lt.mpr c3) c4 c5 (fun _ _ => rfl) hR.1 ?_ hd (fun H1 locs1 hP hD hS => ?_)
          · have hw := sv_words ad r'
            have hn : nativeFrameWords "java/lang/System" "arraycopy" 5 + 11 ≤ 56 := by decide +kernel
            show ((r'.map (sv ad)).map fun v => v.category).sum + _ ≤ _
            omega
          · have he := ws_set (ij := ij) (aT := aT) (ad := ad) (ij' := (p_cp ij.1 q0 q1 sp.toNatClampNeg dp.toNatClampNeg n.toNatClampNeg, ij.2)) (E := .inl (aT 100, (p_kd T q1).2, .inl (va_cpy (ij.1 q0) (ij.1 q1) sp.toNatClampNeg dp.toNatClampNeg n.toNatClampNeg))) b1 (by unfold p_cell; rw [b2, hk1, if_neg (by decide), if_neg (by decide), if_neg (by decide)]; simp only [p_cp, if_true]) (fun j hj => cell_same (by simp only [p_cp, if_neg hj]) rfl)
            rw [he] at hP hD
            exact hk _ _ h ad H1 locs1 cells slots ls ⟨hP, hD, ho.2.2.1, hS, ho.2.2.2.2⟩ hl
        · cases h
      · cases h
    · cases h
  · cases h
end PF
