theorem okv_sv2 {ad ad' : Nat → Nat} {N : Nat} (h2 : ∀ k, k < N ∨ 100000 ≤ k → ad' k = ad k) {v : Value} (h : p_okv N v = true) : sv ad' v = sv ad v := by
  cases v with
  | ref r =>
    unfold p_okv at h
    simp only [Bool.or_eq_true, Nat.blt_eq] at h
    show Value.ref (ad' r) = Value.ref (ad r)
    rw [h2 r (h.imp id Nat.le_of_ble_eq_true)]
  | _ => rfl
theorem all_sv2 {ad ad' : Nat → Nat} {N : Nat} (h2 : ∀ k, k < N ∨ 100000 ≤ k → ad' k = ad k) {vs : List Value} (h : p_all N vs = true) : vs.map (sv ad') = vs.map (sv ad) :=
  List.map_congr_left (fun v hv => okv_sv2 h2 (List.all_eq_true.mp h v hv))
theorem all_has2 {ad ad' : Nat → Nat} {N : Nat} (h2 : ∀ k, k < N ∨ 100000 ≤ k → ad' k = ad k) {L : List Value} {ls : Array Slot} (h : p_all N L = true) (hl : pl_has ad ls L) : pl_has ad' ls L := by
  refine ⟨hl.1, hl.2.1, fun i v hi hv => ?_⟩
  rw [okv_sv2 h2 (List.all_eq_true.mp h v (List.mem_of_getElem? hi))]
  exact hl.2.2 i v hi hv
section PD3
variable {p : Program} {l : Launch} {e : Env} {R : Room} {s : State} {m : MethodId} {args : Array Value} {below : List Frame} {meth : Method} {c : Code} {Q : State → Prop} {cc : ByteArray} {own : String} {o : Nat}
variable {D : va_G} {aT : Nat → ClassId} {A : Nat → Prop} {H0 : Heap} {ad0 : Nat → Nat} {N0 S0 : Nat} {pc : Nat} {L st : List Value} {T : PT} {ij : IJ} {α : Type} {r : α} {d nL : Nat} {lim : Nat × Nat}
theorem g_qst {k : List Value → PT → IJ → Option α} (hx : p.tables.exec = Jvm.exec) (hb : c.code = cc) (hK : va_K D vwCl (p_tys aT) s) (hd : decode cc pc = .ok (.aastore, 1))
    (h : p_qst T ij st k = some r) (hk : ∀ st' T' ij', k st' T' ij' = some r → T'.1 = T.1 → T'.2.1 = T.2.1 → GW (fun H locs cells slots g => W p l e R s m args below meth c H locs cells slots Q g) m (p_ok D aT A H0 ad0 N0 S0) (pc + 1) L st' T' ij') : GW (fun H locs cells slots g => W p l e R s m args below meth c H locs cells slots Q g) m (p_ok D aT A H0 ad0 N0 S0) pc L st T ij := by
  unfold p_qst at h
  split at h
  · rename_i v i q r'
    rw [p_bif_dec] at h
    split at h
    · rename_i hc
      obtain ⟨c1, c2⟩ := hc
      rw [p_chk_ite] at h
      split at h
      · rename_i hin
        obtain ⟨k1, k2⟩ := kd_in c1 (by decide)
        obtain ⟨m1, m2⟩ := kd_in c2 (by decide)
        obtain ⟨ty0, f1, -⟩ := cf_all 8 (by decide)
        intro ad H locs cells slots ls ho hl
        have hcell : (p_ws aT ad T ij)[q]? = some (ad q, .inl (aT 104, (p_kd T q).2, .inr (.inr (.inr (.inr (fun j => p_ro ad (T.2.2.2 q j))))))) := by
          rw [ws_get k1]; unfold p_cell; rw [k2, c1, if_neg (by decide), if_neg (by decide), if_pos rfl]
        have hval : (p_ws aT ad T ij)[v]? = some (ad v, .inr (8, p_obj ad T ij v 8 (p_kd T v).2)) := by
          rw [ws_get m1]; unfold p_cell; rw [m2, c2, if_pos (by decide)]
        refine va_astq hx hb hK ho.1 ho.2.1 ho.2.2.2.1 q 4 v 8 hcell rfl hval f1 (in_of hin) hd (fun H1 locs1 hP hD hS => ?_)
        have he : (p_ws aT ad T ij).set q (ad q, .inl (aT 104, (p_kd T q).2, .inr (.inr (.inr (.inr (va_up (fun j => p_ro ad (T.2.2.2 q j)) i.toNatClampNeg (some (ad v)))))))) = p_ws aT ad (T.1, T.2.1, T.2.2.1, p_wp T.2.2.2 q i.toNatClampNeg (v + 1)) ij := by
          apply List.ext_getElem?
          intro j
          by_cases hj : j < T.1
          · rw [ws_get (T := (T.1, T.2.1, T.2.2.1, p_wp T.2.2.2 q i.toNatClampNeg (v + 1))) hj]
            by_cases e2 : q = j
            · subst e2
              rw [List.getElem?_set_self (by unfold p_ws; simpa using hj)]
              congr 2
              unfold p_cell
              show _ = (if (T.2.2.1 q).1 < 100 then _ else _)
              rw [k2, c1, if_neg (by decide), if_neg (by decide), if_pos rfl]
              congr 7
              funext z
              unfold va_up
              show (if z = i.toNatClampNeg then some (ad v) else p_ro ad (T.2.2.2 q z)) = p_ro ad (p_wp T.2.2.2 q i.toNatClampNeg (v + 1) q z)
              unfold p_wp
              by_cases hz : z = i.toNatClampNeg
              · rw [if_pos hz, if_pos ⟨rfl, hz⟩]; rfl
              · rw [if_neg hz, if_neg (fun w => hz w.2)]
            · rw [List.getElem?_set_ne e2, ws_get hj]
              congr 2
              have hz : ∀ z, p_wp T.2.2.2 q i.toNatClampNeg (v + 1) j z = T.2.2.2 j z := fun z => by unfold p_wp; rw [if_neg (fun w => e2 w.1.symm)]
              unfold p_cell p_obj p_fv
              simp only [hz]
          · rw [ws_out (T := (T.1, T.2.1, T.2.2.1, p_wp T.2.2.2 q i.toNatClampNeg (v + 1))) hj, List.getElem?_set_ne (by omega), ws_out hj]
        rw [he] at hP hD
        exact hk _ _ _ h rfl rfl ad H1 locs1 cells slots ls ⟨hP, hD, wp_le ho.2.2.1 m1, hS, ho.2.2.2.2⟩ hl
      · cases h
    · cases h
  · cases h
theorem blind_wdD {av : List Value} {sz : Nat} : FrameBlind (va_Pc av (fun U => U.heap.size = sz ∧ p_wd D aT ad0 T ij U ∧ va_AO "SewnRoads$State" U)) := by
  intro a U g mk q
  obtain ⟨q0, q1, ⟨qP, qK, qD, qT, qN, qG⟩, qO⟩ := q
  exact ⟨q0, q1, ⟨qP, va_K.moved (u := U) (U := U.calling g mk a) (Vm.Alike.refl U.vm) qK, qD, qT, nws_same (u := U) (U := U.calling g mk a) rfl qN, SG.same (u := U) (U := U.calling g mk a) rfl qG⟩, va_AO.moved (u := U) (U := U.calling g mk a) (Vm.Alike.refl U.vm) qO⟩
theorem g_spc {OD : OrD} {a b idx : Nat} {k : List Value → PT → IJ → Option α} (hx : p.tables.exec = Jvm.exec) (hb : c.code = cc) (hml : c.maxLocals = L.length) (hown : s.vm.findClass own = some m.cls) (hts : ∀ w ∈ gtb, w.before args s = true) (hK : va_K D vwCl (p_tys aT) s) (hN : ∀ w ∈ nws, va_Nw w s) (hG : SG ad0 A s H0) (hAO : va_AO "SewnRoads$State" s) (hAq : ∀ q, H0.size ≤ q → A q)
    (hR : d + 5 ≤ R.frames ∧ 64 * (d + 5) ≤ R.locals) (hlim : lim.1 = N0 + R.cells ∧ lim.2 = S0 + R.slots) (hN0 : N0 ≤ T.1) (hOD : ∀ y as T ij T' ij', OD y as T ij = some (T', ij') → MetD l d y T as ij T' ij')
    (hl9 : a = 9001 → Cond.methodLink own idx objectInit ∈ gtb) (hlC : a ≠ 9001 → iF a ∧ mP a (b - 1) ∧ (Cond.methodLink own idx (mN a) ∈ gtb ∨ ∃ host, Cond.methodLinkNest own idx (mN a) host ∈ nws)) (hd : decode cc pc = .ok (.invokespecial idx, 3))
    (h : p_spc OD lim T ij a b L st k = some r) (hk : ∀ st' T' ij', k st' T' ij' = some r → T'.1 ≤ lim.1 ∨ T' = T → T'.2.1 ≤ lim.2 ∨ T' = T → T.1 ≤ T'.1 → T.2.1 ≤ T'.2.1 → GW (fun H locs cells slots g => W p l e R s m args below meth c H locs cells slots Q g) m (p_ok D aT A H0 ad0 N0 S0) (pc + 3) L st' T' ij') : GW (fun H locs cells slots g => W p l e R s m args below meth c H locs cells slots Q g) m (p_ok D aT A H0 ad0 N0 S0) pc L st T ij := by
  unfold p_spc at h
  rw [p_bif_dec] at h
  split at h
  · rename_i h9
    split at h
    · rename_i q r'
      rw [p_bif_dec] at h
      split at h
      · rename_i hw
        intro ad H locs cells slots ls ho hl
        have h1 := hk _ _ _ h (Or.inr rfl) (Or.inr rfl) (Nat.le_refl _) (Nat.le_refl _) ad H locs cells slots ls ho hl
        have hw8 : 2 * (F0 m pc ls ((Value.ref q :: r').map (sv ad))).monitorRoom + ((r'.map (sv ad)).map fun v => v.category).sum ≤ 8 := lv_room (by rw [sv_words]; exact hw)
        exact W.objInit hx hb hown (hts _ (hl9 h9)) (hts _ w_obi) (hts _ w_obc) rfl (by rw [hml]; exact hl.1) rfl hd (by omega) (by omega) h1
      · cases h
    · cases h
  · rename_i h9
    obtain ⟨hF, hn, hlk⟩ := hlC h9
    rw [p_bif_dec] at h
    split at h
    · rename_i hc
      obtain ⟨c1, c2, c3, c4⟩ := hc
      split at h
      · rename_i q as' has
        split at h
        · rename_i T' ij' hod
          rw [p_bif_dec] at h
          split at h
          · rename_i hd4
            obtain ⟨d1, d2, d3, d4⟩ := hd4
            have hall : (p_all T.1 L && p_all T.1 (st.drop b)) = true ∧ k (st.drop b) T' ij' = some r := by
              cases hb9 : (p_all T.1 L && p_all T.1 (st.drop b)) with
              | true => rw [hb9] at h; exact ⟨rfl, h⟩
              | false => rw [hb9] at h; cases h
            obtain ⟨hal, h⟩ := hall
            rw [Bool.and_eq_true] at hal
            intro ad H locs cells slots ls ho hl
            have hM := hOD _ _ _ _ _ _ hod D aT ad H.size
            rw [has] at hM
            have hp : PreS s H (va_Pc ((Value.ref q :: as').map (sv ad)) (fun U => U.heap.size = H.size ∧ p_wd D aT ad T ij U ∧ va_AO "SewnRoads$State" U)) (.ref (ad q) :: as'.map (sv ad)) :=
              ⟨blind_wdD, fun U hU hW => ⟨rfl, by rw [hU], ⟨by rw [hU]; exact ho.1, va_K.moved hW.alike hK, ho.2.1.weaken (fun _ _ _ _ => trivial), ho.2.2.1, nws_warm hW hN, by rw [hU]; exact hG.go hW ho.2.2.2.1.2.1 (in_A hAq ho.2.1 ho.2.2.2.1) (fun k hk => ho.2.2.2.2.2.2 k (Or.inr hk))⟩, va_AO.moved hW.alike hAO⟩⟩
            have hlen : (as'.map (sv ad)).length = b - 1 := by
              have h8 : (st.take b).reverse.length = b := by simp; omega
              rw [has] at h8
              simp only [List.length_cons] at h8
              simp; omega
            have hw8 : 2 * (F0 m pc ls (st.map (sv ad))).monitorRoom + (((st.drop b).map (sv ad)).map fun v => v.category).sum ≤ 8 := lv_room (by rw [sv_words]; exact c2)
            have hstk : st.map (sv ad) = (as'.map (sv ad)).reverse ++ .ref (ad q) :: (st.drop b).map (sv ad) := by
              rw [st_split (b := b), has]
              simp [sv]
            have h5 := ho.2.2.2.2.1
            have h6 := ho.2.2.2.2.2.1
            have hf : cells + (T'.1 - T.1) ≤ R.cells ∧ slots + (T'.2.1 - T.2.1) ≤ R.slots := by omega
            have hroom : (p_rmD d (T'.1 - T.1) (T'.2.1 - T.2.1)).frames + 1 ≤ R.frames ∧ 8 + (mL a + 11) + (p_rmD d (T'.1 - T.1) (T'.2.1 - T.2.1)).locals ≤ R.locals := by
              have h4 := hF.2.2.2.2.2.1
              exact rm_ar hR h4
            have hgood : GoodIn gtb (Cond.code (mN a) (mB a) (mL a) none :: gtb) := by
              intro w hw
              rcases List.mem_cons.mp hw with rfl | hw
              · exact gtb_good _ hF.1
              · exact gtb_good _ hw
            have hin := in_A hAq ho.2.1 ho.2.2.2.1
            have hrun : va_Run p l e R s m args below meth c H locs cells slots (T'.1 - T.1) (T'.2.1 - T.2.1) (F0 m pc ls (st.map (sv ad))) ((st.drop b).map (sv ad)) (va_Qv (fun ad' : Nat → Nat => ∀ k, k < T.1 ∨ 100000 ≤ k → ad' k = ad k) (p_BD D aT (va_A (p_ws aT ad T ij) H.size) T' ij') (va_A (p_ws aT ad T ij) H.size) (Value.ref (ad q) :: as'.map (sv ad)).toArray) (va_A (p_ws aT ad T ij) H.size) := by
              rcases hlk with hlk | ⟨host, hlk⟩
              · exact va_runI ⟨hx, hb, hml, hown, hts⟩ hM ⟨callB_of (b - 1) hts hgood rfl rfl rfl (hts _ hF.2.1) (hts _ hlk) ⟨hF.2.2.2.2.1.1, hF.2.2.2.2.1.2, hn⟩ hroom, hF.2.2.2.1, hts _ hF.2.2.1⟩ hp rfl hlen hl.1 hstk hw8 hd hf
              · exact va_runIN ⟨hx, hb, hml, hown, hts⟩ hM ⟨va_cnB (b - 1) hts hgood rfl rfl rfl (hN _ hlk) (hts _ hF.2.1) ⟨hF.2.2.2.2.1.1, hF.2.2.2.2.1.2, hn⟩ hroom, hF.2.2.2.1, hts _ hF.2.2.1⟩ hp rfl hlen hl.1 hstk hw8 hd hf
            refine va_callv hrun ho.2.2.2.1 (fun q _ h => hin q h) hin (fun ad' t H1 locs1 ht hvm hp' hB hz hk1 hS => ?_)
            obtain ⟨hP, hD, hle⟩ := hB
            rw [ht] at hP
            have h1 := hk _ _ _ h (Or.inl d1) (Or.inl d2) d3 d4 ad' H1 locs1 (cells + (T'.1 - T.1)) (slots + (T'.2.1 - T.2.1)) ls ⟨hP, hD.weaken (fun _ z _ hz => hin z.1 hz), hle, hS, by omega, by omega, fun z hz => by rw [hp' z (by omega)]; exact ho.2.2.2.2.2.2 z hz⟩ (all_has2 hp' hal.1 hl)
            rw [all_sv2 hp' hal.2] at h1
            exact h1
          · cases h
        · cases h
      · cases h
    · cases h
end PD3
