def p_dfl (ci n : Nat) : List Value := (List.range n).map (fun j => if p_fk ci j = 2 then Value.null else .int 0)
theorem cell_obj {aT : Nat → ClassId} {T : PT} {ij : IJ} {ci n : Nat} (hc : ci < 100) (ad : Nat → Nat) : p_cell aT ad (p_new T ij ci n).1 (p_new T ij ci n).2 T.1 = .inr (ci, p_dfl ci n) := by
  unfold p_cell p_new p_obj p_fv p_dfl
  simp only [if_true, if_pos hc]
  rfl
theorem cell_arr {aT : Nat → ClassId} {T : PT} {ij : IJ} {kd n : Nat} (hc : kd = 100 ∨ kd = 101 ∨ kd = 102) (ad : Nat → Nat) : p_cell aT ad (p_new T ij kd n).1 (p_new T ij kd n).2 T.1 = .inl (aT kd, n, .inl (fun _ => 0)) := by
  unfold p_cell p_new
  simp only [if_true]
  rw [if_neg (by omega), if_neg (by omega), if_neg (by omega)]
theorem cell_lng {aT : Nat → ClassId} {T : PT} {ij : IJ} {n : Nat} (ad : Nat → Nat) : p_cell aT ad (p_new T ij 103 n).1 (p_new T ij 103 n).2 T.1 = .inl (aT 103, n, .inr (.inl (fun _ => 0))) := by
  unfold p_cell p_new
  simp only [if_true]
  rw [if_neg (by omega)]
theorem cell_ref {aT : Nat → ClassId} {T : PT} {ij : IJ} {n : Nat} (ad : Nat → Nat) : p_cell aT ad (p_new T ij 104 n).1 (p_new T ij 104 n).2 T.1 = .inl (aT 104, n, .inr (.inr (.inr (.inr (fun _ => none))))) := by
  unfold p_cell p_new
  simp only [if_true]
  rw [if_neg (by omega), if_neg (by omega)]
  rfl
section PD2
variable {p : Program} {l : Launch} {e : Env} {R : Room} {s : State} {m : MethodId} {args : Array Value} {below : List Frame} {meth : Method} {c : Code} {Q : State → Prop} {cc : ByteArray} {own : String} {o : Nat}
variable {D : va_G} {aT : Nat → ClassId} {A : Nat → Prop} {H0 : Heap} {ad0 : Nat → Nat} {N0 S0 : Nat} {pc : Nat} {L st : List Value} {T : PT} {ij : IJ} {α : Type} {r : α} {d nL : Nat} {lim : Nat × Nat}
theorem row_new {ci idx : Nat} (hx : p.tables.exec = Jvm.exec) (hb : c.code = cc) (hown : s.vm.findClass own = some m.cls) (hts : ∀ w ∈ gtb, w.before args s = true) (hK : va_K D vwCl (p_tys aT) s) (hAq : ∀ q, H0.size ≤ q → A q) (hci : ci < 13) (hlk : Cond.classLink own idx (cT ci).1 ∈ gtb) (hd : decode cc pc = .ok (.new idx, 3))
    (H : Heap) (locs : List Loc) (cells slots : Nat) (ls : Array Slot) (rest : List Value) (ws : va_W) (hP : va_P D vwCl ws H) (hD : va_D A ws) (hS : va_S A H0 H locs) (h1 : cells + 1 ≤ R.cells) (h2 : slots + (cT ci).2.2 ≤ R.slots)
    (kk : ∀ (q : Nat) (H1 : Heap), va_P D vwCl (ws ++ [(q, .inr (ci, p_dfl ci (cT ci).2.2))]) H1 → va_D A (ws ++ [(q, .inr (ci, p_dfl ci (cT ci).2.2))]) → va_S A H0 H1 locs → W p l e R s m args below meth c H1 locs (cells + 1) (slots + (cT ci).2.2) Q (F0 m (pc + 3) ls (.ref q :: rest))) : W p l e R s m args below meth c H locs cells slots Q (F0 m pc ls rest) := by
  obtain ⟨ty0, ⟨f1, f2, f3, f4, f5, f6⟩, g1, g2⟩ := bf_all ci hci
  refine va_new hx hb hts f2 ty0 f3 hown (hts _ hlk) (hts _ (in_all ci hci).1) (hts _ (in_all ci hci).2) hK hP hD hS hAq f1 (fun j hj => ?_) h1 h2 hd kk
  rw [g1 j hj]
  unfold vp_V p_dfl
  rw [List.getD_eq_getElem?_getD, List.getElem?_map, List.getElem?_range hj]
  rfl
theorem ty_at {k : Nat} {cA : ClassId} {ty : FieldType} (hK : va_K D vwCl (p_tys aT) s) (hK2 : va_K D vwCl (p_tys aT ++ [(cA, ty)]) s) (hk : (p_tys aT)[k]? = some (aT (100 + k), ty)) : cA = aT (100 + k) := by
  have h1 := (hK.2 k _ hk).2
  have h2 := (hK2.2 5 (cA, ty) rfl).2
  exact ra_eq h2 h1
theorem row_arr {kd : Nat} {n : Int32} {aty : ArrayType} {ty : FieldType} {a0 : vp_A} (hx : p.tables.exec = Jvm.exec) (hb : c.code = cc) (hts : ∀ w ∈ gtb, w.before args s = true) (hK : va_K D vwCl (p_tys aT) s) (hAq : ∀ q, H0.size ≤ q → A q) (hty : newarray.typeOf aty = ty) (hw : Cond.arrayClass ty ∈ gtb) (hb8 : componentBytes ty ≤ 8) (hk : (p_tys aT)[kd]? = some (aT (100 + kd), ty))
    (ha : ∀ cA : ClassId, vp_cell cA a0 = arrV cA n.toNatClampNeg (fun _ => defaultValue ty)) (hn : 0 ≤ n) (hd : decode cc pc = .ok (.newarray aty, 2))
    (H : Heap) (locs : List Loc) (cells slots : Nat) (ls : Array Slot) (rest : List Value) (ws : va_W) (hP : va_P D vwCl ws H) (hD : va_D A ws) (hS : va_S A H0 H locs) (h1 : cells + 1 ≤ R.cells) (h2 : slots + n.toNatClampNeg ≤ R.slots) (h3 : n.toNatClampNeg < 100000)
    (kk : ∀ (q : Nat) (H1 : Heap), va_P D vwCl (ws ++ [(q, .inl (aT (100 + kd), a0))]) H1 → va_D A (ws ++ [(q, .inl (aT (100 + kd), a0))]) → va_S A H0 H1 locs → W p l e R s m args below meth c H1 locs (cells + 1) (slots + n.toNatClampNeg) Q (F0 m (pc + 2) ls (.ref q :: rest))) : W p l e R s m args below meth c H locs cells slots Q (F0 m pc ls ([.int n] ++ rest)) := by
  refine va_newa hx hb (by rw [hty]; exact hts _ hw) hty hK hP hD hS hAq ha (Int32.not_lt.mpr hn) rfl ?_ h1 h2 hd (fun q cA H1 hK2 hP2 hD2 hS2 => ?_)
  · have : n.toNatClampNeg * componentBytes ty ≤ n.toNatClampNeg * 8 := Nat.mul_le_mul_left _ hb8
    omega
  · have e9 := ty_at hK hK2 hk
    rw [e9] at hP2 hD2
    exact kk q H1 hP2 hD2 hS2
theorem row_aqr {n : Int32} {idx : Nat} (hx : p.tables.exec = Jvm.exec) (hb : c.code = cc) (hown : s.vm.findClass own = some m.cls) (hts : ∀ w ∈ gtb, w.before args s = true) (hK : va_K D vwCl (p_tys aT) s) (hAO : va_AO "SewnRoads$State" s) (hAq : ∀ q, H0.size ≤ q → A q) (hlk : Cond.classLink own idx "SewnRoads$State" ∈ gtb)
    (hn : 0 ≤ n) (hd : decode cc pc = .ok (.anewarray idx, 3))
    (H : Heap) (locs : List Loc) (cells slots : Nat) (ls : Array Slot) (rest : List Value) (ws : va_W) (hP : va_P D vwCl ws H) (hD : va_D A ws) (hS : va_S A H0 H locs) (h1 : cells + 1 ≤ R.cells) (h2 : slots + n.toNatClampNeg ≤ R.slots) (h3 : n.toNatClampNeg < 100000)
    (kk : ∀ (q : Nat) (H1 : Heap), va_P D vwCl (ws ++ [(q, .inl (aT 104, n.toNatClampNeg, .inr (.inr (.inr (.inr (fun _ => none))))))]) H1 → va_D A (ws ++ [(q, .inl (aT 104, n.toNatClampNeg, .inr (.inr (.inr (.inr (fun _ => none))))))]) → va_S A H0 H1 locs → W p l e R s m args below meth c H1 locs (cells + 1) (slots + n.toNatClampNeg) Q (F0 m (pc + 3) ls (.ref q :: rest))) : W p l e R s m args below meth c H locs cells slots Q (F0 m pc ls ([.int n] ++ rest)) := by
  refine va_newq hx hb hown (hts _ hlk) hAO hK hP hD hS hAq (Int32.not_lt.mpr hn) rfl (by omega) h1 h2 hd (fun q cA H1 hK2 hP2 hD2 hS2 => ?_)
  have e9 := ty_at (k := 4) hK hK2 rfl
  rw [e9] at hP2 hD2
  exact kk q H1 hP2 hD2 hS2
theorem g_puR {a b idx : Nat} {k : List Value → PT → IJ → Option α} {k2 : Option α} (hx : p.tables.exec = Jvm.exec) (hb : c.code = cc) (hown : s.vm.findClass own = some m.cls) (hin : meth.name = "<init>") (hts : ∀ w ∈ gtb, w.before args s = true) (hK : va_K D vwCl (p_tys aT) s) (ha : a < 13) (hbN : b < (cT a).2.2) (howa : p_fk a b = 2 → (cT a).1 = own)
    (hlk : Cond.fieldLink own idx ((cT a).2.1 b).1 ((cT a).2.1 b).2.1 ((cT a).2.1 b).2.2.1 ∈ gtb) (hd : decode cc pc = .ok (.putfield idx, 3))
    (h : p_puR T ij a b st k k2 = some r) (hk : ∀ st' T' ij', k st' T' ij' = some r → T'.1 = T.1 → T'.2.1 = T.2.1 → GW (fun H locs cells slots g => W p l e R s m args below meth c H locs cells slots Q g) m (p_ok D aT A H0 ad0 N0 S0) (pc + 3) L st' T' ij')
    (hk2 : k2 = some r → GW (fun H locs cells slots g => W p l e R s m args below meth c H locs cells slots Q g) m (p_ok D aT A H0 ad0 N0 S0) pc L st T ij) : GW (fun H locs cells slots g => W p l e R s m args below meth c H locs cells slots Q g) m (p_ok D aT A H0 ad0 N0 S0) pc L st T ij := by
  unfold p_puR at h
  split at h
  · rename_i v q r'
    rw [p_bif_dec] at h
    split at h
    · rename_i hc
      obtain ⟨c1, c2, c3, c4⟩ := hc
      obtain ⟨k1, k2'⟩ := kd_in c1 (by omega)
      obtain ⟨ty0, ⟨f1, f2, f3, f4, f5, f6⟩, g1, g2⟩ := bf_all a ha
      obtain ⟨i1, i2, i3⟩ := g2 b hbN c3
      intro ad H locs cells slots ls ho hl
      have hcell : (p_ws aT ad T ij)[q]? = some (ad q, .inr (a, p_obj ad T ij q a (p_kd T q).2)) := by
        rw [ws_get k1]; unfold p_cell; rw [k2', c1, if_pos (by omega)]
      refine va_putF (v := .ref (ad v)) hx hb hts f2 ty0 f3 f4 hown hK ho.1 ho.2.1 ho.2.2.2.1 q hcell f1 b hbN (hts _ hlk) (fun _ h9 => h9) i2 hin (i3.trans (howa c3)) (f3 b hbN) (ref_nar i1 _).1 (ref_nar i1 _).2 (by unfold p_obj; simpa using c2) hd (fun H1 locs1 hP hD hS => ?_)
      have he : (p_ws aT ad T ij).set q (ad q, .inr (a, (p_obj ad T ij q a (p_kd T q).2).set b (.ref (ad v)))) = p_ws aT ad (T.1, T.2.1, T.2.2.1, p_wp T.2.2.2 q b (v + 1)) ij := by
        apply List.ext_getElem?
        intro j
        by_cases hj : j < T.1
        · rw [ws_get (T := (T.1, T.2.1, T.2.2.1, p_wp T.2.2.2 q b (v + 1))) hj]
          by_cases e2 : q = j
          · subst e2
            rw [List.getElem?_set_self (by unfold p_ws; simpa using hj)]
            congr 2
            unfold p_cell
            show _ = (if (T.2.2.1 q).1 < 100 then _ else _)
            rw [k2', c1, if_pos (by omega)]
            congr 2
            apply List.ext_getElem?
            intro i
            by_cases hi : i < (p_kd T q).2
            · rw [obj_get hi]
              by_cases e3 : b = i
              · subst e3
                rw [List.getElem?_set_self (by unfold p_obj; simpa using hi)]
                unfold p_fv
                rw [if_pos c3]
                show some (Value.ref (ad v)) = some (p_rv ad (p_wp T.2.2.2 q b (v + 1) q b))
                unfold p_wp
                rw [if_pos ⟨rfl, rfl⟩]
                rfl
              · rw [List.getElem?_set_ne e3, obj_get hi]
                unfold p_fv
                show some (if p_fk a i = 2 then p_rv ad (T.2.2.2 q i) else _) = some (if p_fk a i = 2 then p_rv ad (p_wp T.2.2.2 q b (v + 1) q i) else _)
                have : p_wp T.2.2.2 q b (v + 1) q i = T.2.2.2 q i := by unfold p_wp; rw [if_neg (fun z => e3 z.2.symm)]
                rw [this]
            · rw [List.getElem?_eq_none (by unfold p_obj; simp; omega), List.getElem?_eq_none (by unfold p_obj; simp; omega)]
          · rw [List.getElem?_set_ne e2, ws_get hj]
            congr 2
            have hz : ∀ i, p_wp T.2.2.2 q b (v + 1) j i = T.2.2.2 j i := fun i => by unfold p_wp; rw [if_neg (fun z => e2 z.1.symm)]
            unfold p_cell p_obj p_fv
            simp only [hz]
        · rw [ws_out (T := (T.1, T.2.1, T.2.2.1, p_wp T.2.2.2 q b (v + 1))) hj, List.getElem?_set_ne (by omega), ws_out hj]
      rw [he] at hP hD
      exact hk _ _ _ h rfl rfl ad H1 locs1 cells slots ls ⟨hP, hD, wp_le ho.2.2.1 c4, hS, ho.2.2.2.2⟩ hl
    · cases h
  · exact hk2 h
end PD2
