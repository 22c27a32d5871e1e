/-! ===== a step of the pure machine is a step of the machine ===== -/
def ck1 (o pc : Nat) (E : PE) : Bool := match E.1 with
  | .iconst n => decide (E.2.1 = pc + 1) && decide (Int32.ofInt n = E.2.2.2.2.1)
  | .bipush n => decide (E.2.1 = pc + 2) && decide ((Int8.ofInt n).toInt32 = E.2.2.2.2.1)
  | .sipush n => decide (E.2.1 = pc + 3) && decide ((Int16.ofInt n).toInt32 = E.2.2.2.2.1)
  | .ldc idx => decide (E.2.1 = pc + 2) && (match E.2.2.2.2.2 with
    | [] => (cIk o).any (fun q => decide (q.1 = idx ∧ q.2.1 = E.2.2.2.2.1))
    | [q] => decide (o = 10 ∧ (idx = 29 ∧ q = 100001 ∨ idx = 78 ∧ q = 100003))
    | _ => false)
  | .ldc_w idx => decide (E.2.1 = pc + 3) && (cIk o).any (fun q => decide (q.1 = idx ∧ q.2.1 = E.2.2.2.2.1))
  | .lconst n => decide (E.2.1 = pc + 1) && decide (E.2.2.1 = n.val)
  | .ldc2_w idx => decide (E.2.1 = pc + 3) && (cJk o).any (fun q => decide (q.1 = idx ∧ q.2.1 = E.2.2.1))
  | .iload _ => decide (E.2.1 = pc + 2)
  | .lload _ => decide (E.2.1 = pc + 2)
  | .aload _ => decide (E.2.1 = pc + 2)
  | .istore _ => decide (E.2.1 = pc + 2)
  | .lstore _ => decide (E.2.1 = pc + 2)
  | .astore _ => decide (E.2.1 = pc + 2)
  | .iinc _ n => decide (E.2.1 = pc + 3) && decide (Int32.ofInt n = E.2.2.2.2.1)
  | .ifCond _ off => decide (E.2.1 = pc + 3) && decide ((pc : Int) + off = (E.2.2.1 : Int))
  | .if_icmp _ off => decide (E.2.1 = pc + 3) && decide ((pc : Int) + off = (E.2.2.1 : Int))
  | .goto off => decide (E.2.1 = pc + 3) && decide ((pc : Int) + off = (E.2.2.1 : Int))
  | .tableswitch dflt lo hi offs => decide ((pc : Int) + dflt = (E.2.2.1 : Int)) && (decide (lo = (E.2.2.2.1 : Int)) && (decide (hi + 1 = (E.2.2.2.1 : Int) + E.2.2.2.2.2.length) && (decide (offs.toList = E.2.2.2.2.2.map (fun (t : Nat) => (t : Int) - (pc : Int))) && decide (E.2.2.2.1 + E.2.2.2.2.2.length < 100000))))
  | .getfield idx => decide (E.2.1 = pc + 3) && ((flk o).any (fun q => decide (q.1 = idx ∧ q.2.1 = E.2.2.1 ∧ q.2.2.1 = E.2.2.2.1)) || (fnk o).any (fun q => decide (q.1 = idx ∧ q.2.1 = E.2.2.1 ∧ q.2.2.1 = E.2.2.2.1)))
  | .putfield idx => decide (E.2.1 = pc + 3) && (flk o).any (fun q => decide (q.1 = idx ∧ q.2.1 = E.2.2.1 ∧ q.2.2.1 = E.2.2.2.1))
  | .invokevirtual idx => decide (E.2.1 = pc + 3) && (match E.2.2.2.2.2 with
    | [_, cn] => decide (mK E.2.2.1 = cn + 1) && (decide (1 ≤ E.2.2.2.1) && (mlk o).any (fun q => decide (q.1 = idx ∧ q.2.1 = E.2.2.1 ∧ q.2.2.1 = E.2.2.2.1 - 1)))
    | [_, _, w] => decide (o = 10 ∧ (w = 1 ∧ idx = 31 ∨ w = 2 ∧ idx = 37 ∨ w = 3 ∧ idx = 80))
    | _ => false)
  | .invokestatic idx => decide (E.2.1 = pc + 3) && (match E.2.2.2.2.2 with
    | [_] => decide (mK E.2.2.1 = 0) && ((mlk o).any (fun q => decide (q.1 = idx ∧ q.2.1 = E.2.2.1 ∧ q.2.2.1 = E.2.2.2.1)) || (mnk o).any (fun q => decide (q.1 = idx ∧ q.2.1 = E.2.2.1 ∧ q.2.2.1 = E.2.2.2.1)))
    | [_, k] => (spk o).any (fun q => decide (q.1 = idx ∧ q.2.1 = k))
    | _ => false)
  | _ => decide (E.2.1 = pc + 1)
def ckI (o : Nat) (cc : ByteArray) (pc : Nat) (E : PE) : Bool := decide (decode cc pc = .ok (E.1, E.2.1 - pc)) && ck1 o pc E
def retI : Option Value → Instr
  | none => .return_
  | some (.long _) => .lreturn
  | _ => .ireturn
theorem any_q {β : Type} {l : List β} {P : β → Prop} {f : β → Bool} (h : l.any f = true) (hf : ∀ q ∈ l, f q = true → P q) : ∃ q ∈ l, P q := by
  obtain ⟨q, h1, h2⟩ := List.any_eq_true.mp h
  exact ⟨q, h1, hf q h1 h2⟩
theorem p_sw_of {α : Type} {k : Nat → Option α} {dd : Nat} {x : Int32} {r : α} : ∀ (ts : List Nat) (n : Nat), p_sw k dd x n ts = some r → (∃ i t, ts[i]? = some t ∧ x = nI (n + i) ∧ k t = some r) ∨ ((∀ i, i < ts.length → x ≠ nI (n + i)) ∧ k dd = some r)
  | [], n, h => Or.inr ⟨fun i hi => absurd hi (Nat.not_lt_zero _), h⟩
  | t :: ts, n, h => by
    unfold p_sw at h
    split at h
    · rename_i hx
      exact Or.inl ⟨0, t, rfl, hx, h⟩
    · rename_i hx
      rcases p_sw_of ts (n + 1) h with ⟨i, t', h1, h2, h3⟩ | ⟨h1, h2⟩
      · exact Or.inl ⟨i + 1, t', h1, by rw [h2]; congr 1; omega, h3⟩
      · refine Or.inr ⟨fun i hi => ?_, h2⟩
        cases i with
        | zero => exact hx
        | succ i =>
          have h5 := h1 i (by simp only [List.length_cons] at hi; omega)
          intro h6
          exact h5 (by rw [h6]; congr 1; omega)
section PMain
variable {p : Program} {l : Launch} {e : Env} {R : Room} {s : State} {m : MethodId} {args : Array Value} {below : List Frame} {meth : Method} {c : Code} {Q : State → Prop} {cc : ByteArray} {o : Nat}
variable {D : va_G} {aT : Nat → ClassId} {A : Nat → Prop} {H0 : Heap} {ad0 : Nat → Nat} {N0 S0 : Nat} {pc : Nat} {L st : List Value} {T : PT} {ij : IJ} {α : Type} {r : α} {d nL : Nat}
/-- at an end -/
def RWr (Wf : Heap → List Loc → Nat → Nat → JFrame → Prop) (m : MethodId) (cc : ByteArray) (okp : PT → IJ → (Nat → Nat) → Heap → List Loc → Nat → Nat → Prop) (T : PT) (v : Option Value) (ij : IJ) : Prop :=
  ∀ (pc : Nat), decode cc pc = .ok (retI v, 1) → ∀ ad H locs cells slots (ls : Array Slot), okp T ij ad H locs cells slots → Wf H locs cells slots (F0 m pc ls v.toList)
theorem sw_sound {X : Int32} {rest : List Value} {dflt lo hi : Int} {offs : Array Int} {len : Nat} {a b : Nat} {ts : List Nat} {k : Nat → Option α} (hx : p.tables.exec = Jvm.exec) (hb : c.code = cc) (hdg : decode cc pc = .ok (.tableswitch dflt lo hi offs, len))
    (h1 : (pc : Int) + dflt = (a : Int)) (h2 : lo = (b : Int)) (h3 : hi + 1 = (b : Int) + ts.length) (h4 : offs.toList = ts.map (fun (t : Nat) => (t : Int) - (pc : Int))) (h5 : b + ts.length < 100000)
    (h : p_sw k a X b ts = some r) (hk : ∀ t, k t = some r → GW (fun H locs cells slots g => W p l e R s m args below meth c H locs cells slots Q g) m (p_ok D aT A H0 ad0 N0 S0) t L rest T ij) : GW (fun H locs cells slots g => W p l e R s m args below meth c H locs cells slots Q g) m (p_ok D aT A H0 ad0 N0 S0) pc L (.int X :: rest) T ij := by
  intro ad H locs cells slots ls ho hl
  rcases p_sw_of ts b h with ⟨i, t, e1, e2, e3⟩ | ⟨e1, e2⟩
  · have hi2 : i < ts.length := (List.getElem?_eq_some_iff.mp e1).1
    have hX : X.toInt = (b + i : Nat) := by rw [e2, nI_toInt (by omega)]
    refine lv_tableIn (off := (t : Int) - pc) (tgt := t) hx hb hdg (by omega) (by omega) ?_ (by omega) (hk t e3 ad H locs cells slots ls ho hl)
    have e4 : (X.toInt - lo).toNat = i := by omega
    rw [e4, ← Array.getElem?_toList, h4, List.getElem?_map, e1]
    rfl
  · refine lv_tableOut (tgt := a) hx hb hdg ?_ h1 (hk a e2 ad H locs cells slots ls ho hl)
    by_cases q1 : X.toInt < lo
    · exact Or.inl q1
    · right
      refine Int.not_le.mp (fun q2 => ?_)
      refine e1 (X.toInt - lo).toNat (by omega) ?_
      apply Int32.toInt_inj.mp
      rw [nI_toInt (by omega)]
      omega
theorem g_if1 {cd : ClassFile.Cond} {off : Int} {tgt : Nat} {kt kf : List Value → Option α} (hx : p.tables.exec = Jvm.exec) (hb : c.code = cc) (hd : decode cc pc = .ok (.ifCond cd off, 3)) (ht : (pc : Int) + off = (tgt : Int))
    (h : p_if1 cd st kt kf = some r) (hkt : ∀ st', kt st' = some r → GW (fun H locs cells slots g => W p l e R s m args below meth c H locs cells slots Q g) m (p_ok D aT A H0 ad0 N0 S0) tgt L st' T ij) (hkf : ∀ st', kf st' = some r → GW (fun H locs cells slots g => W p l e R s m args below meth c H locs cells slots Q g) m (p_ok D aT A H0 ad0 N0 S0) (pc + 3) L st' T ij) : GW (fun H locs cells slots g => W p l e R s m args below meth c H locs cells slots Q g) m (p_ok D aT A H0 ad0 N0 S0) pc L st T ij := by
  unfold p_if1 at h
  split at h
  · rename_i x rest
    intro ad H locs cells slots ls ho hl
    have h1 := fun hh => hkt rest hh ad H locs cells slots ls ho hl
    have h2 := fun hh => hkf rest hh ad H locs cells slots ls ho hl
    cases cd with
    | eq =>
      unfold p_br1 at h
      dsimp only at h
      exact lv_if_eq hx hb hd ht (fun q => h1 (by rw [if_pos q] at h; exact h)) (fun q => h2 (by rw [if_neg q] at h; exact h))
    | ne =>
      unfold p_br1 at h
      dsimp only at h
      exact lv_if_ne hx hb hd ht (fun q => h1 (by rw [if_neg q] at h; exact h)) (fun q => h2 (by rw [if_pos q] at h; exact h))
    | lt =>
      unfold p_br1 at h
      dsimp only at h
      exact lv_if_lt hx hb hd ht (fun q => h1 (by rw [if_pos q] at h; exact h)) (fun q => h2 (by rw [if_neg q] at h; exact h))
    | ge =>
      unfold p_br1 at h
      dsimp only at h
      exact lv_if_ge hx hb hd ht (fun q => h1 (by rw [if_pos q] at h; exact h)) (fun q => h2 (by rw [if_neg q] at h; exact h))
    | gt =>
      unfold p_br1 at h
      dsimp only at h
      exact lv_if_gt hx hb hd ht (fun q => h1 (by rw [if_pos q] at h; exact h)) (fun q => h2 (by rw [if_neg q] at h; exact h))
    | le =>
      unfold p_br1 at h
      dsimp only at h
      exact lv_if_le hx hb hd ht (fun q => h1 (by rw [if_pos q] at h; exact h)) (fun q => h2 (by rw [if_neg q] at h; exact h))
  · cases h
theorem g_if2 {cd : ClassFile.Cond} {off : Int} {tgt : Nat} {kt kf : List Value → Option α} (hx : p.tables.exec = Jvm.exec) (hb : c.code = cc) (hd : decode cc pc = .ok (.if_icmp cd off, 3)) (ht : (pc : Int) + off = (tgt : Int))
    (h : p_if2 cd st kt kf = some r) (hkt : ∀ st', kt st' = some r → GW (fun H locs cells slots g => W p l e R s m args below meth c H locs cells slots Q g) m (p_ok D aT A H0 ad0 N0 S0) tgt L st' T ij) (hkf : ∀ st', kf st' = some r → GW (fun H locs cells slots g => W p l e R s m args below meth c H locs cells slots Q g) m (p_ok D aT A H0 ad0 N0 S0) (pc + 3) L st' T ij) : GW (fun H locs cells slots g => W p l e R s m args below meth c H locs cells slots Q g) m (p_ok D aT A H0 ad0 N0 S0) pc L st T ij := by
  unfold p_if2 at h
  split at h
  · rename_i y x rest
    intro ad H locs cells slots ls ho hl
    have h1 := fun hh => hkt rest hh ad H locs cells slots ls ho hl
    have h2 := fun hh => hkf rest hh ad H locs cells slots ls ho hl
    cases cd with
    | eq =>
      unfold p_br2 at h
      dsimp only at h
      exact lv_icmp_eq hx hb hd ht (fun q => h1 (by rw [if_pos q] at h; exact h)) (fun q => h2 (by rw [if_neg q] at h; exact h))
    | ne =>
      unfold p_br2 at h
      dsimp only at h
      exact lv_icmp_ne hx hb hd ht (fun q => h1 (by rw [if_neg q] at h; exact h)) (fun q => h2 (by rw [if_pos q] at h; exact h))
    | lt =>
      unfold p_br2 at h
      dsimp only at h
      exact lv_icmp_lt hx hb hd ht (fun q => h1 (by rw [if_pos q] at h; exact h)) (fun q => h2 (by rw [if_neg q] at h; exact h))
    | ge =>
      unfold p_br2 at h
      dsimp only at h
      exact lv_icmp_ge hx hb hd ht (fun q => h1 (by rw [if_pos q] at h; exact h)) (fun q => h2 (by rw [if_neg q] at h; exact h))
    | gt =>
      unfold p_br2 at h
      dsimp only at h
      exact lv_icmp_gt hx hb hd ht (fun q => h1 (by rw [if_pos q] at h; exact h)) (fun q => h2 (by rw [if_neg q] at h; exact h))
    | le =>
      unfold p_br2 at h
      dsimp only at h
      exact lv_icmp_le hx hb hd ht (fun q => h1 (by rw [if_pos q] at h; exact h)) (fun q => h2 (by rw [if_neg q] at h; exact h))
  · cases h
theorem ckd {nx a b : Nat} {v : Int32} {ts : List Nat} {ins : Instr} (h : ckI o cc pc (ins, nx, a, b, v, ts) = true) : decode cc pc = .ok (ins, nx - pc) ∧ ck1 o pc (ins, nx, a, b, v, ts) = true := by
  unfold ckI at h
  rw [Bool.and_eq_true] at h
  exact ⟨of_decide_eq_true h.1, h.2⟩
theorem dec_n {nx k : Nat} {ins : Instr} (h : decode cc pc = .ok (ins, nx - pc)) (hn : nx = pc + k) : decode cc pc = .ok (ins, k) := by
  rw [hn, Nat.add_sub_cancel_left] at h
  exact h
set_option maxHeartbeats 4000000 in
theorem stpS_sound {O : Ora} {X : PX} {E : PE} {k : Nat → List Value → List Value → IJ → Option α} {rt : Option Value → IJ → Option α} (hx : p.tables.exec = Jvm.exec) (hb : c.code = cc) (hml : c.maxLocals = nL) (hown : s.vm.findClass (oN o) = some m.cls) (hts : ∀ w ∈ gtb, w.before args s = true) (hK : va_K D vwCl (p_tys aT) s) (hN : ∀ w ∈ nws, va_Nw w s) (hG : SG ad0 A s H0) (hH0 : H0 = s.heap)
    (hX : ∀ X', X = some X' → va_X (ad0 100000) X'.1 X'.2 s H0 ∧ ad0 100000 < H0.size ∧ ¬ A (ad0 100000) ∧ X'.1 < 100000) (hAq : ∀ q, H0.size ≤ q → A q) (hR : d + 5 ≤ R.frames ∧ 64 * (d + 5) ≤ R.locals) (hRc : T.1 ≤ N0 + R.cells ∧ T.2.1 ≤ S0 + R.slots) (hO : ∀ y as ij r0, O T y as ij = some r0 → MetC l d y T as ij r0)
    (hck : ckI o cc pc E = true) (h : stpS O X nL T E L st ij k rt = some r) (hk : ∀ pc' L' st' ij', k pc' L' st' ij' = some r → GW (fun H locs cells slots g => W p l e R s m args below meth c H locs cells slots Q g) m (p_ok D aT A H0 ad0 N0 S0) pc' L' st' T ij')
    (hrt : ∀ v ij', rt v ij' = some r → RWr (fun H locs cells slots g => W p l e R s m args below meth c H locs cells slots Q g) m cc (p_ok D aT A H0 ad0 N0 S0) T v ij') : GW (fun H locs cells slots g => W p l e R s m args below meth c H locs cells slots Q g) m (p_ok D aT A H0 ad0 N0 S0) pc L st T ij := by
  obtain ⟨ins, nx, a, b, v, ts⟩ := E
  obtain ⟨hd, hc⟩ := ckd hck
  cases ins with
  | iconst n =>
    have hc' := (Bool.and_eq_true _ _).mp hc
    have hn : nx = pc + 1 := of_decide_eq_true hc'.1
    have hv := of_decide_eq_true hc'.2
    subst hn
    have hd := dec_n hd rfl
    simp only [stpS, p_bif_dec, p_chk_ite] at h
    exact g_push (fun _ => rfl) (fun H locs cells slots ls rest hw => lv_iconst hx hb hd hv hw) (hk _ _ _ _ h)
  | bipush n =>
    have hc' := (Bool.and_eq_true _ _).mp hc
    have hn : nx = pc + 2 := of_decide_eq_true hc'.1
    have hv := of_decide_eq_true hc'.2
    subst hn
    have hd := dec_n hd rfl
    simp only [stpS, p_bif_dec, p_chk_ite] at h
    exact g_push (fun _ => rfl) (fun H locs cells slots ls rest hw => lv_bipush hx hb hd hv hw) (hk _ _ _ _ h)
  | sipush n =>
    have hc' := (Bool.and_eq_true _ _).mp hc
    have hn : nx = pc + 3 := of_decide_eq_true hc'.1
    have hv := of_decide_eq_true hc'.2
    subst hn
    have hd := dec_n hd rfl
    simp only [stpS, p_bif_dec, p_chk_ite] at h
    exact g_push (fun _ => rfl) (fun H locs cells slots ls rest hw => lv_sipush hx hb hd hv hw) (hk _ _ _ _ h)
  | ldc idx =>
    have hc' := (Bool.and_eq_true _ _).mp hc
    have hn : nx = pc + 2 := of_decide_eq_true hc'.1
    subst hn
    have hd := dec_n hd rfl
    have hc2 := hc'.2
    simp only [stpS] at h
    dsimp only at hc2
    split at hc2
    · obtain ⟨q, hq, hv⟩ := List.any_eq_true.mp hc2
      obtain ⟨e1, e2⟩ := of_decide_eq_true hv
      have hw9 := cI_all o q hq
      rw [e1, e2] at hw9
      exact g_push (fun _ => rfl) (fun H locs cells slots ls rest hw => lv_ldc hx hb hown (hts _ hw9) hd hw) (hk _ _ _ _ h)
    · rename_i q
      obtain ⟨ho, hv⟩ := of_decide_eq_true hc2
      subst ho
      intro ad H locs cells slots ls ho hl
      have h1 := hk _ _ _ _ h ad H locs cells slots ls ho hl
      rcases hv with ⟨rfl, rfl⟩ | ⟨rfl, rfl⟩
      · have e9 : ad 100001 = ad0 100001 := ho.2.2.2.2.2.2 _ (Or.inr (by decide))
        have h2 : W p l e R s m args below meth c H locs cells slots Q (F0 m (pc + 2) ls (.ref (ad 100001) :: st.map (sv ad))) := h1
        rw [e9] at h2
        exact va_ldcS hx hb hown hG.2.1 hd h2
      · have e9 : ad 100003 = ad0 100003 := ho.2.2.2.2.2.2 _ (Or.inr (by decide))
        have h2 : W p l e R s m args below meth c H locs cells slots Q (F0 m (pc + 2) ls (.ref (ad 100003) :: st.map (sv ad))) := h1
        rw [e9] at h2
        exact va_ldcS hx hb hown hG.2.2 hd h2
    · cases hc2
  | ldc_w idx =>
    have hc' := (Bool.and_eq_true _ _).mp hc
    have hn : nx = pc + 3 := of_decide_eq_true hc'.1
    obtain ⟨q, hq, hv⟩ := List.any_eq_true.mp hc'.2
    obtain ⟨e1, e2⟩ := of_decide_eq_true hv
    subst hn
    have hd := dec_n hd rfl
    simp only [stpS, p_bif_dec, p_chk_ite] at h
    have hw9 := cI_all o q hq
    rw [e1, e2] at hw9
    exact g_push (fun _ => rfl) (fun H locs cells slots ls rest hw => lv_ldcw hx hb hown (hts _ hw9) hd hw) (hk _ _ _ _ h)
  | ldc2_w idx =>
    have hc' := (Bool.and_eq_true _ _).mp hc
    have hn : nx = pc + 3 := of_decide_eq_true hc'.1
    obtain ⟨q, hq, hv⟩ := List.any_eq_true.mp hc'.2
    obtain ⟨e1, e2⟩ := of_decide_eq_true hv
    subst hn
    have hd := dec_n hd rfl
    simp only [stpS, p_bif_dec, p_chk_ite] at h
    have hw9 := cJ_all o q hq
    rw [e1, e2] at hw9
    exact g_push (fun _ => rfl) (fun H locs cells slots ls rest hw => lv_ldc2 hx hb hown (hts _ hw9) hd hw) (hk _ _ _ _ h)
  | lconst n =>
    have hc' := (Bool.and_eq_true _ _).mp hc
    have hn : nx = pc + 1 := of_decide_eq_true hc'.1
    have hv := of_decide_eq_true hc'.2
    subst hn
    have hd := dec_n hd rfl
    simp only [stpS, p_bif_dec, p_chk_ite] at h
    exact g_push (v := .long (Int64.ofNat a)) (fun _ => rfl) (fun H locs cells slots ls rest hw => lv_lconst hx hb hd (by have hv : a = n.val := hv; rw [hv]) hw) (hk _ _ _ _ h)
  | iload i =>
    have hn : nx = pc + 2 := of_decide_eq_true hc
    subst hn
    have hd := dec_n hd rfl
    simp only [stpS, p_bif_dec, p_chk_ite] at h
    exact g_ldi (fun H locs cells slots ls x rest hl hw => lv_iload hx hb hd hl hw) h (fun st' hh => hk _ _ _ _ hh)
  | iload_n i =>
    have hn : nx = pc + 1 := of_decide_eq_true hc
    subst hn
    have hd := dec_n hd rfl
    simp only [stpS, p_bif_dec, p_chk_ite] at h
    exact g_ldi (fun H locs cells slots ls x rest hl hw => lv_iload_n hx hb hd rfl hl hw) h (fun st' hh => hk _ _ _ _ hh)
  | lload i =>
    have hn : nx = pc + 2 := of_decide_eq_true hc
    subst hn
    have hd := dec_n hd rfl
    simp only [stpS, p_bif_dec, p_chk_ite] at h
    exact g_ldl (fun H locs cells slots ls x rest hl hw => lv_lload hx hb hd hl hw) h (fun st' hh => hk _ _ _ _ hh)
  | lload_n i =>
    have hn : nx = pc + 1 := of_decide_eq_true hc
    subst hn
    have hd := dec_n hd rfl
    simp only [stpS, p_bif_dec, p_chk_ite] at h
    exact g_ldl (fun H locs cells slots ls x rest hl hw => lv_lload_n hx hb hd rfl hl hw) h (fun st' hh => hk _ _ _ _ hh)
  | aload i =>
    have hn : nx = pc + 2 := of_decide_eq_true hc
    subst hn
    have hd := dec_n hd rfl
    simp only [stpS, p_bif_dec, p_chk_ite] at h
    exact g_lda (fun H locs cells slots ls x rest hl hw => lv_aload hx hb hd hl hw) h (fun st' hh => hk _ _ _ _ hh)
  | aload_n i =>
    have hn : nx = pc + 1 := of_decide_eq_true hc
    subst hn
    have hd := dec_n hd rfl
    simp only [stpS, p_bif_dec, p_chk_ite] at h
    exact g_lda (fun H locs cells slots ls x rest hl hw => lv_aload_n hx hb hd rfl hl hw) h (fun st' hh => hk _ _ _ _ hh)
  | istore i =>
    have hn : nx = pc + 2 := of_decide_eq_true hc
    subst hn
    have hd := dec_n hd rfl
    simp only [stpS, p_bif_dec, p_chk_ite] at h
    exact g_sti (fun H locs cells slots ls nL lv x rest hl hi hw => lv_istore hx hb hd hl hi rfl hw) h (fun L' st' hh => hk _ _ _ _ hh)
  | istore_n i =>
    have hn : nx = pc + 1 := of_decide_eq_true hc
    subst hn
    have hd := dec_n hd rfl
    simp only [stpS, p_bif_dec, p_chk_ite] at h
    exact g_sti (fun H locs cells slots ls nL lv x rest hl hi hw => lv_istore_n hx hb hd rfl hl hi rfl hw) h (fun L' st' hh => hk _ _ _ _ hh)
  | lstore i =>
    have hn : nx = pc + 2 := of_decide_eq_true hc
    subst hn
    have hd := dec_n hd rfl
    simp only [stpS, p_bif_dec, p_chk_ite] at h
    exact g_stl (fun H locs cells slots ls nL lv x rest hl hi hw => lv_lstore hx hb hd hl hi rfl hw) h (fun L' st' hh => hk _ _ _ _ hh)
  | lstore_n i =>
    have hn : nx = pc + 1 := of_decide_eq_true hc
    subst hn
    have hd := dec_n hd rfl
    simp only [stpS, p_bif_dec, p_chk_ite] at h
    exact g_stl (fun H locs cells slots ls nL lv x rest hl hi hw => lv_lstore_n hx hb hd rfl hl hi rfl hw) h (fun L' st' hh => hk _ _ _ _ hh)
  | astore i =>
    have hn : nx = pc + 2 := of_decide_eq_true hc
    subst hn
    have hd := dec_n hd rfl
    simp only [stpS, p_bif_dec, p_chk_ite] at h
    exact g_sta (fun H locs cells slots ls nL lv x rest hl hi hw => lv_astore hx hb hd hl hi rfl hw) h (fun L' st' hh => hk _ _ _ _ hh)
  | astore_n i =>
    have hn : nx = pc + 1 := of_decide_eq_true hc
    subst hn
    have hd := dec_n hd rfl
    simp only [stpS, p_bif_dec, p_chk_ite] at h
    exact g_sta (fun H locs cells slots ls nL lv x rest hl hi hw => lv_astore_n hx hb hd rfl hl hi rfl hw) h (fun L' st' hh => hk _ _ _ _ hh)
  | iinc i n =>
    have hc' := (Bool.and_eq_true _ _).mp hc
    have hn : nx = pc + 3 := of_decide_eq_true hc'.1
    have hv := of_decide_eq_true hc'.2
    subst hn
    have hd := dec_n hd rfl
    simp only [stpS, p_bif_dec, p_chk_ite] at h
    exact g_inc (fun H locs cells slots ls nL kk lv x rest hl hi hkk hw => lv_iinc hx hb hd hl hkk (by rw [hv]) hi rfl hw) h (fun L' hh => hk _ _ _ _ hh)
  | iadd =>
    have hn : nx = pc + 1 := of_decide_eq_true hc
    subst hn
    have hd := dec_n hd rfl
    simp only [stpS, p_bif_dec, p_chk_ite] at h
    exact g_b2 (fun _ _ _ => rfl) (fun H locs cells slots ls x y rest hw => lv_iadd hx hb hd hw) h (fun st' hh => hk _ _ _ _ hh)
  | isub =>
    have hn : nx = pc + 1 := of_decide_eq_true hc
    subst hn
    have hd := dec_n hd rfl
    simp only [stpS, p_bif_dec, p_chk_ite] at h
    exact g_b2 (fun _ _ _ => rfl) (fun H locs cells slots ls x y rest hw => lv_isub hx hb hd hw) h (fun st' hh => hk _ _ _ _ hh)
  | imul =>
    have hn : nx = pc + 1 := of_decide_eq_true hc
    subst hn
    have hd := dec_n hd rfl
    simp only [stpS, p_bif_dec, p_chk_ite] at h
    exact g_b2 (fun _ _ _ => rfl) (fun H locs cells slots ls x y rest hw => lv_imul hx hb hd hw) h (fun st' hh => hk _ _ _ _ hh)
  | iand =>
    have hn : nx = pc + 1 := of_decide_eq_true hc
    subst hn
    have hd := dec_n hd rfl
    simp only [stpS, p_bif_dec, p_chk_ite] at h
    exact g_b2 (fun _ _ _ => rfl) (fun H locs cells slots ls x y rest hw => lv_iand hx hb hd hw) h (fun st' hh => hk _ _ _ _ hh)
  | ior =>
    have hn : nx = pc + 1 := of_decide_eq_true hc
    subst hn
    have hd := dec_n hd rfl
    simp only [stpS, p_bif_dec, p_chk_ite] at h
    exact g_b2 (fun _ _ _ => rfl) (fun H locs cells slots ls x y rest hw => lv_ior hx hb hd hw) h (fun st' hh => hk _ _ _ _ hh)
  | ixor =>
    have hn : nx = pc + 1 := of_decide_eq_true hc
    subst hn
    have hd := dec_n hd rfl
    simp only [stpS, p_bif_dec, p_chk_ite] at h
    exact g_b2 (fun _ _ _ => rfl) (fun H locs cells slots ls x y rest hw => lv_ixor hx hb hd hw) h (fun st' hh => hk _ _ _ _ hh)
  | ishl =>
    have hn : nx = pc + 1 := of_decide_eq_true hc
    subst hn
    have hd := dec_n hd rfl
    simp only [stpS, p_bif_dec, p_chk_ite] at h
    exact g_b2 (fun _ _ _ => rfl) (fun H locs cells slots ls x y rest hw => lv_ishl hx hb hd hw) h (fun st' hh => hk _ _ _ _ hh)
  | ishr =>
    have hn : nx = pc + 1 := of_decide_eq_true hc
    subst hn
    have hd := dec_n hd rfl
    simp only [stpS, p_bif_dec, p_chk_ite] at h
    exact g_b2 (fun _ _ _ => rfl) (fun H locs cells slots ls x y rest hw => lv_ishr hx hb hd hw) h (fun st' hh => hk _ _ _ _ hh)
  | iushr =>
    have hn : nx = pc + 1 := of_decide_eq_true hc
    subst hn
    have hd := dec_n hd rfl
    simp only [stpS, p_bif_dec, p_chk_ite] at h
    exact g_b2 (fun _ _ _ => rfl) (fun H locs cells slots ls x y rest hw => lv_iushr hx hb hd rfl hw) h (fun st' hh => hk _ _ _ _ hh)
  | ineg =>
    have hn : nx = pc + 1 := of_decide_eq_true hc
    subst hn
    have hd := dec_n hd rfl
    simp only [stpS, p_bif_dec, p_chk_ite] at h
    exact g_b1 (fun _ _ => rfl) (fun H locs cells slots ls x rest hw => lv_ineg hx hb hd hw) h (fun st' hh => hk _ _ _ _ hh)
  | i2l =>
    have hn : nx = pc + 1 := of_decide_eq_true hc
    subst hn
    have hd := dec_n hd rfl
    simp only [stpS, p_bif_dec, p_chk_ite] at h
    exact g_b1 (fun _ _ => rfl) (fun H locs cells slots ls x rest hw => lv_i2l hx hb hd rfl hw) h (fun st' hh => hk _ _ _ _ hh)
  | i2b =>
    have hn : nx = pc + 1 := of_decide_eq_true hc
    subst hn
    have hd := dec_n hd rfl
    simp only [stpS, p_bif_dec, p_chk_ite] at h
    exact g_b1 (fun _ _ => rfl) (fun H locs cells slots ls x rest hw => lv_i2b hx hb hd rfl hw) h (fun st' hh => hk _ _ _ _ hh)
  | i2c =>
    have hn : nx = pc + 1 := of_decide_eq_true hc
    subst hn
    have hd := dec_n hd rfl
    simp only [stpS, p_bif_dec, p_chk_ite] at h
    exact g_b1 (fun _ _ => rfl) (fun H locs cells slots ls x rest hw => lv_i2c hx hb hd rfl hw) h (fun st' hh => hk _ _ _ _ hh)
  | l2i =>
    have hn : nx = pc + 1 := of_decide_eq_true hc
    subst hn
    have hd := dec_n hd rfl
    simp only [stpS, p_bif_dec, p_chk_ite] at h
    exact g_l1 (fun _ _ => rfl) (fun H locs cells slots ls x rest hw => lv_l2i hx hb hd rfl hw) h (fun st' hh => hk _ _ _ _ hh)
  | ladd =>
    have hn : nx = pc + 1 := of_decide_eq_true hc
    subst hn
    have hd := dec_n hd rfl
    simp only [stpS, p_bif_dec, p_chk_ite] at h
    exact g_l2 (fun _ _ _ => rfl) (fun H locs cells slots ls x y rest hw => lv_ladd hx hb hd hw) h (fun st' hh => hk _ _ _ _ hh)
  | lsub =>
    have hn : nx = pc + 1 := of_decide_eq_true hc
    subst hn
    have hd := dec_n hd rfl
    simp only [stpS, p_bif_dec, p_chk_ite] at h
    exact g_l2 (fun _ _ _ => rfl) (fun H locs cells slots ls x y rest hw => lv_lsub hx hb hd hw) h (fun st' hh => hk _ _ _ _ hh)
  | lmul =>
    have hn : nx = pc + 1 := of_decide_eq_true hc
    subst hn
    have hd := dec_n hd rfl
    simp only [stpS, p_bif_dec, p_chk_ite] at h
    exact g_l2 (fun _ _ _ => rfl) (fun H locs cells slots ls x y rest hw => lv_lmul hx hb hd hw) h (fun st' hh => hk _ _ _ _ hh)
  | lcmp =>
    have hn : nx = pc + 1 := of_decide_eq_true hc
    subst hn
    have hd := dec_n hd rfl
    simp only [stpS, p_bif_dec, p_chk_ite] at h
    exact g_l2 (fun _ _ _ => rfl) (fun H locs cells slots ls x y rest hw => W.lcmp hx hb hd hw) h (fun st' hh => hk _ _ _ _ hh)
  | idiv =>
    have hn : nx = pc + 1 := of_decide_eq_true hc
    subst hn
    have hd := dec_n hd rfl
    simp only [stpS, p_bif_dec, p_chk_ite] at h
    split at h
    · split at h
      · rename_i hne
        intro ad H locs cells slots ls ho hl
        exact lv_idiv hx hb hd (nz_ne hne) (hk _ _ _ _ h ad H locs cells slots ls ho hl)
      · cases h
    · cases h
  | irem =>
    have hn : nx = pc + 1 := of_decide_eq_true hc
    subst hn
    have hd := dec_n hd rfl
    simp only [stpS, p_bif_dec, p_chk_ite] at h
    split at h
    · split at h
      · rename_i hne
        intro ad H locs cells slots ls ho hl
        exact lv_irem hx hb hd (nz_ne hne) (hk _ _ _ _ h ad H locs cells slots ls ho hl)
      · cases h
    · cases h
  | dup =>
    have hn : nx = pc + 1 := of_decide_eq_true hc
    subst hn
    have hd := dec_n hd rfl
    simp only [stpS, p_bif_dec, p_chk_ite] at h
    split at h
    · split at h
      · rename_i w r9 hcat
        intro ad H locs cells slots ls ho hl
        exact lv_dup hx hb hd (by rw [sv_cat]; exact hcat) (hk _ _ _ _ h ad H locs cells slots ls ho hl)
      · cases h
    · cases h
  | pop =>
    have hn : nx = pc + 1 := of_decide_eq_true hc
    subst hn
    have hd := dec_n hd rfl
    simp only [stpS, p_bif_dec, p_chk_ite] at h
    split at h
    · split at h
      · rename_i w r9 hcat
        intro ad H locs cells slots ls ho hl
        exact lv_pop hx hb hd (by rw [sv_cat]; exact hcat) (hk _ _ _ _ h ad H locs cells slots ls ho hl)
      · cases h
    · cases h
  | dup2 =>
    have hn : nx = pc + 1 := of_decide_eq_true hc
    subst hn
    have hd := dec_n hd rfl
    simp only [stpS, p_bif_dec, p_chk_ite] at h
    split at h
    · split at h
      · split at h
        · rename_i w w2 r9 hcat hcat2
          intro ad H locs cells slots ls ho hl
          exact lv_dup2_11 hx hb hd (by rw [sv_cat]; exact hcat) (by rw [sv_cat]; exact hcat2) (hk _ _ _ _ h ad H locs cells slots ls ho hl)
        · cases h
      · cases h
    · cases h
  | ifCond cd off =>
    have hc' := (Bool.and_eq_true _ _).mp hc
    have hn : nx = pc + 3 := of_decide_eq_true hc'.1
    have hv := of_decide_eq_true hc'.2
    subst hn
    have hd := dec_n hd rfl
    simp only [stpS, p_bif_dec, p_chk_ite] at h
    exact g_if1 hx hb hd hv h (fun st' hh => hk _ _ _ _ hh) (fun st' hh => hk _ _ _ _ hh)
  | if_icmp cd off =>
    have hc' := (Bool.and_eq_true _ _).mp hc
    have hn : nx = pc + 3 := of_decide_eq_true hc'.1
    have hv := of_decide_eq_true hc'.2
    subst hn
    have hd := dec_n hd rfl
    simp only [stpS, p_bif_dec, p_chk_ite] at h
    exact g_if2 hx hb hd hv h (fun st' hh => hk _ _ _ _ hh) (fun st' hh => hk _ _ _ _ hh)
  | goto off =>
    have hc' := (Bool.and_eq_true _ _).mp hc
    have hn : nx = pc + 3 := of_decide_eq_true hc'.1
    have hv := of_decide_eq_true hc'.2
    subst hn
    have hd := dec_n hd rfl
    simp only [stpS, p_bif_dec, p_chk_ite] at h
    intro ad H locs cells slots ls ho hl
    exact lv_goto hx hb hd hv (hk _ _ _ _ h ad H locs cells slots ls ho hl)
  | tableswitch dflt lo hi offs =>
    simp only [ck1, Bool.and_eq_true, decide_eq_true_eq] at hc
    obtain ⟨c1, c2, c3, c4, c5⟩ := hc
    simp only [stpS, p_bif_dec, p_chk_ite] at h
    split at h
    · exact sw_sound hx hb hd c1 c2 c3 c4 c5 h (fun t hh => hk _ _ _ _ hh)
    · cases h
  | iaload =>
    have hn : nx = pc + 1 := of_decide_eq_true hc
    subst hn
    have hd := dec_n hd rfl
    simp only [stpS, p_bif_dec, p_chk_ite] at h
    exact g_ald hx hb hK hX hd h (fun st' hh => hk _ _ _ _ hh)
  | baload =>
    have hn : nx = pc + 1 := of_decide_eq_true hc
    subst hn
    have hd := dec_n hd rfl
    simp only [stpS, p_bif_dec, p_chk_ite] at h
    exact g_bld hx hb hK hd h (fun st' hh => hk _ _ _ _ hh)
  | laload =>
    have hn : nx = pc + 1 := of_decide_eq_true hc
    subst hn
    have hd := dec_n hd rfl
    simp only [stpS, p_bif_dec, p_chk_ite] at h
    exact g_lld hx hb hK hd h (fun st' hh => hk _ _ _ _ hh)
  | aaload =>
    have hn : nx = pc + 1 := of_decide_eq_true hc
    subst hn
    have hd := dec_n hd rfl
    simp only [stpS, p_bif_dec, p_chk_ite] at h
    exact g_qld hx hb hK hd h (fun st' hh => hk _ _ _ _ hh)
  | iastore =>
    have hn : nx = pc + 1 := of_decide_eq_true hc
    subst hn
    have hd := dec_n hd rfl
    simp only [stpS, p_bif_dec, p_chk_ite] at h
    exact g_ast hx hb hK hd h (fun st' ij' hh => hk _ _ _ _ hh)
  | bastore =>
    have hn : nx = pc + 1 := of_decide_eq_true hc
    subst hn
    have hd := dec_n hd rfl
    simp only [stpS, p_bif_dec, p_chk_ite] at h
    exact g_bst hx hb hK hd h (fun st' ij' hh => hk _ _ _ _ hh)
  | lastore =>
    have hn : nx = pc + 1 := of_decide_eq_true hc
    subst hn
    have hd := dec_n hd rfl
    simp only [stpS, p_bif_dec, p_chk_ite] at h
    exact g_lst hx hb hK hd h (fun st' ij' hh => hk _ _ _ _ hh)
  | arraylength =>
    have hn : nx = pc + 1 := of_decide_eq_true hc
    subst hn
    have hd := dec_n hd rfl
    simp only [stpS, p_bif_dec, p_chk_ite] at h
    exact g_len hx hb hK hX hd h (fun st' hh => hk _ _ _ _ hh)
  | getfield idx =>
    have hc' := (Bool.and_eq_true _ _).mp hc
    have hn : nx = pc + 3 := of_decide_eq_true hc'.1
    subst hn
    have hd := dec_n hd rfl
    simp only [stpS, p_bif_dec, p_chk_ite] at h
    rcases (Bool.or_eq_true _ _).mp hc'.2 with hq | hq
    · obtain ⟨q, hq, hv⟩ := List.any_eq_true.mp hq
      obtain ⟨e1, e2, e3⟩ := of_decide_eq_true hv
      obtain ⟨⟨f1, f2⟩, f3⟩ := fl_all o q hq
      rw [e2] at f1 f2
      rw [e3] at f2
      rw [e1, e2, e3] at f3
      exact g_get hx hb hown hts hK hN f1 f2 (Or.inl f3) hd h (fun st' hh => hk _ _ _ _ hh)
    · obtain ⟨q, hq, hv⟩ := List.any_eq_true.mp hq
      obtain ⟨e1, e2, e3⟩ := of_decide_eq_true hv
      obtain ⟨⟨f1, f2⟩, f3⟩ := fn_all o q hq
      rw [e2] at f1 f2
      rw [e3] at f2
      rw [e1, e2, e3] at f3
      exact g_get hx hb hown hts hK hN f1 f2 (Or.inr ⟨_, f3⟩) hd h (fun st' hh => hk _ _ _ _ hh)
  | putfield idx =>
    have hc' := (Bool.and_eq_true _ _).mp hc
    have hn : nx = pc + 3 := of_decide_eq_true hc'.1
    subst hn
    have hd := dec_n hd rfl
    simp only [stpS, p_bif_dec, p_chk_ite] at h
    obtain ⟨q, hq, hv⟩ := List.any_eq_true.mp hc'.2
    obtain ⟨e1, e2, e3⟩ := of_decide_eq_true hv
    obtain ⟨⟨f1, f2⟩, f3⟩ := fl_all o q hq
    rw [e2] at f1 f2
    rw [e3] at f2
    rw [e1, e2, e3] at f3
    exact g_put hx hb hown hts hK f1 f2 f3 hd h (fun st' ij' hh => hk _ _ _ _ hh)
  | invokevirtual idx =>
    have hc' := (Bool.and_eq_true _ _).mp hc
    have hn : nx = pc + 3 := of_decide_eq_true hc'.1
    subst hn
    have hd := dec_n hd rfl
    have hc2 := hc'.2
    simp only [stpS, p_bif_dec, p_chk_ite] at h
    split at h
    · rename_i hLn
      dsimp only at hc2
      split at hc2
      · rename_i rk cn
        obtain ⟨g1, g2⟩ := (Bool.and_eq_true _ _).mp hc2
        obtain ⟨g2, g3⟩ := (Bool.and_eq_true _ _).mp g2
        obtain ⟨q, hq, hv⟩ := List.any_eq_true.mp g3
        obtain ⟨e1, e2, e3⟩ := of_decide_eq_true hv
        obtain ⟨f1, f2, f3⟩ := ml_all o q hq
        rw [e2] at f1 f2
        rw [e3] at f1
        rw [e1, e2] at f3
        exact g_callV hx hb (hml.trans hLn.symm) hown hts hK hN hG hAq hR hRc (fun r0 hr0 => hO _ _ _ _ hr0) f2 (of_decide_eq_true g1) (of_decide_eq_true g2) f1 f3 hd h (fun st' ij' hh => hk _ _ _ _ hh)
      · rename_i w1 w2 w
        obtain ⟨ho, hv⟩ := of_decide_eq_true hc2
        subst ho
        have h9 : p_str w st (fun st => k (pc + 3) L st ij) = some r := h
        exact g_str hx hb (hml.trans hLn.symm) hown hts hG hH0 hAq hR hRc hv hd h9 (fun st' hh => hk _ _ _ _ hh)
      · cases hc2
    · cases h
  | invokestatic idx =>
    have hc' := (Bool.and_eq_true _ _).mp hc
    have hn : nx = pc + 3 := of_decide_eq_true hc'.1
    subst hn
    have hd := dec_n hd rfl
    have hc2 := hc'.2
    simp only [stpS, p_bif_dec, p_chk_ite] at h
    split at h
    · rename_i hLn
      dsimp only at hc2
      split at hc2
      · rename_i rk
        obtain ⟨g1, g2⟩ := (Bool.and_eq_true _ _).mp hc2
        rcases (Bool.or_eq_true _ _).mp g2 with g3 | g3
        · obtain ⟨q, hq, hv⟩ := List.any_eq_true.mp g3
          obtain ⟨e1, e2, e3⟩ := of_decide_eq_true hv
          obtain ⟨f1, f2, f3⟩ := ml_all o q hq
          rw [e2] at f1 f2
          rw [e3] at f1
          rw [e1, e2] at f3
          exact g_callS hx hb (hml.trans hLn.symm) hown hts hK hN hG hAq hR hRc (fun r0 hr0 => hO _ _ _ _ hr0) f2 (of_decide_eq_true g1) f1 (Or.inl f3) hd h (fun st' ij' hh => hk _ _ _ _ hh)
        · obtain ⟨q, hq, hv⟩ := List.any_eq_true.mp g3
          obtain ⟨e1, e2, e3⟩ := of_decide_eq_true hv
          obtain ⟨f1, f2, f3⟩ := mn_all o q hq
          rw [e2] at f1 f2
          rw [e3] at f1
          rw [e1, e2] at f3
          exact g_callS hx hb (hml.trans hLn.symm) hown hts hK hN hG hAq hR hRc (fun r0 hr0 => hO _ _ _ _ hr0) f2 (of_decide_eq_true g1) f1 (Or.inr ⟨_, f3⟩) hd h (fun st' ij' hh => hk _ _ _ _ hh)
      · rename_i rk kd
        obtain ⟨q, hq, hv⟩ := List.any_eq_true.mp hc2
        obtain ⟨e1, e2⟩ := of_decide_eq_true hv
        have f3 := sp_all o q hq
        rw [e1, e2] at f3
        unfold p_inv at h
        simp only [p_bif_dec] at h
        split at h
        · rename_i heq
          cases heq
        · rename_i heq
          cases heq
          split at h
          · rename_i hw8
            unfold p_b2 at h
            split at h
            · intro ad H locs cells slots ls ho hl
              have hw := sv_words ad
              refine va_mmax hx hb (by rw [hml, ← hLn, hl.1]) hown (hts _ f3) (hts _ w_mxs) (hts _ w_mai) (hts _ w_mxc) (by omega) ?_ (by have h5 := ho.2.2.2.2.1; omega) (by have h6 := ho.2.2.2.2.2.1; omega) hd (hk _ _ _ _ h ad H locs cells slots ls ho hl)
              rename_i r9
              have hw9 := hw r9
              have hw7 : p_words r9 ≤ 8 := by
                unfold p_words at hw8 ⊢
                rw [List.map_cons, List.map_cons, List.sum_cons, List.sum_cons] at hw8
                omega
              omega
            · cases h
          · cases h
        · rename_i heq
          cases heq
          split at h
          · rename_i hw8
            unfold p_b2 at h
            split at h
            · intro ad H locs cells slots ls ho hl
              have hw := sv_words ad
              refine va_mmin hx hb (by rw [hml, ← hLn, hl.1]) hown (hts _ f3) (hts _ w_mis) (hts _ w_mai) (hts _ w_mic) (by omega) ?_ (by have h5 := ho.2.2.2.2.1; omega) (by have h6 := ho.2.2.2.2.2.1; omega) hd (hk _ _ _ _ h ad H locs cells slots ls ho hl)
              rename_i r9
              have hw9 := hw r9
              have hw7 : p_words r9 ≤ 8 := by
                unfold p_words at hw8 ⊢
                rw [List.map_cons, List.map_cons, List.sum_cons, List.sum_cons] at hw8
                omega
              omega
            · cases h
          · cases h
        · rename_i heq
          cases heq
          exact g_acp hx hb (hml.trans hLn.symm) hown hts hK ⟨f3, w_acn, w_acs, w_aci⟩ (by omega) hd h (fun st' ij' hh => hk _ _ _ _ hh)
        · cases h
      · cases hc2
    · cases h
  | ireturn =>
    have hn : nx = pc + 1 := of_decide_eq_true hc
    subst hn
    have hd := dec_n hd rfl
    simp only [stpS, p_bif_dec, p_chk_ite] at h
    split at h
    · intro ad H locs cells slots ls ho hl
      exact hrt _ _ h pc hd ad H locs cells slots ls ho
    · cases h
  | lreturn =>
    have hn : nx = pc + 1 := of_decide_eq_true hc
    subst hn
    have hd := dec_n hd rfl
    simp only [stpS, p_bif_dec, p_chk_ite] at h
    split at h
    · intro ad H locs cells slots ls ho hl
      exact hrt _ _ h pc hd ad H locs cells slots ls ho
    · cases h
  | return_ =>
    have hn : nx = pc + 1 := of_decide_eq_true hc
    subst hn
    have hd := dec_n hd rfl
    simp only [stpS, p_bif_dec, p_chk_ite] at h
    split at h
    · intro ad H locs cells slots ls ho hl
      exact hrt _ _ h pc hd ad H locs cells slots ls ho
    · cases h
  | _ =>
    have h' : (none : Option α) = some r := h
    cases h'
end PMain
