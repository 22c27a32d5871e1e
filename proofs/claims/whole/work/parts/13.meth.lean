/-! ===== runs of the pure machine are runs of the machine; a method's contract ===== -/
def rtV (v : Option Value) (ij : IJ) : Option Rs := match v with
  | none => some (none, ij)
  | _ => none
def rtI (v : Option Value) (ij : IJ) : Option Rs := match v with
  | some (.int x) => some (some (.int x), ij)
  | _ => none
def rtJ (v : Option Value) (ij : IJ) : Option Rs := match v with
  | some (.long x) => some (some (.long x), ij)
  | _ => none
def rtZ (v : Option Value) (ij : IJ) : Option Rs := match v with
  | some (.int x) => p_chk (p_01 x) (some (some (.int x), ij))
  | _ => none
def p_rt (ret : Option FieldType) : Option Value → IJ → Option Rs := match ret with
  | none => rtV
  | some .int => rtI
  | some .long => rtJ
  | some .boolean => rtZ
  | _ => fun _ _ => none
def p_slots : List Value → List Value
  | [] => []
  | v :: vs => if v.category = 2 then v :: un :: p_slots vs else v :: p_slots vs
def p_init (n : Nat) (as : List Value) : List Value := p_slots as ++ List.replicate (n - (p_slots as).length) un
theorem slots_sl (ad : Nat → Nat) : ∀ as : List Value, (lg_sl (as.map (sv ad))).length = (p_slots as).length
  | [] => rfl
  | v :: vs => by
    have h := slots_sl ad vs
    unfold lg_sl at h ⊢
    simp only [List.map_cons, List.flatMap_cons, List.length_append, p_slots, sv_cat]
    by_cases hc : v.category = 2
    · rw [if_pos hc, if_pos hc, h]; simp only [List.length_cons, List.length_nil]; omega
    · rw [if_neg hc, if_neg hc, h]; simp only [List.length_cons, List.length_nil]; omega
theorem slots_at (ad : Nat → Nat) : ∀ (as : List Value) (i k : Nat) (v : Value), (p_slots as)[i]? = some v → (∀ n, v ≠ .retAddr n) → (k + i, sv ad v) ∈ lv_args k (as.map (sv ad))
  | [], i, k, v, h, hv => by simp [p_slots] at h
  | w :: vs, i, k, v, h, hv => by
    unfold p_slots at h
    unfold lv_args
    simp only [List.map_cons, sv_cat]
    by_cases hc : w.category = 2
    · rw [if_pos hc] at h
      match i, h with
      | 0, h => cases h; exact List.mem_cons_self
      | 1, h => cases h; exact absurd rfl (hv 0)
      | i + 2, h =>
        have h2 := slots_at ad vs i (k + 2) v h hv
        refine List.mem_cons_of_mem _ ?_
        rw [hc]
        have e : k + 2 + i = k + (i + 2) := by omega
        rw [e] at h2
        exact h2
    · rw [if_neg hc] at h
      match i, h with
      | 0, h => cases h; exact List.mem_cons_self
      | i + 1, h =>
        have h2 := slots_at ad vs i (k + 1) v h hv
        refine List.mem_cons_of_mem _ ?_
        have hc1 : w.category = 1 := by rcases lv_cat w with q | q <;> omega
        rw [hc1]
        have e : k + 1 + i = k + (i + 1) := by omega
        rw [e] at h2
        exact h2
theorem init_has {ad : Nat → Nat} {n : Nat} {as : List Value} (h : (p_slots as).length ≤ n) : pl_has ad ((lg_sl (as.map (sv ad)) ++ List.replicate (n - (lg_sl (as.map (sv ad))).length) Slot.unset).toArray) (p_init n as) := by
  have h0 := lv_entry (as.map (sv ad)) (n := n) (by rw [slots_sl]; exact h)
  refine ⟨by rw [h0.1]; unfold p_init; simp; omega, h0.2.1, fun i v hi hv => ?_⟩
  unfold p_init at hi
  by_cases hlt : i < (p_slots as).length
  · rw [List.getElem?_append_left hlt] at hi
    have h1 := slots_at ad as i 0 v hi hv
    rw [Nat.zero_add] at h1
    exact h0.2.2 _ h1
  · rw [List.getElem?_append_right (by omega)] at hi
    have h2 := List.mem_of_getElem? hi
    rw [List.mem_replicate] at h2
    exact absurd h2.2 (hv 0)
section PR
variable {p : Program} {l : Launch} {e : Env} {R : Room} {s : State} {m : MethodId} {args : Array Value} {below : List Frame} {meth : Method} {c : Code} {Q : State → Prop} {cc : ByteArray} {o : Nat}
variable {D : va_G} {aT : Nat → ClassId} {A : Nat → Prop} {H0 : Heap} {ad0 : Nat → Nat} {N0 S0 : Nat} {T : PT} {α : Type} {r : α} {d nL : Nat}
theorem blk_sound {O : Ora} {X : PX} {C : Nat → Option PE} {cuts : Nat → Option (List Bool)} {K : Nat → List Value → List Value → IJ → Option α} {rt : Option Value → IJ → Option α} (hx : p.tables.exec = Jvm.exec) (hb : c.code = cc) (hml : c.maxLocals = nL) (hown : s.vm.findClass (oN o) = some m.cls) (hts : ∀ w ∈ gtb, w.before args s = true) (hK : va_K D vwCl (p_tys aT) s) (hN : ∀ w ∈ nws, va_Nw w s) (hG : SG ad0 A s H0) (hH0 : H0 = s.heap)
    (hX : ∀ X', X = some X' → va_X (ad0 100000) X'.1 X'.2 s H0 ∧ ad0 100000 < H0.size ∧ ¬ A (ad0 100000) ∧ X'.1 < 100000) (hAq : ∀ q, H0.size ≤ q → A q) (hR : d + 5 ≤ R.frames ∧ 64 * (d + 5) ≤ R.locals) (hRc : T.1 ≤ N0 + R.cells ∧ T.2.1 ≤ S0 + R.slots) (hO : ∀ y as ij r0, O T y as ij = some r0 → MetC l d y T as ij r0)
    (hC : ∀ pc E, C pc = some E → ckI o cc pc E = true)
    (hK1 : ∀ pc' L' st' ij', K pc' L' st' ij' = some r → GW (fun H locs cells slots g => W p l e R s m args below meth c H locs cells slots Q g) m (p_ok D aT A H0 ad0 N0 S0) pc' L' st' T ij')
    (hrt : ∀ v ij', rt v ij' = some r → RWr (fun H locs cells slots g => W p l e R s m args below meth c H locs cells slots Q g) m cc (p_ok D aT A H0 ad0 N0 S0) T v ij') :
    ∀ (f pc : Nat) (L st : List Value) (ij : IJ), blkS O X nL T C cuts K rt f pc L st ij = some r → GW (fun H locs cells slots g => W p l e R s m args below meth c H locs cells slots Q g) m (p_ok D aT A H0 ad0 N0 S0) pc L st T ij := by
  intro f
  induction f with
  | zero =>
    intro pc L st ij h
    have h' : (none : Option α) = some r := h
    cases h'
  | succ f ih =>
    intro pc L st ij h
    have h' : (match C pc with
      | none => none
      | some E => stpS O X nL T E L st ij (fun pc L st ij => match cuts pc with
        | some km => p_bif (decide (km.length = L.length)) (K pc (p_msk km L) st ij) none
        | none => blkS O X nL T C cuts K rt f pc L st ij) rt) = some r := h
    cases hE : C pc with
    | none => rw [hE] at h'; cases h'
    | some E =>
      rw [hE] at h'
      refine stpS_sound hx hb hml hown hts hK hN hG hH0 hX hAq hR hRc hO (hC pc E hE) h' (fun pc' L' st' ij' hk => ?_) hrt
      split at hk
      · rw [p_bif_dec] at hk
        split at hk
        · rename_i km _ hkm
          intro ad H locs cells slots ls ho hl
          exact hK1 _ _ _ _ hk ad H locs cells slots ls ho (pl_msk hkm hl)
        · cases hk
      · exact ih _ _ _ _ hk
theorem run_sound {O : Ora} {X : PX} {C : Nat → Option PE} {cuts : Nat → Option (List Bool)} {rt : Option Value → IJ → Option α} {f : Nat} (hx : p.tables.exec = Jvm.exec) (hb : c.code = cc) (hml : c.maxLocals = nL) (hown : s.vm.findClass (oN o) = some m.cls) (hts : ∀ w ∈ gtb, w.before args s = true) (hK : va_K D vwCl (p_tys aT) s) (hN : ∀ w ∈ nws, va_Nw w s) (hG : SG ad0 A s H0) (hH0 : H0 = s.heap)
    (hX : ∀ X', X = some X' → va_X (ad0 100000) X'.1 X'.2 s H0 ∧ ad0 100000 < H0.size ∧ ¬ A (ad0 100000) ∧ X'.1 < 100000) (hAq : ∀ q, H0.size ≤ q → A q) (hR : d + 5 ≤ R.frames ∧ 64 * (d + 5) ≤ R.locals) (hRc : T.1 ≤ N0 + R.cells ∧ T.2.1 ≤ S0 + R.slots) (hO : ∀ y as ij r0, O T y as ij = some r0 → MetC l d y T as ij r0)
    (hC : ∀ pc E, C pc = some E → ckI o cc pc E = true)
    (hrt : ∀ v ij', rt v ij' = some r → RWr (fun H locs cells slots g => W p l e R s m args below meth c H locs cells slots Q g) m cc (p_ok D aT A H0 ad0 N0 S0) T v ij') :
    ∀ (n pc : Nat) (L st : List Value) (ij : IJ), runS O X nL T C cuts rt f n pc L st ij = some r → GW (fun H locs cells slots g => W p l e R s m args below meth c H locs cells slots Q g) m (p_ok D aT A H0 ad0 N0 S0) pc L st T ij := by
  intro n
  induction n with
  | zero =>
    intro pc L st ij h
    have h' : (none : Option α) = some r := h
    cases h'
  | succ n ih =>
    intro pc L st ij h
    exact blk_sound (K := runS O X nL T C cuts rt f n) hx hb hml hown hts hK hN hG hH0 hX hAq hR hRc hO hC (fun _ _ _ _ hk => ih _ _ _ _ hk) hrt f pc L st ij h
end PR
/-- a method's contract out of a run of the pure machine -/
theorem met_of {l : Launch} {d y o : Nat} {T : PT} {O : Ora} {C : Nat → Option PE} {cuts : Nat → Option (List Bool)} {f n : Nat} {as : List Value} {ij : IJ} {r : Rs} (hF : mF y) (ho : (mN y).cls = oN o) (hC : ∀ pc E, C pc = some E → ckI o (mB y) pc E = true) (hrk : mR y = none ∨ mR y = some .int ∨ mR y = some .long ∨ mR y = some .boolean)
    (hO : ∀ y as ij r0, O T y as ij = some r0 → MetC l d y T as ij r0) (hlen : (p_slots as).length ≤ mL y) (h : runS O none (mL y) T C cuts (p_rt (mR y)) f n 0 (p_init (mL y) as) [] ij = some r) : MetC l (d + 1) y T as ij r := by
  intro D aT ad sz
  refine Met.ofW (cc := mB y) (maxL := mL y) (ret := mR y) hF.2.2.2.2.1 rfl ?_
  intro p e s m args below meth c s₁ B hml hv
  obtain ⟨rfl, hsz, hP, hK, hD0, hT, hN, hG⟩ := hv
  have hx := B.exec
  have hb := B.bytes
  have hr := B.returns
  have hts := atoms_spec (ws := Cond.code (mN y) (mB y) (mL y) (mR y) :: gtb) B.pre
  have hown : s.vm.findClass (oN o) = some m.cls := by rw [← ho]; exact findClass_of_methodNamed B.named
  have hlocks := B.notSynchronized
  subst hsz
  have hD : va_D (va_A (p_ws aT ad T ij) s.heap.size) (p_ws aT ad T ij) := hD0.self (sz := s.heap.size)
  rw [lg_entry_eq]
  refine run_sound (A := va_A (p_ws aT ad T ij) s.heap.size) (H0 := s.heap) (ad0 := ad) (N0 := T.1) (S0 := T.2.1) (D := D) (aT := aT) (d := d) hx hb hml hown (fun w hw => hts w (List.mem_cons_of_mem _ hw)) hK hN hG rfl (fun X' hX' => by cases hX') (fun q hq => Or.inr hq) ⟨Nat.le_refl _, Nat.le_refl _⟩ ⟨Nat.le_add_right _ _, Nat.le_add_right _ _⟩ hO hC ?_ n 0 _ [] ij h ad s.heap [] 0 0 _ ⟨hP, hD, hT, va_S.rf, Nat.zero_add _, Nat.zero_add _, fun _ _ => rfl⟩ (init_has hlen)
  intro v ij' hv pc hdec ad' H' locs' cells' slots' ls' hok
  have c0 : cells' = 0 := by have := hok.2.2.2.2.1; omega
  have s0 : slots' = 0 := by have := hok.2.2.2.2.2.1; omega
  subst c0; subst s0
  have hS := hok.2.2.2.1
  have hpost : ∀ t : State, t.heap = H' → p_B D aT ad T (va_A (p_ws aT ad T ij) s.heap.size) ij' () t := by
    intro t ht
    have e1 : p_ws aT ad' T ij' = p_ws aT ad T ij' := by
      have h2 := hok.2.2.2.2.2.2
      unfold p_ws
      apply List.map_congr_left
      intro k hk
      have hk2 : k < T.1 := List.mem_range.mp hk
      rw [h2 k (Or.inl hk2)]
      have h3 : ∀ k j, p_ro ad' (T.2.2.2 k j) = p_ro ad (T.2.2.2 k j) := by
        intro k j
        have h4 := hT k j
        unfold p_ro
        split
        · rfl
        · rename_i r9 hr9
          rw [h2 r9 (Or.inl (by omega))]
      have h5 : ∀ k j, p_rv ad' (T.2.2.2 k j) = p_rv ad (T.2.2.2 k j) := by
        intro k j
        have h4 := hT k j
        unfold p_rv
        split
        · rfl
        · rename_i r9 hr9
          rw [h2 r9 (Or.inl (by omega))]
      unfold p_cell p_obj p_fv
      simp only [h3, h5]
    unfold p_B
    rw [← e1, ht]
    exact ⟨hok.1, hok.2.1⟩
  rcases hrk with hrk | hrk | hrk | hrk
  · rw [hrk] at hv
    have hv' : rtV v ij' = some r := hv
    unfold rtV at hv'
    split at hv'
    · cases hv'
      exact W.vret hx hb (hr.trans hrk) (fun t ht hW => ⟨⟨(), rfl, trivial, hpost t ht⟩, hS.F ht⟩) hS.2.2 hdec
    · cases hv'
  · rw [hrk] at hv
    have hv' : rtI v ij' = some r := hv
    unfold rtI at hv'
    split at hv'
    · rename_i x
      cases hv'
      exact W.iret (v := x) hx hb (hr.trans hrk) (fun t ht hW => ⟨⟨x, (), rfl, rfl, hpost t ht⟩, hS.F ht⟩) hS.2.2 hdec
    · cases hv'
  · rw [hrk] at hv
    have hv' : rtJ v ij' = some r := hv
    unfold rtJ at hv'
    split at hv'
    · rename_i x
      cases hv'
      exact W.lret (v := x) hx hb (hr.trans hrk) (fun t ht hW => ⟨⟨x, (), rfl, rfl, hpost t ht⟩, hS.F ht⟩) hS.2.2 hdec
    · cases hv'
  · rw [hrk] at hv
    have hv' : rtZ v ij' = some r := hv
    unfold rtZ at hv'
    split at hv'
    · rename_i x
      rw [p_chk_ite] at hv'
      split at hv'
      · rename_i hn
        have hn := p01_nar hn
        cases hv'
        exact W.zret (v := x) (ty := .boolean) hx hb (hr.trans hrk) (nar_b hn) (fun t ht hW => ⟨⟨x, (), rfl, rfl, hpost t ht⟩, hS.F ht⟩) hS.2.2 hdec
      · cases hv'
    · cases hv'
def ckT (o : Nat) (cc : ByteArray) (C : Nat → Option PE) (pc : Nat) : Bool := match C pc with
  | some E => ckI o cc pc E
  | none => true
theorem ck_tab {o : Nat} {cc : ByteArray} {C : Nat → Option PE} {n : Nat} (h : (List.range n).all (ckT o cc C) = true) (hn : ∀ pc, ¬ pc < n → C pc = none) : ∀ pc E, C pc = some E → ckI o cc pc E = true := by
  intro pc E hE
  by_cases hp : pc < n
  · have h1 := List.all_eq_true.mp h pc (List.mem_range.mpr hp)
    unfold ckT at h1
    rw [hE] at h1
    exact h1
  · rw [hn pc hp] at hE
    cases hE
