def runD {α : Type} (O : Ora) (OD : OrD) (lim : Nat × Nat) (nL : Nat) (C : Nat → Option PE) (rt : PT → IJ → Option α) (n : Nat) : Nat → List Value → List Value → PT → IJ → Option α :=
  Nat.rec (fun _ _ _ _ _ => none) (fun _ ih pc L st T ij => match C pc with
    | none => none
    | some E => stpD O OD lim nL T E L st ij ih rt) n
def rtD (T : PT) (ij : IJ) : Option (PT × IJ) := some (T, ij)
theorem runD_sound {p : Program} {l : Launch} {e : Env} {R : Room} {s : State} {m : MethodId} {args : Array Value} {below : List Frame} {meth : Method} {c : Code} {Q : State → Prop} {cc : ByteArray} {o : Nat} {D : va_G} {aT : Nat → ClassId} {A : Nat → Prop} {H0 : Heap} {ad0 : Nat → Nat} {N0 S0 : Nat} {α : Type} {r : α} {d nL : Nat} {lim : Nat × Nat}
    {O : Ora} {OD : OrD} {C : Nat → Option PE} {rt : PT → IJ → Option α} (hx : p.tables.exec = Jvm.exec) (hb : c.code = cc) (hml : c.maxLocals = nL) (hown : s.vm.findClass (oN o) = some m.cls) (hin : meth.name = "<init>") (hts : ∀ w ∈ gtb, w.before args s = true) (hK : va_K D vwCl (p_tys aT) s) (hN : ∀ w ∈ nws, va_Nw w s) (hG : SG ad0 A s H0) (hH0 : H0 = s.heap) (hAO : va_AO "SewnRoads$State" s)
    (hAq : ∀ q, H0.size ≤ q → A q) (hR : d + 5 ≤ R.frames ∧ 64 * (d + 5) ≤ R.locals) (hlim : lim.1 = N0 + R.cells ∧ lim.2 = S0 + R.slots) (hO : ∀ T y as ij r0, O T y as ij = some r0 → MetC l d y T as ij r0) (hOD : ∀ y as T ij T' ij', OD y as T ij = some (T', ij') → MetD l d y T as ij T' ij')
    (hC : ∀ pc E, C pc = some E → ckJ o cc pc E = true) (hrt : ∀ T' ij', rt T' ij' = some r → RDr (fun H locs cells slots g => W p l e R s m args below meth c H locs cells slots Q g) m cc (p_ok D aT A H0 ad0 N0 S0) T' ij') :
    ∀ (n pc : Nat) (L st : List Value) (T : PT) (ij : IJ), runD O OD lim nL C rt n pc L st T ij = some r → N0 ≤ T.1 → S0 ≤ T.2.1 → T.1 ≤ lim.1 → T.2.1 ≤ lim.2 → GW (fun H locs cells slots g => W p l e R s m args below meth c H locs cells slots Q g) m (p_ok D aT A H0 ad0 N0 S0) pc L st T ij := by
  intro n
  induction n with
  | zero =>
    intro pc L st T ij h
    have h' : (none : Option α) = some r := h
    cases h'
  | succ n ih =>
    intro pc L st T ij h n0 s0 t1 t2
    have h' : (match C pc with
      | none => none
      | some E => stpD O OD lim nL T E L st ij (runD O OD lim nL C rt n) rt) = some r := h
    cases hE : C pc with
    | none => rw [hE] at h'; cases h'
    | some E =>
      rw [hE] at h'
      exact stpD_sound hx hb hml hown hin hts hK hN hG hH0 hAO hAq hR hlim n0 s0 t1 t2 hO hOD (hC pc E hE) h' (fun pc' L' st' T' ij' hk a1 a2 a3 a4 => ih _ _ _ _ _ hk a1 a2 a3 a4) hrt
/-- a constructor's contract out of a run -/
theorem metD_of {l : Launch} {d y o : Nat} {T T' : PT} {ij ij' : IJ} {O : Ora} {OD : OrD} {C : Nat → Option PE} {n : Nat} {as : List Value} (hF : iF y) (ho : (mN y).cls = oN o) (hC : ∀ pc E, C pc = some E → ckJ o (mB y) pc E = true) (hO : ∀ T y as ij r0, O T y as ij = some r0 → MetC l d y T as ij r0) (hOD : ∀ y as T ij T' ij', OD y as T ij = some (T', ij') → MetD l d y T as ij T' ij')
    (hlen : (p_slots as).length ≤ mL y) (hle : T.1 ≤ T'.1 ∧ T.2.1 ≤ T'.2.1) (h : runD O OD (T'.1, T'.2.1) (mL y) C rtD n 0 (p_init (mL y) as) [] T ij = some (T', ij')) : MetD l (d + 1) y T as ij T' ij' := by
  intro D aT ad sz
  refine Met.ofW (cc := mB y) (maxL := mL y) (ret := none) hF.2.2.2.2.2.2.1 rfl ?_
  intro p e s m args below meth c s₁ B hml hv
  obtain ⟨rfl, hsz, ⟨hP, hK, hD0, hT, hN, hG⟩, hAO⟩ := hv
  have hx := B.exec
  have hb := B.bytes
  have hr := B.returns
  have hts := atoms_spec (ws := Cond.code (mN y) (mB y) (mL y) none :: gtb) B.pre
  have hown : s.vm.findClass (oN o) = some m.cls := by rw [← ho]; exact findClass_of_methodNamed B.named
  have hlocks := B.notSynchronized
  have hin : meth.name = "<init>" := (name_of_methodNamed B.named B.method).1.trans hF.2.2.2.1
  subst hsz
  have hD : va_D (va_A (p_ws aT ad T ij) s.heap.size) (p_ws aT ad T ij) := hD0.self (sz := s.heap.size)
  rw [lg_entry_eq]
  refine runD_sound (A := va_A (p_ws aT ad T ij) s.heap.size) (H0 := s.heap) (ad0 := ad) (N0 := T.1) (S0 := T.2.1) (D := D) (aT := aT) (d := d) (lim := (T'.1, T'.2.1)) hx hb hml hown hin (fun w hw => hts w (List.mem_cons_of_mem _ hw)) hK hN hG rfl hAO (fun q hq => Or.inr hq) ⟨Nat.le_refl _, Nat.le_refl _⟩ ⟨?_, ?_⟩ hO hOD hC ?_ n 0 _ [] T ij h (Nat.le_refl _) (Nat.le_refl _) hle.1 hle.2 ad s.heap [] 0 0 _ ⟨hP, hD, hT, va_S.rf, Nat.zero_add _, Nat.zero_add _, fun _ _ => rfl⟩ (init_has hlen)
  · show T'.1 = T.1 + (T'.1 - T.1)
    omega
  · show T'.2.1 = T.2.1 + (T'.2.1 - T.2.1)
    omega
  · intro T2 ij2 hv2 pc hdec ad' H' locs' cells' slots' ls' hok
    have hv3 : some (T2, ij2) = some (T', ij') := hv2
    cases hv3
    have c0 : cells' = T'.1 - T.1 := by have := hok.2.2.2.2.1; omega
    have s0 : slots' = T'.2.1 - T.2.1 := by have := hok.2.2.2.2.2.1; omega
    subst c0; subst s0
    have hS := hok.2.2.2.1
    exact W.vret hx hb hr (fun t ht hW => ⟨⟨ad', rfl, hok.2.2.2.2.2.2, by rw [ht]; exact hok.1, hok.2.1, hok.2.2.1⟩, hS.F ht⟩) hS.2.2 hdec
