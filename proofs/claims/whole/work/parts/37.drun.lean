section PD4
variable {p : Program} {l : Launch} {e : Env} {R : Room} {s : State} {m : MethodId} {args : Array Value} {below : List Frame} {meth : Method} {c : Code} {Q : State → Prop} {cc : ByteArray} {o : Nat}
variable {D : va_G} {aT : Nat → ClassId} {A : Nat → Prop} {H0 : Heap} {ad0 : Nat → Nat} {N0 S0 : Nat} {α : Type} {r : α} {d nL : Nat} {lim : Nat × Nat}
/-- at a constructor's end -/
def RDr (Wf : Heap → List Loc → Nat → Nat → JFrame → Prop) (m : MethodId) (cc : ByteArray) (okp : PT → IJ → (Nat → Nat) → Heap → List Loc → Nat → Nat → Prop) (T : PT) (ij : IJ) : Prop :=
  ∀ (pc : Nat), decode cc pc = .ok (.return_, 1) → ∀ ad H locs cells slots (ls : Array Slot), okp T ij ad H locs cells slots → Wf H locs cells slots (F0 m pc ls [])
set_option maxHeartbeats 4000000 in
theorem stpD_sound {O : Ora} {OD : OrD} {E : PE} {pc : Nat} {L st : List Value} {T : PT} {ij : IJ} {k : Nat → List Value → List Value → PT → IJ → Option α} {rt : PT → IJ → Option α} (hx : p.tables.exec = Jvm.exec) (hb : c.code = cc) (hml : c.maxLocals = nL) (hown : s.vm.findClass (oN o) = some m.cls) (hin : meth.name = "<init>") (hts : ∀ w ∈ gtb, w.before args s = true) (hK : va_K D vwCl (p_tys aT) s) (hN : ∀ w ∈ nws, va_Nw w s) (hG : SG ad0 A s H0) (hH0 : H0 = s.heap) (hAO : va_AO "SewnRoads$State" s)
    (hAq : ∀ q, H0.size ≤ q → A q) (hR : d + 5 ≤ R.frames ∧ 64 * (d + 5) ≤ R.locals) (hlim : lim.1 = N0 + R.cells ∧ lim.2 = S0 + R.slots) (hN0 : N0 ≤ T.1) (hS0 : S0 ≤ T.2.1) (hT1 : T.1 ≤ lim.1) (hT2 : T.2.1 ≤ lim.2) (hO : ∀ T y as ij r0, O T y as ij = some r0 → MetC l d y T as ij r0) (hOD : ∀ y as T ij T' ij', OD y as T ij = some (T', ij') → MetD l d y T as ij T' ij')
    (hck : ckJ o cc pc E = true) (h : stpD O OD lim nL T E L st ij k rt = some r) (hk : ∀ pc' L' st' T' ij', k pc' L' st' T' ij' = some r → N0 ≤ T'.1 → S0 ≤ T'.2.1 → T'.1 ≤ lim.1 → T'.2.1 ≤ lim.2 → GW (fun H locs cells slots g => W p l e R s m args below meth c H locs cells slots Q g) m (p_ok D aT A H0 ad0 N0 S0) pc' L' st' T' ij')
    (hrt : ∀ T' ij', rt T' ij' = some r → RDr (fun H locs cells slots g => W p l e R s m args below meth c H locs cells slots Q g) m cc (p_ok D aT A H0 ad0 N0 S0) T' ij') : GW (fun H locs cells slots g => W p l e R s m args below meth c H locs cells slots Q g) m (p_ok D aT A H0 ad0 N0 S0) pc L st T ij := by
  obtain ⟨ins, nx, a, b, v, ts⟩ := E
  have hck0 := hck
  unfold ckJ at hck
  rw [Bool.and_eq_true] at hck
  have hd := of_decide_eq_true hck.1
  have hc := hck.2
  have hstat : ∀ (hck : ckI o cc pc (ins, nx, a, b, v, ts) = true) (h : stpS O none nL T (ins, nx, a, b, v, ts) L st ij (fun pc L st ij => k pc L st T ij) (fun _ _ => none) = some r), GW (fun H locs cells slots g => W p l e R s m args below meth c H locs cells slots Q g) m (p_ok D aT A H0 ad0 N0 S0) pc L st T ij := fun hck h =>
    stpS_sound hx hb hml hown hts hK hN hG hH0 (fun X' hX' => by cases hX') hAq hR ⟨by omega, by omega⟩ (fun y as ij r0 h0 => hO T y as ij r0 h0) hck h (fun pc' L' st' ij' hh => hk _ _ _ _ _ hh hN0 hS0 hT1 hT2) (fun v ij' hh => by cases hh)
  cases ins with
  | new idx =>
    have hc' := (Bool.and_eq_true _ _).mp hc
    have hn : nx = pc + 3 := of_decide_eq_true hc'.1
    subst hn
    have hd := dec_n hd rfl
    have hc2 := (Bool.and_eq_true _ _).mp hc'.2
    have hb9 : b = (cT a).2.2 := of_decide_eq_true hc2.1
    obtain ⟨q, hq, hv⟩ := List.any_eq_true.mp hc2.2
    obtain ⟨e1, e2⟩ := of_decide_eq_true hv
    obtain ⟨f1, f2⟩ := nw_all o q hq
    rw [e2] at f1 f2
    rw [e1] at f2
    have f1' : a < 13 := f1
    subst hb9
    simp only [stpD] at h
    refine g_mk (pre := []) (E := .inr (a, p_dfl a (cT a).2.2)) (fun _ => rfl) hN0 hS0 hlim (cell_obj (by omega)) (fun H locs cells slots ls rest ws hP hD hS h1 h2 _ kk => row_new hx hb hown hts hK hAq f1' f2 hd H locs cells slots ls rest ws hP hD hS h1 h2 kk) h (fun T' ij' hh hT' _ l1 l2 => ?_)
    subst hT'
    exact hk _ _ _ _ _ hh (by show N0 ≤ T.1 + 1; omega) (by show S0 ≤ T.2.1 + _; omega) l1 l2
  | newarray ty =>
    have hc' := (Bool.and_eq_true _ _).mp hc
    have hn : nx = pc + 2 := of_decide_eq_true hc'.1
    subst hn
    have hd := dec_n hd rfl
    simp only [stpD] at h
    split at h
    · rename_i n r'
      rw [p_bif_dec] at h
      split at h
      · rename_i hn0
        have hfin : ∀ T' ij', k (pc + 2) L (.ref T.1 :: r') T' ij' = some r → T' = (p_new T ij a n.toNatClampNeg).1 → ij' = (p_new T ij a n.toNatClampNeg).2 → T'.1 ≤ lim.1 → T'.2.1 ≤ lim.2 → GW (fun H locs cells slots g => W p l e R s m args below meth c H locs cells slots Q g) m (p_ok D aT A H0 ad0 N0 S0) (pc + 2) L (.ref T.1 :: r') T' ij' := by
          intro T' ij' hh hT' _ l1 l2
          subst hT'
          exact hk _ _ _ _ _ hh (by show N0 ≤ T.1 + 1; omega) (by show S0 ≤ T.2.1 + _; omega) l1 l2
        cases ty with
        | int =>
          have ha : a = 100 := of_decide_eq_true hc'.2
          subst ha
          exact g_mk (pre := [.int n]) (fun _ => rfl) hN0 hS0 hlim (cell_arr (Or.inl rfl)) (row_arr (kd := 0) (aty := .int) (ty := .int) (a0 := (n.toNatClampNeg, .inl (fun _ => 0))) hx hb hts hK hAq rfl w_aint (by decide) rfl (fun _ => rfl) hn0 hd) h hfin
        | byte =>
          have ha : a = 101 := of_decide_eq_true hc'.2
          subst ha
          exact g_mk (pre := [.int n]) (fun _ => rfl) hN0 hS0 hlim (cell_arr (Or.inr (Or.inl rfl))) (row_arr (kd := 1) (aty := .byte) (ty := .byte) (a0 := (n.toNatClampNeg, .inl (fun _ => 0))) hx hb hts hK hAq rfl w_abyte (by decide) rfl (fun _ => rfl) hn0 hd) h hfin
        | boolean =>
          have ha : a = 102 := of_decide_eq_true hc'.2
          subst ha
          exact g_mk (pre := [.int n]) (fun _ => rfl) hN0 hS0 hlim (cell_arr (Or.inr (Or.inr rfl))) (row_arr (kd := 2) (aty := .boolean) (ty := .boolean) (a0 := (n.toNatClampNeg, .inl (fun _ => 0))) hx hb hts hK hAq rfl w_aboolean (by decide) rfl (fun _ => rfl) hn0 hd) h hfin
        | long =>
          have ha : a = 103 := of_decide_eq_true hc'.2
          subst ha
          exact g_mk (pre := [.int n]) (fun _ => rfl) hN0 hS0 hlim cell_lng (row_arr (kd := 3) (aty := .long) (ty := .long) (a0 := (n.toNatClampNeg, .inr (.inl (fun _ => 0)))) hx hb hts hK hAq rfl w_along (by decide) rfl (fun _ => rfl) hn0 hd) h hfin
        | _ => cases hc'.2
      · cases h
    · cases h
  | anewarray idx =>
    have hc' := (Bool.and_eq_true _ _).mp hc
    have hn : nx = pc + 3 := of_decide_eq_true hc'.1
    subst hn
    have hd := dec_n hd rfl
    obtain ⟨q, hq, hv⟩ := List.any_eq_true.mp hc'.2
    have e1 := of_decide_eq_true hv
    obtain ⟨f1, f2⟩ := an_all o q hq
    rw [f1, e1] at f2
    simp only [stpD] at h
    split at h
    · rename_i n r'
      rw [p_bif_dec] at h
      split at h
      · rename_i hn0
        refine g_mk (pre := [.int n]) (fun _ => rfl) hN0 hS0 hlim cell_ref (row_aqr hx hb hown hts hK hAO hAq f2 hn0 hd) h (fun T' ij' hh hT' _ l1 l2 => ?_)
        subst hT'
        exact hk _ _ _ _ _ hh (by show N0 ≤ T.1 + 1; omega) (by show S0 ≤ T.2.1 + _; omega) l1 l2
      · cases h
    · cases h
  | putfield idx =>
    have hc' := (Bool.and_eq_true _ _).mp hc
    have hckI : ckI o cc pc (.putfield idx, nx, a, b, v, ts) = true := by
      unfold ckI
      rw [Bool.and_eq_true]
      exact ⟨hck.1, hc'.1⟩
    have hc1 : (decide (nx = pc + 3) && (flk o).any (fun q => decide (q.1 = idx ∧ q.2.1 = a ∧ q.2.2.1 = b))) = true := hc'.1
    have hc1 := (Bool.and_eq_true _ _).mp hc1
    have hn : nx = pc + 3 := of_decide_eq_true hc1.1
    have hst := hstat hckI
    subst hn
    have hd := dec_n hd rfl
    obtain ⟨q, hq, hv⟩ := List.any_eq_true.mp hc1.2
    obtain ⟨e1, e2, e3⟩ := of_decide_eq_true hv
    obtain ⟨⟨f1, f2⟩, f3⟩ := fl_all o q hq
    rw [e2] at f1 f2
    rw [e3] at f2
    rw [e1, e2, e3] at f3
    simp only [stpD] at h
    refine g_puR hx hb hown hin hts hK f1 f2 (fun h2 => ?_) f3 hd h (fun st' T' ij' hh t1 t2 => hk _ _ _ _ _ hh (by omega) (by omega) (by omega) (by omega)) hst
    rcases (Bool.or_eq_true _ _).mp hc'.2 with g | g
    · exact absurd h2 (of_decide_eq_true g)
    · exact of_decide_eq_true g
  | aastore =>
    have hn : nx = pc + 1 := of_decide_eq_true hc
    subst hn
    have hd := dec_n hd rfl
    simp only [stpD] at h
    exact g_qst hx hb hK hd h (fun st' T' ij' hh t1 t2 => hk _ _ _ _ _ hh (by omega) (by omega) (by omega) (by omega))
  | invokespecial idx =>
    have hc' := (Bool.and_eq_true _ _).mp hc
    have hn : nx = pc + 3 := of_decide_eq_true hc'.1
    subst hn
    have hd := dec_n hd rfl
    simp only [stpD] at h
    rw [p_bif_dec] at h
    split at h
    · rename_i hLn
      refine g_spc hx hb (hml.trans hLn.symm) hown hts hK hN hG hAO hAq hR hlim hN0 hOD (fun h9 => ?_) (fun h9 => ?_) hd h (fun st' T' ij' hh t1 t2 t3 t4 => hk _ _ _ _ _ hh (by omega) (by omega) (t1.elim id (fun z => by rw [z]; exact hT1)) (t2.elim id (fun z => by rw [z]; exact hT2)))
      · rcases (Bool.or_eq_true _ _).mp hc'.2 with g | g
        · obtain ⟨q, hq, hv⟩ := List.any_eq_true.mp g
          have f := ob_all o q hq
          rw [(of_decide_eq_true hv).1] at f
          exact f
        · have g1 := of_decide_eq_true ((Bool.and_eq_true _ _).mp g).1
          have g2 : a < 9000 := g1
          omega
      · rcases (Bool.or_eq_true _ _).mp hc'.2 with g | g
        · obtain ⟨q, hq, hv⟩ := List.any_eq_true.mp g
          exact absurd (of_decide_eq_true hv).2 h9
        · have g2 := ((Bool.and_eq_true _ _).mp g).2
          rcases (Bool.or_eq_true _ _).mp g2 with g3 | g3
          · obtain ⟨q, hq, hv⟩ := List.any_eq_true.mp g3
            obtain ⟨e1, e2, e3⟩ := of_decide_eq_true hv
            have e3' : q.2.2.1 + 1 = b := e3
            have e2' : q.2.1 = a := e2
            obtain ⟨f1, f2, f3⟩ := ik_all o q hq
            rw [e2'] at f1 f2 f3
            rw [e1] at f3
            exact ⟨f2, by rw [show b - 1 = q.2.2.1 by omega]; exact f1, Or.inl f3⟩
          · obtain ⟨q, hq, hv⟩ := List.any_eq_true.mp g3
            obtain ⟨e1, e2, e3⟩ := of_decide_eq_true hv
            have e3' : q.2.2.1 + 1 = b := e3
            have e2' : q.2.1 = a := e2
            obtain ⟨f1, f2, f3⟩ := iN_all o q hq
            rw [e2'] at f1 f2 f3
            rw [e1] at f3
            exact ⟨f2, by rw [show b - 1 = q.2.2.1 by omega]; exact f1, Or.inr ⟨_, f3⟩⟩
    · cases h
  | return_ =>
    have hn : nx = pc + 1 := of_decide_eq_true hc
    subst hn
    have hd := dec_n hd rfl
    simp only [stpD] at h
    split at h
    · intro ad H locs cells slots ls ho hl
      exact hrt _ _ h pc hd ad H locs cells slots ls ho
    · cases h
  | _ => exact hstat hck0 h
end PD4
