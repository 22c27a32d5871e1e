/-! ===== contracts of the JDK's string methods over the two literals ===== -/
def SGs (ad : Nat → Nat) (A : Nat → Prop) (U : State) (H : Heap) : Prop := vk_S 2 [128, 9] [by1, by2] (fun i => ad (100001 + 2 * i)) (fun i => ad (100002 + 2 * i)) A U H ∧ va_Z "java/lang/String" "COMPACT_STRINGS" "Z" (.int 1) A U H ∧ va_Zq "jdk/internal/util/Preconditions" "SIOOBE_FORMATTER" "Ljava/util/function/BiFunction;" A U H
theorem SGs.go {ad : Nat → Nat} {A B : Nat → Prop} {s U : State} {H0 H : Heap} (h : SGs ad A s H0) (hvm : s.vm.Alike U.vm) (hq : ∀ a : Nat, a < H0.size → ¬ A a → H[a]? = H0[a]?) (hAB : ∀ q, B q → A q) : SGs ad B U H :=
  ⟨((vk_S.moved hvm h.1).kept hq).narrow hAB, ((va_Z.moved hvm h.2.1).kept hq).narrow hAB, ((va_Zq.moved hvm h.2.2).kept hq).narrow hAB⟩
def p_rk (d : Nat) : Room := { frames := d, cells := 0, slots := 0, locals := 64 * d }
def MetK (l : Launch) (y : MethodName) (bytes : ByteArray) (mL : Nat) (ret : Option FieldType) (d : Nat) (as : List Value) (ad : Nat → Nat) (Qc : (Nat → Prop) → Array Value → State → Outcome → State → Prop) : Prop :=
  ∀ sz, Met l y (Cond.code y bytes mL ret :: gtb) (p_rk d) (va_Pc as (fun U => U.heap.size = sz ∧ SGs ad (fun q => sz ≤ q) U U.heap)) (Qc (fun q => sz ≤ q)) 0 0 (fun q => sz ≤ q)
def QKi (v : Int32) (A : Nat → Prop) : Array Value → State → Outcome → State → Prop := va_Qi (S := Unit) (fun x _ => x = v) (fun _ _ => True) A
def QKv (A : Nat → Prop) : Array Value → State → Outcome → State → Prop := va_Qv (S := Unit) (fun _ => True) (fun _ _ => True) A
theorem k_of {l : Launch} {y : MethodName} {bytes : ByteArray} {mL : Nat} {ret : Option FieldType} {d : Nat} {as : List Value} {ad : Nat → Nat} {Qc : (Nat → Prop) → Array Value → State → Outcome → State → Prop} (hpn : plainName y.cls = true) (hlen : (lg_sl as).length ≤ mL)
    (body : ∀ (p : Program) (e : Env) (s : State) (m : MethodId) (args : Array Value) (below : List Frame) (meth : Method) (c : Code) (ls : Array Slot), p.tables.exec = Jvm.exec → c.code = bytes → meth.sig.returnType = ret → (∀ w ∈ gtb, w.before args s = true) → s.vm.findClass y.cls = some m.cls → meth.locks = false → c.maxLocals = mL → SGs ad (fun q => s.heap.size ≤ q) s s.heap → lv_has ls mL (lv_args 0 as) →
      W p l e (p_rk d) s m args below meth c s.heap [] 0 0 (MQ below (Qc (fun q => s.heap.size ≤ q)) args s 0 0 (fun q => s.heap.size ≤ q)) (F0 m 0 ls [])) : MetK l y bytes mL ret d as ad Qc := by
  intro sz
  refine Met.ofW (cc := bytes) (maxL := mL) (ret := ret) hpn rfl ?_
  intro p e s m args below meth c s₁ B hml hv
  obtain ⟨rfl, hsz, hG⟩ := hv
  subst hsz
  have hts := atoms_spec (ws := Cond.code y bytes mL ret :: gtb) B.pre
  rw [lg_entry_eq]
  exact body p e s m _ below meth c _ B.exec B.bytes B.returns (fun w hw => hts w (List.mem_cons_of_mem _ hw)) (findClass_of_methodNamed B.named) B.notSynchronized hml hG (lv_entry as hlen)
theorem k_blind {ad : Nat → Nat} {as : List Value} {sz : Nat} {A : Nat → Prop} : FrameBlind (va_Pc as (fun U => U.heap.size = sz ∧ SGs ad A U U.heap)) := by
  intro a U g mk q
  obtain ⟨q0, q1, qG⟩ := q
  exact ⟨q0, q1, qG.go (U := U.calling g mk a) (Vm.Alike.refl U.vm) (fun _ _ _ => rfl) (fun _ h => h)⟩
section KC
variable {p : Program} {l : Launch} {e : Env} {R : Room} {s : State} {m : MethodId} {args : Array Value} {below : List Frame} {meth : Method} {c : Code} {H : Heap} {locs : List Loc} {cells slots : Nat} {Q : State → Prop} {cc : ByteArray} {pc : Nat} {ls : Array Slot} {rest : List Value}
variable {A : Nat → Prop} {ad : Nat → Nat} {own : String} {idx : Nat} {y : MethodName} {bytes : ByteArray} {mL d n : Nat} {ret : Option FieldType} {as : List Value} {v : Int32} {q : Nat}
theorem k_pre (hG : SGs ad A s s.heap) (hS : va_S A s.heap H locs) (hAq : ∀ q, s.heap.size ≤ q → A q) : PreS s H (va_Pc as (fun U => U.heap.size = H.size ∧ SGs ad (fun q => H.size ≤ q) U U.heap)) as :=
  ⟨k_blind, fun U hU hW => ⟨rfl, by rw [hU], by rw [hU]; exact hG.go hW.alike hS.2.1 (fun q hq => hAq q (Nat.le_trans hS.1 hq))⟩⟩
/-- what a caller of such a method has -/
def KF (p : Program) (m : MethodId) (c : Code) (cc : ByteArray) (ls : Array Slot) (s : State) (args : Array Value) (own : String) (A : Nat → Prop) (ad : Nat → Nat) (H : Heap) (locs : List Loc) (R : Room) (cells slots d : Nat) : Prop :=
  CallFix p m c cc ls.size s args gtb own ∧ SGs ad A s s.heap ∧ va_S A s.heap H locs ∧ (∀ q, s.heap.size ≤ q → A q) ∧ (d + 1 ≤ R.frames ∧ 64 * (d + 1) ≤ R.locals) ∧ cells ≤ R.cells ∧ slots ≤ R.slots
theorem k_callS (F : KF p m c cc ls s args own A ad H locs R cells slots d) (hM : MetK l y bytes mL (ret) d as ad (QKi v)) (w1 : Cond.code y bytes mL ret ∈ gtb) (w2 : Cond.initialized y.cls ∈ gtb) (w3 : Cond.static y ∈ gtb) (w4 : Cond.methodLink own idx y ∈ gtb)
    (hy : y.cls ≠ "java/lang/invoke/MethodHandle" ∧ y.cls ≠ "java/lang/invoke/VarHandle" ∧ (parseMethodDescriptor y.desc).map (fun d => d.parameters.length) = some as.length) (hmL : mL ≤ 40) (hw : (rest.map fun v => v.category).sum ≤ 8) (hd : decode cc pc = .ok (.invokestatic idx, 3))
    (kk : ∀ (H1 : Heap) (locs1 : List Loc), (∀ q : Nat, q < H.size → H1[q]? = H[q]?) → va_S A s.heap H1 locs1 → W p l e R s m args below meth c H1 locs1 cells slots Q (F0 m (pc + 3) ls (.int v :: rest))) : W p l e R s m args below meth c H locs cells slots Q (F0 m pc ls (as.reverse ++ rest)) := by
  obtain ⟨⟨hx, hb, hml, hown, hts⟩, hG, hS, hAq, hR, hc, hs⟩ := F
  have hgood : GoodIn gtb (Cond.code y bytes mL ret :: gtb) := by
    intro w hw
    rcases List.mem_cons.mp hw with rfl | hw
    · exact gtb_good _ w1
    · exact gtb_good _ hw
  have hroom : (p_rk d).frames + 1 ≤ R.frames ∧ 8 + (mL + 11) + (p_rk d).locals ≤ R.locals := by
    show d + 1 ≤ R.frames ∧ 8 + (mL + 11) + 64 * d ≤ R.locals
    omega
  have hrun := va_runS (l := l) (e := e) (below := below) (meth := meth) (locs := locs) (cells := cells) (slots := slots) (g := F0 m pc ls (as.reverse ++ rest)) ⟨hx, hb, hml, hown, hts⟩ (hM H.size) ⟨callB_of as.length hts hgood rfl rfl rfl (hts _ w2) (hts _ w4) hy hroom, hts _ w3⟩ (k_pre hG hS hAq) rfl rfl rfl rfl (lv_room hw) hd ⟨by omega, by omega⟩
  refine va_calli (S := Unit) hrun hS (fun q h1 h2 => absurd h2 (by omega)) (fun q h => hAq q (Nat.le_trans hS.1 h)) (fun r u t H1 locs1 ht hvm hp hB hz hk1 hS1 => ?_)
  subst hp
  exact kk H1 locs1 (fun q hq => hk1 q hq (by omega)) hS1
theorem k_callSv (F : KF p m c cc ls s args own A ad H locs R cells slots d) (hM : MetK l y bytes mL (ret) d as ad QKv) (w1 : Cond.code y bytes mL ret ∈ gtb) (w2 : Cond.initialized y.cls ∈ gtb) (w3 : Cond.static y ∈ gtb) (w4 : Cond.methodLink own idx y ∈ gtb)
    (hy : y.cls ≠ "java/lang/invoke/MethodHandle" ∧ y.cls ≠ "java/lang/invoke/VarHandle" ∧ (parseMethodDescriptor y.desc).map (fun d => d.parameters.length) = some as.length) (hmL : mL ≤ 40) (hw : (rest.map fun v => v.category).sum ≤ 8) (hd : decode cc pc = .ok (.invokestatic idx, 3))
    (kk : ∀ (H1 : Heap) (locs1 : List Loc), (∀ q : Nat, q < H.size → H1[q]? = H[q]?) → va_S A s.heap H1 locs1 → W p l e R s m args below meth c H1 locs1 cells slots Q (F0 m (pc + 3) ls rest)) : W p l e R s m args below meth c H locs cells slots Q (F0 m pc ls (as.reverse ++ rest)) := by
  obtain ⟨⟨hx, hb, hml, hown, hts⟩, hG, hS, hAq, hR, hc, hs⟩ := F
  have hgood : GoodIn gtb (Cond.code y bytes mL ret :: gtb) := by
    intro w hw
    rcases List.mem_cons.mp hw with rfl | hw
    · exact gtb_good _ w1
    · exact gtb_good _ hw
  have hroom : (p_rk d).frames + 1 ≤ R.frames ∧ 8 + (mL + 11) + (p_rk d).locals ≤ R.locals := by
    show d + 1 ≤ R.frames ∧ 8 + (mL + 11) + 64 * d ≤ R.locals
    omega
  have hrun := va_runS (l := l) (e := e) (below := below) (meth := meth) (locs := locs) (cells := cells) (slots := slots) (g := F0 m pc ls (as.reverse ++ rest)) ⟨hx, hb, hml, hown, hts⟩ (hM H.size) ⟨callB_of as.length hts hgood rfl rfl rfl (hts _ w2) (hts _ w4) hy hroom, hts _ w3⟩ (k_pre hG hS hAq) rfl rfl rfl rfl (lv_room hw) hd ⟨by omega, by omega⟩
  refine va_callv (S := Unit) hrun hS (fun q h1 h2 => absurd h2 (by omega)) (fun q h => hAq q (Nat.le_trans hS.1 h)) (fun u t H1 locs1 ht hvm hp hB hz hk1 hS1 => ?_)
  exact kk H1 locs1 (fun q hq => hk1 q hq (by omega)) hS1
theorem k_callV {i : Nat} (hi : i < 2) (F : KF p m c cc ls s args own A ad H locs R cells slots d) (hM : MetK l y bytes mL (ret) d (.ref (ad (100001 + 2 * i)) :: as) ad (QKi v)) (w1 : Cond.code y bytes mL ret ∈ gtb) (w2 : Cond.initialized y.cls ∈ gtb) (w3 : Cond.instanceMethod y ∈ gtb) (w3' : Cond.selects "java/lang/String" y y ∈ gtb) (w4 : Cond.methodLink own idx y ∈ gtb)
    (hy : y.cls ≠ "java/lang/invoke/MethodHandle" ∧ y.cls ≠ "java/lang/invoke/VarHandle" ∧ (parseMethodDescriptor y.desc).map (fun d => d.parameters.length) = some as.length) (hmL : mL ≤ 40) (hw : (rest.map fun v => v.category).sum ≤ 8) (hd : decode cc pc = .ok (.invokevirtual idx, 3))
    (kk : ∀ (H1 : Heap) (locs1 : List Loc), (∀ q : Nat, q < H.size → H1[q]? = H[q]?) → va_S A s.heap H1 locs1 → W p l e R s m args below meth c H1 locs1 cells slots Q (F0 m (pc + 3) ls (.int v :: rest))) : W p l e R s m args below meth c H locs cells slots Q (F0 m pc ls (as.reverse ++ .ref (ad (100001 + 2 * i)) :: rest)) := by
  obtain ⟨⟨hx, hb, hml, hown, hts⟩, hG, hS, hAq, hR, hc, hs⟩ := F
  have hgood : GoodIn gtb (Cond.code y bytes mL ret :: gtb) := by
    intro w hw
    rcases List.mem_cons.mp hw with rfl | hw
    · exact gtb_good _ w1
    · exact gtb_good _ hw
  have hroom : (p_rk d).frames + 1 ≤ R.frames ∧ 8 + (mL + 11) + (p_rk d).locals ≤ R.locals := by
    show d + 1 ≤ R.frames ∧ 8 + (mL + 11) + 64 * d ≤ R.locals
    omega
  have hp := k_pre (as := .ref (ad (100001 + 2 * i)) :: as) hG hS hAq
  have hrun := va_runV (l := l) (e := e) (below := below) (meth := meth) (locs := locs) (cells := cells) (slots := slots) (C := "java/lang/String") (b := ad (100001 + 2 * i)) (g := F0 m pc ls (as.reverse ++ .ref (ad (100001 + 2 * i)) :: rest)) ⟨hx, hb, hml, hown, hts⟩ (hM H.size) ⟨callB_of as.length hts hgood rfl rfl rfl (hts _ w2) (hts _ w4) hy hroom, hts _ w3, hts _ w3'⟩ ⟨hp.1, vk_recv (adK := fun i => ad (100001 + 2 * i)) (i := i) hG.1 hi hS, hp.2⟩ rfl rfl rfl rfl (lv_room hw) hd ⟨by omega, by omega⟩
  refine va_calli (S := Unit) hrun hS (fun q h1 h2 => absurd h2 (by omega)) (fun q h => hAq q (Nat.le_trans hS.1 h)) (fun r u t H1 locs1 ht hvm hp hB hz hk1 hS1 => ?_)
  subst hp
  exact kk H1 locs1 (fun q hq => hk1 q hq (by omega)) hS1
end KC
/-- canEncode -/
def kcn (c : Int32) : Int32 := if c < 0 then 0 else if 255 < c then 0 else 1
theorem c_can (l : Launch) (ad : Nat → Nat) (x : Int32) : MetK l yk_can bk_can 1 (some .boolean) 0 [.int x] ad (QKi (kcn x)) := by
  refine k_of (by decide) (Nat.le_of_ble_eq_true rfl) ?_
  intro p e s m args below meth c ls hx hb hr hts hown hlocks hml hG hl
  have hl : lv_has ls 1 [(0, .int x)] := hl
  have hS : va_S (fun q => s.heap.size ≤ q) s.heap s.heap [] := va_S.rf
  have he : ∀ v : Int32, narrow .boolean (.int v) = .int v → v = kcn x → W p l e (p_rk 0) s m args below meth c s.heap [] 0 0 (MQ below (QKi (kcn x) (fun q => s.heap.size ≤ q)) args s 0 0 (fun q => s.heap.size ≤ q)) (F0 m 16 ls [.int v]) := fun v hn hv => W.zret (ty := .boolean) hx hb hr hn (fun t ht hW => ⟨⟨v, (), rfl, hv, trivial⟩, hS.F ht⟩) hS.2.2 dk_can_16
  refine lv_iload_n hx hb dk_can_0 rfl (lv_at hl 0 rfl) (lv_if_lt (tgt := 15) hx hb dk_can_1 rfl (fun h1 => ?_) (fun h1 => ?_))
  · exact lv_iconst hx hb dk_can_15 rfl (he 0 rfl (by unfold kcn; rw [if_pos h1]))
  · refine lv_iload_n hx hb dk_can_4 rfl (lv_at hl 0 rfl) (lv_sipush (v := 255) hx hb dk_can_5 rfl (lv_icmp_gt (tgt := 15) hx hb dk_can_8 rfl (fun h2 => ?_) (fun h2 => ?_)))
    · exact lv_iconst hx hb dk_can_15 rfl (he 0 rfl (by unfold kcn; rw [if_neg h1, if_pos h2]))
    · exact lv_iconst hx hb dk_can_11 rfl (lv_goto (tgt := 16) hx hb dk_can_12 rfl (he 1 rfl (by unfold kcn; rw [if_neg h1, if_neg h2])))
def kixF (b : Int32) : List Int32 → Nat → Int32
  | [], _ => -1
  | x :: l, k => if x = b then nI k else kixF b l (k + 1)
theorem c_lic (l : Launch) (ad : Nat → Nat) (x : Int32) : MetK l yk_lic bk_lic 6 (some .int) 0 [.ref (ad 100004), .int x, .int 0, .int 9] ad (QKi (kixF x.toInt8.toInt32 by2 0)) := by
  refine k_of (by decide) (Nat.le_of_ble_eq_true rfl) ?_
  intro p e s m args below meth c ls hx hb hr hts hown hlocks hml hG hl
  have hl : lv_has ls 6 [(0, .ref (ad 100004)), (1, .int x), (2, .int 0), (3, .int 9)] := hl
  have hS : va_S (fun q => s.heap.size ≤ q) s.heap s.heap [] := va_S.rf
  have hT := (hG.1.1 1 (by decide)).2.2.2
  have he : ∀ (pc : Nat) (ls : Array Slot) (v : Int32), decode bk_lic pc = .ok (.ireturn, 1) → v = kixF x.toInt8.toInt32 by2 0 → W p l e (p_rk 0) s m args below meth c s.heap [] 0 0 (MQ below (QKi (kixF x.toInt8.toInt32 by2 0) (fun q => s.heap.size ≤ q)) args s 0 0 (fun q => s.heap.size ≤ q)) (F0 m pc ls [.int v]) := fun pc ls v hd hv => W.iret hx hb hr (fun t ht hW => ⟨⟨v, (), rfl, hv, trivial⟩, hS.F ht⟩) hS.2.2 hd
  have hlp : ∀ (r : List Int32) (k : Nat) (ls : Array Slot), k + r.length = 9 → by2.drop k = r → kixF x.toInt8.toInt32 r k = kixF x.toInt8.toInt32 by2 0 → lv_has ls 6 [(0, .ref (ad 100004)), (3, .int 9), (4, .int x.toInt8.toInt32), (5, .int (nI k))] → W p l e (p_rk 0) s m args below meth c s.heap [] 0 0 (MQ below (QKi (kixF x.toInt8.toInt32 by2 0) (fun q => s.heap.size ≤ q)) args s 0 0 (fun q => s.heap.size ≤ q)) (F0 m 7 ls []) := by
    intro r
    induction r with
    | nil =>
      intro k ls hk hd hv hl
      have hk9 : k = 9 := by simpa using hk
      subst hk9
      refine lv_iload hx hb dk_lic_7 (lv_at hl 3 rfl) (lv_iload_n hx hb dk_lic_9 rfl (lv_at hl 1 rfl) (lv_icmp_ge (tgt := 31) hx hb dk_lic_10 rfl (fun _ => ?_) (fun h => absurd (by decide) h)))
      exact lv_iconst hx hb dk_lic_31 rfl (he 32 ls (-1) dk_lic_32 hv)
    | cons b r ih =>
      intro k ls hk hd hv hl
      have hk9 : k < 9 := by simp only [List.length_cons] at hk; omega
      have hge : ¬ (9 : Int32) ≤ nI k := nI_ge (a := k) (b := 9) (by omega) (by omega)
      have hb2 : by2.getD k 0 = b := by
        have h9 : by2[k]? = some b := by
          have := congrArg (fun z : List Int32 => z[0]?) hd
          simpa [List.getElem?_drop] using this
        rw [List.getD_eq_getElem?_getD, h9]; rfl
      have hdr : by2.drop (k + 1) = r := by
        have := congrArg List.tail hd
        simpa using this
      have hin : vp_in (nI k) 9 := vp_in_nI hk9 (by omega)
      refine lv_iload hx hb dk_lic_7 (lv_at hl 3 rfl) (lv_iload_n hx hb dk_lic_9 rfl (lv_at hl 1 rfl) (lv_icmp_ge (tgt := 31) hx hb dk_lic_10 rfl (fun h => absurd h hge) (fun _ => ?_)))
      refine lv_aload_n hx hb dk_lic_13 rfl (lv_at hl 0 rfl) (lv_iload hx hb dk_lic_14 (lv_at hl 3 rfl) (va_tb (v := .int b) hx hb hT hS hin (by show Value.int (by2.getD (nI k).toNatClampNeg 0) = _; rw [nI_clamp (by omega), hb2]) dk_lic_16 (lv_iload hx hb dk_lic_17 (lv_at hl 2 rfl) (lv_icmp_ne (tgt := 25) hx hb dk_lic_19 rfl (fun h => ?_) (fun h => ?_)))))
      · refine lv_iinc (k := 3) (v := nI (k + 1)) hx hb dk_lic_25 hl rfl (nI_1 k) (by decide) rfl (fun ls' hl' => ?_)
        refine lv_goto (tgt := 7) hx hb dk_lic_28 rfl (ih (k + 1) ls' (by simp only [List.length_cons] at hk; omega) hdr ?_ (lv_sub hl' [1, 2, 3, 0] rfl))
        rw [← hv]
        show _ = (if b = x.toInt8.toInt32 then nI k else _)
        rw [if_neg h]
      · refine lv_iload hx hb dk_lic_22 (lv_at hl 3 rfl) (he 24 ls _ dk_lic_24 ?_)
        rw [← hv]
        show _ = (if b = x.toInt8.toInt32 then nI k else _)
        rw [if_pos h]
  refine lv_iload_n hx hb dk_lic_0 rfl (lv_at hl 1 rfl) (lv_i2b hx hb dk_lic_1 rfl (lv_istore hx hb dk_lic_2 hl (by decide) rfl (fun ls1 h1 => ?_)))
  refine lv_iload_n hx hb dk_lic_4 rfl (lv_at h1 3 rfl) (lv_istore hx hb dk_lic_5 h1 (by decide) rfl (fun ls2 h2 => ?_))
  exact hlp by2 0 ls2 rfl rfl rfl (lv_sub h2 [2, 5, 1, 0] rfl)
theorem c_cod (l : Launch) (ad : Nat → Nat) {i : Nat} (hi : i < 2) : MetK l yk_cod bk_cod 1 (some .byte) 0 [.ref (ad (100001 + 2 * i))] ad (QKi 0) := by
  refine k_of (by decide) (Nat.le_of_ble_eq_true rfl) ?_
  intro p e s m args below meth c ls hx hb hr hts hown hlocks hml hG hl
  have hl : lv_has ls 1 [(0, .ref (ad (100001 + 2 * i)))] := hl
  have hS : va_S (fun q => s.heap.size ≤ q) s.heap s.heap [] := va_S.rf
  refine va_gets hx hb hG.2.1 hS hown (hts _ wf_cmp) (fun _ h => h) dk_cod_0 (lv_if_eq (tgt := 13) hx hb dk_cod_3 rfl (fun h => absurd h (by decide)) (fun _ => ?_))
  refine lv_aload_n hx hb dk_cod_6 rfl (lv_at hl 0 rfl) (vk_getf hx hb (hG.1.1 i hi).2.1 hS hown (hts _ wf_cod) (fun _ h => h) dk_cod_7 (lv_goto (tgt := 14) hx hb dk_cod_10 rfl ?_))
  exact W.zret (ty := .byte) hx hb hr rfl (fun t ht hW => ⟨⟨0, (), rfl, rfl, trivial⟩, hS.F ht⟩) hS.2.2 dk_cod_14
theorem c_lat (l : Launch) (ad : Nat → Nat) {i : Nat} (hi : i < 2) : MetK l yk_lat bk_lat 1 (some .boolean) 0 [.ref (ad (100001 + 2 * i))] ad (QKi 1) := by
  refine k_of (by decide) (Nat.le_of_ble_eq_true rfl) ?_
  intro p e s m args below meth c ls hx hb hr hts hown hlocks hml hG hl
  have hl : lv_has ls 1 [(0, .ref (ad (100001 + 2 * i)))] := hl
  have hS : va_S (fun q => s.heap.size ≤ q) s.heap s.heap [] := va_S.rf
  refine va_gets hx hb hG.2.1 hS hown (hts _ wf_cmp) (fun _ h => h) dk_lat_0 (lv_if_eq (tgt := 17) hx hb dk_lat_3 rfl (fun h => absurd h (by decide)) (fun _ => ?_))
  refine lv_aload_n hx hb dk_lat_6 rfl (lv_at hl 0 rfl) (vk_getf hx hb (hG.1.1 i hi).2.1 hS hown (hts _ wf_cod) (fun _ h => h) dk_lat_7 (lv_if_ne (tgt := 17) hx hb dk_lat_10 rfl (fun h => absurd rfl h) (fun _ => ?_)))
  refine lv_iconst hx hb dk_lat_13 rfl (lv_goto (tgt := 18) hx hb dk_lat_14 rfl ?_)
  exact W.zret (ty := .boolean) hx hb hr rfl (fun t ht hW => ⟨⟨1, (), rfl, rfl, trivial⟩, hS.F ht⟩) hS.2.2 dk_lat_18
theorem c_len (l : Launch) (ad : Nat → Nat) {i : Nat} (hi : i < 2) : MetK l yk_len bk_len 1 (some .int) 1 [.ref (ad (100001 + 2 * i))] ad (QKi (Int32.ofNat ([128, 9].getD i 0))) := by
  refine k_of (by decide) (Nat.le_of_ble_eq_true rfl) ?_
  intro p e s m args below meth c ls hx hb hr hts hown hlocks hml hG hl
  have hl : lv_has ls 1 [(0, .ref (ad (100001 + 2 * i)))] := hl
  have hS : va_S (fun q => s.heap.size ≤ q) s.heap s.heap [] := va_S.rf
  refine lv_aload_n hx hb dk_len_0 rfl (lv_at hl 0 rfl) (vk_getf hx hb (hG.1.1 i hi).2.2.1 hS hown (hts _ wf_val) (fun _ h => h) dk_len_1 (va_tlen hx hb (hG.1.1 i hi).2.2.2 hS rfl dk_len_4 ?_))
  refine lv_aload_n hx hb dk_len_5 rfl (lv_at hl 0 rfl) ?_
  refine k_callV (as := []) hi ⟨⟨hx, hb, hml.trans hl.1.symm, hown, hts⟩, hG, hS, (fun q h => h), ⟨Nat.le_refl _, Nat.le_refl _⟩, Nat.le_refl _, Nat.le_refl _⟩ (c_cod l ad hi) wk_cod_c wk_iS wk_cod_i wk_cod_v wl_cod_335 ⟨by decide, by decide, rfl⟩ (by decide) (Nat.le_of_ble_eq_true rfl) dk_len_6 (fun H1 locs1 hq hS1 => ?_)
  refine lv_ishr hx hb dk_len_9 ?_
  have e9 : Int32.ofNat ([128, 9].getD i 0) >>> ((0 : Int32) &&& 31) = Int32.ofNat ([128, 9].getD i 0) := by
    match i, hi with
    | 0, _ => decide
    | 1, _ => decide
  rw [e9]
  exact W.iret hx hb hr (fun t ht hW => ⟨⟨_, (), rfl, rfl, trivial⟩, hS1.F ht⟩) hS1.2.2 dk_len_10
/-- indexOf of a literal's bytes -/
def kix (x : Int32) : Int32 := if kcn x = 0 then -1 else kixF x.toInt8.toInt32 by2 0
theorem c_lix (l : Launch) (ad : Nat → Nat) (x : Int32) : MetK l yk_lix bk_lix 4 (some .int) 1 [.ref (ad 100004), .int x, .int 0, .int 9] ad (QKi (kix x)) := by
  refine k_of (by decide) (Nat.le_of_ble_eq_true rfl) ?_
  intro p e s m args below meth c ls hx hb hr hts hown hlocks hml hG hl
  have hl : lv_has ls 4 [(0, .ref (ad 100004)), (1, .int x), (2, .int 0), (3, .int 9)] := hl
  have hS : va_S (fun q => s.heap.size ≤ q) s.heap s.heap [] := va_S.rf
  refine lv_iload_n hx hb dk_lix_0 rfl (lv_at hl 1 rfl) ?_
  refine k_callS (as := [.int x]) ⟨⟨hx, hb, hml.trans hl.1.symm, hown, hts⟩, hG, hS, (fun q h => h), ⟨Nat.le_refl _, Nat.le_refl _⟩, Nat.le_refl _, Nat.le_refl _⟩ (c_can l ad x) wk_can_c wk_iL wk_can_s wl_can_88 ⟨by decide, by decide, rfl⟩ (by decide) (Nat.le_of_ble_eq_true rfl) dk_lix_1 (fun H1 locs1 hq hS1 => ?_)
  refine lv_if_ne (tgt := 9) hx hb dk_lix_4 rfl (fun h1 => ?_) (fun h1 => ?_)
  · refine lv_iload_n hx hb dk_lix_9 rfl (lv_at hl 2 rfl) (lv_iconst (v := 0) hx hb dk_lix_10 rfl ?_)
    refine va_mmax hx hb (hml.trans hl.1.symm) hown (hts _ wl_max) (hts _ w_mxs) (hts _ w_mai) (hts _ w_mxc) (by decide) (by decide) (Nat.le_refl _) (Nat.le_refl _) dk_lix_11 ?_
    refine lv_istore_n hx hb dk_lix_14 rfl hl (by decide) rfl (fun ls1 hl1 => ?_)
    refine lv_iload_n hx hb dk_lix_15 rfl (lv_at hl1 3 rfl) (lv_aload_n hx hb dk_lix_16 rfl (lv_at hl1 1 rfl) (va_tlen (v := 9) hx hb (hG.1.1 1 (by decide)).2.2.2 hS1 rfl dk_lix_17 ?_))
    refine va_mmin hx hb (hml.trans hl1.1.symm) hown (hts _ wl_min) (hts _ w_mis) (hts _ w_mai) (hts _ w_mic) (by decide) (by decide) (Nat.le_refl _) (Nat.le_refl _) dk_lix_18 ?_
    refine lv_istore_n hx hb dk_lix_21 rfl hl1 (by decide) rfl (fun ls2 hl2 => ?_)
    refine lv_iload_n hx hb dk_lix_22 rfl (lv_at hl2 1 rfl) (lv_iload_n hx hb dk_lix_23 rfl (lv_at hl2 0 rfl) (lv_icmp_lt (tgt := 29) hx hb dk_lix_24 rfl (fun _ => ?_) (fun h => absurd (by decide) h)))
    refine lv_aload_n hx hb dk_lix_29 rfl (lv_at hl2 2 rfl) (lv_iload_n hx hb dk_lix_30 rfl (lv_at hl2 3 rfl) (lv_iload_n hx hb dk_lix_31 rfl (lv_at hl2 1 rfl) (lv_iload_n hx hb dk_lix_32 rfl (lv_at hl2 0 rfl) ?_)))
    refine k_callS (as := [.ref (ad 100004), .int x, .int 0, .int 9]) ⟨⟨hx, hb, hml.trans hl2.1.symm, hown, hts⟩, hG, hS1, (fun q h => h), ⟨Nat.le_refl _, Nat.le_refl _⟩, Nat.le_refl _, Nat.le_refl _⟩ (c_lic l ad x) wk_lic_c wk_iL wk_lic_s wl_lic_95 ⟨by decide, by decide, rfl⟩ (by decide) (Nat.le_of_ble_eq_true rfl) dk_lix_33 (fun H2 locs2 hq2 hS2 => ?_)
    exact W.iret hx hb hr (fun t ht hW => ⟨⟨_, (), rfl, by unfold kix; rw [if_neg h1], trivial⟩, hS2.F ht⟩) hS2.2.2 dk_lix_36
  · refine lv_iconst (v := -1) hx hb dk_lix_7 rfl ?_
    exact W.iret hx hb hr (fun t ht hW => ⟨⟨_, (), rfl, by unfold kix; rw [if_pos h1], trivial⟩, hS1.F ht⟩) hS1.2.2 dk_lix_8
theorem c_ix2 (l : Launch) (ad : Nat → Nat) (x : Int32) : MetK l yk_ix2 bk_ix2 3 (some .int) 2 [.ref (ad 100003), .int x, .int 0] ad (QKi (kix x)) := by
  refine k_of (by decide) (Nat.le_of_ble_eq_true rfl) ?_
  intro p e s m args below meth c ls hx hb hr hts hown hlocks hml hG hl
  have hl : lv_has ls 3 [(0, .ref (ad 100003)), (1, .int x), (2, .int 0)] := hl
  have hS : va_S (fun q => s.heap.size ≤ q) s.heap s.heap [] := va_S.rf
  have F : ∀ (H : Heap) (locs : List Loc) (d : Nat), d ≤ 1 → va_S (fun q => s.heap.size ≤ q) s.heap H locs → KF p m c bk_ix2 ls s args "java/lang/String" (fun q => s.heap.size ≤ q) ad H locs (p_rk 2) 0 0 d := fun H locs d h1 h => ⟨⟨hx, hb, hml.trans hl.1.symm, hown, hts⟩, hG, h, (fun q h => h), ⟨by show d + 1 ≤ 2; omega, by show 64 * (d + 1) ≤ 64 * 2; omega⟩, Nat.le_refl _, Nat.le_refl _⟩
  refine lv_aload_n hx hb dk_ix2_0 rfl (lv_at hl 0 rfl) ?_
  refine k_callV (as := []) (i := 1) (by decide) (F _ _ 0 (by decide) hS) (c_lat l ad (i := 1) (by decide)) wk_lat_c wk_iS wk_lat_i wk_lat_v wl_lat_492 ⟨by decide, by decide, rfl⟩ (by decide) (Nat.le_of_ble_eq_true rfl) dk_ix2_1 (fun H1 locs1 hq hS1 => ?_)
  refine lv_if_eq (tgt := 23) hx hb dk_ix2_4 rfl (fun h => absurd h (by decide)) (fun _ => ?_)
  refine lv_aload_n hx hb dk_ix2_7 rfl (lv_at hl 0 rfl) (vk_getf (v := .ref (ad 100004)) hx hb (hG.1.1 1 (by decide)).2.2.1 hS1 hown (hts _ wf_val) (fun _ h => h) dk_ix2_8 ?_)
  refine lv_iload_n hx hb dk_ix2_11 rfl (lv_at hl 1 rfl) (lv_iload_n hx hb dk_ix2_12 rfl (lv_at hl 2 rfl) (lv_aload_n hx hb dk_ix2_13 rfl (lv_at hl 0 rfl) ?_))
  refine k_callV (as := []) (i := 1) (by decide) (F _ _ 1 (by decide) hS1) (c_len l ad (i := 1) (by decide)) wk_len_c wk_iS wk_len_i wk_len_v wl_len_505 ⟨by decide, by decide, rfl⟩ (by decide) (Nat.le_of_ble_eq_true rfl) dk_ix2_14 (fun H2 locs2 hq2 hS2 => ?_)
  refine k_callS (as := [.ref (ad 100004), .int x, .int 0, .int 9]) (F _ _ 1 (by decide) hS2) (c_lix l ad x) wk_lix_c wk_iL wk_lix_s wl_lix_637 ⟨by decide, by decide, rfl⟩ (by decide) (Nat.le_of_ble_eq_true rfl) dk_ix2_17 (fun H3 locs3 hq3 hS3 => ?_)
  refine lv_goto (tgt := 36) hx hb dk_ix2_20 rfl ?_
  exact W.iret hx hb hr (fun t ht hW => ⟨⟨_, (), rfl, rfl, trivial⟩, hS3.F ht⟩) hS3.2.2 dk_ix2_36
theorem c_ix1 (l : Launch) (ad : Nat → Nat) (x : Int32) : MetK l yk_ix1 bk_ix1 2 (some .int) 3 [.ref (ad 100003), .int x] ad (QKi (kix x)) := by
  refine k_of (by decide) (Nat.le_of_ble_eq_true rfl) ?_
  intro p e s m args below meth c ls hx hb hr hts hown hlocks hml hG hl
  have hl : lv_has ls 2 [(0, .ref (ad 100003)), (1, .int x)] := hl
  have hS : va_S (fun q => s.heap.size ≤ q) s.heap s.heap [] := va_S.rf
  refine lv_aload_n hx hb dk_ix1_0 rfl (lv_at hl 0 rfl) (lv_iload_n hx hb dk_ix1_1 rfl (lv_at hl 1 rfl) (lv_iconst (v := 0) hx hb dk_ix1_2 rfl ?_))
  refine k_callV (as := [.int x, .int 0]) (i := 1) (by decide) ⟨⟨hx, hb, hml.trans hl.1.symm, hown, hts⟩, hG, hS, (fun q h => h), ⟨Nat.le_refl _, Nat.le_refl _⟩, Nat.le_refl _, Nat.le_refl _⟩ (c_ix2 l ad x) wk_ix2_c wk_iS wk_ix2_i wk_ix2_v wl_ix2_633 ⟨by decide, by decide, rfl⟩ (by decide) (Nat.le_of_ble_eq_true rfl) dk_ix1_3 (fun H1 locs1 hq hS1 => ?_)
  exact W.iret hx hb hr (fun t ht hW => ⟨⟨_, (), rfl, rfl, trivial⟩, hS1.F ht⟩) hS1.2.2 dk_ix1_6
theorem c_pre (l : Launch) (ad : Nat → Nat) {x n : Int32} {v : Value} (hv : v.category = 1) (h0 : ¬ x < 0) (h1 : x < n) : MetK l yk_pre bk_pre 3 (some .int) 0 [.int x, .int n, v] ad (QKi x) := by
  refine k_of (by decide) (by simp [lg_sl, hv]; exact (by decide : (1 : Nat) + 1 + 1 ≤ 3)) ?_
  intro p e s m args below meth c ls hx hb hr hts hown hlocks hml hG hl
  have hl : lv_has ls 3 [(0, .int x), (1, .int n), (2, v)] := hl
  have hS : va_S (fun q => s.heap.size ≤ q) s.heap s.heap [] := va_S.rf
  refine lv_iload_n hx hb dk_pre_0 rfl (lv_at hl 0 rfl) (lv_if_lt (tgt := 9) hx hb dk_pre_1 rfl (fun h => absurd h h0) (fun _ => ?_))
  refine lv_iload_n hx hb dk_pre_4 rfl (lv_at hl 0 rfl) (lv_iload_n hx hb dk_pre_5 rfl (lv_at hl 1 rfl) (lv_icmp_lt (tgt := 16) hx hb dk_pre_6 rfl (fun _ => ?_) (fun h => absurd h1 h)))
  refine lv_iload_n hx hb dk_pre_16 rfl (lv_at hl 0 rfl) ?_
  exact W.iret hx hb hr (fun t ht hW => ⟨⟨_, (), rfl, rfl, trivial⟩, hS.F ht⟩) hS.2.2 dk_pre_17
theorem c_chk (l : Launch) (ad : Nat → Nat) {x n : Int32} (h0 : ¬ x < 0) (h1 : x < n) : MetK l yk_chk bk_chk 2 none 1 [.int x, .int n] ad QKv := by
  refine k_of (by decide) (Nat.le_of_ble_eq_true rfl) ?_
  intro p e s m args below meth c ls hx hb hr hts hown hlocks hml hG hl
  have hl : lv_has ls 2 [(0, .int x), (1, .int n)] := hl
  have hS : va_S (fun q => s.heap.size ≤ q) s.heap s.heap [] := va_S.rf
  refine lv_iload_n hx hb dk_chk_0 rfl (lv_at hl 0 rfl) (lv_iload_n hx hb dk_chk_1 rfl (lv_at hl 1 rfl) ?_)
  have go : ∀ v : Value, v.category = 1 → W p l e (p_rk 1) s m args below meth c s.heap [] 0 0 (MQ below (QKv (fun q => s.heap.size ≤ q)) args s 0 0 (fun q => s.heap.size ≤ q)) (F0 m 5 ls [v, .int n, .int x]) := by
    intro v hv
    refine k_callS (as := [.int x, .int n, v]) (rest := []) ⟨⟨hx, hb, hml.trans hl.1.symm, hown, hts⟩, hG, hS, (fun q h => h), ⟨Nat.le_refl _, Nat.le_refl _⟩, Nat.le_refl _, Nat.le_refl _⟩ (c_pre l ad hv h0 h1) wk_pre_c wk_iP wk_pre_s wl_pre_1059 ⟨by decide, by decide, rfl⟩ (by decide) (Nat.le_of_ble_eq_true rfl) dk_chk_5 (fun H1 locs1 hq hS1 => ?_)
    refine lv_pop hx hb dk_chk_8 rfl ?_
    exact W.vret hx hb hr (fun t ht hW => ⟨⟨(), rfl, trivial, trivial⟩, hS1.F ht⟩) hS1.2.2 dk_chk_9
  rcases hG.2.2 with hz | ⟨t, hz⟩
  · exact va_gets hx hb hz hS hown (hts _ wf_sio) (fun _ h => h) dk_chk_2 (go .null rfl)
  · exact va_gets hx hb hz hS hown (hts _ wf_sio) (fun _ h => h) dk_chk_2 (go (.ref t) rfl)
/-- a char of the first literal -/
def kch (k : Nat) : Int32 := ((by1.getD k 0 &&& 255).toUInt32 % 65536).toInt32
theorem kch_nar : ∀ k, k < 128 → narrow .char (.int (kch k)) = .int (kch k) := by
  have h : ∀ k, k < 128 → ((kch k).toUInt32 % 65536).toInt32 = kch k := by decide +kernel
  intro k hk
  show Value.int (((kch k).toUInt32 % 65536).toInt32) = _
  rw [h k hk]
theorem c_cha (l : Launch) (ad : Nat → Nat) {k : Nat} (hk : k < 128) : MetK l yk_cha bk_cha 2 (some .char) 2 [.ref (ad 100002), .int (nI k)] ad (QKi (kch k)) := by
  refine k_of (by decide) (Nat.le_of_ble_eq_true rfl) ?_
  intro p e s m args below meth c ls hx hb hr hts hown hlocks hml hG hl
  have hl : lv_has ls 2 [(0, .ref (ad 100002)), (1, .int (nI k))] := hl
  have hS : va_S (fun q => s.heap.size ≤ q) s.heap s.heap [] := va_S.rf
  have hT := (hG.1.1 0 (by decide)).2.2.2
  refine lv_iload_n hx hb dk_cha_0 rfl (lv_at hl 1 rfl) (lv_aload_n hx hb dk_cha_1 rfl (lv_at hl 0 rfl) (va_tlen (v := 128) hx hb hT hS rfl dk_cha_2 ?_))
  refine k_callSv (as := [.int (nI k), .int 128]) (rest := []) ⟨⟨hx, hb, hml.trans hl.1.symm, hown, hts⟩, hG, hS, (fun q h => h), ⟨Nat.le_refl _, Nat.le_refl _⟩, Nat.le_refl _, Nat.le_refl _⟩ (c_chk l ad (nI_pos (by omega)) (nI_lt (a := k) (b := 128) hk (by omega))) wk_chk_c wk_iS wk_chk_s wl_chk_9 ⟨by decide, by decide, rfl⟩ (by decide) (Nat.le_of_ble_eq_true rfl) dk_cha_3 (fun H1 locs1 hq hS1 => ?_)
  refine lv_aload_n hx hb dk_cha_6 rfl (lv_at hl 0 rfl) (lv_iload_n hx hb dk_cha_7 rfl (lv_at hl 1 rfl) (va_tb (v := .int (by1.getD k 0)) hx hb hT hS1 (show vp_in (nI k) 128 from vp_in_nI hk (by omega)) (by show Value.int (by1.getD (nI k).toNatClampNeg 0) = _; rw [nI_clamp (by omega)]) dk_cha_8 ?_))
  refine lv_sipush (v := 255) hx hb dk_cha_9 rfl (lv_iand hx hb dk_cha_12 (lv_i2c (v := kch k) hx hb dk_cha_13 rfl ?_))
  exact W.zret (ty := .char) hx hb hr (kch_nar k hk) (fun t ht hW => ⟨⟨_, (), rfl, rfl, trivial⟩, hS1.F ht⟩) hS1.2.2 dk_cha_14
theorem c_chr (l : Launch) (ad : Nat → Nat) {k : Nat} (hk : k < 128) : MetK l yk_chr bk_chr 2 (some .char) 3 [.ref (ad 100001), .int (nI k)] ad (QKi (kch k)) := by
  refine k_of (by decide) (Nat.le_of_ble_eq_true rfl) ?_
  intro p e s m args below meth c ls hx hb hr hts hown hlocks hml hG hl
  have hl : lv_has ls 2 [(0, .ref (ad 100001)), (1, .int (nI k))] := hl
  have hS : va_S (fun q => s.heap.size ≤ q) s.heap s.heap [] := va_S.rf
  have F : ∀ (H : Heap) (locs : List Loc) (d : Nat), d ≤ 2 → va_S (fun q => s.heap.size ≤ q) s.heap H locs → KF p m c bk_chr ls s args "java/lang/String" (fun q => s.heap.size ≤ q) ad H locs (p_rk 3) 0 0 d := fun H locs d h1 h => ⟨⟨hx, hb, hml.trans hl.1.symm, hown, hts⟩, hG, h, (fun q h => h), ⟨by show d + 1 ≤ 3; omega, by show 64 * (d + 1) ≤ 64 * 3; omega⟩, Nat.le_refl _, Nat.le_refl _⟩
  refine lv_aload_n hx hb dk_chr_0 rfl (lv_at hl 0 rfl) ?_
  refine k_callV (as := []) (i := 0) (by decide) (F _ _ 0 (by decide) hS) (c_lat l ad (i := 0) (by decide)) wk_lat_c wk_iS wk_lat_i wk_lat_v wl_lat_492 ⟨by decide, by decide, rfl⟩ (by decide) (Nat.le_of_ble_eq_true rfl) dk_chr_1 (fun H1 locs1 hq hS1 => ?_)
  refine lv_if_eq (tgt := 16) hx hb dk_chr_4 rfl (fun h => absurd h (by decide)) (fun _ => ?_)
  refine lv_aload_n hx hb dk_chr_7 rfl (lv_at hl 0 rfl) (vk_getf (v := .ref (ad 100002)) hx hb (hG.1.1 0 (by decide)).2.2.1 hS1 hown (hts _ wf_val) (fun _ h => h) dk_chr_8 ?_)
  refine lv_iload_n hx hb dk_chr_11 rfl (lv_at hl 1 rfl) ?_
  refine k_callS (as := [.ref (ad 100002), .int (nI k)]) (rest := []) (F _ _ 2 (by decide) hS1) (c_cha l ad hk) wk_cha_c wk_iL wk_cha_s wl_cha_495 ⟨by decide, by decide, rfl⟩ (by decide) (Nat.le_of_ble_eq_true rfl) dk_chr_12 (fun H2 locs2 hq2 hS2 => ?_)
  exact W.zret (ty := .char) hx hb hr (kch_nar k hk) (fun t ht hW => ⟨⟨_, (), rfl, rfl, trivial⟩, hS2.F ht⟩) hS2.2.2 dk_chr_15
