/-! ===== what constructors name ===== -/
def nw_t : List (List (Nat × Nat × Nat)) := [[], [], [(9, 8, 451)], [(39, 0, 166)], [(9, 3, 160), (22, 10, 303)], [], [], [], [], [], [], [(7, 9, 138), (16, 4, 154), (23, 3, 416), (30, 8, 418), (40, 2, 445), (55, 5, 465), (64, 1, 483), (71, 7, 499), (80, 6, 526)], [], [(7, 11, 130), (10, 12, 1304)], [], []]
def an_t : List (List (Nat × Nat × Nat)) := [[], [], [(9, 8, 451)], [], [], [], [], [], [], [], [], [(30, 8, 418)], [], [], [], []]
def ob_t : List (List (Nat × Nat × Nat)) := [[(3, 0, 171)], [(3, 0, 488)], [(3, 0, 450)], [(3, 0, 165)], [(3, 0, 159)], [(3, 0, 470)], [(3, 0, 531)], [(3, 0, 504)], [(3, 0, 423)], [(3, 0, 143)], [(3, 0, 308)], [(1, 0, 135)], [(7, 0, 1309)], [], [], []]
def ik_t : List (List (Nat × Nat × Nat × Nat × Nat)) := [[], [], [], [(41, 0, 0, 0, 168)], [(11, 27, 0, 3, 162), (24, 104, 0, 10, 305)], [], [], [], [], [], [], [(25, 27, 0, 3, 417), (42, 23, 0, 2, 447), (57, 53, 1, 5, 467), (66, 10, 1, 1, 485), (73, 73, 3, 7, 501), (82, 63, 2, 6, 528)], [], [(9, 119, 0, 11, 132), (12, 166, 0, 12, 1306)], [], []]
def iN_t : List (List (Nat × Nat × Nat × Nat × Nat)) := [[], [], [(24, 89, 0, 8, 453)], [], [], [], [], [], [], [], [], [(9, 100, 0, 9, 140), (18, 34, 0, 4, 156), (32, 89, 0, 8, 420)], [], [], [], []]
def nwk (o : Nat) : List (Nat × Nat × Nat) := nw_t.getD o []
def ank (o : Nat) : List (Nat × Nat × Nat) := an_t.getD o []
def obk (o : Nat) : List (Nat × Nat × Nat) := ob_t.getD o []
def ikk (o : Nat) : List (Nat × Nat × Nat × Nat × Nat) := ik_t.getD o []
def iNk (o : Nat) : List (Nat × Nat × Nat × Nat × Nat) := iN_t.getD o []
def iF (y : Nat) : Prop := Cond.code (mN y) (mB y) (mL y) none ∈ gtb ∧ Cond.initialized (mN y).cls ∈ gtb ∧ Cond.instanceMethod (mN y) ∈ gtb ∧ (mN y).name = "<init>" ∧ ((mN y).cls ≠ "java/lang/invoke/MethodHandle" ∧ (mN y).cls ≠ "java/lang/invoke/VarHandle") ∧ mL y ≤ 40 ∧ plainName (mN y).cls = true ∧ mR y = none
def ini : List (Nat × Nat × Nat × Nat) := [(0, 170, 112, 169), (10, 487, 121, 486), (23, 449, 119, 448), (27, 164, 111, 163), (34, 158, 110, 157), (53, 469, 120, 468), (63, 530, 123, 529), (73, 503, 122, 502), (89, 422, 118, 421), (100, 142, 109, 141), (104, 307, 113, 306), (119, 134, 108, 133), (166, 1308, 126, 1307)]
set_option maxRecDepth 100000 in
theorem ini_a : ini.map (fun q => lw_tbl[q.2.1]?) = ini.map (fun q => some (Cond.code (mN q.1) (mB q.1) (mL q.1) none)) := rfl
set_option maxRecDepth 100000 in
theorem ini_b : ini.map (fun q => lw_tbl[q.2.2.1]?) = ini.map (fun q => some (Cond.initialized (mN q.1).cls)) := rfl
set_option maxRecDepth 100000 in
theorem ini_c : ini.map (fun q => lw_tbl[q.2.2.2]?) = ini.map (fun q => some (Cond.instanceMethod (mN q.1))) := rfl
set_option maxRecDepth 100000 in
theorem ini_d : ∀ q ∈ ini, (mN q.1).name = "<init>" ∧ ((mN q.1).cls ≠ "java/lang/invoke/MethodHandle" ∧ (mN q.1).cls ≠ "java/lang/invoke/VarHandle") ∧ mL q.1 ≤ 40 ∧ plainName (mN q.1).cls = true ∧ mR q.1 = none := by decide +kernel
theorem iF_all : ∀ q ∈ ini, iF q.1 := by
  intro q h
  obtain ⟨h1, h2, h3, h4, h5⟩ := ini_d q h
  exact ⟨gats ini_a (fun _ => rfl) q h, gats ini_b (fun _ => rfl) q h, gats ini_c (fun _ => rfl) q h, h1, h2, h3, h4, h5⟩
theorem iF_at {y i : Nat} (h : (ini[i]?).map (fun q => q.1) = some y) : iF y := by
  cases hz : ini[i]? with
  | none => rw [hz] at h; cases h
  | some z =>
    rw [hz] at h
    have h4 : z.1 = y := Option.some.inj h
    rw [← h4]
    exact iF_all z (List.mem_of_getElem? hz)
set_option maxRecDepth 100000 in
theorem nw_0 : (nwk 0).map (fun q => lw_tbl[q.2.2]?) = (nwk 0).map (fun q => some (Cond.classLink (oN 0) q.1 (cT q.2.1).1)) := rfl
set_option maxRecDepth 100000 in
theorem an_0 : (ank 0).map (fun q => lw_tbl[q.2.2]?) = (ank 0).map (fun q => some (Cond.classLink (oN 0) q.1 (cT q.2.1).1)) := rfl
set_option maxRecDepth 100000 in
theorem ob_0 : (obk 0).map (fun q => lw_tbl[q.2.2]?) = (obk 0).map (fun q => some (Cond.methodLink (oN 0) q.1 objectInit)) := rfl
set_option maxRecDepth 100000 in
theorem nwb_0 : ∀ q ∈ nwk 0, q.2.1 < 13 := by decide +kernel
set_option maxRecDepth 100000 in
theorem anb_0 : ∀ q ∈ ank 0, q.2.1 = 8 := by decide +kernel
set_option maxRecDepth 100000 in
theorem ik_0 : (ikk 0).map (fun q => lw_tbl[q.2.2.2.2]?) = (ikk 0).map (fun q => some (mW 0 q.1 q.2.1)) := rfl
set_option maxRecDepth 100000 in
theorem ikc_0 : (ikk 0).map (fun q => (ini[q.2.2.2.1]?).map (fun z => z.1)) = (ikk 0).map (fun q => some q.2.1) := rfl
set_option maxRecDepth 100000 in
theorem ikb_0 : ∀ q ∈ ikk 0, (parseMethodDescriptor (mN q.2.1).desc).map (fun d => d.parameters.length) = some q.2.2.1 := by decide +kernel
set_option maxRecDepth 100000 in
theorem iN_0 : (iNk 0).map (fun q => lw_tbl[q.2.2.2.2]?) = (iNk 0).map (fun q => some (mV 0 q.1 q.2.1)) := rfl
set_option maxRecDepth 100000 in
theorem iNc_0 : (iNk 0).map (fun q => (ini[q.2.2.2.1]?).map (fun z => z.1)) = (iNk 0).map (fun q => some q.2.1) := rfl
set_option maxRecDepth 100000 in
theorem iNb_0 : ∀ q ∈ iNk 0, (parseMethodDescriptor (mN q.2.1).desc).map (fun d => d.parameters.length) = some q.2.2.1 := by decide +kernel
set_option maxRecDepth 100000 in
theorem nw_1 : (nwk 1).map (fun q => lw_tbl[q.2.2]?) = (nwk 1).map (fun q => some (Cond.classLink (oN 1) q.1 (cT q.2.1).1)) := rfl
set_option maxRecDepth 100000 in
theorem an_1 : (ank 1).map (fun q => lw_tbl[q.2.2]?) = (ank 1).map (fun q => some (Cond.classLink (oN 1) q.1 (cT q.2.1).1)) := rfl
set_option maxRecDepth 100000 in
theorem ob_1 : (obk 1).map (fun q => lw_tbl[q.2.2]?) = (obk 1).map (fun q => some (Cond.methodLink (oN 1) q.1 objectInit)) := rfl
set_option maxRecDepth 100000 in
theorem nwb_1 : ∀ q ∈ nwk 1, q.2.1 < 13 := by decide +kernel
set_option maxRecDepth 100000 in
theorem anb_1 : ∀ q ∈ ank 1, q.2.1 = 8 := by decide +kernel
set_option maxRecDepth 100000 in
theorem ik_1 : (ikk 1).map (fun q => lw_tbl[q.2.2.2.2]?) = (ikk 1).map (fun q => some (mW 1 q.1 q.2.1)) := rfl
set_option maxRecDepth 100000 in
theorem ikc_1 : (ikk 1).map (fun q => (ini[q.2.2.2.1]?).map (fun z => z.1)) = (ikk 1).map (fun q => some q.2.1) := rfl
set_option maxRecDepth 100000 in
theorem ikb_1 : ∀ q ∈ ikk 1, (parseMethodDescriptor (mN q.2.1).desc).map (fun d => d.parameters.length) = some q.2.2.1 := by decide +kernel
set_option maxRecDepth 100000 in
theorem iN_1 : (iNk 1).map (fun q => lw_tbl[q.2.2.2.2]?) = (iNk 1).map (fun q => some (mV 1 q.1 q.2.1)) := rfl
set_option maxRecDepth 100000 in
theorem iNc_1 : (iNk 1).map (fun q => (ini[q.2.2.2.1]?).map (fun z => z.1)) = (iNk 1).map (fun q => some q.2.1) := rfl
set_option maxRecDepth 100000 in
theorem iNb_1 : ∀ q ∈ iNk 1, (parseMethodDescriptor (mN q.2.1).desc).map (fun d => d.parameters.length) = some q.2.2.1 := by decide +kernel
set_option maxRecDepth 100000 in
theorem nw_2 : (nwk 2).map (fun q => lw_tbl[q.2.2]?) = (nwk 2).map (fun q => some (Cond.classLink (oN 2) q.1 (cT q.2.1).1)) := rfl
set_option maxRecDepth 100000 in
theorem an_2 : (ank 2).map (fun q => lw_tbl[q.2.2]?) = (ank 2).map (fun q => some (Cond.classLink (oN 2) q.1 (cT q.2.1).1)) := rfl
set_option maxRecDepth 100000 in
theorem ob_2 : (obk 2).map (fun q => lw_tbl[q.2.2]?) = (obk 2).map (fun q => some (Cond.methodLink (oN 2) q.1 objectInit)) := rfl
set_option maxRecDepth 100000 in
theorem nwb_2 : ∀ q ∈ nwk 2, q.2.1 < 13 := by decide +kernel
set_option maxRecDepth 100000 in
theorem anb_2 : ∀ q ∈ ank 2, q.2.1 = 8 := by decide +kernel
set_option maxRecDepth 100000 in
theorem ik_2 : (ikk 2).map (fun q => lw_tbl[q.2.2.2.2]?) = (ikk 2).map (fun q => some (mW 2 q.1 q.2.1)) := rfl
set_option maxRecDepth 100000 in
theorem ikc_2 : (ikk 2).map (fun q => (ini[q.2.2.2.1]?).map (fun z => z.1)) = (ikk 2).map (fun q => some q.2.1) := rfl
set_option maxRecDepth 100000 in
theorem ikb_2 : ∀ q ∈ ikk 2, (parseMethodDescriptor (mN q.2.1).desc).map (fun d => d.parameters.length) = some q.2.2.1 := by decide +kernel
set_option maxRecDepth 100000 in
theorem iN_2 : (iNk 2).map (fun q => lw_tbl[q.2.2.2.2]?) = (iNk 2).map (fun q => some (mV 2 q.1 q.2.1)) := rfl
set_option maxRecDepth 100000 in
theorem iNc_2 : (iNk 2).map (fun q => (ini[q.2.2.2.1]?).map (fun z => z.1)) = (iNk 2).map (fun q => some q.2.1) := rfl
set_option maxRecDepth 100000 in
theorem iNb_2 : ∀ q ∈ iNk 2, (parseMethodDescriptor (mN q.2.1).desc).map (fun d => d.parameters.length) = some q.2.2.1 := by decide +kernel
set_option maxRecDepth 100000 in
theorem nw_3 : (nwk 3).map (fun q => lw_tbl[q.2.2]?) = (nwk 3).map (fun q => some (Cond.classLink (oN 3) q.1 (cT q.2.1).1)) := rfl
set_option maxRecDepth 100000 in
theorem an_3 : (ank 3).map (fun q => lw_tbl[q.2.2]?) = (ank 3).map (fun q => some (Cond.classLink (oN 3) q.1 (cT q.2.1).1)) := rfl
set_option maxRecDepth 100000 in
theorem ob_3 : (obk 3).map (fun q => lw_tbl[q.2.2]?) = (obk 3).map (fun q => some (Cond.methodLink (oN 3) q.1 objectInit)) := rfl
set_option maxRecDepth 100000 in
theorem nwb_3 : ∀ q ∈ nwk 3, q.2.1 < 13 := by decide +kernel
set_option maxRecDepth 100000 in
theorem anb_3 : ∀ q ∈ ank 3, q.2.1 = 8 := by decide +kernel
set_option maxRecDepth 100000 in
theorem ik_3 : (ikk 3).map (fun q => lw_tbl[q.2.2.2.2]?) = (ikk 3).map (fun q => some (mW 3 q.1 q.2.1)) := rfl
set_option maxRecDepth 100000 in
theorem ikc_3 : (ikk 3).map (fun q => (ini[q.2.2.2.1]?).map (fun z => z.1)) = (ikk 3).map (fun q => some q.2.1) := rfl
set_option maxRecDepth 100000 in
theorem ikb_3 : ∀ q ∈ ikk 3, (parseMethodDescriptor (mN q.2.1).desc).map (fun d => d.parameters.length) = some q.2.2.1 := by decide +kernel
set_option maxRecDepth 100000 in
theorem iN_3 : (iNk 3).map (fun q => lw_tbl[q.2.2.2.2]?) = (iNk 3).map (fun q => some (mV 3 q.1 q.2.1)) := rfl
set_option maxRecDepth 100000 in
theorem iNc_3 : (iNk 3).map (fun q => (ini[q.2.2.2.1]?).map (fun z => z.1)) = (iNk 3).map (fun q => some q.2.1) := rfl
set_option maxRecDepth 100000 in
theorem iNb_3 : ∀ q ∈ iNk 3, (parseMethodDescriptor (mN q.2.1).desc).map (fun d => d.parameters.length) = some q.2.2.1 := by decide +kernel
set_option maxRecDepth 100000 in
theorem nw_4 : (nwk 4).map (fun q => lw_tbl[q.2.2]?) = (nwk 4).map (fun q => some (Cond.classLink (oN 4) q.1 (cT q.2.1).1)) := rfl
set_option maxRecDepth 100000 in
theorem an_4 : (ank 4).map (fun q => lw_tbl[q.2.2]?) = (ank 4).map (fun q => some (Cond.classLink (oN 4) q.1 (cT q.2.1).1)) := rfl
set_option maxRecDepth 100000 in
theorem ob_4 : (obk 4).map (fun q => lw_tbl[q.2.2]?) = (obk 4).map (fun q => some (Cond.methodLink (oN 4) q.1 objectInit)) := rfl
set_option maxRecDepth 100000 in
theorem nwb_4 : ∀ q ∈ nwk 4, q.2.1 < 13 := by decide +kernel
set_option maxRecDepth 100000 in
theorem anb_4 : ∀ q ∈ ank 4, q.2.1 = 8 := by decide +kernel
set_option maxRecDepth 100000 in
theorem ik_4 : (ikk 4).map (fun q => lw_tbl[q.2.2.2.2]?) = (ikk 4).map (fun q => some (mW 4 q.1 q.2.1)) := rfl
set_option maxRecDepth 100000 in
theorem ikc_4 : (ikk 4).map (fun q => (ini[q.2.2.2.1]?).map (fun z => z.1)) = (ikk 4).map (fun q => some q.2.1) := rfl
set_option maxRecDepth 100000 in
theorem ikb_4 : ∀ q ∈ ikk 4, (parseMethodDescriptor (mN q.2.1).desc).map (fun d => d.parameters.length) = some q.2.2.1 := by decide +kernel
set_option maxRecDepth 100000 in
theorem iN_4 : (iNk 4).map (fun q => lw_tbl[q.2.2.2.2]?) = (iNk 4).map (fun q => some (mV 4 q.1 q.2.1)) := rfl
set_option maxRecDepth 100000 in
theorem iNc_4 : (iNk 4).map (fun q => (ini[q.2.2.2.1]?).map (fun z => z.1)) = (iNk 4).map (fun q => some q.2.1) := rfl
set_option maxRecDepth 100000 in
theorem iNb_4 : ∀ q ∈ iNk 4, (parseMethodDescriptor (mN q.2.1).desc).map (fun d => d.parameters.length) = some q.2.2.1 := by decide +kernel
set_option maxRecDepth 100000 in
theorem nw_5 : (nwk 5).map (fun q => lw_tbl[q.2.2]?) = (nwk 5).map (fun q => some (Cond.classLink (oN 5) q.1 (cT q.2.1).1)) := rfl
set_option maxRecDepth 100000 in
theorem an_5 : (ank 5).map (fun q => lw_tbl[q.2.2]?) = (ank 5).map (fun q => some (Cond.classLink (oN 5) q.1 (cT q.2.1).1)) := rfl
set_option maxRecDepth 100000 in
theorem ob_5 : (obk 5).map (fun q => lw_tbl[q.2.2]?) = (obk 5).map (fun q => some (Cond.methodLink (oN 5) q.1 objectInit)) := rfl
set_option maxRecDepth 100000 in
theorem nwb_5 : ∀ q ∈ nwk 5, q.2.1 < 13 := by decide +kernel
set_option maxRecDepth 100000 in
theorem anb_5 : ∀ q ∈ ank 5, q.2.1 = 8 := by decide +kernel
set_option maxRecDepth 100000 in
theorem ik_5 : (ikk 5).map (fun q => lw_tbl[q.2.2.2.2]?) = (ikk 5).map (fun q => some (mW 5 q.1 q.2.1)) := rfl
set_option maxRecDepth 100000 in
theorem ikc_5 : (ikk 5).map (fun q => (ini[q.2.2.2.1]?).map (fun z => z.1)) = (ikk 5).map (fun q => some q.2.1) := rfl
set_option maxRecDepth 100000 in
theorem ikb_5 : ∀ q ∈ ikk 5, (parseMethodDescriptor (mN q.2.1).desc).map (fun d => d.parameters.length) = some q.2.2.1 := by decide +kernel
set_option maxRecDepth 100000 in
theorem iN_5 : (iNk 5).map (fun q => lw_tbl[q.2.2.2.2]?) = (iNk 5).map (fun q => some (mV 5 q.1 q.2.1)) := rfl
set_option maxRecDepth 100000 in
theorem iNc_5 : (iNk 5).map (fun q => (ini[q.2.2.2.1]?).map (fun z => z.1)) = (iNk 5).map (fun q => some q.2.1) := rfl
set_option maxRecDepth 100000 in
theorem iNb_5 : ∀ q ∈ iNk 5, (parseMethodDescriptor (mN q.2.1).desc).map (fun d => d.parameters.length) = some q.2.2.1 := by decide +kernel
set_option maxRecDepth 100000 in
theorem nw_6 : (nwk 6).map (fun q => lw_tbl[q.2.2]?) = (nwk 6).map (fun q => some (Cond.classLink (oN 6) q.1 (cT q.2.1).1)) := rfl
set_option maxRecDepth 100000 in
theorem an_6 : (ank 6).map (fun q => lw_tbl[q.2.2]?) = (ank 6).map (fun q => some (Cond.classLink (oN 6) q.1 (cT q.2.1).1)) := rfl
set_option maxRecDepth 100000 in
theorem ob_6 : (obk 6).map (fun q => lw_tbl[q.2.2]?) = (obk 6).map (fun q => some (Cond.methodLink (oN 6) q.1 objectInit)) := rfl
set_option maxRecDepth 100000 in
theorem nwb_6 : ∀ q ∈ nwk 6, q.2.1 < 13 := by decide +kernel
set_option maxRecDepth 100000 in
theorem anb_6 : ∀ q ∈ ank 6, q.2.1 = 8 := by decide +kernel
set_option maxRecDepth 100000 in
theorem ik_6 : (ikk 6).map (fun q => lw_tbl[q.2.2.2.2]?) = (ikk 6).map (fun q => some (mW 6 q.1 q.2.1)) := rfl
set_option maxRecDepth 100000 in
theorem ikc_6 : (ikk 6).map (fun q => (ini[q.2.2.2.1]?).map (fun z => z.1)) = (ikk 6).map (fun q => some q.2.1) := rfl
set_option maxRecDepth 100000 in
theorem ikb_6 : ∀ q ∈ ikk 6, (parseMethodDescriptor (mN q.2.1).desc).map (fun d => d.parameters.length) = some q.2.2.1 := by decide +kernel
set_option maxRecDepth 100000 in
theorem iN_6 : (iNk 6).map (fun q => lw_tbl[q.2.2.2.2]?) = (iNk 6).map (fun q => some (mV 6 q.1 q.2.1)) := rfl
set_option maxRecDepth 100000 in
theorem iNc_6 : (iNk 6).map (fun q => (ini[q.2.2.2.1]?).map (fun z => z.1)) = (iNk 6).map (fun q => some q.2.1) := rfl
set_option maxRecDepth 100000 in
theorem iNb_6 : ∀ q ∈ iNk 6, (parseMethodDescriptor (mN q.2.1).desc).map (fun d => d.parameters.length) = some q.2.2.1 := by decide +kernel
set_option maxRecDepth 100000 in
theorem nw_7 : (nwk 7).map (fun q => lw_tbl[q.2.2]?) = (nwk 7).map (fun q => some (Cond.classLink (oN 7) q.1 (cT q.2.1).1)) := rfl
set_option maxRecDepth 100000 in
theorem an_7 : (ank 7).map (fun q => lw_tbl[q.2.2]?) = (ank 7).map (fun q => some (Cond.classLink (oN 7) q.1 (cT q.2.1).1)) := rfl
set_option maxRecDepth 100000 in
theorem ob_7 : (obk 7).map (fun q => lw_tbl[q.2.2]?) = (obk 7).map (fun q => some (Cond.methodLink (oN 7) q.1 objectInit)) := rfl
set_option maxRecDepth 100000 in
theorem nwb_7 : ∀ q ∈ nwk 7, q.2.1 < 13 := by decide +kernel
set_option maxRecDepth 100000 in
theorem anb_7 : ∀ q ∈ ank 7, q.2.1 = 8 := by decide +kernel
set_option maxRecDepth 100000 in
theorem ik_7 : (ikk 7).map (fun q => lw_tbl[q.2.2.2.2]?) = (ikk 7).map (fun q => some (mW 7 q.1 q.2.1)) := rfl
set_option maxRecDepth 100000 in
theorem ikc_7 : (ikk 7).map (fun q => (ini[q.2.2.2.1]?).map (fun z => z.1)) = (ikk 7).map (fun q => some q.2.1) := rfl
set_option maxRecDepth 100000 in
theorem ikb_7 : ∀ q ∈ ikk 7, (parseMethodDescriptor (mN q.2.1).desc).map (fun d => d.parameters.length) = some q.2.2.1 := by decide +kernel
set_option maxRecDepth 100000 in
theorem iN_7 : (iNk 7).map (fun q => lw_tbl[q.2.2.2.2]?) = (iNk 7).map (fun q => some (mV 7 q.1 q.2.1)) := rfl
set_option maxRecDepth 100000 in
theorem iNc_7 : (iNk 7).map (fun q => (ini[q.2.2.2.1]?).map (fun z => z.1)) = (iNk 7).map (fun q => some q.2.1) := rfl
set_option maxRecDepth 100000 in
theorem iNb_7 : ∀ q ∈ iNk 7, (parseMethodDescriptor (mN q.2.1).desc).map (fun d => d.parameters.length) = some q.2.2.1 := by decide +kernel
set_option maxRecDepth 100000 in
theorem nw_8 : (nwk 8).map (fun q => lw_tbl[q.2.2]?) = (nwk 8).map (fun q => some (Cond.classLink (oN 8) q.1 (cT q.2.1).1)) := rfl
set_option maxRecDepth 100000 in
theorem an_8 : (ank 8).map (fun q => lw_tbl[q.2.2]?) = (ank 8).map (fun q => some (Cond.classLink (oN 8) q.1 (cT q.2.1).1)) := rfl
set_option maxRecDepth 100000 in
theorem ob_8 : (obk 8).map (fun q => lw_tbl[q.2.2]?) = (obk 8).map (fun q => some (Cond.methodLink (oN 8) q.1 objectInit)) := rfl
set_option maxRecDepth 100000 in
theorem nwb_8 : ∀ q ∈ nwk 8, q.2.1 < 13 := by decide +kernel
set_option maxRecDepth 100000 in
theorem anb_8 : ∀ q ∈ ank 8, q.2.1 = 8 := by decide +kernel
set_option maxRecDepth 100000 in
theorem ik_8 : (ikk 8).map (fun q => lw_tbl[q.2.2.2.2]?) = (ikk 8).map (fun q => some (mW 8 q.1 q.2.1)) := rfl
set_option maxRecDepth 100000 in
theorem ikc_8 : (ikk 8).map (fun q => (ini[q.2.2.2.1]?).map (fun z => z.1)) = (ikk 8).map (fun q => some q.2.1) := rfl
set_option maxRecDepth 100000 in
theorem ikb_8 : ∀ q ∈ ikk 8, (parseMethodDescriptor (mN q.2.1).desc).map (fun d => d.parameters.length) = some q.2.2.1 := by decide +kernel
set_option maxRecDepth 100000 in
theorem iN_8 : (iNk 8).map (fun q => lw_tbl[q.2.2.2.2]?) = (iNk 8).map (fun q => some (mV 8 q.1 q.2.1)) := rfl
set_option maxRecDepth 100000 in
theorem iNc_8 : (iNk 8).map (fun q => (ini[q.2.2.2.1]?).map (fun z => z.1)) = (iNk 8).map (fun q => some q.2.1) := rfl
set_option maxRecDepth 100000 in
theorem iNb_8 : ∀ q ∈ iNk 8, (parseMethodDescriptor (mN q.2.1).desc).map (fun d => d.parameters.length) = some q.2.2.1 := by decide +kernel
set_option maxRecDepth 100000 in
theorem nw_9 : (nwk 9).map (fun q => lw_tbl[q.2.2]?) = (nwk 9).map (fun q => some (Cond.classLink (oN 9) q.1 (cT q.2.1).1)) := rfl
set_option maxRecDepth 100000 in
theorem an_9 : (ank 9).map (fun q => lw_tbl[q.2.2]?) = (ank 9).map (fun q => some (Cond.classLink (oN 9) q.1 (cT q.2.1).1)) := rfl
set_option maxRecDepth 100000 in
theorem ob_9 : (obk 9).map (fun q => lw_tbl[q.2.2]?) = (obk 9).map (fun q => some (Cond.methodLink (oN 9) q.1 objectInit)) := rfl
set_option maxRecDepth 100000 in
theorem nwb_9 : ∀ q ∈ nwk 9, q.2.1 < 13 := by decide +kernel
set_option maxRecDepth 100000 in
theorem anb_9 : ∀ q ∈ ank 9, q.2.1 = 8 := by decide +kernel
set_option maxRecDepth 100000 in
theorem ik_9 : (ikk 9).map (fun q => lw_tbl[q.2.2.2.2]?) = (ikk 9).map (fun q => some (mW 9 q.1 q.2.1)) := rfl
set_option maxRecDepth 100000 in
theorem ikc_9 : (ikk 9).map (fun q => (ini[q.2.2.2.1]?).map (fun z => z.1)) = (ikk 9).map (fun q => some q.2.1) := rfl
set_option maxRecDepth 100000 in
theorem ikb_9 : ∀ q ∈ ikk 9, (parseMethodDescriptor (mN q.2.1).desc).map (fun d => d.parameters.length) = some q.2.2.1 := by decide +kernel
set_option maxRecDepth 100000 in
theorem iN_9 : (iNk 9).map (fun q => lw_tbl[q.2.2.2.2]?) = (iNk 9).map (fun q => some (mV 9 q.1 q.2.1)) := rfl
set_option maxRecDepth 100000 in
theorem iNc_9 : (iNk 9).map (fun q => (ini[q.2.2.2.1]?).map (fun z => z.1)) = (iNk 9).map (fun q => some q.2.1) := rfl
set_option maxRecDepth 100000 in
theorem iNb_9 : ∀ q ∈ iNk 9, (parseMethodDescriptor (mN q.2.1).desc).map (fun d => d.parameters.length) = some q.2.2.1 := by decide +kernel
set_option maxRecDepth 100000 in
theorem nw_10 : (nwk 10).map (fun q => lw_tbl[q.2.2]?) = (nwk 10).map (fun q => some (Cond.classLink (oN 10) q.1 (cT q.2.1).1)) := rfl
set_option maxRecDepth 100000 in
theorem an_10 : (ank 10).map (fun q => lw_tbl[q.2.2]?) = (ank 10).map (fun q => some (Cond.classLink (oN 10) q.1 (cT q.2.1).1)) := rfl
set_option maxRecDepth 100000 in
theorem ob_10 : (obk 10).map (fun q => lw_tbl[q.2.2]?) = (obk 10).map (fun q => some (Cond.methodLink (oN 10) q.1 objectInit)) := rfl
set_option maxRecDepth 100000 in
theorem nwb_10 : ∀ q ∈ nwk 10, q.2.1 < 13 := by decide +kernel
set_option maxRecDepth 100000 in
theorem anb_10 : ∀ q ∈ ank 10, q.2.1 = 8 := by decide +kernel
set_option maxRecDepth 100000 in
theorem ik_10 : (ikk 10).map (fun q => lw_tbl[q.2.2.2.2]?) = (ikk 10).map (fun q => some (mW 10 q.1 q.2.1)) := rfl
set_option maxRecDepth 100000 in
theorem ikc_10 : (ikk 10).map (fun q => (ini[q.2.2.2.1]?).map (fun z => z.1)) = (ikk 10).map (fun q => some q.2.1) := rfl
set_option maxRecDepth 100000 in
theorem ikb_10 : ∀ q ∈ ikk 10, (parseMethodDescriptor (mN q.2.1).desc).map (fun d => d.parameters.length) = some q.2.2.1 := by decide +kernel
set_option maxRecDepth 100000 in
theorem iN_10 : (iNk 10).map (fun q => lw_tbl[q.2.2.2.2]?) = (iNk 10).map (fun q => some (mV 10 q.1 q.2.1)) := rfl
set_option maxRecDepth 100000 in
theorem iNc_10 : (iNk 10).map (fun q => (ini[q.2.2.2.1]?).map (fun z => z.1)) = (iNk 10).map (fun q => some q.2.1) := rfl
set_option maxRecDepth 100000 in
theorem iNb_10 : ∀ q ∈ iNk 10, (parseMethodDescriptor (mN q.2.1).desc).map (fun d => d.parameters.length) = some q.2.2.1 := by decide +kernel
set_option maxRecDepth 100000 in
theorem nw_11 : (nwk 11).map (fun q => lw_tbl[q.2.2]?) = (nwk 11).map (fun q => some (Cond.classLink (oN 11) q.1 (cT q.2.1).1)) := rfl
set_option maxRecDepth 100000 in
theorem an_11 : (ank 11).map (fun q => lw_tbl[q.2.2]?) = (ank 11).map (fun q => some (Cond.classLink (oN 11) q.1 (cT q.2.1).1)) := rfl
set_option maxRecDepth 100000 in
theorem ob_11 : (obk 11).map (fun q => lw_tbl[q.2.2]?) = (obk 11).map (fun q => some (Cond.methodLink (oN 11) q.1 objectInit)) := rfl
set_option maxRecDepth 100000 in
theorem nwb_11 : ∀ q ∈ nwk 11, q.2.1 < 13 := by decide +kernel
set_option maxRecDepth 100000 in
theorem anb_11 : ∀ q ∈ ank 11, q.2.1 = 8 := by decide +kernel
set_option maxRecDepth 100000 in
theorem ik_11 : (ikk 11).map (fun q => lw_tbl[q.2.2.2.2]?) = (ikk 11).map (fun q => some (mW 11 q.1 q.2.1)) := rfl
set_option maxRecDepth 100000 in
theorem ikc_11 : (ikk 11).map (fun q => (ini[q.2.2.2.1]?).map (fun z => z.1)) = (ikk 11).map (fun q => some q.2.1) := rfl
set_option maxRecDepth 100000 in
theorem ikb_11 : ∀ q ∈ ikk 11, (parseMethodDescriptor (mN q.2.1).desc).map (fun d => d.parameters.length) = some q.2.2.1 := by decide +kernel
set_option maxRecDepth 100000 in
theorem iN_11 : (iNk 11).map (fun q => lw_tbl[q.2.2.2.2]?) = (iNk 11).map (fun q => some (mV 11 q.1 q.2.1)) := rfl
set_option maxRecDepth 100000 in
theorem iNc_11 : (iNk 11).map (fun q => (ini[q.2.2.2.1]?).map (fun z => z.1)) = (iNk 11).map (fun q => some q.2.1) := rfl
set_option maxRecDepth 100000 in
theorem iNb_11 : ∀ q ∈ iNk 11, (parseMethodDescriptor (mN q.2.1).desc).map (fun d => d.parameters.length) = some q.2.2.1 := by decide +kernel
set_option maxRecDepth 100000 in
theorem nw_12 : (nwk 12).map (fun q => lw_tbl[q.2.2]?) = (nwk 12).map (fun q => some (Cond.classLink (oN 12) q.1 (cT q.2.1).1)) := rfl
set_option maxRecDepth 100000 in
theorem an_12 : (ank 12).map (fun q => lw_tbl[q.2.2]?) = (ank 12).map (fun q => some (Cond.classLink (oN 12) q.1 (cT q.2.1).1)) := rfl
set_option maxRecDepth 100000 in
theorem ob_12 : (obk 12).map (fun q => lw_tbl[q.2.2]?) = (obk 12).map (fun q => some (Cond.methodLink (oN 12) q.1 objectInit)) := rfl
set_option maxRecDepth 100000 in
theorem nwb_12 : ∀ q ∈ nwk 12, q.2.1 < 13 := by decide +kernel
set_option maxRecDepth 100000 in
theorem anb_12 : ∀ q ∈ ank 12, q.2.1 = 8 := by decide +kernel
set_option maxRecDepth 100000 in
theorem ik_12 : (ikk 12).map (fun q => lw_tbl[q.2.2.2.2]?) = (ikk 12).map (fun q => some (mW 12 q.1 q.2.1)) := rfl
set_option maxRecDepth 100000 in
theorem ikc_12 : (ikk 12).map (fun q => (ini[q.2.2.2.1]?).map (fun z => z.1)) = (ikk 12).map (fun q => some q.2.1) := rfl
set_option maxRecDepth 100000 in
theorem ikb_12 : ∀ q ∈ ikk 12, (parseMethodDescriptor (mN q.2.1).desc).map (fun d => d.parameters.length) = some q.2.2.1 := by decide +kernel
set_option maxRecDepth 100000 in
theorem iN_12 : (iNk 12).map (fun q => lw_tbl[q.2.2.2.2]?) = (iNk 12).map (fun q => some (mV 12 q.1 q.2.1)) := rfl
set_option maxRecDepth 100000 in
theorem iNc_12 : (iNk 12).map (fun q => (ini[q.2.2.2.1]?).map (fun z => z.1)) = (iNk 12).map (fun q => some q.2.1) := rfl
set_option maxRecDepth 100000 in
theorem iNb_12 : ∀ q ∈ iNk 12, (parseMethodDescriptor (mN q.2.1).desc).map (fun d => d.parameters.length) = some q.2.2.1 := by decide +kernel
set_option maxRecDepth 100000 in
theorem nw_13 : (nwk 13).map (fun q => lw_tbl[q.2.2]?) = (nwk 13).map (fun q => some (Cond.classLink (oN 13) q.1 (cT q.2.1).1)) := rfl
set_option maxRecDepth 100000 in
theorem an_13 : (ank 13).map (fun q => lw_tbl[q.2.2]?) = (ank 13).map (fun q => some (Cond.classLink (oN 13) q.1 (cT q.2.1).1)) := rfl
set_option maxRecDepth 100000 in
theorem ob_13 : (obk 13).map (fun q => lw_tbl[q.2.2]?) = (obk 13).map (fun q => some (Cond.methodLink (oN 13) q.1 objectInit)) := rfl
set_option maxRecDepth 100000 in
theorem nwb_13 : ∀ q ∈ nwk 13, q.2.1 < 13 := by decide +kernel
set_option maxRecDepth 100000 in
theorem anb_13 : ∀ q ∈ ank 13, q.2.1 = 8 := by decide +kernel
set_option maxRecDepth 100000 in
theorem ik_13 : (ikk 13).map (fun q => lw_tbl[q.2.2.2.2]?) = (ikk 13).map (fun q => some (mW 13 q.1 q.2.1)) := rfl
set_option maxRecDepth 100000 in
theorem ikc_13 : (ikk 13).map (fun q => (ini[q.2.2.2.1]?).map (fun z => z.1)) = (ikk 13).map (fun q => some q.2.1) := rfl
set_option maxRecDepth 100000 in
theorem ikb_13 : ∀ q ∈ ikk 13, (parseMethodDescriptor (mN q.2.1).desc).map (fun d => d.parameters.length) = some q.2.2.1 := by decide +kernel
set_option maxRecDepth 100000 in
theorem iN_13 : (iNk 13).map (fun q => lw_tbl[q.2.2.2.2]?) = (iNk 13).map (fun q => some (mV 13 q.1 q.2.1)) := rfl
set_option maxRecDepth 100000 in
theorem iNc_13 : (iNk 13).map (fun q => (ini[q.2.2.2.1]?).map (fun z => z.1)) = (iNk 13).map (fun q => some q.2.1) := rfl
set_option maxRecDepth 100000 in
theorem iNb_13 : ∀ q ∈ iNk 13, (parseMethodDescriptor (mN q.2.1).desc).map (fun d => d.parameters.length) = some q.2.2.1 := by decide +kernel
set_option maxRecDepth 100000 in
theorem nw_14 : (nwk 14).map (fun q => lw_tbl[q.2.2]?) = (nwk 14).map (fun q => some (Cond.classLink (oN 14) q.1 (cT q.2.1).1)) := rfl
set_option maxRecDepth 100000 in
theorem an_14 : (ank 14).map (fun q => lw_tbl[q.2.2]?) = (ank 14).map (fun q => some (Cond.classLink (oN 14) q.1 (cT q.2.1).1)) := rfl
set_option maxRecDepth 100000 in
theorem ob_14 : (obk 14).map (fun q => lw_tbl[q.2.2]?) = (obk 14).map (fun q => some (Cond.methodLink (oN 14) q.1 objectInit)) := rfl
set_option maxRecDepth 100000 in
theorem nwb_14 : ∀ q ∈ nwk 14, q.2.1 < 13 := by decide +kernel
set_option maxRecDepth 100000 in
theorem anb_14 : ∀ q ∈ ank 14, q.2.1 = 8 := by decide +kernel
set_option maxRecDepth 100000 in
theorem ik_14 : (ikk 14).map (fun q => lw_tbl[q.2.2.2.2]?) = (ikk 14).map (fun q => some (mW 14 q.1 q.2.1)) := rfl
set_option maxRecDepth 100000 in
theorem ikc_14 : (ikk 14).map (fun q => (ini[q.2.2.2.1]?).map (fun z => z.1)) = (ikk 14).map (fun q => some q.2.1) := rfl
set_option maxRecDepth 100000 in
theorem ikb_14 : ∀ q ∈ ikk 14, (parseMethodDescriptor (mN q.2.1).desc).map (fun d => d.parameters.length) = some q.2.2.1 := by decide +kernel
set_option maxRecDepth 100000 in
theorem iN_14 : (iNk 14).map (fun q => lw_tbl[q.2.2.2.2]?) = (iNk 14).map (fun q => some (mV 14 q.1 q.2.1)) := rfl
set_option maxRecDepth 100000 in
theorem iNc_14 : (iNk 14).map (fun q => (ini[q.2.2.2.1]?).map (fun z => z.1)) = (iNk 14).map (fun q => some q.2.1) := rfl
set_option maxRecDepth 100000 in
theorem iNb_14 : ∀ q ∈ iNk 14, (parseMethodDescriptor (mN q.2.1).desc).map (fun d => d.parameters.length) = some q.2.2.1 := by decide +kernel
set_option maxRecDepth 100000 in
theorem nw_15 : (nwk 15).map (fun q => lw_tbl[q.2.2]?) = (nwk 15).map (fun q => some (Cond.classLink (oN 15) q.1 (cT q.2.1).1)) := rfl
set_option maxRecDepth 100000 in
theorem an_15 : (ank 15).map (fun q => lw_tbl[q.2.2]?) = (ank 15).map (fun q => some (Cond.classLink (oN 15) q.1 (cT q.2.1).1)) := rfl
set_option maxRecDepth 100000 in
theorem ob_15 : (obk 15).map (fun q => lw_tbl[q.2.2]?) = (obk 15).map (fun q => some (Cond.methodLink (oN 15) q.1 objectInit)) := rfl
set_option maxRecDepth 100000 in
theorem nwb_15 : ∀ q ∈ nwk 15, q.2.1 < 13 := by decide +kernel
set_option maxRecDepth 100000 in
theorem anb_15 : ∀ q ∈ ank 15, q.2.1 = 8 := by decide +kernel
set_option maxRecDepth 100000 in
theorem ik_15 : (ikk 15).map (fun q => lw_tbl[q.2.2.2.2]?) = (ikk 15).map (fun q => some (mW 15 q.1 q.2.1)) := rfl
set_option maxRecDepth 100000 in
theorem ikc_15 : (ikk 15).map (fun q => (ini[q.2.2.2.1]?).map (fun z => z.1)) = (ikk 15).map (fun q => some q.2.1) := rfl
set_option maxRecDepth 100000 in
theorem ikb_15 : ∀ q ∈ ikk 15, (parseMethodDescriptor (mN q.2.1).desc).map (fun d => d.parameters.length) = some q.2.2.1 := by decide +kernel
set_option maxRecDepth 100000 in
theorem iN_15 : (iNk 15).map (fun q => lw_tbl[q.2.2.2.2]?) = (iNk 15).map (fun q => some (mV 15 q.1 q.2.1)) := rfl
set_option maxRecDepth 100000 in
theorem iNc_15 : (iNk 15).map (fun q => (ini[q.2.2.2.1]?).map (fun z => z.1)) = (iNk 15).map (fun q => some q.2.1) := rfl
set_option maxRecDepth 100000 in
theorem iNb_15 : ∀ q ∈ iNk 15, (parseMethodDescriptor (mN q.2.1).desc).map (fun d => d.parameters.length) = some q.2.2.1 := by decide +kernel
theorem nw_all : ∀ o, ∀ q ∈ nwk o, q.2.1 < 13 ∧ Cond.classLink (oN o) q.1 (cT q.2.1).1 ∈ gtb := by
  intro o q h
  match o, h with
  | 0, h => exact ⟨nwb_0 q h, gats nw_0 (fun _ => rfl) q h⟩
  | 1, h => exact ⟨nwb_1 q h, gats nw_1 (fun _ => rfl) q h⟩
  | 2, h => exact ⟨nwb_2 q h, gats nw_2 (fun _ => rfl) q h⟩
  | 3, h => exact ⟨nwb_3 q h, gats nw_3 (fun _ => rfl) q h⟩
  | 4, h => exact ⟨nwb_4 q h, gats nw_4 (fun _ => rfl) q h⟩
  | 5, h => exact ⟨nwb_5 q h, gats nw_5 (fun _ => rfl) q h⟩
  | 6, h => exact ⟨nwb_6 q h, gats nw_6 (fun _ => rfl) q h⟩
  | 7, h => exact ⟨nwb_7 q h, gats nw_7 (fun _ => rfl) q h⟩
  | 8, h => exact ⟨nwb_8 q h, gats nw_8 (fun _ => rfl) q h⟩
  | 9, h => exact ⟨nwb_9 q h, gats nw_9 (fun _ => rfl) q h⟩
  | 10, h => exact ⟨nwb_10 q h, gats nw_10 (fun _ => rfl) q h⟩
  | 11, h => exact ⟨nwb_11 q h, gats nw_11 (fun _ => rfl) q h⟩
  | 12, h => exact ⟨nwb_12 q h, gats nw_12 (fun _ => rfl) q h⟩
  | 13, h => exact ⟨nwb_13 q h, gats nw_13 (fun _ => rfl) q h⟩
  | 14, h => exact ⟨nwb_14 q h, gats nw_14 (fun _ => rfl) q h⟩
  | 15, h => exact ⟨nwb_15 q h, gats nw_15 (fun _ => rfl) q h⟩
  | n + 16, h => exact absurd h (by simp [nwk, nw_t])
theorem an_all : ∀ o, ∀ q ∈ ank o, q.2.1 = 8 ∧ Cond.classLink (oN o) q.1 (cT q.2.1).1 ∈ gtb := by
  intro o q h
  match o, h with
  | 0, h => exact ⟨anb_0 q h, gats an_0 (fun _ => rfl) q h⟩
  | 1, h => exact ⟨anb_1 q h, gats an_1 (fun _ => rfl) q h⟩
  | 2, h => exact ⟨anb_2 q h, gats an_2 (fun _ => rfl) q h⟩
  | 3, h => exact ⟨anb_3 q h, gats an_3 (fun _ => rfl) q h⟩
  | 4, h => exact ⟨anb_4 q h, gats an_4 (fun _ => rfl) q h⟩
  | 5, h => exact ⟨anb_5 q h, gats an_5 (fun _ => rfl) q h⟩
  | 6, h => exact ⟨anb_6 q h, gats an_6 (fun _ => rfl) q h⟩
  | 7, h => exact ⟨anb_7 q h, gats an_7 (fun _ => rfl) q h⟩
  | 8, h => exact ⟨anb_8 q h, gats an_8 (fun _ => rfl) q h⟩
  | 9, h => exact ⟨anb_9 q h, gats an_9 (fun _ => rfl) q h⟩
  | 10, h => exact ⟨anb_10 q h, gats an_10 (fun _ => rfl) q h⟩
  | 11, h => exact ⟨anb_11 q h, gats an_11 (fun _ => rfl) q h⟩
  | 12, h => exact ⟨anb_12 q h, gats an_12 (fun _ => rfl) q h⟩
  | 13, h => exact ⟨anb_13 q h, gats an_13 (fun _ => rfl) q h⟩
  | 14, h => exact ⟨anb_14 q h, gats an_14 (fun _ => rfl) q h⟩
  | 15, h => exact ⟨anb_15 q h, gats an_15 (fun _ => rfl) q h⟩
  | n + 16, h => exact absurd h (by simp [ank, an_t])
theorem ob_all : ∀ o, ∀ q ∈ obk o, Cond.methodLink (oN o) q.1 objectInit ∈ gtb := by
  intro o q h
  match o, h with
  | 0, h => exact gats ob_0 (fun _ => rfl) q h
  | 1, h => exact gats ob_1 (fun _ => rfl) q h
  | 2, h => exact gats ob_2 (fun _ => rfl) q h
  | 3, h => exact gats ob_3 (fun _ => rfl) q h
  | 4, h => exact gats ob_4 (fun _ => rfl) q h
  | 5, h => exact gats ob_5 (fun _ => rfl) q h
  | 6, h => exact gats ob_6 (fun _ => rfl) q h
  | 7, h => exact gats ob_7 (fun _ => rfl) q h
  | 8, h => exact gats ob_8 (fun _ => rfl) q h
  | 9, h => exact gats ob_9 (fun _ => rfl) q h
  | 10, h => exact gats ob_10 (fun _ => rfl) q h
  | 11, h => exact gats ob_11 (fun _ => rfl) q h
  | 12, h => exact gats ob_12 (fun _ => rfl) q h
  | 13, h => exact gats ob_13 (fun _ => rfl) q h
  | 14, h => exact gats ob_14 (fun _ => rfl) q h
  | 15, h => exact gats ob_15 (fun _ => rfl) q h
  | n + 16, h => exact absurd h (by simp [obk, ob_t])
theorem ik_all : ∀ o, ∀ q ∈ ikk o, mP q.2.1 q.2.2.1 ∧ iF q.2.1 ∧ mW o q.1 q.2.1 ∈ gtb := by
  intro o q h
  match o, h with
  | 0, h => exact ⟨ikb_0 q h, iF_at (List.map_inj_left.mp ikc_0 q h), gats ik_0 (fun _ => rfl) q h⟩
  | 1, h => exact ⟨ikb_1 q h, iF_at (List.map_inj_left.mp ikc_1 q h), gats ik_1 (fun _ => rfl) q h⟩
  | 2, h => exact ⟨ikb_2 q h, iF_at (List.map_inj_left.mp ikc_2 q h), gats ik_2 (fun _ => rfl) q h⟩
  | 3, h => exact ⟨ikb_3 q h, iF_at (List.map_inj_left.mp ikc_3 q h), gats ik_3 (fun _ => rfl) q h⟩
  | 4, h => exact ⟨ikb_4 q h, iF_at (List.map_inj_left.mp ikc_4 q h), gats ik_4 (fun _ => rfl) q h⟩
  | 5, h => exact ⟨ikb_5 q h, iF_at (List.map_inj_left.mp ikc_5 q h), gats ik_5 (fun _ => rfl) q h⟩
  | 6, h => exact ⟨ikb_6 q h, iF_at (List.map_inj_left.mp ikc_6 q h), gats ik_6 (fun _ => rfl) q h⟩
  | 7, h => exact ⟨ikb_7 q h, iF_at (List.map_inj_left.mp ikc_7 q h), gats ik_7 (fun _ => rfl) q h⟩
  | 8, h => exact ⟨ikb_8 q h, iF_at (List.map_inj_left.mp ikc_8 q h), gats ik_8 (fun _ => rfl) q h⟩
  | 9, h => exact ⟨ikb_9 q h, iF_at (List.map_inj_left.mp ikc_9 q h), gats ik_9 (fun _ => rfl) q h⟩
  | 10, h => exact ⟨ikb_10 q h, iF_at (List.map_inj_left.mp ikc_10 q h), gats ik_10 (fun _ => rfl) q h⟩
  | 11, h => exact ⟨ikb_11 q h, iF_at (List.map_inj_left.mp ikc_11 q h), gats ik_11 (fun _ => rfl) q h⟩
  | 12, h => exact ⟨ikb_12 q h, iF_at (List.map_inj_left.mp ikc_12 q h), gats ik_12 (fun _ => rfl) q h⟩
  | 13, h => exact ⟨ikb_13 q h, iF_at (List.map_inj_left.mp ikc_13 q h), gats ik_13 (fun _ => rfl) q h⟩
  | 14, h => exact ⟨ikb_14 q h, iF_at (List.map_inj_left.mp ikc_14 q h), gats ik_14 (fun _ => rfl) q h⟩
  | 15, h => exact ⟨ikb_15 q h, iF_at (List.map_inj_left.mp ikc_15 q h), gats ik_15 (fun _ => rfl) q h⟩
  | n + 16, h => exact absurd h (by simp [ikk, ik_t])
theorem iN_all : ∀ o, ∀ q ∈ iNk o, mP q.2.1 q.2.2.1 ∧ iF q.2.1 ∧ mV o q.1 q.2.1 ∈ nws := by
  intro o q h
  match o, h with
  | 0, h => exact ⟨iNb_0 q h, iF_at (List.map_inj_left.mp iNc_0 q h), nats iN_0 (fun _ => rfl) q h⟩
  | 1, h => exact ⟨iNb_1 q h, iF_at (List.map_inj_left.mp iNc_1 q h), nats iN_1 (fun _ => rfl) q h⟩
  | 2, h => exact ⟨iNb_2 q h, iF_at (List.map_inj_left.mp iNc_2 q h), nats iN_2 (fun _ => rfl) q h⟩
  | 3, h => exact ⟨iNb_3 q h, iF_at (List.map_inj_left.mp iNc_3 q h), nats iN_3 (fun _ => rfl) q h⟩
  | 4, h => exact ⟨iNb_4 q h, iF_at (List.map_inj_left.mp iNc_4 q h), nats iN_4 (fun _ => rfl) q h⟩
  | 5, h => exact ⟨iNb_5 q h, iF_at (List.map_inj_left.mp iNc_5 q h), nats iN_5 (fun _ => rfl) q h⟩
  | 6, h => exact ⟨iNb_6 q h, iF_at (List.map_inj_left.mp iNc_6 q h), nats iN_6 (fun _ => rfl) q h⟩
  | 7, h => exact ⟨iNb_7 q h, iF_at (List.map_inj_left.mp iNc_7 q h), nats iN_7 (fun _ => rfl) q h⟩
  | 8, h => exact ⟨iNb_8 q h, iF_at (List.map_inj_left.mp iNc_8 q h), nats iN_8 (fun _ => rfl) q h⟩
  | 9, h => exact ⟨iNb_9 q h, iF_at (List.map_inj_left.mp iNc_9 q h), nats iN_9 (fun _ => rfl) q h⟩
  | 10, h => exact ⟨iNb_10 q h, iF_at (List.map_inj_left.mp iNc_10 q h), nats iN_10 (fun _ => rfl) q h⟩
  | 11, h => exact ⟨iNb_11 q h, iF_at (List.map_inj_left.mp iNc_11 q h), nats iN_11 (fun _ => rfl) q h⟩
  | 12, h => exact ⟨iNb_12 q h, iF_at (List.map_inj_left.mp iNc_12 q h), nats iN_12 (fun _ => rfl) q h⟩
  | 13, h => exact ⟨iNb_13 q h, iF_at (List.map_inj_left.mp iNc_13 q h), nats iN_13 (fun _ => rfl) q h⟩
  | 14, h => exact ⟨iNb_14 q h, iF_at (List.map_inj_left.mp iNc_14 q h), nats iN_14 (fun _ => rfl) q h⟩
  | 15, h => exact ⟨iNb_15 q h, iF_at (List.map_inj_left.mp iNc_15 q h), nats iN_15 (fun _ => rfl) q h⟩
  | n + 16, h => exact absurd h (by simp [iNk, iN_t])
set_option maxRecDepth 100000 in
theorem in_0 : Cond.instantiable (cT 0).1 (cT 0).2.2 ∈ gtb ∧ Cond.initialized (cT 0).1 ∈ gtb := ⟨gat (i := 167) rfl rfl, gat (i := 112) rfl rfl⟩
set_option maxRecDepth 100000 in
theorem in_1 : Cond.instantiable (cT 1).1 (cT 1).2.2 ∈ gtb ∧ Cond.initialized (cT 1).1 ∈ gtb := ⟨gat (i := 484) rfl rfl, gat (i := 121) rfl rfl⟩
set_option maxRecDepth 100000 in
theorem in_2 : Cond.instantiable (cT 2).1 (cT 2).2.2 ∈ gtb ∧ Cond.initialized (cT 2).1 ∈ gtb := ⟨gat (i := 446) rfl rfl, gat (i := 119) rfl rfl⟩
set_option maxRecDepth 100000 in
theorem in_3 : Cond.instantiable (cT 3).1 (cT 3).2.2 ∈ gtb ∧ Cond.initialized (cT 3).1 ∈ gtb := ⟨gat (i := 161) rfl rfl, gat (i := 111) rfl rfl⟩
set_option maxRecDepth 100000 in
theorem in_4 : Cond.instantiable (cT 4).1 (cT 4).2.2 ∈ gtb ∧ Cond.initialized (cT 4).1 ∈ gtb := ⟨gat (i := 155) rfl rfl, gat (i := 110) rfl rfl⟩
set_option maxRecDepth 100000 in
theorem in_5 : Cond.instantiable (cT 5).1 (cT 5).2.2 ∈ gtb ∧ Cond.initialized (cT 5).1 ∈ gtb := ⟨gat (i := 466) rfl rfl, gat (i := 120) rfl rfl⟩
set_option maxRecDepth 100000 in
theorem in_6 : Cond.instantiable (cT 6).1 (cT 6).2.2 ∈ gtb ∧ Cond.initialized (cT 6).1 ∈ gtb := ⟨gat (i := 527) rfl rfl, gat (i := 123) rfl rfl⟩
set_option maxRecDepth 100000 in
theorem in_7 : Cond.instantiable (cT 7).1 (cT 7).2.2 ∈ gtb ∧ Cond.initialized (cT 7).1 ∈ gtb := ⟨gat (i := 500) rfl rfl, gat (i := 122) rfl rfl⟩
set_option maxRecDepth 100000 in
theorem in_8 : Cond.instantiable (cT 8).1 (cT 8).2.2 ∈ gtb ∧ Cond.initialized (cT 8).1 ∈ gtb := ⟨gat (i := 419) rfl rfl, gat (i := 118) rfl rfl⟩
set_option maxRecDepth 100000 in
theorem in_9 : Cond.instantiable (cT 9).1 (cT 9).2.2 ∈ gtb ∧ Cond.initialized (cT 9).1 ∈ gtb := ⟨gat (i := 139) rfl rfl, gat (i := 109) rfl rfl⟩
set_option maxRecDepth 100000 in
theorem in_10 : Cond.instantiable (cT 10).1 (cT 10).2.2 ∈ gtb ∧ Cond.initialized (cT 10).1 ∈ gtb := ⟨gat (i := 304) rfl rfl, gat (i := 113) rfl rfl⟩
set_option maxRecDepth 100000 in
theorem in_11 : Cond.instantiable (cT 11).1 (cT 11).2.2 ∈ gtb ∧ Cond.initialized (cT 11).1 ∈ gtb := ⟨gat (i := 131) rfl rfl, gat (i := 108) rfl rfl⟩
set_option maxRecDepth 100000 in
theorem in_12 : Cond.instantiable (cT 12).1 (cT 12).2.2 ∈ gtb ∧ Cond.initialized (cT 12).1 ∈ gtb := ⟨gat (i := 1305) rfl rfl, gat (i := 126) rfl rfl⟩
theorem in_all : ∀ ci, ci < 13 → Cond.instantiable (cT ci).1 (cT ci).2.2 ∈ gtb ∧ Cond.initialized (cT ci).1 ∈ gtb := by
  intro ci h
  match ci, h with
  | 0, _ => exact in_0
  | 1, _ => exact in_1
  | 2, _ => exact in_2
  | 3, _ => exact in_3
  | 4, _ => exact in_4
  | 5, _ => exact in_5
  | 6, _ => exact in_6
  | 7, _ => exact in_7
  | 8, _ => exact in_8
  | 9, _ => exact in_9
  | 10, _ => exact in_10
  | 11, _ => exact in_11
  | 12, _ => exact in_12
  | n + 13, h => exact absurd h (by omega)
set_option maxRecDepth 100000 in
theorem w_obi : Cond.instanceMethod objectInit ∈ gtb := gat (i := 136) rfl rfl
set_option maxRecDepth 100000 in
theorem w_obc : Cond.code objectInit ⟨#[0xb1]⟩ 1 none ∈ gtb := gat (i := 137) rfl rfl
set_option maxRecDepth 100000 in
theorem w_aint : Cond.arrayClass .int ∈ gtb := gat (i := 197) rfl rfl
set_option maxRecDepth 100000 in
theorem w_abyte : Cond.arrayClass .byte ∈ gtb := gat (i := 153) rfl rfl
set_option maxRecDepth 100000 in
theorem w_aboolean : Cond.arrayClass .boolean ∈ gtb := gat (i := 482) rfl rfl
set_option maxRecDepth 100000 in
theorem w_along : Cond.arrayClass .long ∈ gtb := gat (i := 379) rfl rfl
