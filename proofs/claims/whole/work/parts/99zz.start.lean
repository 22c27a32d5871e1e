/-! ===== how all begins: the constructors ===== -/
def TE : PT := (0, 0, fun _ => (0, 0), fun _ _ => 0)
def jE : IJ := (fun _ _ => 0, fun _ _ => 0)
/-- the values behind the constructors that matter -/
def vS : List (Nat × Nat × Int32) := [(192, 18, 0), (25, 0, 0), (202, 0, 0), (25, 1, 0), (203, 0, 0), (25, 3, 0), (210, 0, 0), (25, 6, 0), (215, 0, 0), (25, 7, 0), (216, 0, 0), (39, 0, 0), (229, 31, 0), (45, 1, 0), (45, 2, 0), (192, 62, 0), (178, 6, 0), (192, 65, 0), (1, 1, 0), (25, 2, 0), (25, 4, 0), (192, 2, 0), (208, 0, 0), (209, 0, 0), (36, 0, 65), (36, 1, 4), (36, 2, 65), (36, 3, 4), (36, 4, 1), (36, 5, 4), (36, 6, 2), (36, 7, 4), (38, 0, 0), (217, 0, 0), (218, 0, 0), (38, 1, 2), (217, 1, 0), (218, 1, 0), (38, 2, 4), (217, 2, 0), (218, 2, 0), (38, 3, 6), (217, 3, 0), (218, 3, 0), (168, 0, 0), (241, 0, 0), (168, 1, 0), (241, 1, 0), (168, 2, 0), (241, 2, 0), (35, 3, 8), (39, 1, 100), (229, 30, 100), (0, 12, (-1)), (192, 17, (-1))]
def ckV (ij : IJ) : Bool := vS.all (fun q => decide (ij.1 q.1 q.2.1 = q.2.2)) && (List.range 23).all (fun i => decide (ij.2 22 i = kyW i) && decide (ij.2 199 i = kyW i))
def ckK (T : PT) (k : Nat) : Bool := decide (T.2.2.1 k = t_sh k) && (List.range (t_sh k).2).all (fun j => p_bif (Nat.blt (t_sh k).1 100) (p_bif (Nat.beq (p_fk (t_sh k).1 j) 2) (Nat.beq (T.2.2.2 k j) (t_rf k j)) true) (p_bif (Nat.beq (t_sh k).1 104) (Nat.beq (T.2.2.2 k j) (t_rf k j)) true))
def ckW (T : PT) : Bool := Nat.beq T.1 243 && (Nat.beq T.2.1 18462 && (List.range 243).all (ckK T))
/-- the law's beginning: two objects -/
def law0 {α : Type} (k : PT → IJ → Option α) : Option α :=
  p_mk (600000, 7302250) TE jE 11 13 [.ref 100000, un, un, un] [] (fun T ij => p_spc (EVD 12) (600000, 7302250) T ij 119 1 [.ref 100000, un, un, un] [.ref 0, .ref 0] (fun st T ij =>
  p_mk (600000, 7302250) T ij 12 72 [.ref 100000, .ref 0, un, un] [] (fun T2 ij => p_spc (EVD 12) (600000, 7302250) T2 ij 166 1 [.ref 100000, .ref 0, un, un] [.ref T.1, .ref T.1] (fun _ T ij => k T ij))))
set_option maxRecDepth 1000000 in
theorem law0_t : law0 (fun T ij => p_bif (ckW T && ckV ij) (some ()) none) = some () := by decide +kernel
