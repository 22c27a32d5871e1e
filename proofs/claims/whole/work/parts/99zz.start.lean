/-! ===== how all begins: the constructors ===== -/
def TE : PT := (0, 0, fun _ => (0, 0), fun _ _ => 0)
def jE : IJ := (fun _ _ => 0, fun _ _ => 0)
def rX : Option (PT × IJ) := EVD 12 119 [.ref 0] (p_new TE jE 11 13).1 (p_new TE jE 11 13).2
set_option maxRecDepth 1000000 in
theorem rX_t : rX.isSome = true := by decide +kernel
