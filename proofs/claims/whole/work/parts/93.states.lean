/-! ===== stored states ===== -/
/-- thread, and what goes on -/
abbrev YS : Type := Int32 × XS
/-- a state of the class at cells c, c + 1, c + 2 -/
def stC (P : PP) (I : Nat → Nat → Int32) (c : Nat) (y : YS) : Prop := swR P (I (c + 1)) y.2.1 ∧ I c 0 = y.2.2.1 ∧ ctC P (I (c + 2)) y.2.2.2 ∧ I c 1 = y.1
/-- a row of the reference -/
def stM (P : PP) (g : Nat → Int32) (y : YS) : Prop := swR P g y.2.1 ∧ g 31 = y.2.2.1 ∧ ctM P g y.2.2.2 ∧ g 30 = y.1
def okY (P : PP) (y : YS) : Prop := ctV P y.2.2.2 ∧ ∃ m, m ≤ 9999 ∧ y.1 = nI m
def cpS (I : Nat → Nat → Int32) (a c : Nat) : Nat → Nat → Int32 := p_cp (p_cp (p_wr (p_wr I c 0 (I a 0)) c 1 (I a 1)) (a + 1) (c + 1) 0 0 10) (a + 2) (c + 2) 0 0 20
section QY
variable {P : PP} {I : Nat → Nat → Int32} {J : Nat → Nat → Int64} {d : Nat} {y : YS}
theorem cpT_47 (d : Nat) : EV (d + 1) T0 91 [.ref 47, .ref 39] (I, J) = some (none, (cpS I 39 47, J)) := by rw [e_X8_copyFrom_47_39, runS_M, s_X8_copyFrom_47_39_0]; rfl
theorem cpB_47 (d : Nat) : EV (d + 1) T0 91 [.ref 39, .ref 47] (I, J) = some (none, (cpS I 47 39, J)) := by rw [e_X8_copyFrom_39_47, runS_M, s_X8_copyFrom_39_47_0]; rfl
theorem cpT_50 (d : Nat) : EV (d + 1) T0 91 [.ref 50, .ref 39] (I, J) = some (none, (cpS I 39 50, J)) := by rw [e_X8_copyFrom_50_39, runS_M, s_X8_copyFrom_50_39_0]; rfl
theorem cpB_50 (d : Nat) : EV (d + 1) T0 91 [.ref 39, .ref 50] (I, J) = some (none, (cpS I 50 39, J)) := by rw [e_X8_copyFrom_39_50, runS_M, s_X8_copyFrom_39_50_0]; rfl
theorem cpT_53 (d : Nat) : EV (d + 1) T0 91 [.ref 53, .ref 39] (I, J) = some (none, (cpS I 39 53, J)) := by rw [e_X8_copyFrom_53_39, runS_M, s_X8_copyFrom_53_39_0]; rfl
theorem cpB_53 (d : Nat) : EV (d + 1) T0 91 [.ref 39, .ref 53] (I, J) = some (none, (cpS I 53 39, J)) := by rw [e_X8_copyFrom_39_53, runS_M, s_X8_copyFrom_39_53_0]; rfl
theorem cpT_56 (d : Nat) : EV (d + 1) T0 91 [.ref 56, .ref 39] (I, J) = some (none, (cpS I 39 56, J)) := by rw [e_X8_copyFrom_56_39, runS_M, s_X8_copyFrom_56_39_0]; rfl
theorem cpB_56 (d : Nat) : EV (d + 1) T0 91 [.ref 39, .ref 56] (I, J) = some (none, (cpS I 56 39, J)) := by rw [e_X8_copyFrom_39_56, runS_M, s_X8_copyFrom_39_56_0]; rfl
theorem cpT_59 (d : Nat) : EV (d + 1) T0 91 [.ref 59, .ref 39] (I, J) = some (none, (cpS I 39 59, J)) := by rw [e_X8_copyFrom_59_39, runS_M, s_X8_copyFrom_59_39_0]; rfl
theorem cpB_59 (d : Nat) : EV (d + 1) T0 91 [.ref 39, .ref 59] (I, J) = some (none, (cpS I 59 39, J)) := by rw [e_X8_copyFrom_39_59, runS_M, s_X8_copyFrom_39_59_0]; rfl
theorem cpT_62 (d : Nat) : EV (d + 1) T0 91 [.ref 62, .ref 39] (I, J) = some (none, (cpS I 39 62, J)) := by rw [e_X8_copyFrom_62_39, runS_M, s_X8_copyFrom_62_39_0]; rfl
theorem cpB_62 (d : Nat) : EV (d + 1) T0 91 [.ref 39, .ref 62] (I, J) = some (none, (cpS I 62 39, J)) := by rw [e_X8_copyFrom_39_62, runS_M, s_X8_copyFrom_39_62_0]; rfl
theorem cpT_65 (d : Nat) : EV (d + 1) T0 91 [.ref 65, .ref 39] (I, J) = some (none, (cpS I 39 65, J)) := by rw [e_X8_copyFrom_65_39, runS_M, s_X8_copyFrom_65_39_0]; rfl
theorem cpB_65 (d : Nat) : EV (d + 1) T0 91 [.ref 39, .ref 65] (I, J) = some (none, (cpS I 65 39, J)) := by rw [e_X8_copyFrom_39_65, runS_M, s_X8_copyFrom_39_65_0]; rfl
theorem cpT_68 (d : Nat) : EV (d + 1) T0 91 [.ref 68, .ref 39] (I, J) = some (none, (cpS I 39 68, J)) := by rw [e_X8_copyFrom_68_39, runS_M, s_X8_copyFrom_68_39_0]; rfl
theorem cpB_68 (d : Nat) : EV (d + 1) T0 91 [.ref 39, .ref 68] (I, J) = some (none, (cpS I 68 39, J)) := by rw [e_X8_copyFrom_39_68, runS_M, s_X8_copyFrom_39_68_0]; rfl
theorem cpT_71 (d : Nat) : EV (d + 1) T0 91 [.ref 71, .ref 39] (I, J) = some (none, (cpS I 39 71, J)) := by rw [e_X8_copyFrom_71_39, runS_M, s_X8_copyFrom_71_39_0]; rfl
theorem cpB_71 (d : Nat) : EV (d + 1) T0 91 [.ref 39, .ref 71] (I, J) = some (none, (cpS I 71 39, J)) := by rw [e_X8_copyFrom_39_71, runS_M, s_X8_copyFrom_39_71_0]; rfl
theorem cpT_74 (d : Nat) : EV (d + 1) T0 91 [.ref 74, .ref 39] (I, J) = some (none, (cpS I 39 74, J)) := by rw [e_X8_copyFrom_74_39, runS_M, s_X8_copyFrom_74_39_0]; rfl
theorem cpB_74 (d : Nat) : EV (d + 1) T0 91 [.ref 39, .ref 74] (I, J) = some (none, (cpS I 74 39, J)) := by rw [e_X8_copyFrom_39_74, runS_M, s_X8_copyFrom_39_74_0]; rfl
theorem cpT_77 (d : Nat) : EV (d + 1) T0 91 [.ref 77, .ref 39] (I, J) = some (none, (cpS I 39 77, J)) := by rw [e_X8_copyFrom_77_39, runS_M, s_X8_copyFrom_77_39_0]; rfl
theorem cpB_77 (d : Nat) : EV (d + 1) T0 91 [.ref 39, .ref 77] (I, J) = some (none, (cpS I 77 39, J)) := by rw [e_X8_copyFrom_39_77, runS_M, s_X8_copyFrom_39_77_0]; rfl
theorem cpT_80 (d : Nat) : EV (d + 1) T0 91 [.ref 80, .ref 39] (I, J) = some (none, (cpS I 39 80, J)) := by rw [e_X8_copyFrom_80_39, runS_M, s_X8_copyFrom_80_39_0]; rfl
theorem cpB_80 (d : Nat) : EV (d + 1) T0 91 [.ref 39, .ref 80] (I, J) = some (none, (cpS I 80 39, J)) := by rw [e_X8_copyFrom_39_80, runS_M, s_X8_copyFrom_39_80_0]; rfl
theorem cpT_83 (d : Nat) : EV (d + 1) T0 91 [.ref 83, .ref 39] (I, J) = some (none, (cpS I 39 83, J)) := by rw [e_X8_copyFrom_83_39, runS_M, s_X8_copyFrom_83_39_0]; rfl
theorem cpB_83 (d : Nat) : EV (d + 1) T0 91 [.ref 39, .ref 83] (I, J) = some (none, (cpS I 83 39, J)) := by rw [e_X8_copyFrom_39_83, runS_M, s_X8_copyFrom_39_83_0]; rfl
theorem cpT_86 (d : Nat) : EV (d + 1) T0 91 [.ref 86, .ref 39] (I, J) = some (none, (cpS I 39 86, J)) := by rw [e_X8_copyFrom_86_39, runS_M, s_X8_copyFrom_86_39_0]; rfl
theorem cpB_86 (d : Nat) : EV (d + 1) T0 91 [.ref 39, .ref 86] (I, J) = some (none, (cpS I 86 39, J)) := by rw [e_X8_copyFrom_39_86, runS_M, s_X8_copyFrom_39_86_0]; rfl
theorem cpT_89 (d : Nat) : EV (d + 1) T0 91 [.ref 89, .ref 39] (I, J) = some (none, (cpS I 39 89, J)) := by rw [e_X8_copyFrom_89_39, runS_M, s_X8_copyFrom_89_39_0]; rfl
theorem cpB_89 (d : Nat) : EV (d + 1) T0 91 [.ref 39, .ref 89] (I, J) = some (none, (cpS I 89 39, J)) := by rw [e_X8_copyFrom_39_89, runS_M, s_X8_copyFrom_39_89_0]; rfl
theorem cpT_92 (d : Nat) : EV (d + 1) T0 91 [.ref 92, .ref 39] (I, J) = some (none, (cpS I 39 92, J)) := by rw [e_X8_copyFrom_92_39, runS_M, s_X8_copyFrom_92_39_0]; rfl
theorem cpB_92 (d : Nat) : EV (d + 1) T0 91 [.ref 39, .ref 92] (I, J) = some (none, (cpS I 92 39, J)) := by rw [e_X8_copyFrom_39_92, runS_M, s_X8_copyFrom_39_92_0]; rfl
theorem cpT_95 (d : Nat) : EV (d + 1) T0 91 [.ref 95, .ref 39] (I, J) = some (none, (cpS I 39 95, J)) := by rw [e_X8_copyFrom_95_39, runS_M, s_X8_copyFrom_95_39_0]; rfl
theorem cpB_95 (d : Nat) : EV (d + 1) T0 91 [.ref 39, .ref 95] (I, J) = some (none, (cpS I 95 39, J)) := by rw [e_X8_copyFrom_39_95, runS_M, s_X8_copyFrom_39_95_0]; rfl
theorem cpT_98 (d : Nat) : EV (d + 1) T0 91 [.ref 98, .ref 39] (I, J) = some (none, (cpS I 39 98, J)) := by rw [e_X8_copyFrom_98_39, runS_M, s_X8_copyFrom_98_39_0]; rfl
theorem cpB_98 (d : Nat) : EV (d + 1) T0 91 [.ref 39, .ref 98] (I, J) = some (none, (cpS I 98 39, J)) := by rw [e_X8_copyFrom_39_98, runS_M, s_X8_copyFrom_39_98_0]; rfl
theorem cpT_101 (d : Nat) : EV (d + 1) T0 91 [.ref 101, .ref 39] (I, J) = some (none, (cpS I 39 101, J)) := by rw [e_X8_copyFrom_101_39, runS_M, s_X8_copyFrom_101_39_0]; rfl
theorem cpB_101 (d : Nat) : EV (d + 1) T0 91 [.ref 39, .ref 101] (I, J) = some (none, (cpS I 101 39, J)) := by rw [e_X8_copyFrom_39_101, runS_M, s_X8_copyFrom_39_101_0]; rfl
theorem cpT_104 (d : Nat) : EV (d + 1) T0 91 [.ref 104, .ref 39] (I, J) = some (none, (cpS I 39 104, J)) := by rw [e_X8_copyFrom_104_39, runS_M, s_X8_copyFrom_104_39_0]; rfl
theorem cpB_104 (d : Nat) : EV (d + 1) T0 91 [.ref 39, .ref 104] (I, J) = some (none, (cpS I 104 39, J)) := by rw [e_X8_copyFrom_39_104, runS_M, s_X8_copyFrom_39_104_0]; rfl
theorem cpT_107 (d : Nat) : EV (d + 1) T0 91 [.ref 107, .ref 39] (I, J) = some (none, (cpS I 39 107, J)) := by rw [e_X8_copyFrom_107_39, runS_M, s_X8_copyFrom_107_39_0]; rfl
theorem cpB_107 (d : Nat) : EV (d + 1) T0 91 [.ref 39, .ref 107] (I, J) = some (none, (cpS I 107 39, J)) := by rw [e_X8_copyFrom_39_107, runS_M, s_X8_copyFrom_39_107_0]; rfl
theorem cpT_110 (d : Nat) : EV (d + 1) T0 91 [.ref 110, .ref 39] (I, J) = some (none, (cpS I 39 110, J)) := by rw [e_X8_copyFrom_110_39, runS_M, s_X8_copyFrom_110_39_0]; rfl
theorem cpB_110 (d : Nat) : EV (d + 1) T0 91 [.ref 39, .ref 110] (I, J) = some (none, (cpS I 110 39, J)) := by rw [e_X8_copyFrom_39_110, runS_M, s_X8_copyFrom_39_110_0]; rfl
theorem cpT_113 (d : Nat) : EV (d + 1) T0 91 [.ref 113, .ref 39] (I, J) = some (none, (cpS I 39 113, J)) := by rw [e_X8_copyFrom_113_39, runS_M, s_X8_copyFrom_113_39_0]; rfl
theorem cpB_113 (d : Nat) : EV (d + 1) T0 91 [.ref 39, .ref 113] (I, J) = some (none, (cpS I 113 39, J)) := by rw [e_X8_copyFrom_39_113, runS_M, s_X8_copyFrom_39_113_0]; rfl
theorem cpT_116 (d : Nat) : EV (d + 1) T0 91 [.ref 116, .ref 39] (I, J) = some (none, (cpS I 39 116, J)) := by rw [e_X8_copyFrom_116_39, runS_M, s_X8_copyFrom_116_39_0]; rfl
theorem cpB_116 (d : Nat) : EV (d + 1) T0 91 [.ref 39, .ref 116] (I, J) = some (none, (cpS I 116 39, J)) := by rw [e_X8_copyFrom_39_116, runS_M, s_X8_copyFrom_39_116_0]; rfl
theorem cpT_119 (d : Nat) : EV (d + 1) T0 91 [.ref 119, .ref 39] (I, J) = some (none, (cpS I 39 119, J)) := by rw [e_X8_copyFrom_119_39, runS_M, s_X8_copyFrom_119_39_0]; rfl
theorem cpB_119 (d : Nat) : EV (d + 1) T0 91 [.ref 39, .ref 119] (I, J) = some (none, (cpS I 119 39, J)) := by rw [e_X8_copyFrom_39_119, runS_M, s_X8_copyFrom_39_119_0]; rfl
theorem cpT_122 (d : Nat) : EV (d + 1) T0 91 [.ref 122, .ref 39] (I, J) = some (none, (cpS I 39 122, J)) := by rw [e_X8_copyFrom_122_39, runS_M, s_X8_copyFrom_122_39_0]; rfl
theorem cpB_122 (d : Nat) : EV (d + 1) T0 91 [.ref 39, .ref 122] (I, J) = some (none, (cpS I 122 39, J)) := by rw [e_X8_copyFrom_39_122, runS_M, s_X8_copyFrom_39_122_0]; rfl
theorem cpT_125 (d : Nat) : EV (d + 1) T0 91 [.ref 125, .ref 39] (I, J) = some (none, (cpS I 39 125, J)) := by rw [e_X8_copyFrom_125_39, runS_M, s_X8_copyFrom_125_39_0]; rfl
theorem cpB_125 (d : Nat) : EV (d + 1) T0 91 [.ref 39, .ref 125] (I, J) = some (none, (cpS I 125 39, J)) := by rw [e_X8_copyFrom_39_125, runS_M, s_X8_copyFrom_39_125_0]; rfl
theorem cpT_128 (d : Nat) : EV (d + 1) T0 91 [.ref 128, .ref 39] (I, J) = some (none, (cpS I 39 128, J)) := by rw [e_X8_copyFrom_128_39, runS_M, s_X8_copyFrom_128_39_0]; rfl
theorem cpB_128 (d : Nat) : EV (d + 1) T0 91 [.ref 39, .ref 128] (I, J) = some (none, (cpS I 128 39, J)) := by rw [e_X8_copyFrom_39_128, runS_M, s_X8_copyFrom_39_128_0]; rfl
theorem cpT_131 (d : Nat) : EV (d + 1) T0 91 [.ref 131, .ref 39] (I, J) = some (none, (cpS I 39 131, J)) := by rw [e_X8_copyFrom_131_39, runS_M, s_X8_copyFrom_131_39_0]; rfl
theorem cpB_131 (d : Nat) : EV (d + 1) T0 91 [.ref 39, .ref 131] (I, J) = some (none, (cpS I 131 39, J)) := by rw [e_X8_copyFrom_39_131, runS_M, s_X8_copyFrom_39_131_0]; rfl
theorem cpT_134 (d : Nat) : EV (d + 1) T0 91 [.ref 134, .ref 39] (I, J) = some (none, (cpS I 39 134, J)) := by rw [e_X8_copyFrom_134_39, runS_M, s_X8_copyFrom_134_39_0]; rfl
theorem cpB_134 (d : Nat) : EV (d + 1) T0 91 [.ref 39, .ref 134] (I, J) = some (none, (cpS I 134 39, J)) := by rw [e_X8_copyFrom_39_134, runS_M, s_X8_copyFrom_39_134_0]; rfl
theorem cpT_137 (d : Nat) : EV (d + 1) T0 91 [.ref 137, .ref 39] (I, J) = some (none, (cpS I 39 137, J)) := by rw [e_X8_copyFrom_137_39, runS_M, s_X8_copyFrom_137_39_0]; rfl
theorem cpB_137 (d : Nat) : EV (d + 1) T0 91 [.ref 39, .ref 137] (I, J) = some (none, (cpS I 137 39, J)) := by rw [e_X8_copyFrom_39_137, runS_M, s_X8_copyFrom_39_137_0]; rfl
theorem cpT_140 (d : Nat) : EV (d + 1) T0 91 [.ref 140, .ref 39] (I, J) = some (none, (cpS I 39 140, J)) := by rw [e_X8_copyFrom_140_39, runS_M, s_X8_copyFrom_140_39_0]; rfl
theorem cpB_140 (d : Nat) : EV (d + 1) T0 91 [.ref 39, .ref 140] (I, J) = some (none, (cpS I 140 39, J)) := by rw [e_X8_copyFrom_39_140, runS_M, s_X8_copyFrom_39_140_0]; rfl
theorem cpT_143 (d : Nat) : EV (d + 1) T0 91 [.ref 143, .ref 39] (I, J) = some (none, (cpS I 39 143, J)) := by rw [e_X8_copyFrom_143_39, runS_M, s_X8_copyFrom_143_39_0]; rfl
theorem cpB_143 (d : Nat) : EV (d + 1) T0 91 [.ref 39, .ref 143] (I, J) = some (none, (cpS I 143 39, J)) := by rw [e_X8_copyFrom_39_143, runS_M, s_X8_copyFrom_39_143_0]; rfl
theorem cpT_146 (d : Nat) : EV (d + 1) T0 91 [.ref 146, .ref 39] (I, J) = some (none, (cpS I 39 146, J)) := by rw [e_X8_copyFrom_146_39, runS_M, s_X8_copyFrom_146_39_0]; rfl
theorem cpB_146 (d : Nat) : EV (d + 1) T0 91 [.ref 39, .ref 146] (I, J) = some (none, (cpS I 146 39, J)) := by rw [e_X8_copyFrom_39_146, runS_M, s_X8_copyFrom_39_146_0]; rfl
theorem cpT_149 (d : Nat) : EV (d + 1) T0 91 [.ref 149, .ref 39] (I, J) = some (none, (cpS I 39 149, J)) := by rw [e_X8_copyFrom_149_39, runS_M, s_X8_copyFrom_149_39_0]; rfl
theorem cpB_149 (d : Nat) : EV (d + 1) T0 91 [.ref 39, .ref 149] (I, J) = some (none, (cpS I 149 39, J)) := by rw [e_X8_copyFrom_39_149, runS_M, s_X8_copyFrom_39_149_0]; rfl
theorem cpT_152 (d : Nat) : EV (d + 1) T0 91 [.ref 152, .ref 39] (I, J) = some (none, (cpS I 39 152, J)) := by rw [e_X8_copyFrom_152_39, runS_M, s_X8_copyFrom_152_39_0]; rfl
theorem cpB_152 (d : Nat) : EV (d + 1) T0 91 [.ref 39, .ref 152] (I, J) = some (none, (cpS I 152 39, J)) := by rw [e_X8_copyFrom_39_152, runS_M, s_X8_copyFrom_39_152_0]; rfl
theorem cpT_155 (d : Nat) : EV (d + 1) T0 91 [.ref 155, .ref 39] (I, J) = some (none, (cpS I 39 155, J)) := by rw [e_X8_copyFrom_155_39, runS_M, s_X8_copyFrom_155_39_0]; rfl
theorem cpB_155 (d : Nat) : EV (d + 1) T0 91 [.ref 39, .ref 155] (I, J) = some (none, (cpS I 155 39, J)) := by rw [e_X8_copyFrom_39_155, runS_M, s_X8_copyFrom_39_155_0]; rfl
theorem cpT_158 (d : Nat) : EV (d + 1) T0 91 [.ref 158, .ref 39] (I, J) = some (none, (cpS I 39 158, J)) := by rw [e_X8_copyFrom_158_39, runS_M, s_X8_copyFrom_158_39_0]; rfl
theorem cpB_158 (d : Nat) : EV (d + 1) T0 91 [.ref 39, .ref 158] (I, J) = some (none, (cpS I 158 39, J)) := by rw [e_X8_copyFrom_39_158, runS_M, s_X8_copyFrom_39_158_0]; rfl
theorem cpT_161 (d : Nat) : EV (d + 1) T0 91 [.ref 161, .ref 39] (I, J) = some (none, (cpS I 39 161, J)) := by rw [e_X8_copyFrom_161_39, runS_M, s_X8_copyFrom_161_39_0]; rfl
theorem cpB_161 (d : Nat) : EV (d + 1) T0 91 [.ref 39, .ref 161] (I, J) = some (none, (cpS I 161 39, J)) := by rw [e_X8_copyFrom_39_161, runS_M, s_X8_copyFrom_39_161_0]; rfl
theorem cpT_164 (d : Nat) : EV (d + 1) T0 91 [.ref 164, .ref 39] (I, J) = some (none, (cpS I 39 164, J)) := by rw [e_X8_copyFrom_164_39, runS_M, s_X8_copyFrom_164_39_0]; rfl
theorem cpB_164 (d : Nat) : EV (d + 1) T0 91 [.ref 39, .ref 164] (I, J) = some (none, (cpS I 164 39, J)) := by rw [e_X8_copyFrom_39_164, runS_M, s_X8_copyFrom_39_164_0]; rfl
theorem cpT_183 (d : Nat) : EV (d + 1) T0 91 [.ref 183, .ref 39] (I, J) = some (none, (cpS I 39 183, J)) := by rw [e_X8_copyFrom_183_39, runS_M, s_X8_copyFrom_183_39_0]; rfl
theorem cpB_183 (d : Nat) : EV (d + 1) T0 91 [.ref 39, .ref 183] (I, J) = some (none, (cpS I 183 39, J)) := by rw [e_X8_copyFrom_39_183, runS_M, s_X8_copyFrom_39_183_0]; rfl
theorem cpT_186 (d : Nat) : EV (d + 1) T0 91 [.ref 186, .ref 39] (I, J) = some (none, (cpS I 39 186, J)) := by rw [e_X8_copyFrom_186_39, runS_M, s_X8_copyFrom_186_39_0]; rfl
theorem cpB_186 (d : Nat) : EV (d + 1) T0 91 [.ref 39, .ref 186] (I, J) = some (none, (cpS I 186 39, J)) := by rw [e_X8_copyFrom_39_186, runS_M, s_X8_copyFrom_39_186_0]; rfl
theorem cpT_189 (d : Nat) : EV (d + 1) T0 91 [.ref 189, .ref 39] (I, J) = some (none, (cpS I 39 189, J)) := by rw [e_X8_copyFrom_189_39, runS_M, s_X8_copyFrom_189_39_0]; rfl
theorem cpB_189 (d : Nat) : EV (d + 1) T0 91 [.ref 39, .ref 189] (I, J) = some (none, (cpS I 189 39, J)) := by rw [e_X8_copyFrom_39_189, runS_M, s_X8_copyFrom_39_189_0]; rfl
theorem cpTo (d : Nat) : ∀ j, j < 40 → EV (d + 1) T0 91 [.ref (47 + 3 * j), .ref 39] (I, J) = some (none, (cpS I 39 (47 + 3 * j), J))
  | 0, _ => cpT_47 d
  | 1, _ => cpT_50 d
  | 2, _ => cpT_53 d
  | 3, _ => cpT_56 d
  | 4, _ => cpT_59 d
  | 5, _ => cpT_62 d
  | 6, _ => cpT_65 d
  | 7, _ => cpT_68 d
  | 8, _ => cpT_71 d
  | 9, _ => cpT_74 d
  | 10, _ => cpT_77 d
  | 11, _ => cpT_80 d
  | 12, _ => cpT_83 d
  | 13, _ => cpT_86 d
  | 14, _ => cpT_89 d
  | 15, _ => cpT_92 d
  | 16, _ => cpT_95 d
  | 17, _ => cpT_98 d
  | 18, _ => cpT_101 d
  | 19, _ => cpT_104 d
  | 20, _ => cpT_107 d
  | 21, _ => cpT_110 d
  | 22, _ => cpT_113 d
  | 23, _ => cpT_116 d
  | 24, _ => cpT_119 d
  | 25, _ => cpT_122 d
  | 26, _ => cpT_125 d
  | 27, _ => cpT_128 d
  | 28, _ => cpT_131 d
  | 29, _ => cpT_134 d
  | 30, _ => cpT_137 d
  | 31, _ => cpT_140 d
  | 32, _ => cpT_143 d
  | 33, _ => cpT_146 d
  | 34, _ => cpT_149 d
  | 35, _ => cpT_152 d
  | 36, _ => cpT_155 d
  | 37, _ => cpT_158 d
  | 38, _ => cpT_161 d
  | 39, _ => cpT_164 d
  | j + 40, h => absurd h (Nat.not_lt.mpr (Nat.le_add_left _ _))
theorem cpFrom (d : Nat) : ∀ j, j < 40 → EV (d + 1) T0 91 [.ref 39, .ref (47 + 3 * j)] (I, J) = some (none, (cpS I (47 + 3 * j) 39, J))
  | 0, _ => cpB_47 d
  | 1, _ => cpB_50 d
  | 2, _ => cpB_53 d
  | 3, _ => cpB_56 d
  | 4, _ => cpB_59 d
  | 5, _ => cpB_62 d
  | 6, _ => cpB_65 d
  | 7, _ => cpB_68 d
  | 8, _ => cpB_71 d
  | 9, _ => cpB_74 d
  | 10, _ => cpB_77 d
  | 11, _ => cpB_80 d
  | 12, _ => cpB_83 d
  | 13, _ => cpB_86 d
  | 14, _ => cpB_89 d
  | 15, _ => cpB_92 d
  | 16, _ => cpB_95 d
  | 17, _ => cpB_98 d
  | 18, _ => cpB_101 d
  | 19, _ => cpB_104 d
  | 20, _ => cpB_107 d
  | 21, _ => cpB_110 d
  | 22, _ => cpB_113 d
  | 23, _ => cpB_116 d
  | 24, _ => cpB_119 d
  | 25, _ => cpB_122 d
  | 26, _ => cpB_125 d
  | 27, _ => cpB_128 d
  | 28, _ => cpB_131 d
  | 29, _ => cpB_134 d
  | 30, _ => cpB_137 d
  | 31, _ => cpB_140 d
  | 32, _ => cpB_143 d
  | 33, _ => cpB_146 d
  | 34, _ => cpB_149 d
  | 35, _ => cpB_152 d
  | 36, _ => cpB_155 d
  | 37, _ => cpB_158 d
  | 38, _ => cpB_161 d
  | 39, _ => cpB_164 d
  | j + 40, h => absurd h (Nat.not_lt.mpr (Nat.le_add_left _ _))
theorem cpToS (d : Nat) : ∀ j, j < 3 → EV (d + 1) T0 91 [.ref (183 + 3 * j), .ref 39] (I, J) = some (none, (cpS I 39 (183 + 3 * j), J))
  | 0, _ => cpT_183 d
  | 1, _ => cpT_186 d
  | 2, _ => cpT_189 d
  | j + 3, h => absurd h (Nat.not_lt.mpr (Nat.le_add_left _ _))
theorem cpFromS (d : Nat) : ∀ j, j < 3 → EV (d + 1) T0 91 [.ref 39, .ref (183 + 3 * j)] (I, J) = some (none, (cpS I (183 + 3 * j) 39, J))
  | 0, _ => cpB_183 d
  | 1, _ => cpB_186 d
  | 2, _ => cpB_189 d
  | j + 3, h => absurd h (Nat.not_lt.mpr (Nat.le_add_left _ _))
theorem rf46 : ∀ j, j < 40 → T0.2.2.2 46 j = 47 + 3 * j + 1 := by decide +kernel
theorem rf167 : ∀ j, j < 3 → T0.2.2.2 167 j = 183 + 3 * j + 1 := by decide +kernel
theorem kd46 : ∀ j, j < 40 → decide ((p_kd T0 (47 + 3 * j)).1 = 8) = true := by decide +kernel
theorem kd167 : ∀ j, j < 3 → decide ((p_kd T0 (183 + 3 * j)).1 = 8) = true := by decide +kernel
theorem rf_s {α : Type} {t : Nat} {k : Nat → Option α} : p_rf (t + 1) k = k t := rfl
theorem md40 : ∀ a, a < 100 → nI a - nI a / 40 * 40 = nI (a % 40) := by decide +kernel
theorem cpS_ne {a c k : Nat} (h : k ≠ c ∧ k ≠ c + 1 ∧ k ≠ c + 2) : cpS I a c k = I k := by
  unfold cpS
  rw [cp_ne h.2.2, cp_ne h.2.1, wr_ne h.1, wr_ne h.1]
theorem cpS_st (h : PlR P I) {a c : Nat} (hac : a + 2 < c ∨ c + 2 < a) (hy : stC P I a y) : stC P (cpS I a c) c y := by
  have h10 := h.S10
  have hC := h.C4
  obtain ⟨h1, h2, h3, h4⟩ := hy
  refine ⟨h1.cg (fun i hi => ?_), ?_, fun q hq f hf => ?_, ?_⟩
  · unfold cpS; rw [cp_ne (by omega), cp_eq, cpy_at (by omega), wr_ne (by omega), wr_ne (by omega)]
  · unfold cpS; rw [cp_ne (by omega), cp_ne (by omega), wr_eq, pk_un (by decide), wr_eq, pk_us]; exact h2
  · unfold cpS; rw [cp_eq, cpy_at (by omega), cp_ne (by omega), wr_ne (by omega), wr_ne (by omega)]; exact h3 q hq f hf
  · unfold cpS; rw [cp_ne (by omega), cp_ne (by omega), wr_eq, pk_us]; exact h4
theorem stC.cg {I' : Nat → Nat → Int32} {c : Nat} (h : stC P I c y) (h0 : I' c = I c) (h1 : I' (c + 1) = I (c + 1)) (h2 : I' (c + 2) = I (c + 2)) : stC P I' c y := by
  unfold stC; rw [h0, h1, h2]; exact h
theorem stM.cg {g g' : Nat → Int32} (hp : PlR P I) (h : stM P g y) (hg : ∀ j, j < 32 → g' j = g j) : stM P g' y := by
  have h10 := hp.S10
  have hC := hp.C4
  exact ⟨h.1.cg (fun i hi => hg i (by omega)), (hg 31 (by decide)).trans h.2.1, fun c hc f hf => (hg _ (by omega)).trans (h.2.2.1 c hc f hf), (hg 30 (by decide)).trans h.2.2.2⟩
/-! the past -/
def pshU (U : Nat) : Nat := if U = 40 then 40 else U + 1
def pshH (U : Nat) (h : Nat → YS) (y : YS) (k : Nat) : YS := if U = 40 then (if k = 39 then y else h (k + 1)) else (if k = U then y else h k)
def hiC (P : PP) (I : Nat → Nat → Int32) (U : Nat) (h : Nat → YS) : Prop := ∃ o, o < 40 ∧ I 45 1 = nI o ∧ I 45 2 = nI U ∧ U ≤ 40 ∧ ∀ k, k < U → okY P (h k) ∧ stC P I (47 + 3 * ((o + k) % 40)) (h k)
def hiM (P : PP) (I : Nat → Nat → Int32) (U : Nat) (h : Nat → YS) : Prop := I 192 62 = nI U ∧ U ≤ 40 ∧ ∀ k, k < U → okY P (h k) ∧ stM P (fun j => I 235 (32 * k + j)) (h k)
def pastL : List Nat := 45 :: List.range' 47 120
theorem pastL_in {k : Nat} (h : 47 ≤ k) (h2 : k < 167) : k ∈ pastL := List.mem_cons_of_mem _ (List.mem_range'_1.mpr ⟨h, by omega⟩)
theorem pastL_p : ∀ k ∈ pastL, k ∉ plC := by decide +kernel
theorem kp_cpS {a j : Nat} (hj : j < 40) : kp pastL I (cpS I a (47 + 3 * j)) := fun k hk => cpS_ne ⟨fun e => hk (by rw [e]; exact pastL_in (by omega) (by omega)), fun e => hk (by rw [e]; exact pastL_in (by omega) (by omega)), fun e => hk (by rw [e]; exact pastL_in (by omega) (by omega))⟩
theorem ev_keep (hd : 2 ≤ d) (hp : PlR P I) (hy : stC P I 39 y) (ho : okY P y) {U : Nat} {h : Nat → YS} (hh : hiC P I U h) : ∃ I', EV d T0 25 [.ref 45, .ref 39] (I, J) = some (none, (I', J)) ∧ kp pastL I I' ∧ hiC P I' (pshU U) (pshH U h y) := by
  obtain ⟨d, rfl⟩ : ∃ z, d = z + 2 := ⟨d - 2, by omega⟩
  obtain ⟨o, o1, o2, o3, o4, o5⟩ := hh
  by_cases hU : U = 40
  · subst hU
    have e1 : (I 45 1 + 1) - (I 45 1 + 1) / 40 * 40 = nI ((o + 1) % 40) := by rw [o2, nI_1]; exact md40 (o + 1) (by omega)
    have e2 : I 45 2 - 1 = nI 39 := by rw [o3]; rfl
    have e3 : (nI ((o + 1) % 40) + nI 39) - (nI ((o + 1) % 40) + nI 39) / 40 * 40 = nI o := by rw [nI_add, md40 _ (by omega)]; congr 1; omega
    let I0 := p_wr (p_wr I 45 1 (nI ((o + 1) % 40))) 45 2 (nI 39)
    have k0 : kp pastL I I0 := (kp.rf.wr (by decide)).wr (by decide)
    have p0 : PlR P I0 := plr_kx hp k0 pastL_p (by rw [k0 192 (by decide)])
    have y0 : stC P I0 39 y := hy.cg (k0 39 (by decide)) (k0 40 (by decide)) (k0 41 (by decide))
    have k1 : kp pastL I (p_wr (cpS I0 39 (47 + 3 * o)) 45 2 (cpS I0 39 (47 + 3 * o) 45 2 + 1)) := (k0.tr (kp_cpS o1)).wr (by decide)
    have s1 := cpS_st p0 (c := 47 + 3 * o) (Or.inl (by omega)) y0
    have a1 : ∀ k, k ≠ 45 → p_wr (cpS I0 39 (47 + 3 * o)) 45 2 (cpS I0 39 (47 + 3 * o) 45 2 + 1) k = cpS I0 39 (47 + 3 * o) k := fun k hk => wr_ne hk
    have a2 : ∀ k, k ≠ 45 → I0 k = I k := fun k hk => by show p_wr (p_wr I 45 1 _) 45 2 _ k = I k; rw [wr_ne hk, wr_ne hk]
    refine ⟨p_wr (cpS I0 39 (47 + 3 * o)) 45 2 (cpS I0 39 (47 + 3 * o) 45 2 + 1), ?_, k1, ⟨(o + 1) % 40, by omega, ?_, ?_, ?_, fun k hk => ?_⟩⟩
    · rw [e_X2_keep, runS_M, s_X2_keep_0, if_pos (show I 45 2 = 40 by rw [o3]; rfl)]
      simp only [e1, e2, e3]
      rw [chk_in o1 (by decide), nI_clamp (by omega), rf46 o o1, rf_s, kd46 o o1]
      show p_cv (EV (d + 1) T0 91 [.ref (47 + 3 * o), .ref 39] (I0, J)) _ = _
      rw [cpTo d o o1, p_cv_s]
      rfl
    · rw [wr_eq, pk_un (by decide), cpS_ne ⟨by omega, by omega, by omega⟩]
      show p_wr (p_wr I 45 1 _) 45 2 _ 45 1 = _
      rw [wr_eq, pk_un (by decide), wr_eq, pk_us]
    · rw [wr_eq, pk_us, cpS_ne ⟨by omega, by omega, by omega⟩]
      show p_wr (p_wr I 45 1 _) 45 2 _ 45 2 + 1 = _
      rw [wr_eq, pk_us]; rfl
    · unfold pshU; rw [if_pos rfl]; exact Nat.le_refl _
    · unfold pshU at hk; rw [if_pos rfl] at hk
      unfold pshH; rw [if_pos rfl]
      by_cases c : k = 39
      · subst c
        rw [if_pos rfl, show ((o + 1) % 40 + 39) % 40 = o by omega]
        exact ⟨ho, s1.cg (a1 _ (by omega)) (a1 _ (by omega)) (a1 _ (by omega))⟩
      · rw [if_neg c]
        obtain ⟨q1, q2⟩ := o5 (k + 1) (by omega)
        rw [show (o + (k + 1)) % 40 = ((o + 1) % 40 + k) % 40 by omega] at q2
        have hne : ((o + 1) % 40 + k) % 40 ≠ o := by omega
        refine ⟨q1, q2.cg ?_ ?_ ?_⟩
        · rw [a1 _ (by omega), cpS_ne ⟨by omega, by omega, by omega⟩, a2 _ (by omega)]
        · rw [a1 _ (by omega), cpS_ne ⟨by omega, by omega, by omega⟩, a2 _ (by omega)]
        · rw [a1 _ (by omega), cpS_ne ⟨by omega, by omega, by omega⟩, a2 _ (by omega)]
  · have e3 : (I 45 1 + I 45 2) - (I 45 1 + I 45 2) / 40 * 40 = nI ((o + U) % 40) := by rw [o2, o3, nI_add]; exact md40 _ (by omega)
    have hq : (o + U) % 40 < 40 := by omega
    have k1 : kp pastL I (p_wr (cpS I 39 (47 + 3 * ((o + U) % 40))) 45 2 (cpS I 39 (47 + 3 * ((o + U) % 40)) 45 2 + 1)) := (kp_cpS hq).wr (by decide)
    have s1 := cpS_st hp (c := 47 + 3 * ((o + U) % 40)) (Or.inl (by omega)) hy
    have a1 : ∀ k, k ≠ 45 → p_wr (cpS I 39 (47 + 3 * ((o + U) % 40))) 45 2 (cpS I 39 (47 + 3 * ((o + U) % 40)) 45 2 + 1) k = cpS I 39 (47 + 3 * ((o + U) % 40)) k := fun k hk => wr_ne hk
    refine ⟨_, ?_, k1, ⟨o, o1, ?_, ?_, ?_, fun k hk => ?_⟩⟩
    · rw [e_X2_keep, runS_M, s_X2_keep_0, if_neg (show ¬ I 45 2 = 40 by rw [o3, show (nI U = (40 : Int32)) = (U = 40) from eq_nI (b := 40) (by omega) (by omega)]; exact hU)]
      simp only [e3]
      rw [chk_in hq (by decide), nI_clamp (by omega), rf46 _ hq, rf_s, kd46 _ hq]
      show p_cv (EV (d + 1) T0 91 [.ref (47 + 3 * ((o + U) % 40)), .ref 39] (I, J)) _ = _
      rw [cpTo d _ hq, p_cv_s]
      rfl
    · rw [wr_eq, pk_un (by decide), cpS_ne ⟨by omega, by omega, by omega⟩]; exact o2
    · unfold pshU; rw [wr_eq, pk_us, cpS_ne ⟨by omega, by omega, by omega⟩, o3, nI_1, if_neg hU]
    · unfold pshU; rw [if_neg hU]; omega
    · unfold pshU at hk; rw [if_neg hU] at hk
      unfold pshH; rw [if_neg hU]
      by_cases c : k = U
      · subst c
        rw [if_pos rfl]
        exact ⟨ho, s1.cg (a1 _ (by omega)) (a1 _ (by omega)) (a1 _ (by omega))⟩
      · rw [if_neg c]
        obtain ⟨q1, q2⟩ := o5 k (by omega)
        have hne : (o + k) % 40 ≠ (o + U) % 40 := by omega
        refine ⟨q1, q2.cg ?_ ?_ ?_⟩
        · rw [a1 _ (by omega), cpS_ne ⟨by omega, by omega, by omega⟩]
        · rw [a1 _ (by omega), cpS_ne ⟨by omega, by omega, by omega⟩]
        · rw [a1 _ (by omega), cpS_ne ⟨by omega, by omega, by omega⟩]
theorem ev_takeBack (hd : 2 ≤ d) (hp : PlR P I) {U : Nat} {h : Nat → YS} (hh : hiC P I U h) (hU : U ≠ 0) : ∃ I', EV d T0 26 [.ref 45, .ref 39] (I, J) = some (some (.int 1), (I', J)) ∧ kp [45, 39, 40, 41] I I' ∧ hiC P I' (U - 1) h ∧ stC P I' 39 (h (U - 1)) := by
  obtain ⟨d, rfl⟩ : ∃ z, d = z + 2 := ⟨d - 2, by omega⟩
  obtain ⟨o, o1, o2, o3, o4, o5⟩ := hh
  have e2 : I 45 2 - 1 = nI (U - 1) := by rw [o3]; exact pk_sub (b := 1) (by omega)
  have e3 : (I 45 1 + nI (U - 1)) - (I 45 1 + nI (U - 1)) / 40 * 40 = nI ((o + (U - 1)) % 40) := by rw [o2, nI_add]; exact md40 _ (by omega)
  have hq : (o + (U - 1)) % 40 < 40 := by omega
  let I0 := p_wr I 45 2 (nI (U - 1))
  have k0 : kp [45, 39, 40, 41] I I0 := kp.rf.wr (by decide)
  have p0 : PlR P I0 := plr_kx hp k0 (by decide) (by rw [k0 192 (by decide)])
  obtain ⟨q1, q2⟩ := o5 (U - 1) (by omega)
  have a2 : ∀ k, k ≠ 45 → I0 k = I k := fun k hk => wr_ne hk
  have y0 : stC P I0 (47 + 3 * ((o + (U - 1)) % 40)) (h (U - 1)) := q2.cg (a2 _ (by omega)) (a2 _ (by omega)) (a2 _ (by omega))
  have k1 : kp [45, 39, 40, 41] I0 (cpS I0 (47 + 3 * ((o + (U - 1)) % 40)) 39) := fun k hk => by
    simp only [List.mem_cons, List.not_mem_nil, or_false, not_or] at hk
    exact cpS_ne ⟨hk.2.1, hk.2.2.1, hk.2.2.2⟩
  refine ⟨cpS I0 (47 + 3 * ((o + (U - 1)) % 40)) 39, ?_, k0.tr k1, ⟨o, o1, ?_, ?_, by omega, fun k hk => ?_⟩, cpS_st p0 (Or.inr (by omega)) y0⟩
  · rw [e_X2_takeBack, runS_M, s_X2_takeBack_0, if_neg (show ¬ I 45 2 = 0 by rw [o3, eq0_nI (by omega)]; exact hU)]
    simp only [e2, e3]
    rw [chk_in hq (by decide), nI_clamp (by omega), rf46 _ hq, rf_s]
    show p_cv (EV (d + 1) T0 91 [.ref 39, .ref (47 + 3 * ((o + (U - 1)) % 40))] (I0, J)) _ = _
    rw [cpFrom d _ hq, p_cv_s]
    rfl
  · rw [cpS_ne ⟨by decide, by decide, by decide⟩]; show p_wr I 45 2 _ 45 1 = _; rw [wr_eq, pk_un (by decide)]; exact o2
  · rw [cpS_ne ⟨by decide, by decide, by decide⟩]; show p_wr I 45 2 _ 45 2 = _; rw [wr_eq, pk_us]
  · obtain ⟨r1, r2⟩ := o5 k (by omega)
    refine ⟨r1, r2.cg ?_ ?_ ?_⟩
    · rw [cpS_ne ⟨by omega, by omega, by omega⟩, a2 _ (by omega)]
    · rw [cpS_ne ⟨by omega, by omega, by omega⟩, a2 _ (by omega)]
    · rw [cpS_ne ⟨by omega, by omega, by omega⟩, a2 _ (by omega)]
theorem ev_takeBack0 (hd : 1 ≤ d) {h : Nat → YS} (hh : hiC P I 0 h) : EV d T0 26 [.ref 45, .ref 39] (I, J) = some (some (.int 0), (I, J)) := by
  obtain ⟨d, rfl⟩ : ∃ z, d = z + 1 := ⟨d - 1, by omega⟩
  obtain ⟨o, o1, o2, o3, o4, o5⟩ := hh
  rw [e_X2_takeBack, runS_M, s_X2_takeBack_0, if_pos (show I 45 2 = 0 by rw [o3]; rfl)]
  rfl
end QY
