/-! ===== every pair of calls but read ===== -/
section RH
variable {P : PP} {I : Nat → Nat → Int32} {J : Nat → Nat → Int64} {d : Nat} {A : AS} {E : ES}
/-- both answer alike, and the relation stays -/
def LK (d c m : Nat) (as : List Value) (P : PP) (I : Nat → Nat → Int32) (J : Nat → Nat → Int64) : Prop := ∃ v I1 I2 A' E', EV d T0 c (.ref 0 :: as) (I, J) = some (some (.int v), (I1, J)) ∧ EV d T0 m (.ref 192 :: as) (I1, J) = some (some (.int v), (I2, J)) ∧ FC I I1 ∧ FM I1 I2 ∧ SC P I2 A' E' ∧ SM P I2 A' E'
theorem LK_of {c m : Nat} {as : List Value} {v : Int32} {A' : AS} {E' : ES} (h' : SM P I A E) (hc : cKK d c (.ref 0 :: as) P I J v A' E') (hm : ∀ I, SM P I A E → mKK d m (.ref 192 :: as) P I J v A' E') : LK d c m as P I J := by
  obtain ⟨I1, t1, t2, t3⟩ := hc
  obtain ⟨I2, u1, u2, u3⟩ := hm I1 (h'.FC t2)
  exact ⟨v, I1, I2, A', E', t1, u1, t2, u2, t3.FM u2, u3⟩
theorem SC.cs {A : AS} {E : ES} (h : SC P I A E) : CS P I A.1.2.1 A.1.2.2.1 := ⟨h.1, h.2.1.1.1, h.2.1.1.2.1⟩
theorem SM.ms {A : AS} {E : ES} (h : SM P I A E) : MS P I A.1.2.1 A.1.2.2.1 := ⟨h.1, h.2.1.1.1, h.2.1.1.2.1⟩
theorem lk_feed (hd : 12 ≤ d) (h : SC P I A E) (h' : SM P I A E) (a b c e f : Int32) : LK d 120 167 [.int a, .int b, .int c, .int e, .int f] P I J := LK_of h' (c_feed (by omega) h a b c e f) (fun _ h9 => m_feed (by omega) h9 a b c e f)
theorem lk_back (hd : 12 ≤ d) (h : SC P I A E) (h' : SM P I A E) (a : Int32) : LK d 121 169 [.int a] P I J := LK_of h' (c_back (by omega) h a) (fun _ h9 => m_back (by omega) h9 a)
theorem lk_place (hd : 12 ≤ d) (h : SC P I A E) (h' : SM P I A E) : LK d 123 185 [] P I J := LK_of h' (c_place (by omega) h) (fun _ h9 => m_place (by omega) h9)
theorem lk_seam (hd : 12 ≤ d) (h : SC P I A E) (h' : SM P I A E) (a w : Int32) : LK d 124 229 [.int a, .int w] P I J := LK_of h' (cKK_of h (c_seam (by omega) h.cs a w)) (fun _ h9 => mKK_of h9 (m_seam (by omega) h9.ms a w))
theorem lk_cart (hd : 12 ≤ d) (h : SC P I A E) (h' : SM P I A E) (a w : Int32) : LK d 125 230 [.int a, .int w] P I J := LK_of h' (c_cart (by omega) h a w) (fun _ h9 => m_cart (by omega) h9 a w)
theorem lk_toll (hd : 12 ≤ d) (h : SC P I A E) (h' : SM P I A E) (a w : Int32) : LK d 126 231 [.int a, .int w] P I J := LK_of h' (cKK_of h (c_toll (by omega) h.cs a w)) (fun _ h9 => mKK_of h9 (m_toll (by omega) h9.ms a w))
theorem lk_sew (hd : 12 ≤ d) (h : SC P I A E) (h' : SM P I A E) (a b : Int32) : LK d 127 233 [.int a, .int b] P I J := LK_of h' (c_sew (by omega) h a b) (fun _ h9 => m_sew (by omega) h9 a b)
theorem lk_cut (hd : 12 ≤ d) (h : SC P I A E) (h' : SM P I A E) (a : Int32) : LK d 128 234 [.int a] P I J := LK_of h' (c_cut (by omega) h a) (fun _ h9 => m_cut (by omega) h9 a)
theorem lk_unpick (hd : 12 ≤ d) (h : SC P I A E) (h' : SM P I A E) (a b : Int32) : LK d 129 235 [.int a, .int b] P I J := LK_of h' (c_unpick (by omega) h a b) (fun _ h9 => m_unpick (by omega) h9 a b)
theorem lk_send (hd : 12 ≤ d) (h : SC P I A E) (h' : SM P I A E) (a : Int32) : LK d 130 236 [.int a] P I J := LK_of h' (c_send (by omega) h a) (fun _ h9 => m_send (by omega) h9 a)
theorem lk_weeks (hd : 12 ≤ d) (h : SC P I A E) (h' : SM P I A E) (a : Int32) : LK d 131 237 [.int a] P I J := LK_of h' (c_weeks (by omega) h a) (fun _ h9 => m_weeks (by omega) h9 a)
theorem lk_undo (hd : 12 ≤ d) (h : SC P I A E) (h' : SM P I A E) : LK d 132 238 [] P I J := LK_of h' (c_undo (by omega) h) (fun _ h9 => m_undo (by omega) h9)
theorem lk_far (hd : 12 ≤ d) (h : SC P I A E) (h' : SM P I A E) (a b : Int32) : LK d 133 239 [.int a, .int b] P I J := LK_of h' (cKK_of h (c_far (by omega) h.cs a b)) (fun _ h9 => mKK_of h9 (m_far (by omega) h9.ms a b))
theorem lk_hops (hd : 12 ≤ d) (h : SC P I A E) (h' : SM P I A E) (a b : Int32) : LK d 134 240 [.int a, .int b] P I J := LK_of h' (cKK_of h (c_hops (by omega) h.cs a b)) (fun _ h9 => mKK_of h9 (m_hops (by omega) h9.ms a b))
theorem lk_joined (hd : 12 ≤ d) (h : SC P I A E) (h' : SM P I A E) (a : Int32) : LK d 135 242 [.int a] P I J := LK_of h' (cKK_of h (c_joined (by omega) h.cs a)) (fun _ h9 => mKK_of h9 (m_joined (by omega) h9.ms a))
theorem lk_hangs (hd : 12 ≤ d) (h : SC P I A E) (h' : SM P I A E) : LK d 136 243 [] P I J := LK_of h' (cKK_of h (c_hangs (by omega) h.cs )) (fun _ h9 => mKK_of h9 (m_hangs (by omega) h9.ms ))
theorem lk_takes (hd : 12 ≤ d) (h : SC P I A E) (h' : SM P I A E) (a b : Int32) : LK d 137 246 [.int a, .int b] P I J := LK_of h' (cKK_of h (c_takes (by omega) h.cs a b)) (fun _ h9 => mKK_of h9 (m_takes (by omega) h9.ms a b))
theorem lk_sewing (hd : 12 ≤ d) (h : SC P I A E) (h' : SM P I A E) (a b c : Int32) : LK d 138 248 [.int a, .int b, .int c] P I J := LK_of h' (cKK_of h (c_sewing (by omega) h.cs a b c)) (fun _ h9 => mKK_of h9 (m_sewing (by omega) h9.ms a b c))
theorem lk_surest (hd : 12 ≤ d) (h : SC P I A E) (h' : SM P I A E) (a b : Int32) : LK d 139 249 [.int a, .int b] P I J := LK_of h' (cKK_of h (c_surest (by omega) h.cs a b)) (fun _ h9 => mKK_of h9 (m_surest (by omega) h9.ms a b))
theorem lk_soon (hd : 12 ≤ d) (h : SC P I A E) (h' : SM P I A E) (a b : Int32) : LK d 140 250 [.int a, .int b] P I J := LK_of h' (cKK_of h (c_soon (by omega) h.cx a b)) (fun _ h9 => mKK_of h9 (m_soon (by omega) h9.nx a b))
theorem lk_holds (hd : 12 ≤ d) (h : SC P I A E) (h' : SM P I A E) (a b : Int32) : LK d 141 252 [.int a, .int b] P I J := LK_of h' (cKK_of h (c_holds (by omega) h.cx a b)) (fun _ h9 => mKK_of h9 (m_holds (by omega) h9.nx a b))
theorem lk_rows (hd : 12 ≤ d) (h : SC P I A E) (h' : SM P I A E) : LK d 142 254 [] P I J := LK_of h' (cKK_of h (c_rows (by omega) h.cs )) (fun _ h9 => mKK_of h9 (m_rows (by omega) h9.ms ))
theorem lk_march (hd : 12 ≤ d) (h : SC P I A E) (h' : SM P I A E) (a : Int32) : LK d 143 256 [.int a] P I J := LK_of h' (cKK_of h (c_march (by omega) h.cs h.2.2.2.2.2.2.2.2 h.2.2.2.2.2.2.2.1 a)) (fun _ h9 => mKK_of h9 (m_march (by omega) h9.ms h9.2.2.2.2.2.2.2.2 h9.2.2.2.2.2.2.2.1 a))
theorem lk_doubles (hd : 12 ≤ d) (h : SC P I A E) (h' : SM P I A E) (a b q : Int32) : LK d 144 257 [.int a, .int b, .int q] P I J := LK_of h' (cKK_of h (c_doubles (by omega) h.cx a b q)) (fun _ h9 => mKK_of h9 (m_doubles (by omega) h9.nx a b q))
theorem lk_then (hd : 12 ≤ d) (h : SC P I A E) (h' : SM P I A E) (a b : Int32) : LK d 145 258 [.int a, .int b] P I J := LK_of h' (cKK_of h (c_then (by omega) h.cx a b)) (fun _ h9 => mKK_of h9 (m_then (by omega) h9.nx a b))
theorem lk_cartIn (hd : 12 ≤ d) (h : SC P I A E) (h' : SM P I A E) (a b w : Int32) : LK d 146 259 [.int a, .int b, .int w] P I J := LK_of h' (cKK_of h (c_cartIn (by omega) h.cx a b w)) (fun _ h9 => mKK_of h9 (m_cartIn (by omega) h9.nx a b w))
theorem lk_year (hd : 12 ≤ d) (h : SC P I A E) (h' : SM P I A E) (a b n s : Int32) : LK d 147 260 [.int a, .int b, .int n, .int s] P I J := LK_of h' (cKK_of h (c_year (by omega) h.cx a b n s)) (fun _ h9 => mKK_of h9 (m_year (by omega) h9.nx a b n s))
theorem lk_tell (hd : 12 ≤ d) (h : SC P I A E) (h' : SM P I A E) (a b w : Int32) : LK d 148 261 [.int a, .int b, .int w] P I J := LK_of h' (c_tell (by omega) h a b w) (fun _ h9 => m_tell (by omega) h9 a b w)
theorem lk_forget (hd : 12 ≤ d) (h : SC P I A E) (h' : SM P I A E) : LK d 149 262 [] P I J := LK_of h' (c_forget (by omega) h) (fun _ h9 => m_forget (by omega) h9)
theorem lk_cuts (hd : 12 ≤ d) (h : SC P I A E) (h' : SM P I A E) (a b : Int32) : LK d 150 267 [.int a, .int b] P I J := LK_of h' (cKK_of h (c_cuts (by omega) h.cx h.2.1.2.2.2.2 a b)) (fun _ h9 => mKK_of h9 (m_cuts (by omega) h9.nx h9.2.1.2.2.2.2 a b))
theorem lk_ask (hd : 12 ≤ d) (h : SC P I A E) (h' : SM P I A E) (a : Int32) : LK d 151 269 [.int a] P I J := LK_of h' (cKK_of h (c_ask (by omega) h.cx h.2.1.2.2.2.2 a)) (fun _ h9 => mKK_of h9 (m_ask (by omega) h9.nx h9.2.1.2.2.2.2 a))
theorem lk_hold (hd : 12 ≤ d) (h : SC P I A E) (h' : SM P I A E) (a : Int32) : LK d 152 270 [.int a] P I J := LK_of h' (c_hold (by omega) h a) (fun _ h9 => m_hold (by omega) h9 a)
theorem lk_restore (hd : 12 ≤ d) (h : SC P I A E) (h' : SM P I A E) (a : Int32) : LK d 153 271 [.int a] P I J := LK_of h' (c_restore (by omega) h a) (fun _ h9 => m_restore (by omega) h9 a)
theorem lk_count (hd : 12 ≤ d) (h : SC P I A E) (h' : SM P I A E) (a : Int32) : LK d 154 272 [.int a] P I J := LK_of h' (c_count (by omega) h a) (fun _ h9 => m_count (by omega) h9 a)
end RH
