/-! Line: its cell; signs as bits. -/
abbrev cl (V : Int32) (w : Nat) (p n wi so ca cf co : Int32) : pb_E := .inr (4, [.int V, .ref w, .int p, .int n, .int wi, .int so, .int ca, .int cf, .int co])
/-- bit v - 1 -/
def bt (x : Int32) (v : Nat) : Bool := x.toBitVec.getLsbD (v - 1)
def bm (v : Nat) : Int32 := 1 <<< ((nI v - 1) &&& 31)
theorem bm_two : ∀ v, v < 17 → 1 ≤ v → (bm v).toBitVec = BitVec.twoPow 32 (v - 1) := by decide
theorem bm_and {x : Int32} {v : Nat} (h1 : 1 ≤ v) (h2 : v ≤ 16) : x &&& bm v = 0 ↔ bt x v = false := by
  rw [← Int32.toBitVec_inj, Int32.toBitVec_and, bm_two v (by omega) h1, BitVec.and_twoPow]
  unfold bt
  by_cases e : x.toBitVec.getLsbD (v - 1) = true
  · rw [if_pos e]
    have hne : BitVec.twoPow 32 (v - 1) ≠ (0 : Int32).toBitVec := by
      have : ∀ v, v < 17 → BitVec.twoPow 32 (v - 1) ≠ (0 : Int32).toBitVec := by decide
      exact this v (by omega)
    simp [e]
    exact hne
  · rw [if_neg e]
    simp at e
    simp [e]
theorem bm_get {v u : Nat} (h1 : 1 ≤ v) (h2 : v ≤ 16) (h3 : 1 ≤ u) (h4 : u ≤ 16) : bt (bm v) u = decide (u = v) := by
  have : ∀ v, v < 17 → ∀ u, u < 17 → 1 ≤ v → 1 ≤ u → bt (bm v) u = decide (u = v) := by decide
  exact this v (by omega) u (by omega) h1 h3
theorem bt_or {x : Int32} {v u : Nat} (h1 : 1 ≤ v) (h2 : v ≤ 16) (h3 : 1 ≤ u) (h4 : u ≤ 16) : bt (x ||| bm v) u = (bt x u || decide (u = v)) := by
  rw [← bm_get h1 h2 h3 h4]
  unfold bt
  rw [Int32.toBitVec_or, BitVec.getLsbD_or]
theorem bt_off {x : Int32} {v u : Nat} (h1 : 1 ≤ v) (h2 : v ≤ 16) (h3 : 1 ≤ u) (h4 : u ≤ 16) : bt (x &&& (bm v ^^^ -1)) u = (bt x u && !decide (u = v)) := by
  rw [← bm_get h1 h2 h3 h4]
  unfold bt
  rw [Int32.toBitVec_and, BitVec.getLsbD_and, Int32.toBitVec_xor, show (-1 : Int32).toBitVec = BitVec.allOnes 32 by decide, BitVec.xor_allOnes, BitVec.getLsbD_not]
  have : u - 1 < 32 := by omega
  simp [this]
theorem bt_or2 (x y : Int32) (u : Nat) : bt (x ||| y) u = (bt x u || bt y u) := by
  unfold bt
  rw [Int32.toBitVec_or, BitVec.getLsbD_or]
theorem bt_and2 (x y : Int32) (u : Nat) : bt (x &&& y) u = (bt x u && bt y u) := by
  unfold bt
  rw [Int32.toBitVec_and, BitVec.getLsbD_and]
/-- 1, -1 or 0 -/
def sgn (p n : Int32) (v : Nat) : Int32 := if bt p v = true then 1 else if bt n v = true then -1 else 0
/-- Line.signOf -/
theorem m60 {h : pb_H} {Q : Option Value → pb_H → Prop} {a w v : Nat} {V p n wi so ca cf co : Int32} (ha : h.2 a = cl V w p n wi so ca cf co) (h1 : 1 ≤ v) (h2 : v ≤ 16) : pb_call 60 [.ref a, .int (nI v)] h Q ↔ Q (some (.int (sgn p n v))) h := by
  have e1 : (p &&& 1 <<< ((nI v - 1) &&& 31) = 0) ↔ bt p v = false := bm_and h1 h2
  have e2 : (n &&& 1 <<< ((nI v - 1) &&& 31) = 0) ↔ bt n v = false := bm_and h1 h2
  rw [pb_c60]
  simp only [pb_e60, ha, pb_g4, pb_o_some, e1, e2]
  unfold sgn
  cases bt p v <;> cases bt n v <;> simp
/-- Line.has -/
theorem m32 {h : pb_H} {Q : Option Value → pb_H → Prop} {a w v : Nat} {V p n wi so ca cf co : Int32} (ha : h.2 a = cl V w p n wi so ca cf co) (h1 : 1 ≤ v) (h2 : v ≤ 16) : pb_call 32 [.ref a, .int (nI v)] h Q ↔ Q (some (.int (if bt p v = true ∨ bt n v = true then 1 else 0))) h := by
  have e1 : ((p ||| n) &&& 1 <<< ((nI v - 1) &&& 31) = 0) ↔ bt (p ||| n) v = false := bm_and h1 h2
  rw [pb_c32]
  simp only [pb_e32, ha, pb_g4, pb_o_some, e1, bt_or2, nb0, nb1, true_and]
  cases bt p v <;> cases bt n v <;> simp
def ssp (p : Int32) (v : Nat) (sg : Int32) : Int32 := if sg ≤ 0 then p &&& (bm v ^^^ -1) else p ||| bm v
def ssn (n : Int32) (v : Nat) (sg : Int32) : Int32 := if 0 ≤ sg then n &&& (bm v ^^^ -1) else n ||| bm v
/-- Line.setSign -/
theorem m54 {h : pb_H} {Q : Option Value → pb_H → Prop} {a w v : Nat} {V p n wi so ca cf co sg : Int32} (ha : h.2 a = cl V w p n wi so ca cf co) : pb_call 54 [.ref a, .int (nI v), .int sg] h Q ↔ Q none (pb_set h a (cl V w (ssp p v sg) (ssn n v sg) wi so ca cf co)) := by
  rw [pb_c54]
  unfold ssp ssn
  by_cases q1 : sg ≤ 0
  · by_cases q2 : 0 ≤ sg
    · simp only [pb_e54, ha, pb_g4, pb_o_some, if_pos q1, if_pos q2, pb_set_get, eq_self, if_true, pb_set_same]
      exact Iff.rfl
    · simp only [pb_e54, ha, pb_g4, pb_o_some, if_pos q1, if_neg q2, pb_set_get, eq_self, if_true, pb_set_same]
      exact Iff.rfl
  · by_cases q2 : 0 ≤ sg
    · simp only [pb_e54, ha, pb_g4, pb_o_some, if_neg q1, if_pos q2, pb_set_get, eq_self, if_true, pb_set_same]
      exact Iff.rfl
    · simp only [pb_e54, ha, pb_g4, pb_o_some, if_neg q1, if_neg q2, pb_set_get, eq_self, if_true, pb_set_same]
      exact Iff.rfl
