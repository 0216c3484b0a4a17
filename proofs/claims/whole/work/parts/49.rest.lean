/-! Line.findRest, findAbove -/
/-- one column: the words at w of the numbers whose bits stand -/
def rcl (f : Nat → Int32) (b : Int32) (w : Nat) : Nat → Nat := sm (fun n => if bt b n = true then wu (f (n * 8 + w)) else 0)
theorem rcl_le (f : Nat → Int32) (b : Int32) (w : Nat) : ∀ m, rcl f b w m ≤ m * 4294967295
  | 0 => by rw [Nat.zero_mul]; exact Nat.le_refl _
  | m + 1 => by
    have h1 := rcl_le f b w m
    have h2 := wu_lt (f ((m + 1) * 8 + w))
    have e : rcl f b w (m + 1) = rcl f b w m + (if bt b (m + 1) = true then wu (f ((m + 1) * 8 + w)) else 0) := rfl
    have e2 : (if bt b (m + 1) = true then wu (f ((m + 1) * 8 + w)) else 0) ≤ 4294967295 := by
      split
      · exact Nat.le_of_lt_succ h2
      · exact Nat.zero_le _
    rw [e, Nat.add_mul m 1 4294967295, Nat.one_mul]
    exact Nat.add_le_add h1 e2
def rst (f : Nat → Int32) (b : Int32) (V : Nat) (r : Nat → Int32) : Nat → (Nat → Int32) × Int
  | 0 => (r, 0)
  | w + 1 => (upd (rst f b V r w).1 w (Int32.ofInt ((rst f b V r w).2 - wu (f w) + rcl f b w V)), ((rst f b V r w).2 - wu (f w) + rcl f b w V) / 4294967296)
theorem rst_b (f : Nat → Int32) (b : Int32) {V : Nat} (hV : V ≤ 16) (r : Nat → Int32) : ∀ w, -1 ≤ (rst f b V r w).2 ∧ (rst f b V r w).2 ≤ 16
  | 0 => ⟨by show (-1 : Int) ≤ 0; omega, by show (0 : Int) ≤ 16; omega⟩
  | w + 1 => by
    obtain ⟨h1, h2⟩ := rst_b f b hV r w
    have h3 := wu_lt (f w)
    have h4 := rcl_le f b w V
    have h5 : V * 4294967295 ≤ 16 * 4294967295 := Nat.mul_le_mul_right _ hV
    show -1 ≤ ((rst f b V r w).2 - wu (f w) + rcl f b w V) / 4294967296 ∧ ((rst f b V r w).2 - wu (f w) + rcl f b w V) / 4294967296 ≤ 16
    omega
theorem rst_out (f : Nat → Int32) (b : Int32) (V : Nat) (r : Nat → Int32) : ∀ w k, w ≤ k → (rst f b V r w).1 k = r k
  | 0, _, _ => rfl
  | w + 1, k, h => by
    show upd (rst f b V r w).1 w _ k = _
    rw [upd_ne _ _ (by omega)]
    exact rst_out f b V r w k (by omega)
theorem sm_col (f : Nat → Int32) (b : Int32) (w : Nat) : ∀ V, sm (fun n => if bt b n = true then wv f (n * 8) (w + 1) else 0) V = sm (fun n => if bt b n = true then wv f (n * 8) w else 0) V + rcl f b w V * 4294967296 ^ w
  | 0 => by show 0 = 0 + 0 * _; rw [Nat.zero_mul]
  | V + 1 => by
    have ih := sm_col f b w V
    have e1 : ∀ k, sm (fun n => if bt b n = true then wv f (n * 8) k else 0) (V + 1) = sm (fun n => if bt b n = true then wv f (n * 8) k else 0) V + (if bt b (V + 1) = true then wv f ((V + 1) * 8) k else 0) := fun _ => rfl
    have e2 : rcl f b w (V + 1) = rcl f b w V + (if bt b (V + 1) = true then wu (f ((V + 1) * 8 + w)) else 0) := rfl
    have e3 : wv f ((V + 1) * 8) (w + 1) = wv f ((V + 1) * 8) w + wu (f ((V + 1) * 8 + w)) * 4294967296 ^ w := rfl
    rw [e1, e1, e2, ih, e3, Nat.add_mul (rcl f b w V)]
    by_cases c : bt b (V + 1) = true
    · rw [if_pos c, if_pos c, if_pos c]
      omega
    · rw [if_neg c, if_neg c, if_neg c, Nat.zero_mul]
      omega
theorem rst_alg {X c u d wf rc P B S F : Int} (h : u + B * d = c - wf + rc) (ih : X + c * P = S - F) : X + u * P + d * (P * B) = S + rc * P - (F + wf * P) := by
  have e : c = u + B * d + wf - rc := by omega
  rw [e, Int.sub_mul, Int.add_mul, Int.add_mul] at ih
  have e6 : d * (P * B) = B * d * P := by rw [Int.mul_comm P, ← Int.mul_assoc, Int.mul_comm d]
  rw [e6]
  omega
theorem wu_ofInt (z : Int) : (wu (Int32.ofInt z) : Int) = z % 4294967296 := by
  unfold wu
  show ((BitVec.ofInt 32 z).toNat : Int) = _
  rw [BitVec.toNat_ofInt]
  have : 0 ≤ z % 4294967296 := Int.emod_nonneg _ (by omega)
  omega
theorem rst_val (f : Nat → Int32) (b : Int32) (V : Nat) (r : Nat → Int32) : ∀ w, (wv (rst f b V r w).1 0 w : Int) + (rst f b V r w).2 * (4294967296 ^ w : Nat) = (sm (fun n => if bt b n = true then wv f (n * 8) w else 0) V : Nat) - (wv f 0 w : Nat)
  | 0 => by
    have : ∀ V, sm (fun n => if bt b n = true then wv f (n * 8) 0 else 0) V = 0 := by
      intro V
      induction V with
      | zero => rfl
      | succ V ih => show sm _ V + (if bt b (V + 1) = true then 0 else 0) = 0; rw [ih]; split <;> rfl
    rw [this]
    rfl
  | w + 1 => by
    have ih := rst_val f b V r w
    rw [sm_col]
    have e1 : wv f 0 (w + 1) = wv f 0 w + wu (f w) * 4294967296 ^ w := by
      show wv f 0 w + wu (f (0 + w)) * 4294967296 ^ w = _
      rw [Nat.zero_add]
    rw [e1]
    have e2 : wv (rst f b V r (w + 1)).1 0 (w + 1) = wv (rst f b V r w).1 0 w + wu (Int32.ofInt ((rst f b V r w).2 - wu (f w) + rcl f b w V)) * 4294967296 ^ w := by
      show wv (upd (rst f b V r w).1 w _) 0 w + wu (upd (rst f b V r w).1 w _ (0 + w)) * 4294967296 ^ w = _
      rw [Nat.zero_add, upd_same, wv_upd_above _ _ (by omega)]
    rw [e2]
    show _ + ((rst f b V r w).2 - wu (f w) + rcl f b w V) / 4294967296 * _ = _
    have e3 := wu_ofInt ((rst f b V r w).2 - wu (f w) + rcl f b w V)
    generalize wu (Int32.ofInt ((rst f b V r w).2 - wu (f w) + rcl f b w V)) = u at e3 ⊢
    have e4 := Int.emod_add_mul_ediv ((rst f b V r w).2 - wu (f w) + rcl f b w V) 4294967296
    rw [← e3] at e4
    generalize ((rst f b V r w).2 - wu (f w) + rcl f b w V) / 4294967296 = d at e4 ⊢
    rw [Nat.pow_succ]
    generalize 4294967296 ^ w = P at ih ⊢
    rw [Int.natCast_add, Int.natCast_mul, Int.natCast_add, Int.natCast_mul, Int.natCast_add, Int.natCast_mul, Int.natCast_mul]
    exact rst_alg e4 ih
