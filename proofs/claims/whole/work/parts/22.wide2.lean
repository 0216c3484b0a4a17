/-! Wide: subtract, negate, compare, copy, setSmall. -/
def lJ (z : Int) : Int64 := Int64.ofInt z
theorem lN_lJ (n : Nat) : lN n = lJ (n : Int) := Int64.ofInt_eq_ofNat.symm
theorem lJ_add (a b : Int) : lJ a + lJ b = lJ (a + b) := (Int64.ofInt_add a b).symm
theorem lJ_sub (a b : Int) : lJ a - lJ b = lJ (a - b) := (Int64.ofInt_sub a b).symm
theorem lJ_toInt {z : Int} (h1 : -9223372036854775808 ≤ z) (h2 : z < 9223372036854775808) : (lJ z).toInt = z := Int64.toInt_ofInt_of_le h1 h2
theorem lJ_i32 (z : Int) : (lJ z).toInt32 = Int32.ofInt z := by
  unfold lJ
  simp
theorem lJ_shr32 {z : Int} (h1 : -9223372036854775808 ≤ z) (h2 : z < 9223372036854775808) : lJ z >>> ((32 : Int32).toInt64 &&& 63) = lJ (z / 4294967296) := by
  apply Int64.toInt_inj.mp
  rw [lJ_toInt (by omega) (by omega)]
  show ((lJ z).toBitVec.sshiftRight' (BitVec.smod _ 64)).toInt = _
  have e1 : ((32 : Int32).toInt64 &&& 63 : Int64).toBitVec.smod 64 = 32#64 := by decide
  rw [e1]
  show ((lJ z).toBitVec.sshiftRight 32).toInt = _
  rw [BitVec.toInt_sshiftRight]
  have e2 : (lJ z).toBitVec.toInt = z := lJ_toInt h1 h2
  rw [e2, Int.shiftRight_eq_div_pow]
  rfl
theorem i32_nI {z : Int} {n : Nat} (h : (n : Int) = z + 4294967296 ∨ (n : Int) = z) : Int32.ofInt z = nI n := by
  have e : nI n = Int32.ofInt (n : Int) := Int32.ofInt_eq_ofNat.symm
  rcases h with h | h
  · rw [e, h, Int32.ofInt_add, show Int32.ofInt 4294967296 = 0 by decide]
    simp
  · rw [e, h]
def wsb (f g : Nat → Int32) (i j : Nat) : Nat → (Nat → Int32) × Nat
  | 0 => (f, 0)
  | w + 1 => (upd (wsb f g i j w).1 (i + w) (nI (4294967296 + wu (f (i + w)) - wu (g (j + w)) - (wsb f g i j w).2)), if wu (f (i + w)) < wu (g (j + w)) + (wsb f g i j w).2 then 1 else 0)
theorem wsb_b (f g : Nat → Int32) (i j : Nat) : ∀ w, (wsb f g i j w).2 ≤ 1
  | 0 => Nat.zero_le _
  | w + 1 => by
    show (if _ then 1 else 0) ≤ 1
    split <;> omega
theorem wsb_out (f g : Nat → Int32) (i j : Nat) : ∀ w k, (k < i ∨ i + w ≤ k) → (wsb f g i j w).1 k = f k
  | 0, _, _ => rfl
  | w + 1, k, h => by
    show upd (wsb f g i j w).1 (i + w) _ k = f k
    rw [upd_ne _ _ (by omega)]
    exact wsb_out f g i j w k (by omega)
theorem wsb_sum (f g : Nat → Int32) (i j : Nat) : ∀ w, wv (wsb f g i j w).1 i w + wv g j w = wv f i w + (wsb f g i j w).2 * 4294967296 ^ w
  | 0 => rfl
  | w + 1 => by
    have h1 := wsb_sum f g i j w
    have hb := wsb_b f g i j w
    have hx := wu_lt (f (i + w))
    have hy := wu_lt (g (j + w))
    show wv (upd (wsb f g i j w).1 (i + w) _) i w + wu (upd (wsb f g i j w).1 (i + w) _ (i + w)) * 4294967296 ^ w + (wv g j w + wu (g (j + w)) * 4294967296 ^ w) = (wv f i w + wu (f (i + w)) * 4294967296 ^ w) + (if wu (f (i + w)) < wu (g (j + w)) + (wsb f g i j w).2 then 1 else 0) * 4294967296 ^ (w + 1)
    rw [upd_same, wv_upd_above _ _ (Nat.le_refl _), wu_nI, Nat.pow_succ]
    generalize hP : 4294967296 ^ w = P at h1 ⊢
    generalize wu (f (i + w)) = x at hx ⊢
    generalize wu (g (j + w)) = y at hy ⊢
    generalize (wsb f g i j w).2 = bb at hb h1 ⊢
    have key : (4294967296 + x - y - bb) % 4294967296 + y + bb = x + (if x < y + bb then 1 else 0) * 4294967296 := by
      split <;> omega
    have k2 := congrArg (· * P) key
    simp only [Nat.add_mul] at k2
    have k3 : (if x < y + bb then 1 else 0) * 4294967296 * P = (if x < y + bb then 1 else 0) * (P * 4294967296) := by
      rw [Nat.mul_assoc, Nat.mul_comm 4294967296 P]
    omega
theorem m51_loop {h : pb_H} {Q : Option Value → pb_H → Prop} {a b n nb i j W : Nat} {f g : Nat → Int32} (hb : b ≠ a → h.2 b = ci nb g) (hba : b = a → nb = n ∧ g = f ∧ (j + W ≤ i ∨ i + W ≤ j)) (hi : i + W ≤ n) (hj : j + W ≤ nb) (hn : n < 2 ^ 31) (hnb : nb < 2 ^ 31) :
    ∀ k w, w + k = W → (pb_R 51 6 [some (.ref a), some (.int (nI i)), some (.ref b), some (.int (nI j)), some (.int (nI W)), none, none, some (.int (nI w))] [none, none, none, none, none, some (lJ (-((wsb f g i j w).2 : Int))), none, none] [] (pb_set h a (ci n (wsb f g i j w).1)) Q ↔ Q (some (.int (nI (wsb f g i j W).2))) (pb_set h a (ci n (wsb f g i j W).1))) := by
  intro k
  induction k with
  | zero =>
    intro w hw
    obtain rfl : w = W := by omega
    rw [pb_q51_6]
    have hb1 := wsb_b f g i j w
    rcases (show (wsb f g i j w).2 = 0 ∨ (wsb f g i j w).2 = 1 by omega) with e | e
    · have e2 : lg_cmp (lJ (-(((wsb f g i j w).2 : Nat) : Int))) 0 = 0 := by rw [e]; decide
      simp only [pb_e51, if_pos (Int32.le_refl (nI w)), e2]
      rw [e]
      rfl
    · have e2 : lg_cmp (lJ (-(((wsb f g i j w).2 : Nat) : Int))) 0 = -1 := by rw [e]; decide
      simp only [pb_e51, if_pos (Int32.le_refl (nI w)), e2]
      rw [e]
      rfl
  | succ k ih =>
    intro w hw
    have hA : pb_ai ((pb_set h a (ci n (wsb f g i j w).1)).2 a) (nI (i + w)) = some (f (i + w)) := by
      rw [pb_set_get, if_pos rfl, pb_ai_eq (Or.inl rfl) (by omega) hn, wsb_out _ _ _ _ _ _ (by omega)]
    have hB : pb_ai ((pb_set h a (ci n (wsb f g i j w).1)).2 b) (nI (j + w)) = some (g (j + w)) := by
      rw [pb_set_get]
      by_cases e : b = a
      · obtain ⟨e1, e2, e3⟩ := hba e
        subst e1
        rw [if_pos e, pb_ai_eq (Or.inl rfl) (by omega) hn, wsb_out _ _ _ _ _ _ (by omega), e2]
      · rw [if_neg e, hb e, pb_ai_eq (Or.inl rfl) (by omega) hnb]
    have hS : ∀ x, pb_si ((pb_set h a (ci n (wsb f g i j w).1)).2 a) (nI (i + w)) x = some (ci n (upd (wsb f g i j w).1 (i + w) x)) := by
      intro x
      rw [pb_set_get, if_pos rfl, pb_si_eq (by omega) hn]
    have hc := wsb_b f g i j w
    have h2 := wu_lt (f (i + w))
    have h3 := wu_lt (g (j + w))
    have e4 : Int32.ofInt (-((wsb f g i j w).2 : Int) + (((wu (f (i + w)) : Nat) : Int) - ((wu (g (j + w)) : Nat) : Int))) = nI (4294967296 + wu (f (i + w)) - wu (g (j + w)) - (wsb f g i j w).2) := i32_nI (Or.inl (by omega))
    have e5 : (-((wsb f g i j w).2 : Int) + (((wu (f (i + w)) : Nat) : Int) - ((wu (g (j + w)) : Nat) : Int))) / 4294967296 = -((wsb f g i j (w + 1)).2 : Int) := by
      show _ = -(((if wu (f (i + w)) < wu (g (j + w)) + (wsb f g i j w).2 then 1 else 0 : Nat)) : Int)
      split <;> omega
    rw [pb_q51_6]
    simp only [pb_e51, if_neg (nI_ge (a := w) (b := W) (by omega) (by omega)), nI_add, hA, hB, hS, pb_o_some, low_and, lN_lJ, lJ_sub, lJ_add, lJ_i32, e4, lJ_shr32 (z := -((wsb f g i j w).2 : Int) + (((wu (f (i + w)) : Nat) : Int) - ((wu (g (j + w)) : Nat) : Int))) (by omega) (by omega), e5, pb_set_same, nI_1]
    exact ih (w + 1) (by omega)
/-- Wide.subtract -/
theorem m51 {h : pb_H} {Q : Option Value → pb_H → Prop} {a b n nb i j W : Nat} {f g : Nat → Int32} (ha : h.2 a = ci n f) (hb : h.2 b = ci nb g) (hd : b = a → j + W ≤ i ∨ i + W ≤ j) (hi : i + W ≤ n) (hj : j + W ≤ nb) (hn : n < 2 ^ 31) (hnb : nb < 2 ^ 31) :
    pb_call 51 [.ref a, .int (nI i), .ref b, .int (nI j), .int (nI W)] h Q ↔ Q (some (.int (nI (wsb f g i j W).2))) (pb_set h a (ci n (wsb f g i j W).1)) := by
  have h0 := m51_loop (h := h) (Q := Q) (a := a) (b := b) (n := n) (nb := nb) (i := i) (j := j) (W := W) (f := f) (g := g) (fun _ => hb) (fun e => by
    subst e
    rw [ha] at hb
    cases hb
    exact ⟨rfl, rfl, hd rfl⟩) hi hj hn hnb W 0 (by omega)
  rw [pb_c51]
  simp only [pb_e51]
  rw [show pb_set h a (ci n (wsb f g i j 0).1) = h from pb_set_id h ha] at h0
  exact h0
