/-! Divider.takeOff. -/
theorem lN_low {m : Nat} (h : m < 18446744073709551616) : lN m &&& 4294967295 = lN (m % 4294967296) := by
  apply l64_eq
  rw [lN_nat, Int64.toBitVec_and, BitVec.toNat_and, lN_nat, Nat.mod_eq_of_lt h]
  show m &&& (2 ^ 32 - 1) = _
  rw [Nat.and_two_pow_sub_one_eq_mod]
  omega
/-- q times the divisor's word, beyond its width nothing -/
def tkm (dv : Nat → Int32) (q W w : Nat) : Nat := if w < W then q * wu (dv w) else 0
/-- the words, what goes over from the product, what was borrowed -/
def tk (l dv : Nat → Int32) (q pl W : Nat) : Nat → (Nat → Int32) × Nat × Nat
  | 0 => (l, 0, 0)
  | w + 1 => (upd (tk l dv q pl W w).1 (pl + w) (nI (4294967296 + wu (l (pl + w)) - ((tk l dv q pl W w).2.1 + tkm dv q W w) % 4294967296 - (tk l dv q pl W w).2.2)), ((tk l dv q pl W w).2.1 + tkm dv q W w) / 4294967296, if wu (l (pl + w)) < ((tk l dv q pl W w).2.1 + tkm dv q W w) % 4294967296 + (tk l dv q pl W w).2.2 then 1 else 0)
theorem tkm_le (dv : Nat → Int32) {q : Nat} (W w : Nat) (hq : q ≤ 4294967296) : tkm dv q W w ≤ 18446744069414584320 := by
  unfold tkm
  split
  · have h1 := wu_lt (dv w)
    exact Nat.le_trans (Nat.mul_le_mul hq (show wu (dv w) ≤ 4294967295 by omega)) (by decide)
  · omega
theorem tk_p (l dv : Nat → Int32) {q : Nat} (pl W : Nat) (hq : q ≤ 4294967296) : ∀ w, (tk l dv q pl W w).2.1 < 4294967296
  | 0 => by show 0 < _; omega
  | w + 1 => by
    have h1 := tk_p l dv pl W hq w
    have h2 := tkm_le dv W w hq
    show ((tk l dv q pl W w).2.1 + tkm dv q W w) / 4294967296 < 4294967296
    omega
theorem tk_b (l dv : Nat → Int32) (q pl W : Nat) : ∀ w, (tk l dv q pl W w).2.2 ≤ 1
  | 0 => Nat.zero_le _
  | w + 1 => by
    show (if _ then 1 else 0) ≤ 1
    split <;> omega
theorem tk_out (l dv : Nat → Int32) (q pl W : Nat) : ∀ w k, (k < pl ∨ pl + w ≤ k) → (tk l dv q pl W w).1 k = l k
  | 0, _, _ => rfl
  | w + 1, k, h => by
    show upd (tk l dv q pl W w).1 (pl + w) _ k = l k
    rw [upd_ne _ _ (by omega)]
    exact tk_out l dv q pl W w k (by omega)
/-- q times the divisor's lower words -/
def tkv (dv : Nat → Int32) (q W : Nat) : Nat → Nat
  | 0 => 0
  | w + 1 => tkv dv q W w + tkm dv q W w * 4294967296 ^ w
theorem tkv_le (dv : Nat → Int32) (q W : Nat) : ∀ w, w ≤ W → tkv dv q W w = q * wv dv 0 w
  | 0, _ => by show 0 = q * 0; omega
  | w + 1, h => by
    show tkv dv q W w + tkm dv q W w * 4294967296 ^ w = q * (wv dv 0 w + wu (dv (0 + w)) * 4294967296 ^ w)
    rw [tkv_le dv q W w (by omega), Nat.mul_add, Nat.zero_add]
    unfold tkm
    rw [if_pos (by omega), Nat.mul_assoc]
theorem tkv_top (dv : Nat → Int32) (q W : Nat) : tkv dv q W (W + 1) = q * wv dv 0 W := by
  show tkv dv q W W + tkm dv q W W * 4294967296 ^ W = _
  rw [tkv_le dv q W W (Nat.le_refl _)]
  unfold tkm
  rw [if_neg (by omega)]
  omega
theorem tk_val (l dv : Nat → Int32) {q : Nat} (pl W : Nat) (hq : q ≤ 4294967296) : ∀ w, wv (tk l dv q pl W w).1 pl w + tkv dv q W w = wv l pl w + ((tk l dv q pl W w).2.2 + (tk l dv q pl W w).2.1) * 4294967296 ^ w
  | 0 => by show 0 + 0 = 0 + (0 + 0) * 1; rfl
  | w + 1 => by
    have h1 := tk_val l dv pl W hq w
    have hb := tk_b l dv q pl W w
    have hx := wu_lt (l (pl + w))
    show wv (upd (tk l dv q pl W w).1 (pl + w) _) pl w + wu (upd (tk l dv q pl W w).1 (pl + w) _ (pl + w)) * 4294967296 ^ w + (tkv dv q W w + tkm dv q W w * 4294967296 ^ w) = (wv l pl w + wu (l (pl + w)) * 4294967296 ^ w) + ((if wu (l (pl + w)) < ((tk l dv q pl W w).2.1 + tkm dv q W w) % 4294967296 + (tk l dv q pl W w).2.2 then 1 else 0) + ((tk l dv q pl W w).2.1 + tkm dv q W w) / 4294967296) * 4294967296 ^ (w + 1)
    rw [upd_same, wv_upd_above _ _ (Nat.le_refl _), wu_nI, Nat.pow_succ]
    generalize hP : 4294967296 ^ w = P at h1 ⊢
    generalize wu (l (pl + w)) = x at hx ⊢
    generalize (tk l dv q pl W w).2.2 = bb at hb h1 ⊢
    generalize hm : (tk l dv q pl W w).2.1 + tkm dv q W w = m
    have key : (4294967296 + x - m % 4294967296 - bb) % 4294967296 + m % 4294967296 + bb = x + (if x < m % 4294967296 + bb then 1 else 0) * 4294967296 := by
      have := Nat.mod_lt m (show 0 < 4294967296 by omega)
      split <;> omega
    have k2 := congrArg (· * P) key
    simp only [Nat.add_mul] at k2
    have k3 : (if x < m % 4294967296 + bb then 1 else 0) * 4294967296 * P = (if x < m % 4294967296 + bb then 1 else 0) * (P * 4294967296) := by
      rw [Nat.mul_assoc, Nat.mul_comm 4294967296 P]
    have k4 := digit_sum m P
    have k5 : m * P = (tk l dv q pl W w).2.1 * P + tkm dv q W w * P := by rw [← hm, Nat.add_mul]
    rw [Nat.add_mul] at h1 ⊢
    omega
theorem m34_loop {H : pb_H} {Q : Option Value → pb_H → Prop} {d a0 a1 a2 n0 n1 pl W q : Nat} {s0 : Int32} {l dv : Nat → Int32} (hda : d ≠ a1) (h01 : a0 ≠ a1) (hD : H.2 d = cv a0 a1 a2 (nI W) s0) (h0 : H.2 a0 = ci n0 dv) (hq : q ≤ 4294967296) (hW : W ≤ n0) (hpl : pl + W + 1 ≤ n1) (hn0 : n0 < 2 ^ 31) (hn1 : n1 < 2 ^ 31) :
    ∀ k w, w + k = W + 1 → (pb_R 34 9 [some (.ref d), some (.int (nI pl)), none, none, none, none, none, none, some (.int (nI w)), none, none] [none, none, some (lN q), none, some (lN (tk l dv q pl W w).2.1), none, some (lJ (-((tk l dv q pl W w).2.2 : Int))), none, none, none, none] [] (pb_set H a1 (ci n1 (tk l dv q pl W w).1)) Q ↔
      pb_R 34 108 [some (.ref d), some (.int (nI pl)), none, none, none, none, none, none, some (.int (nI (W + 1))), none, none] [none, none, some (lN q), none, some (lN (tk l dv q pl W (W + 1)).2.1), none, some (lJ (-((tk l dv q pl W (W + 1)).2.2 : Int))), none, none, none, none] [] (pb_set H a1 (ci n1 (tk l dv q pl W (W + 1)).1)) Q) := by
  intro k
  induction k with
  | zero =>
    intro w hw
    obtain rfl : w = W + 1 := by omega
    have hF : (pb_set H a1 (ci n1 (tk l dv q pl W (W + 1)).1)).2 d = cv a0 a1 a2 (nI W) s0 := by rw [pb_set_get, if_neg hda, hD]
    rw [pb_q34_9]
    generalize hX : (pb_R 34 108 _ _ _ _ Q) = X
    simp only [pb_e34, hF, pb_g3, pb_o_some, if_pos (nI_lt (a := W) (b := W + 1) (by omega) (by omega))] at hX ⊢
    rw [← hX]
  | succ k ih =>
    intro w hw
    have hF : (pb_set H a1 (ci n1 (tk l dv q pl W w).1)).2 d = cv a0 a1 a2 (nI W) s0 := by rw [pb_set_get, if_neg hda, hD]
    have hA : pb_ai ((pb_set H a1 (ci n1 (tk l dv q pl W w).1)).2 a1) (nI (pl + w)) = some (l (pl + w)) := by
      rw [pb_set_get, if_pos rfl, pb_ai_eq (Or.inl rfl) (by omega) hn1, tk_out _ _ _ _ _ _ _ (by omega)]
    have hS : ∀ x, pb_si ((pb_set H a1 (ci n1 (tk l dv q pl W w).1)).2 a1) (nI (pl + w)) x = some (ci n1 (upd (tk l dv q pl W w).1 (pl + w) x)) := by
      intro x
      rw [pb_set_get, if_pos rfl, pb_si_eq (by omega) hn1]
    have hpp := tk_p l dv pl W hq w
    have hbb := tk_b l dv q pl W w
    have hmm := tkm_le dv W w hq
    have hx := wu_lt (l (pl + w))
    have hm2 := Nat.mod_lt ((tk l dv q pl W w).2.1 + tkm dv q W w) (show 0 < 4294967296 by omega)
    have e4 : Int32.ofInt (-((tk l dv q pl W w).2.2 : Int) + (((wu (l (pl + w)) : Nat) : Int) - ((((tk l dv q pl W w).2.1 + tkm dv q W w) % 4294967296 : Nat) : Int))) = nI (4294967296 + wu (l (pl + w)) - ((tk l dv q pl W w).2.1 + tkm dv q W w) % 4294967296 - (tk l dv q pl W w).2.2) := i32_nI (Or.inl (by omega))
    have e5 : (-((tk l dv q pl W w).2.2 : Int) + (((wu (l (pl + w)) : Nat) : Int) - ((((tk l dv q pl W w).2.1 + tkm dv q W w) % 4294967296 : Nat) : Int))) / 4294967296 = -((tk l dv q pl W (w + 1)).2.2 : Int) := by
      show _ = -(((if wu (l (pl + w)) < ((tk l dv q pl W w).2.1 + tkm dv q W w) % 4294967296 + (tk l dv q pl W w).2.2 then 1 else 0 : Nat)) : Int)
      split <;> omega
    have h9 := ih (w + 1) (by omega)
    have cJ : ∀ (x : Nat), lJ (-((tk l dv q pl W w).2.2 : Int)) + (lN (wu (l (pl + w))) - lN x) = lJ (-((tk l dv q pl W w).2.2 : Int) + (((wu (l (pl + w)) : Nat) : Int) - ((x : Nat) : Int))) := by
      intro x
      rw [lN_lJ, lN_lJ, lJ_sub, lJ_add]
    rw [← h9, pb_q34_9]
    by_cases hwW : w < W
    · have hB : pb_ai ((pb_set H a1 (ci n1 (tk l dv q pl W w).1)).2 a0) (nI w) = some (dv w) := by
        rw [pb_set_get, if_neg h01, h0, pb_ai_eq (Or.inl rfl) (by omega) hn0]
      have em : q * wu (dv w) = tkm dv q W w := by unfold tkm; rw [if_pos hwW]
      simp only [pb_e34, hF, pb_g3, pb_o_some, if_neg (nI_nlt (a := W) (b := w) (by omega) (by omega)), if_neg (nI_ge (a := w) (b := W) hwW (by omega)), hB, low_and, lN_mul, em, lN_add, nI_add, hA, lN_low (m := (tk l dv q pl W w).2.1 + tkm dv q W w) (by omega), cJ, lJ_i32, e4, hS, pb_set_same, lN_ushr32 (n := (tk l dv q pl W w).2.1 + tkm dv q W w) (by omega), lJ_shr32 (z := -((tk l dv q pl W w).2.2 : Int) + (((wu (l (pl + w)) : Nat) : Int) - ((((tk l dv q pl W w).2.1 + tkm dv q W w) % 4294967296 : Nat) : Int))) (by omega) (by omega), e5, nI_1]
      rfl
    · have ew : w = W := by omega
      have em : (0 : Int64) = lN (tkm dv q W w) := by unfold tkm; rw [if_neg hwW]; rfl
      have em2 : lN (tk l dv q pl W w).2.1 + 0 = lN ((tk l dv q pl W w).2.1 + tkm dv q W w) := by rw [em, lN_add]
      simp only [pb_e34, hF, pb_g3, pb_o_some, if_neg (nI_nlt (a := W) (b := w) (by omega) (by omega)), if_pos (nI_le (a := W) (b := w) (by omega) (by omega)), em2, low_and, nI_add, hA, lN_low (m := (tk l dv q pl W w).2.1 + tkm dv q W w) (by omega), cJ, lJ_i32, e4, hS, pb_set_same, lN_ushr32 (n := (tk l dv q pl W w).2.1 + tkm dv q W w) (by omega), lJ_shr32 (z := -((tk l dv q pl W w).2.2 : Int) + (((wu (l (pl + w)) : Nat) : Int) - ((((tk l dv q pl W w).2.1 + tkm dv q W w) % 4294967296 : Nat) : Int))) (by omega) (by omega), e5, nI_1]
      rfl
