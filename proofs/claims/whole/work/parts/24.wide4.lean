/-! Wide: tenth, appendDigit, multiply. -/
theorem lN_shl32 (n : Nat) : lN n <<< ((32 : Int32).toInt64 &&& 63) = lN (n * 4294967296) := by
  apply l64_eq
  rw [lN_nat]
  show ((lN n).toBitVec <<< (BitVec.smod ((32 : Int32).toInt64 &&& 63 : Int64).toBitVec 64)).toNat = _
  have e1 : ((32 : Int32).toInt64 &&& 63 : Int64).toBitVec.smod 64 = 32#64 := by decide
  rw [e1]
  show ((lN n).toBitVec <<< 32).toNat = _
  rw [BitVec.toNat_shiftLeft, lN_nat, Nat.shiftLeft_eq]
  omega
/-- dividing w words by ten, from the highest on, with r over -/
def wt (f : Nat → Int32) (r : Nat) : Nat → (Nat → Int32) × Nat
  | 0 => (f, r)
  | w + 1 => wt (upd f w (nI ((r * 4294967296 + wu (f w)) / 10))) ((r * 4294967296 + wu (f w)) % 10) w
theorem wt_out : ∀ (w : Nat) (f : Nat → Int32) (r k : Nat), w ≤ k → (wt f r w).1 k = f k
  | 0, _, _, _, _ => rfl
  | w + 1, f, r, k, h => by
    show (wt (upd f w _) _ w).1 k = f k
    rw [wt_out w _ _ k (by omega), upd_ne _ _ (by omega)]
theorem wt_r : ∀ (w : Nat) (f : Nat → Int32) (r : Nat), r < 10 → (wt f r w).2 < 10
  | 0, _, _, h => h
  | w + 1, f, r, _ => by
    show (wt (upd f w _) ((r * 4294967296 + wu (f w)) % 10) w).2 < 10
    exact wt_r w _ _ (by omega)
theorem wt_val : ∀ (w : Nat) (f : Nat → Int32) (r : Nat), r < 10 → wv (wt f r w).1 0 w * 10 + (wt f r w).2 = r * 4294967296 ^ w + wv f 0 w
  | 0, f, r, _ => by show 0 * 10 + r = r * 1 + 0; omega
  | w + 1, f, r, hr => by
    have hx := wu_lt (f w)
    have h1 := wt_val w (upd f w (nI ((r * 4294967296 + wu (f w)) / 10))) ((r * 4294967296 + wu (f w)) % 10) (by omega)
    show (wv (wt (upd f w _) _ w).1 0 w + wu ((wt (upd f w _) _ w).1 (0 + w)) * 4294967296 ^ w) * 10 + (wt (upd f w _) _ w).2 = r * 4294967296 ^ (w + 1) + (wv f 0 w + wu (f (0 + w)) * 4294967296 ^ w)
    rw [Nat.zero_add, wt_out w _ _ w (Nat.le_refl _), upd_same, wu_nI, Nat.mod_eq_of_lt (a := (r * 4294967296 + wu (f w)) / 10) (b := 4294967296) (by omega), Nat.pow_succ]
    rw [wv_upd_above f _ (by omega)] at h1
    generalize (wt (upd f w (nI ((r * 4294967296 + wu (f w)) / 10))) ((r * 4294967296 + wu (f w)) % 10) w) = p at h1 ⊢
    generalize hP : 4294967296 ^ w = P at h1 ⊢
    generalize wu (f w) = x at h1 hx ⊢
    have h2 : (r * 4294967296 + x) / 10 * 10 * P + (r * 4294967296 + x) % 10 * P = (r * 4294967296 + x) * P := by
      rw [← Nat.add_mul]
      congr 1
      omega
    have h3 : (r * 4294967296 + x) * P = r * (P * 4294967296) + x * P := by
      rw [Nat.add_mul, Nat.mul_assoc, Nat.mul_comm 4294967296 P]
    have h4 : (wv p.1 0 w + (r * 4294967296 + x) / 10 * P) * 10 = wv p.1 0 w * 10 + (r * 4294967296 + x) / 10 * 10 * P := by
      rw [Nat.add_mul, Nat.mul_assoc, Nat.mul_comm P 10, ← Nat.mul_assoc]
    omega
theorem m5_loop {h : pb_H} {Q : Option Value → pb_H → Prop} {a n : Nat} (hn : n < 2 ^ 31) {l1 : Option Value} :
    ∀ (w : Nat) (f : Nat → Int32) (r : Nat), w ≤ n → r < 10 → (pb_R 5 7 [some (.ref a), l1, none, none, some (.int (nI w - 1))] [none, none, some (lN r), none, none] [] (pb_set h a (ci n f)) Q ↔ Q (some (.int (nI (wt f r w).2))) (pb_set h a (ci n (wt f r w).1))) := by
  intro w
  induction w with
  | zero =>
    intro f r _ _
    rw [pb_q5_7]
    simp only [pb_e5, if_pos (show nI 0 - 1 < 0 by decide), lN_i32]
    rfl
  | succ w ih =>
    intro f r hw hr
    have hx := wu_lt (f w)
    have hA : pb_ai ((pb_set h a (ci n f)).2 a) (nI w) = some (f w) := by
      rw [pb_set_get, if_pos rfl, pb_ai_eq (Or.inl rfl) (by omega) hn]
    have hS : ∀ x, pb_si ((pb_set h a (ci n f)).2 a) (nI w) x = some (ci n (upd f w x)) := by
      intro x
      rw [pb_set_get, if_pos rfl, pb_si_eq (by omega) hn]
    have h10 : ¬ (10 : Int64) = 0 := by decide
    have hdv : lN (r * 4294967296 + wu (f w)) / 10 = lN ((r * 4294967296 + wu (f w)) / 10) := pk_lDiv (b := 10) (by omega) (by omega) (by omega)
    have hrm : lN (r * 4294967296 + wu (f w)) - lN ((r * 4294967296 + wu (f w)) / 10) * 10 = lN ((r * 4294967296 + wu (f w)) % 10) := by
      have := pk_lRem (a := r * 4294967296 + wu (f w)) (b := 10) (by omega) (by omega) (by omega)
      rw [← this, ← hdv]
      rfl
    rw [pb_q5_7, nI_pred]
    simp only [pb_e5, if_neg (nI_pos (n := w) (by omega)), lN_shl32, hA, pb_o_some, low_and, lN_add, h10, not_false_eq_true, true_and, hdv, hrm, lN_i32, hS, pb_set_same, sub1]
    exact ih _ _ (by omega) (by omega)
/-- Wide.tenth -/
theorem m5 {h : pb_H} {Q : Option Value → pb_H → Prop} {a n w : Nat} {f : Nat → Int32} (ha : h.2 a = ci n f) (hw : w ≤ n) (hn : n < 2 ^ 31) : pb_call 5 [.ref a, .int (nI w)] h Q ↔ Q (some (.int (nI (wt f 0 w).2))) (pb_set h a (ci n (wt f 0 w).1)) := by
  have h0 := m5_loop (h := h) (Q := Q) (a := a) (n := n) hn (l1 := some (.int (nI w))) w f 0 hw (by omega)
  rw [pb_c5]
  simp only [pb_e5]
  rw [pb_set_id h ha] at h0
  exact h0
/-- a digit more behind w words -/
def wg (f : Nat → Int32) (d : Nat) : Nat → (Nat → Int32) × Nat
  | 0 => (f, d)
  | w + 1 => (upd (wg f d w).1 w (nI ((wg f d w).2 + wu (f w) * 10)), ((wg f d w).2 + wu (f w) * 10) / 4294967296)
theorem wg_carry (f : Nat → Int32) {d : Nat} (hd : d < 10) : ∀ w, (wg f d w).2 < 10
  | 0 => hd
  | w + 1 => by
    have h1 := wg_carry f hd w
    have h2 := wu_lt (f w)
    show ((wg f d w).2 + wu (f w) * 10) / 4294967296 < 10
    omega
theorem wg_out (f : Nat → Int32) (d : Nat) : ∀ w k, w ≤ k → (wg f d w).1 k = f k
  | 0, _, _ => rfl
  | w + 1, k, h => by
    show upd (wg f d w).1 w _ k = f k
    rw [upd_ne _ _ (by omega)]
    exact wg_out f d w k (by omega)
theorem wg_val (f : Nat → Int32) (d : Nat) : ∀ w, wv (wg f d w).1 0 w + (wg f d w).2 * 4294967296 ^ w = d + wv f 0 w * 10
  | 0 => by show 0 + d * 1 = d + 0 * 10; omega
  | w + 1 => by
    have h1 := wg_val f d w
    show wv (upd (wg f d w).1 w _) 0 w + wu (upd (wg f d w).1 w _ (0 + w)) * 4294967296 ^ w + _ / 4294967296 * 4294967296 ^ (w + 1) = d + (wv f 0 w + wu (f (0 + w)) * 4294967296 ^ w) * 10
    rw [Nat.zero_add, upd_same, wv_upd_above _ _ (by omega), wu_nI, Nat.pow_succ]
    generalize hs : (wg f d w).2 + wu (f w) * 10 = sm
    generalize hP : 4294967296 ^ w = P at h1 ⊢
    have h2 : sm % 4294967296 * P + sm / 4294967296 * (P * 4294967296) = sm * P := by
      have h3 : sm = sm % 4294967296 + 4294967296 * (sm / 4294967296) := (Nat.mod_add_div sm 4294967296).symm
      calc sm % 4294967296 * P + sm / 4294967296 * (P * 4294967296) = (sm % 4294967296 + 4294967296 * (sm / 4294967296)) * P := by
            rw [Nat.add_mul, Nat.mul_comm P 4294967296, ← Nat.mul_assoc, Nat.mul_comm (sm / 4294967296) 4294967296]
        _ = sm * P := by rw [← h3]
    have h4 : sm * P = (wg f d w).2 * P + wu (f w) * P * 10 := by
      rw [← hs, Nat.add_mul, Nat.mul_assoc, Nat.mul_assoc, Nat.mul_comm 10 P]
    omega
theorem m25_loop {h : pb_H} {Q : Option Value → pb_H → Prop} {a n d : Nat} {f : Nat → Int32} (hd : d < 10) (h8 : 8 ≤ n) (hn : n < 2 ^ 31) {l1 : Option Value} :
    ∀ k w, w + k = 8 → (pb_R 25 6 [some (.ref a), l1, none, none, some (.int (nI w))] [none, none, some (lN (wg f d w).2), none, none] [] (pb_set h a (ci n (wg f d w).1)) Q ↔ Q none (pb_set h a (ci n (wg f d 8).1))) := by
  intro k
  induction k with
  | zero =>
    intro w hw
    obtain rfl : w = 8 := by omega
    rw [pb_q25_6]
    simp only [pb_e25, show (8 : Int32) = nI 8 from rfl, if_pos (Int32.le_refl (nI 8))]
  | succ k ih =>
    intro w hw
    have hA : pb_ai ((pb_set h a (ci n (wg f d w).1)).2 a) (nI w) = some (f w) := by
      rw [pb_set_get, if_pos rfl, pb_ai_eq (Or.inl rfl) (by omega) hn, wg_out _ _ _ _ (Nat.le_refl _)]
    have hS : ∀ x, pb_si ((pb_set h a (ci n (wg f d w).1)).2 a) (nI w) x = some (ci n (upd (wg f d w).1 w x)) := by
      intro x
      rw [pb_set_get, if_pos rfl, pb_si_eq (by omega) hn]
    have hc := wg_carry f hd w
    have h2 := wu_lt (f w)
    have e10 : lN (wu (f w)) * 10 = lN (wu (f w) * 10) := lN_mul (wu (f w)) 10
    rw [pb_q25_6]
    simp only [pb_e25, show (8 : Int32) = nI 8 from rfl, if_neg (nI_ge (a := w) (b := 8) (by omega) (by omega)), hA, hS, pb_o_some, low_and, e10, lN_add, lN_i32, lN_ushr32 (n := (wg f d w).2 + wu (f w) * 10) (by omega), pb_set_same, nI_1]
    exact ih (w + 1) (by omega)
/-- Wide.appendDigit -/
theorem m25 {h : pb_H} {Q : Option Value → pb_H → Prop} {a n d : Nat} {f : Nat → Int32} (ha : h.2 a = ci n f) (hd : d < 10) (h8 : 8 ≤ n) (hn : n < 2 ^ 31) : pb_call 25 [.ref a, .int (nI d)] h Q ↔ Q none (pb_set h a (ci n (wg f d 8).1)) := by
  have h0 := m25_loop (h := h) (Q := Q) (a := a) (n := n) (d := d) (f := f) hd h8 hn (l1 := some (.int (nI d))) 8 0 (by omega)
  rw [pb_c25]
  simp only [pb_e25, nI_l (n := d) (by omega)]
  rw [show pb_set h a (ci n (wg f d 0).1) = h from pb_set_id h ha] at h0
  exact h0
