/-! Wide's own arithmetic: what each method does to the words, as a function; and what that means. -/
abbrev ci (n : Nat) (f : Nat → Int32) : pb_E := .inl (0, n, .inl f)
theorem upd_same (f : Nat → Int32) (k : Nat) (x : Int32) : upd f k x k = x := by simp [upd]
theorem upd_ne (f : Nat → Int32) {k j : Nat} (x : Int32) (h : j ≠ k) : upd f k x j = f j := by simp [upd, h]
theorem wv_upd_above (f : Nat → Int32) {o n k : Nat} (x : Int32) (h : o + n ≤ k) : wv (upd f k x) o n = wv f o n := wv_congr (fun i hi => upd_ne f x (by omega))
theorem wv_upd_below (f : Nat → Int32) {o n k : Nat} (x : Int32) (h : k < o) : wv (upd f k x) o n = wv f o n := wv_congr (fun i hi => upd_ne f x (by omega))
/-- adding w words -/
def wa (f g : Nat → Int32) (i j : Nat) : Nat → (Nat → Int32) × Nat
  | 0 => (f, 0)
  | w + 1 => (upd (wa f g i j w).1 (i + w) (nI ((wa f g i j w).2 + (wu (f (i + w)) + wu (g (j + w))))), ((wa f g i j w).2 + (wu (f (i + w)) + wu (g (j + w)))) / 4294967296)
theorem wa_carry (f g : Nat → Int32) (i j : Nat) : ∀ w, (wa f g i j w).2 ≤ 1
  | 0 => Nat.zero_le _
  | w + 1 => by
    have h1 := wa_carry f g i j w
    have h2 := wu_lt (f (i + w))
    have h3 := wu_lt (g (j + w))
    show ((wa f g i j w).2 + (wu (f (i + w)) + wu (g (j + w)))) / 4294967296 ≤ 1
    omega
theorem wa_out (f g : Nat → Int32) (i j : Nat) : ∀ w k, (k < i ∨ i + w ≤ k) → (wa f g i j w).1 k = f k
  | 0, _, _ => rfl
  | w + 1, k, h => by
    show upd (wa f g i j w).1 (i + w) _ k = f k
    rw [upd_ne _ _ (by omega)]
    exact wa_out f g i j w k (by omega)
theorem wa_sum (f g : Nat → Int32) (i j : Nat) : ∀ w, wv (wa f g i j w).1 i w + (wa f g i j w).2 * 4294967296 ^ w = wv f i w + wv g j w
  | 0 => by show 0 + 0 * 1 = 0 + 0; rfl
  | w + 1 => by
    have h1 := wa_sum f g i j w
    show wv (upd (wa f g i j w).1 (i + w) _) i w + wu (upd (wa f g i j w).1 (i + w) _ (i + w)) * 4294967296 ^ w + _ / 4294967296 * 4294967296 ^ (w + 1) = (wv f i w + wu (f (i + w)) * 4294967296 ^ w) + (wv g j w + wu (g (j + w)) * 4294967296 ^ w)
    rw [upd_same, wv_upd_above _ _ (Nat.le_refl _), wu_nI, Nat.pow_succ]
    generalize hs : (wa f g i j w).2 + (wu (f (i + w)) + wu (g (j + w))) = sm
    generalize hP : 4294967296 ^ w = P at h1 ⊢
    have h2 : sm % 4294967296 * P + sm / 4294967296 * (P * 4294967296) = sm * P := by
      have h3 : sm = sm % 4294967296 + 4294967296 * (sm / 4294967296) := (Nat.mod_add_div sm 4294967296).symm
      calc sm % 4294967296 * P + sm / 4294967296 * (P * 4294967296) = (sm % 4294967296 + 4294967296 * (sm / 4294967296)) * P := by
            rw [Nat.add_mul, Nat.mul_comm P 4294967296, ← Nat.mul_assoc, Nat.mul_comm (sm / 4294967296) 4294967296]
        _ = sm * P := by rw [← h3]
    have h4 : sm * P = (wa f g i j w).2 * P + wu (f (i + w)) * P + wu (g (j + w)) * P := by
      rw [← hs, Nat.add_mul, Nat.add_mul]
      omega
    omega
theorem m59_loop {h : pb_H} {Q : Option Value → pb_H → Prop} {a b n nb i j W : Nat} {f g : Nat → Int32} (hb : b ≠ a → h.2 b = ci nb g) (hba : b = a → nb = n ∧ g = f ∧ (j + W ≤ i ∨ i + W ≤ j)) (hi : i + W ≤ n) (hj : j + W ≤ nb) (hn : n < 2 ^ 31) (hnb : nb < 2 ^ 31) :
    ∀ k w, w + k = W → (pb_R 59 6 [some (.ref a), some (.int (nI i)), some (.ref b), some (.int (nI j)), some (.int (nI W)), none, none, some (.int (nI w))] [none, none, none, none, none, some (lN (wa f g i j w).2), none, none] [] (pb_set h a (ci n (wa f g i j w).1)) Q ↔ Q (some (.int (nI (wa f g i j W).2))) (pb_set h a (ci n (wa f g i j W).1))) := by
  intro k
  induction k with
  | zero =>
    intro w hw
    obtain rfl : w = W := by omega
    rw [pb_q59_6]
    simp only [pb_e59, if_pos (Int32.le_refl (nI w)), lN_i32]
  | succ k ih =>
    intro w hw
    have hA : pb_ai ((pb_set h a (ci n (wa f g i j w).1)).2 a) (nI (i + w)) = some (f (i + w)) := by
      rw [pb_set_get, if_pos rfl, pb_ai_eq (Or.inl rfl) (by omega) hn, wa_out _ _ _ _ _ _ (by omega)]
    have hB : pb_ai ((pb_set h a (ci n (wa f g i j w).1)).2 b) (nI (j + w)) = some (g (j + w)) := by
      rw [pb_set_get]
      by_cases e : b = a
      · obtain ⟨e1, e2, e3⟩ := hba e
        subst e1
        rw [if_pos e, pb_ai_eq (Or.inl rfl) (by omega) hn, wa_out _ _ _ _ _ _ (by omega), e2]
      · rw [if_neg e, hb e, pb_ai_eq (Or.inl rfl) (by omega) hnb]
    have hS : ∀ x, pb_si ((pb_set h a (ci n (wa f g i j w).1)).2 a) (nI (i + w)) x = some (ci n (upd (wa f g i j w).1 (i + w) x)) := by
      intro x
      rw [pb_set_get, if_pos rfl, pb_si_eq (by omega) hn]
    have hc := wa_carry f g i j w
    have h2 := wu_lt (f (i + w))
    have h3 := wu_lt (g (j + w))
    rw [pb_q59_6]
    simp only [pb_e59, if_neg (nI_ge (a := w) (b := W) (by omega) (by omega)), nI_add, hA, hB, hS, pb_o_some, low_and, lN_add, lN_i32, lN_ushr32 (n := (wa f g i j w).2 + (wu (f (i + w)) + wu (g (j + w)))) (by omega), pb_set_same, nI_1]
    exact ih (w + 1) (by omega)
/-- Wide.add -/
theorem m59 {h : pb_H} {Q : Option Value → pb_H → Prop} {a b n nb i j W : Nat} {f g : Nat → Int32} (ha : h.2 a = ci n f) (hb : h.2 b = ci nb g) (hd : b = a → j + W ≤ i ∨ i + W ≤ j) (hi : i + W ≤ n) (hj : j + W ≤ nb) (hn : n < 2 ^ 31) (hnb : nb < 2 ^ 31) :
    pb_call 59 [.ref a, .int (nI i), .ref b, .int (nI j), .int (nI W)] h Q ↔ Q (some (.int (nI (wa f g i j W).2))) (pb_set h a (ci n (wa f g i j W).1)) := by
  have h0 := m59_loop (h := h) (Q := Q) (a := a) (b := b) (n := n) (nb := nb) (i := i) (j := j) (W := W) (f := f) (g := g) (fun _ => hb) (fun e => by
    subst e
    rw [ha] at hb
    cases hb
    exact ⟨rfl, rfl, hd rfl⟩) hi hj hn hnb W 0 (by omega)
  rw [pb_c59]
  simp only [pb_e59]
  rw [show pb_set h a (ci n (wa f g i j 0).1) = h from pb_set_id h ha] at h0
  exact h0
