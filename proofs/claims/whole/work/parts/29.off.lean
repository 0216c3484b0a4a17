/-! Divider: somethingLeft, putRoundedUp, takeOff. -/
theorem nb0 : narrow .boolean (.int 0) = .int 0 := rfl
theorem nb1 : narrow .boolean (.int 1) = .int 1 := rfl
def ol (f : Nat → Int32) : Nat → Int32
  | 0 => 0
  | w + 1 => ol f w ||| f w
theorem ol_zero (f : Nat → Int32) : ∀ n, ol f n = 0 ↔ ∀ i, i < n → f i = 0
  | 0 => ⟨fun _ i hi => by omega, fun _ => rfl⟩
  | n + 1 => by
    have h1 := ol_zero f n
    have h2 : ol f (n + 1) = 0 ↔ ol f n = 0 ∧ f n = 0 := by
      show (ol f n ||| f n = 0) ↔ _
      rw [← Int32.toBitVec_inj, ← Int32.toBitVec_inj (a := ol f n), ← Int32.toBitVec_inj (a := f n), Int32.toBitVec_or]
      exact BitVec.or_eq_zero_iff
    rw [h2, h1]
    constructor
    · rintro ⟨a, b⟩ i hi
      by_cases e : i = n
      · rw [e]; exact b
      · exact a i (by omega)
    · intro a
      exact ⟨fun i hi => a i (by omega), a n (by omega)⟩
theorem m35_loop {h : pb_H} {Q : Option Value → pb_H → Prop} {d a0 a1 a2 n1 : Nat} {w0 s0 : Int32} {f : Nat → Int32} (hd : h.2 d = cv a0 a1 a2 w0 s0) (h1 : h.2 a1 = ci n1 f) (h9 : 9 ≤ n1) (hn : n1 < 2 ^ 31) :
    ∀ k w, w + k = 9 → (pb_R 35 4 [some (.ref d), some (.int (ol f w)), some (.int (nI w))] [] [] h Q ↔ Q (some (.int (if ol f 9 = 0 then 0 else 1))) h) := by
  intro k
  induction k with
  | zero =>
    intro w hw
    obtain rfl : w = 9 := by omega
    rw [pb_q35_4]
    simp only [pb_e35, show (8 : Int32) = nI 8 from rfl, if_pos (nI_lt (a := 8) (b := 9) (by omega) (by omega))]
    by_cases e : ol f 9 = 0
    · rw [if_pos e, if_pos e]
      exact and_iff_right nb0
    · rw [if_neg e, if_neg e]
      exact and_iff_right nb1
  | succ k ih =>
    intro w hw
    rw [pb_q35_4]
    simp only [pb_e35, show (8 : Int32) = nI 8 from rfl, if_neg (nI_nlt (a := 8) (b := w) (by omega) (by omega)), hd, pb_g3, pb_o_some, h1, pb_ai_eq (Or.inl rfl) (show w < n1 by omega) hn, nI_1]
    exact ih (w + 1) (by omega)
/-- Divider.somethingLeft -/
theorem m35 {h : pb_H} {Q : Option Value → pb_H → Prop} {d a0 a1 a2 n1 : Nat} {w0 s0 : Int32} {f : Nat → Int32} (hd : h.2 d = cv a0 a1 a2 w0 s0) (h1 : h.2 a1 = ci n1 f) (h9 : 9 ≤ n1) (hn : n1 < 2 ^ 31) : pb_call 35 [.ref d] h Q ↔ Q (some (.int (if wv f 0 9 = 0 then 0 else 1))) h := by
  have h0 := m35_loop (Q := Q) hd h1 h9 hn 9 0 (by omega)
  have e : ol f 9 = 0 ↔ wv f 0 9 = 0 := by
    rw [ol_zero]
    constructor
    · intro q; exact wv_of_zero (fun i hi => by rw [Nat.zero_add]; exact q i hi)
    · intro q i hi
      have := wv_zero q i hi
      rwa [Nat.zero_add] at this
  rw [pb_c35]
  simp only [pb_e35]
  rw [show (if ol f 9 = 0 then (0 : Int32) else 1) = if wv f 0 9 = 0 then 0 else 1 by simp only [e]] at h0
  exact h0
/-- adding c to w words of g, laid to place i of f -/
def wpr (f g : Nat → Int32) (i c : Nat) : Nat → (Nat → Int32) × Nat
  | 0 => (f, c)
  | w + 1 => (upd (wpr f g i c w).1 (i + w) (nI ((wpr f g i c w).2 + wu (g w))), ((wpr f g i c w).2 + wu (g w)) / 4294967296)
theorem wpr_carry (f g : Nat → Int32) (i : Nat) {c : Nat} (hc : c ≤ 1) : ∀ w, (wpr f g i c w).2 ≤ 1
  | 0 => hc
  | w + 1 => by
    have h1 := wpr_carry f g i hc w
    have h2 := wu_lt (g w)
    show ((wpr f g i c w).2 + wu (g w)) / 4294967296 ≤ 1
    omega
theorem wpr_out (f g : Nat → Int32) (i c : Nat) : ∀ w k, (k < i ∨ i + w ≤ k) → (wpr f g i c w).1 k = f k
  | 0, _, _ => rfl
  | w + 1, k, h => by
    show upd (wpr f g i c w).1 (i + w) _ k = f k
    rw [upd_ne _ _ (by omega)]
    exact wpr_out f g i c w k (by omega)
theorem wpr_val (f g : Nat → Int32) (i c : Nat) : ∀ w, wv (wpr f g i c w).1 i w + (wpr f g i c w).2 * 4294967296 ^ w = c + wv g 0 w
  | 0 => by show 0 + c * 1 = c + 0; omega
  | w + 1 => by
    have h1 := wpr_val f g i c w
    show wv (upd (wpr f g i c w).1 (i + w) _) i w + wu (upd (wpr f g i c w).1 (i + w) _ (i + w)) * 4294967296 ^ w + _ / 4294967296 * 4294967296 ^ (w + 1) = c + (wv g 0 w + wu (g (0 + w)) * 4294967296 ^ w)
    rw [Nat.zero_add, upd_same, wv_upd_above _ _ (Nat.le_refl _), wu_nI, Nat.pow_succ]
    generalize hs : (wpr f g i c w).2 + wu (g w) = sm
    generalize hP : 4294967296 ^ w = P at h1 ⊢
    have h2 := digit_sum sm P
    have h4 : sm * P = (wpr f g i c w).2 * P + wu (g w) * P := by rw [← hs, Nat.add_mul]
    omega
theorem m37_loop {h : pb_H} {Q : Option Value → pb_H → Prop} {d a a0 a1 a2 n n2 i c : Nat} {w0 s0 : Int32} {f g : Nat → Int32} {l3 : Option Value} (hda : d ≠ a) (h2a : a2 ≠ a) (hd : h.2 d = cv a0 a1 a2 w0 s0) (h2 : h.2 a2 = ci n2 g) (hc : c ≤ 1) (h8 : 8 ≤ n2) (hi : i + 8 ≤ n) (hn : n < 2 ^ 31) (hn2 : n2 < 2 ^ 31) :
    ∀ k w, w + k = 8 → (pb_R 37 14 [some (.ref d), some (.ref a), some (.int (nI i)), l3, none, none, some (.int (nI w))] [none, none, none, none, some (lN (wpr f g i c w).2), none, none] [] (pb_set h a (ci n (wpr f g i c w).1)) Q ↔ Q none (pb_set h a (ci n (wpr f g i c 8).1))) := by
  intro k
  induction k with
  | zero =>
    intro w hw
    obtain rfl : w = 8 := by omega
    rw [pb_q37_14]
    simp only [pb_e37, show (8 : Int32) = nI 8 from rfl, if_pos (Int32.le_refl (nI 8))]
  | succ k ih =>
    intro w hw
    have hF : (pb_set h a (ci n (wpr f g i c w).1)).2 d = cv a0 a1 a2 w0 s0 := by rw [pb_set_get, if_neg hda, hd]
    have hA : pb_ai ((pb_set h a (ci n (wpr f g i c w).1)).2 a2) (nI w) = some (g w) := by
      rw [pb_set_get, if_neg h2a, h2, pb_ai_eq (Or.inl rfl) (by omega) hn2]
    have hS : ∀ x, pb_si ((pb_set h a (ci n (wpr f g i c w).1)).2 a) (nI (i + w)) x = some (ci n (upd (wpr f g i c w).1 (i + w) x)) := by
      intro x
      rw [pb_set_get, if_pos rfl, pb_si_eq (by omega) hn]
    have hcc := wpr_carry f g i hc w
    have hx := wu_lt (g w)
    rw [pb_q37_14]
    simp only [pb_e37, show (8 : Int32) = nI 8 from rfl, if_neg (nI_ge (a := w) (b := 8) (by omega) (by omega)), hF, pb_g3, pb_o_some, hA, low_and, lN_add, lN_i32, nI_add, hS, lN_ushr32 (n := (wpr f g i c w).2 + wu (g w)) (by omega), pb_set_same, nI_1]
    exact ih (w + 1) (by omega)
/-- Divider.putRoundedUp -/
theorem m37 {h : pb_H} {Q : Option Value → pb_H → Prop} {d a a0 a1 a2 n n2 i : Nat} {w0 s0 b : Int32} {f g : Nat → Int32} (h2a : a2 ≠ a) (hd : h.2 d = cv a0 a1 a2 w0 s0) (ha : h.2 a = ci n f) (h2 : h.2 a2 = ci n2 g) (h8 : 8 ≤ n2) (hi : i + 8 ≤ n) (hn : n < 2 ^ 31) (hn2 : n2 < 2 ^ 31) :
    pb_call 37 [.ref d, .ref a, .int (nI i), .int b] h Q ↔ Q none (pb_set h a (ci n (wpr f g i (if b = 0 then 0 else 1) 8).1)) := by
  have hda : d ≠ a := fun e => by rw [e, ha] at hd; cases hd
  have h0 := fun c (hc : c ≤ 1) => m37_loop (h := h) (Q := Q) (f := f) (c := c) (i := i) (l3 := some (.int b)) hda h2a hd h2 hc h8 hi hn hn2 8 0 (by omega)
  have hid : ∀ c, pb_set h a (ci n (wpr f g i c 0).1) = h := fun c => pb_set_id h ha
  rw [pb_c37]
  by_cases e : b = 0
  · simp only [pb_e37, if_pos e]
    have h1 := h0 0 (by omega)
    rw [hid] at h1
    exact h1
  · simp only [pb_e37, if_neg e]
    have h1 := h0 1 (by omega)
    rw [hid] at h1
    exact h1
