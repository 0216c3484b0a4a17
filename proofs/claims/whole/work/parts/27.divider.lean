/-! Divider: numberOfLeadingZeros, take, somethingLeft, putRoundedUp. -/
abbrev cv (a0 a1 a2 : Nat) (w sh : Int32) : pb_E := .inr (3, [.ref a0, .ref a1, .ref a2, .int w, .int sh])
theorem iushr_nI {n k : Nat} (hn : n < 2 ^ 31) (hk : k < 32) : ((nI n).toUInt32 >>> ((nI k).toUInt32 &&& Int32.toUInt32 31)).toInt32 = nI (n / 2 ^ k) := by
  refine pk_ushrN (by omega) (nI k) k ?_
  have : ∀ k, k < 32 → (((nI k).toUInt32 &&& Int32.toUInt32 31).toBitVec % 32).toNat = k := by decide
  exact this k hk
def nz4 (n k : Nat) : Nat := n - k / 2
def nz3 (n k : Nat) : Nat := if k < 4 then nz4 n k else nz4 (n - 2) (k / 4)
def nz2 (n k : Nat) : Nat := if k < 16 then nz3 n k else nz3 (n - 4) (k / 16)
def nz1 (n k : Nat) : Nat := if k < 256 then nz2 n k else nz2 (n - 8) (k / 256)
def nz0 (k : Nat) : Nat := if k < 65536 then nz1 31 k else nz1 15 (k / 65536)
/-- zeros ahead of the highest bit of a word -/
def nlz (x : Int32) : Nat := if 0 < x then nz0 (wu x) else if x = 0 then 32 else 0
theorem pow_1 : (2 : Nat) ^ 1 = 2 := rfl
theorem nI_subc {n k : Nat} (c : Int32) (hc : c = -nI k) (h : k ≤ n) : nI n + c = nI (n - k) := by
  rw [hc, ← Int32.sub_eq_add_neg, pk_sub h]
theorem m30 {h : pb_H} {Q : Option Value → pb_H → Prop} {x : Int32} : pb_call 30 [.int x] h Q ↔ Q (some (.int (nI (nlz x)))) h := by
  rw [pb_c30]
  unfold nlz
  by_cases h0 : 0 < x
  · rw [if_pos h0]
    obtain ⟨k, hk, rfl⟩ := nI_of (x := x) (Int32.not_lt.mpr (Int32.le_of_lt h0))
    have hk0 : 0 < k := by
      rcases Nat.eq_zero_or_pos k with e | e
      · rw [e] at h0; exact absurd h0 (by decide)
      · exact e
    rw [wu_nI, Nat.mod_eq_of_lt (by omega)]
    have s16 : ∀ n, n < 2 ^ 31 → ((nI n).toUInt32 >>> ((16 : Int32).toUInt32 &&& Int32.toUInt32 31)).toInt32 = nI (n / 65536) := fun n hn => iushr_nI (k := 16) hn (by omega)
    have s8 : ∀ n, n < 2 ^ 31 → ((nI n).toUInt32 >>> ((8 : Int32).toUInt32 &&& Int32.toUInt32 31)).toInt32 = nI (n / 256) := fun n hn => iushr_nI (k := 8) hn (by omega)
    have s4 : ∀ n, n < 2 ^ 31 → ((nI n).toUInt32 >>> ((4 : Int32).toUInt32 &&& Int32.toUInt32 31)).toInt32 = nI (n / 16) := fun n hn => iushr_nI (k := 4) hn (by omega)
    have s2 : ∀ n, n < 2 ^ 31 → ((nI n).toUInt32 >>> ((2 : Int32).toUInt32 &&& Int32.toUInt32 31)).toInt32 = nI (n / 4) := fun n hn => iushr_nI (k := 2) hn (by omega)
    have s1 : ∀ n, n < 2 ^ 31 → ((nI n).toUInt32 >>> ((1 : Int32).toUInt32 &&& Int32.toUInt32 31)).toInt32 = nI (n / 2) := fun n hn => iushr_nI (k := 1) hn (by omega)
    have c1 : ∀ n, n < 2 ^ 31 → (nI n < 65536 ↔ n < 65536) := fun n hn => nI_ltI (b := 65536) hn (by omega)
    have c2 : ∀ n, n < 2 ^ 31 → (nI n < 256 ↔ n < 256) := fun n hn => nI_ltI (b := 256) hn (by omega)
    have c3 : ∀ n, n < 2 ^ 31 → (nI n < 16 ↔ n < 16) := fun n hn => nI_ltI (b := 16) hn (by omega)
    have c4 : ∀ n, n < 2 ^ 31 → (nI n < 4 ↔ n < 4) := fun n hn => nI_ltI (b := 4) hn (by omega)
    simp (disch := omega) only [pb_e30, if_pos h0, c1, c2, c3, c4, s16, s8, s4, s2, s1, show (31 : Int32) + -16 = 15 by decide, show (31 : Int32) + -8 = 23 by decide, show (15 : Int32) + -8 = 7 by decide, show (31 : Int32) + -4 = 27 by decide, show (15 : Int32) + -4 = 11 by decide, show (23 : Int32) + -4 = 19 by decide, show (7 : Int32) + -4 = 3 by decide, show (31 : Int32) + -2 = 29 by decide, show (15 : Int32) + -2 = 13 by decide, show (23 : Int32) + -2 = 21 by decide, show (7 : Int32) + -2 = 5 by decide, show (27 : Int32) + -2 = 25 by decide, show (11 : Int32) + -2 = 9 by decide, show (19 : Int32) + -2 = 17 by decide, show (3 : Int32) + -2 = 1 by decide]
    unfold nz0 nz1 nz2 nz3 nz4
    repeat' split
    all_goals first | (exfalso; omega) | (rw [← pk_sub (by omega)]; exact Iff.rfl)
  · rw [if_neg h0]
    by_cases h1 : x = 0
    · subst h1
      simp only [pb_e30]
      rfl
    · simp only [pb_e30, if_neg h0, if_pos h1, if_neg h1]
      rfl
theorem nlz_spec {x : Int32} (hx : x ≠ 0) : nlz x ≤ 31 ∧ 2147483648 ≤ wu x * 2 ^ nlz x ∧ wu x * 2 ^ nlz x < 4294967296 := by
  have hlt := wu_lt x
  unfold nlz
  by_cases h0 : 0 < x
  · rw [if_pos h0]
    obtain ⟨k, hk, rfl⟩ := nI_of (x := x) (Int32.not_lt.mpr (Int32.le_of_lt h0))
    have hk0 : 0 < k := by
      rcases Nat.eq_zero_or_pos k with e | e
      · rw [e] at h0; exact absurd h0 (by decide)
      · exact e
    rw [wu_nI, Nat.mod_eq_of_lt (by omega)]
    have key : ∀ (n j : Nat), 1 ≤ j → j < 4 → 1 ≤ n → n ≤ 31 → ∀ m, j * 2 ^ (31 - n) ≤ m → m < (j + 1) * 2 ^ (31 - n) → nz4 n j ≤ 31 ∧ 2147483648 ≤ m * 2 ^ nz4 n j ∧ m * 2 ^ nz4 n j < 4294967296 := by
      intro n j h1 h2 h3 h4 m h5 h6
      have e1 : 2 ^ (31 - n) * 2 ^ n = 2147483648 := by rw [← Nat.pow_add, show 31 - n + n = 31 by omega]
      unfold nz4
      rcases (show j = 1 ∨ j = 2 ∨ j = 3 by omega) with rfl | rfl | rfl
      · refine ⟨by omega, ?_, ?_⟩
        · show _ ≤ m * 2 ^ (n - 0)
          calc 2147483648 = 2 ^ (31 - n) * 2 ^ n := e1.symm
            _ ≤ m * 2 ^ n := Nat.mul_le_mul_right _ (by omega)
        · show m * 2 ^ (n - 0) < _
          calc m * 2 ^ n < (1 + 1) * 2 ^ (31 - n) * 2 ^ n := Nat.mul_lt_mul_of_pos_right h6 (Nat.pow_pos (by omega))
            _ = 4294967296 := by rw [Nat.mul_assoc, e1]
      all_goals
        obtain ⟨n', rfl⟩ : ∃ n', n = n' + 1 := ⟨n - 1, by omega⟩
        have e2 : 2 ^ (31 - (n' + 1)) * (2 * 2 ^ n') = 2147483648 := by rw [← e1, Nat.pow_succ, Nat.mul_comm 2]
        refine ⟨by omega, ?_, ?_⟩
        · show _ ≤ m * 2 ^ (n' + 1 - 1)
          rw [Nat.add_sub_cancel]
          have h7 := Nat.mul_le_mul_right (2 ^ n') h5
          have h8 : 2 ^ (31 - (n' + 1)) * 2 * 2 ^ n' = 2147483648 := by rw [Nat.mul_assoc]; exact e2
          generalize 2 ^ (31 - (n' + 1)) = A at *
          generalize 2 ^ n' = B at *
          have h9 : 2 * A * B = A * 2 * B := by rw [Nat.mul_comm 2 A]
          have h10 : 3 * A * B = A * 2 * B + A * B := by rw [show 3 * A = A * 2 + A by omega, Nat.add_mul]
          omega
        · show m * 2 ^ (n' + 1 - 1) < _
          rw [Nat.add_sub_cancel]
          have h7 := Nat.mul_lt_mul_of_pos_right h6 (show 0 < 2 ^ n' from Nat.pow_pos (by omega))
          have h8 : 2 ^ (31 - (n' + 1)) * 2 * 2 ^ n' = 2147483648 := by rw [Nat.mul_assoc]; exact e2
          generalize 2 ^ (31 - (n' + 1)) = A at *
          generalize 2 ^ n' = B at *
          have h9 : (2 + 1) * A * B = A * 2 * B + A * B := by rw [show (2 + 1) * A = A * 2 + A by omega, Nat.add_mul]
          have h10 : (3 + 1) * A * B = A * 2 * B + A * 2 * B := by rw [show (3 + 1) * A = A * 2 + A * 2 by omega, Nat.add_mul]
          have h11 : A * 2 * B = A * B + A * B := by rw [show A * 2 = A + A by omega, Nat.add_mul]
          omega
    unfold nz0 nz1 nz2 nz3
    repeat' split
    all_goals first | (exfalso; omega) | (refine key _ _ (by omega) (by omega) (by omega) (by omega) k ?_ ?_ <;> simp only [Nat.reduceSub, Nat.reducePow] <;> omega)
  · rw [if_neg h0, if_neg hx]
    refine ⟨by omega, ?_, by simpa using hlt⟩
    have h2 : x < 0 := by
      rcases Int32.lt_or_le x 0 with h | h
      · exact h
      · exact absurd (Int32.lt_of_le_of_ne h (Ne.symm hx)) h0
    rw [Nat.pow_zero, Nat.mul_one]
    apply Nat.le_of_not_lt
    intro h3
    have h4 : x = nI (wu x) := (nI_wu x).symm
    rw [h4] at h2
    exact nI_pos (n := wu x) (by omega) h2
