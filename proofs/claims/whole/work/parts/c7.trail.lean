/-! numberOfTrailingZeros; the class's Trail -/
theorem m112_0 {h : pb_H} {Q : Option Value → pb_H → Prop} {l1 : Option Value} : pb_R 112 8 [some (.int (nI 0)), l1] [] [] h Q ↔ Q (some (.int (nI 0))) h := by
  have c0 : ¬ (0 : Int32) < nI 0 := by decide
  have e : nI 0 &&& 32 = nI 0 := by decide
  simp only [pb_e112, c0, if_false, e]
theorem m112_1 {h : pb_H} {Q : Option Value → pb_H → Prop} {l1 : Option Value} : pb_R 112 8 [some (.int (nI 1)), l1] [] [] h Q ↔ Q (some (.int (nI 1))) h := by
  have c0 : (0 : Int32) < nI 1 := by decide
  have c1 : nI 1 ≤ (65536 : Int32) := by decide
  have d0 : nI 1 ≤ (256 : Int32) := by decide
  have d1 : nI 1 ≤ (16 : Int32) := by decide
  have d2 : nI 1 ≤ (4 : Int32) := by decide
  have sl : ((nI 1).toUInt32 >>> ((1 : Int32).toUInt32 &&& Int32.toUInt32 31)).toInt32 = nI 0 := by decide
  have e : (1 : Int32) + nI 0 = nI 1 := by decide
  simp only [pb_e112, c0, c1, d0, d1, d2, sl, e, if_true, if_false]
theorem m112_2 {h : pb_H} {Q : Option Value → pb_H → Prop} {l1 : Option Value} : pb_R 112 8 [some (.int (nI 3)), l1] [] [] h Q ↔ Q (some (.int (nI 2))) h := by
  have c0 : (0 : Int32) < nI 3 := by decide
  have c1 : nI 3 ≤ (65536 : Int32) := by decide
  have d0 : nI 3 ≤ (256 : Int32) := by decide
  have d1 : nI 3 ≤ (16 : Int32) := by decide
  have d2 : nI 3 ≤ (4 : Int32) := by decide
  have sl : ((nI 3).toUInt32 >>> ((1 : Int32).toUInt32 &&& Int32.toUInt32 31)).toInt32 = nI 1 := by decide
  have e : (1 : Int32) + nI 1 = nI 2 := by decide
  simp only [pb_e112, c0, c1, d0, d1, d2, sl, e, if_true, if_false]
theorem m112_3 {h : pb_H} {Q : Option Value → pb_H → Prop} {l1 : Option Value} : pb_R 112 8 [some (.int (nI 7)), l1] [] [] h Q ↔ Q (some (.int (nI 3))) h := by
  have c0 : (0 : Int32) < nI 7 := by decide
  have c1 : nI 7 ≤ (65536 : Int32) := by decide
  have d0 : nI 7 ≤ (256 : Int32) := by decide
  have d1 : nI 7 ≤ (16 : Int32) := by decide
  have d2 : ¬ nI 7 ≤ (4 : Int32) := by decide
  have s2 : ((nI 7).toUInt32 >>> ((2 : Int32).toUInt32 &&& Int32.toUInt32 31)).toInt32 = nI 1 := by decide
  have sl : ((nI 1).toUInt32 >>> ((1 : Int32).toUInt32 &&& Int32.toUInt32 31)).toInt32 = nI 0 := by decide
  have e : (1 + 2 : Int32) + nI 0 = nI 3 := by decide
  simp only [pb_e112, c0, c1, d0, d1, d2, s2, sl, e, if_true, if_false]
theorem m112_4 {h : pb_H} {Q : Option Value → pb_H → Prop} {l1 : Option Value} : pb_R 112 8 [some (.int (nI 15)), l1] [] [] h Q ↔ Q (some (.int (nI 4))) h := by
  have c0 : (0 : Int32) < nI 15 := by decide
  have c1 : nI 15 ≤ (65536 : Int32) := by decide
  have d0 : nI 15 ≤ (256 : Int32) := by decide
  have d1 : nI 15 ≤ (16 : Int32) := by decide
  have d2 : ¬ nI 15 ≤ (4 : Int32) := by decide
  have s2 : ((nI 15).toUInt32 >>> ((2 : Int32).toUInt32 &&& Int32.toUInt32 31)).toInt32 = nI 3 := by decide
  have sl : ((nI 3).toUInt32 >>> ((1 : Int32).toUInt32 &&& Int32.toUInt32 31)).toInt32 = nI 1 := by decide
  have e : (1 + 2 : Int32) + nI 1 = nI 4 := by decide
  simp only [pb_e112, c0, c1, d0, d1, d2, s2, sl, e, if_true, if_false]
theorem m112_5 {h : pb_H} {Q : Option Value → pb_H → Prop} {l1 : Option Value} : pb_R 112 8 [some (.int (nI 31)), l1] [] [] h Q ↔ Q (some (.int (nI 5))) h := by
  have c0 : (0 : Int32) < nI 31 := by decide
  have c1 : nI 31 ≤ (65536 : Int32) := by decide
  have d0 : nI 31 ≤ (256 : Int32) := by decide
  have d1 : ¬ nI 31 ≤ (16 : Int32) := by decide
  have s1 : ((nI 31).toUInt32 >>> ((4 : Int32).toUInt32 &&& Int32.toUInt32 31)).toInt32 = nI 1 := by decide
  have d2 : nI 1 ≤ (4 : Int32) := by decide
  have sl : ((nI 1).toUInt32 >>> ((1 : Int32).toUInt32 &&& Int32.toUInt32 31)).toInt32 = nI 0 := by decide
  have e : (1 + 4 : Int32) + nI 0 = nI 5 := by decide
  simp only [pb_e112, c0, c1, d0, d1, s1, d2, sl, e, if_true, if_false]
theorem m112_6 {h : pb_H} {Q : Option Value → pb_H → Prop} {l1 : Option Value} : pb_R 112 8 [some (.int (nI 63)), l1] [] [] h Q ↔ Q (some (.int (nI 6))) h := by
  have c0 : (0 : Int32) < nI 63 := by decide
  have c1 : nI 63 ≤ (65536 : Int32) := by decide
  have d0 : nI 63 ≤ (256 : Int32) := by decide
  have d1 : ¬ nI 63 ≤ (16 : Int32) := by decide
  have s1 : ((nI 63).toUInt32 >>> ((4 : Int32).toUInt32 &&& Int32.toUInt32 31)).toInt32 = nI 3 := by decide
  have d2 : nI 3 ≤ (4 : Int32) := by decide
  have sl : ((nI 3).toUInt32 >>> ((1 : Int32).toUInt32 &&& Int32.toUInt32 31)).toInt32 = nI 1 := by decide
  have e : (1 + 4 : Int32) + nI 1 = nI 6 := by decide
  simp only [pb_e112, c0, c1, d0, d1, s1, d2, sl, e, if_true, if_false]
theorem m112_7 {h : pb_H} {Q : Option Value → pb_H → Prop} {l1 : Option Value} : pb_R 112 8 [some (.int (nI 127)), l1] [] [] h Q ↔ Q (some (.int (nI 7))) h := by
  have c0 : (0 : Int32) < nI 127 := by decide
  have c1 : nI 127 ≤ (65536 : Int32) := by decide
  have d0 : nI 127 ≤ (256 : Int32) := by decide
  have d1 : ¬ nI 127 ≤ (16 : Int32) := by decide
  have s1 : ((nI 127).toUInt32 >>> ((4 : Int32).toUInt32 &&& Int32.toUInt32 31)).toInt32 = nI 7 := by decide
  have d2 : ¬ nI 7 ≤ (4 : Int32) := by decide
  have s2 : ((nI 7).toUInt32 >>> ((2 : Int32).toUInt32 &&& Int32.toUInt32 31)).toInt32 = nI 1 := by decide
  have sl : ((nI 1).toUInt32 >>> ((1 : Int32).toUInt32 &&& Int32.toUInt32 31)).toInt32 = nI 0 := by decide
  have e : (1 + 4 + 2 : Int32) + nI 0 = nI 7 := by decide
  simp only [pb_e112, c0, c1, d0, d1, s1, d2, s2, sl, e, if_true, if_false]
theorem m112_8 {h : pb_H} {Q : Option Value → pb_H → Prop} {l1 : Option Value} : pb_R 112 8 [some (.int (nI 255)), l1] [] [] h Q ↔ Q (some (.int (nI 8))) h := by
  have c0 : (0 : Int32) < nI 255 := by decide
  have c1 : nI 255 ≤ (65536 : Int32) := by decide
  have d0 : nI 255 ≤ (256 : Int32) := by decide
  have d1 : ¬ nI 255 ≤ (16 : Int32) := by decide
  have s1 : ((nI 255).toUInt32 >>> ((4 : Int32).toUInt32 &&& Int32.toUInt32 31)).toInt32 = nI 15 := by decide
  have d2 : ¬ nI 15 ≤ (4 : Int32) := by decide
  have s2 : ((nI 15).toUInt32 >>> ((2 : Int32).toUInt32 &&& Int32.toUInt32 31)).toInt32 = nI 3 := by decide
  have sl : ((nI 3).toUInt32 >>> ((1 : Int32).toUInt32 &&& Int32.toUInt32 31)).toInt32 = nI 1 := by decide
  have e : (1 + 4 + 2 : Int32) + nI 1 = nI 8 := by decide
  simp only [pb_e112, c0, c1, d0, d1, s1, d2, s2, sl, e, if_true, if_false]
theorem m112_9 {h : pb_H} {Q : Option Value → pb_H → Prop} {l1 : Option Value} : pb_R 112 8 [some (.int (nI 511)), l1] [] [] h Q ↔ Q (some (.int (nI 9))) h := by
  have c0 : (0 : Int32) < nI 511 := by decide
  have c1 : nI 511 ≤ (65536 : Int32) := by decide
  have d0 : ¬ nI 511 ≤ (256 : Int32) := by decide
  have s0 : ((nI 511).toUInt32 >>> ((8 : Int32).toUInt32 &&& Int32.toUInt32 31)).toInt32 = nI 1 := by decide
  have d1 : nI 1 ≤ (16 : Int32) := by decide
  have d2 : nI 1 ≤ (4 : Int32) := by decide
  have sl : ((nI 1).toUInt32 >>> ((1 : Int32).toUInt32 &&& Int32.toUInt32 31)).toInt32 = nI 0 := by decide
  have e : (1 + 8 : Int32) + nI 0 = nI 9 := by decide
  simp only [pb_e112, c0, c1, d0, s0, d1, d2, sl, e, if_true, if_false]
theorem m112_10 {h : pb_H} {Q : Option Value → pb_H → Prop} {l1 : Option Value} : pb_R 112 8 [some (.int (nI 1023)), l1] [] [] h Q ↔ Q (some (.int (nI 10))) h := by
  have c0 : (0 : Int32) < nI 1023 := by decide
  have c1 : nI 1023 ≤ (65536 : Int32) := by decide
  have d0 : ¬ nI 1023 ≤ (256 : Int32) := by decide
  have s0 : ((nI 1023).toUInt32 >>> ((8 : Int32).toUInt32 &&& Int32.toUInt32 31)).toInt32 = nI 3 := by decide
  have d1 : nI 3 ≤ (16 : Int32) := by decide
  have d2 : nI 3 ≤ (4 : Int32) := by decide
  have sl : ((nI 3).toUInt32 >>> ((1 : Int32).toUInt32 &&& Int32.toUInt32 31)).toInt32 = nI 1 := by decide
  have e : (1 + 8 : Int32) + nI 1 = nI 10 := by decide
  simp only [pb_e112, c0, c1, d0, s0, d1, d2, sl, e, if_true, if_false]
theorem m112_11 {h : pb_H} {Q : Option Value → pb_H → Prop} {l1 : Option Value} : pb_R 112 8 [some (.int (nI 2047)), l1] [] [] h Q ↔ Q (some (.int (nI 11))) h := by
  have c0 : (0 : Int32) < nI 2047 := by decide
  have c1 : nI 2047 ≤ (65536 : Int32) := by decide
  have d0 : ¬ nI 2047 ≤ (256 : Int32) := by decide
  have s0 : ((nI 2047).toUInt32 >>> ((8 : Int32).toUInt32 &&& Int32.toUInt32 31)).toInt32 = nI 7 := by decide
  have d1 : nI 7 ≤ (16 : Int32) := by decide
  have d2 : ¬ nI 7 ≤ (4 : Int32) := by decide
  have s2 : ((nI 7).toUInt32 >>> ((2 : Int32).toUInt32 &&& Int32.toUInt32 31)).toInt32 = nI 1 := by decide
  have sl : ((nI 1).toUInt32 >>> ((1 : Int32).toUInt32 &&& Int32.toUInt32 31)).toInt32 = nI 0 := by decide
  have e : (1 + 8 + 2 : Int32) + nI 0 = nI 11 := by decide
  simp only [pb_e112, c0, c1, d0, s0, d1, d2, s2, sl, e, if_true, if_false]
theorem m112_12 {h : pb_H} {Q : Option Value → pb_H → Prop} {l1 : Option Value} : pb_R 112 8 [some (.int (nI 4095)), l1] [] [] h Q ↔ Q (some (.int (nI 12))) h := by
  have c0 : (0 : Int32) < nI 4095 := by decide
  have c1 : nI 4095 ≤ (65536 : Int32) := by decide
  have d0 : ¬ nI 4095 ≤ (256 : Int32) := by decide
  have s0 : ((nI 4095).toUInt32 >>> ((8 : Int32).toUInt32 &&& Int32.toUInt32 31)).toInt32 = nI 15 := by decide
  have d1 : nI 15 ≤ (16 : Int32) := by decide
  have d2 : ¬ nI 15 ≤ (4 : Int32) := by decide
  have s2 : ((nI 15).toUInt32 >>> ((2 : Int32).toUInt32 &&& Int32.toUInt32 31)).toInt32 = nI 3 := by decide
  have sl : ((nI 3).toUInt32 >>> ((1 : Int32).toUInt32 &&& Int32.toUInt32 31)).toInt32 = nI 1 := by decide
  have e : (1 + 8 + 2 : Int32) + nI 1 = nI 12 := by decide
  simp only [pb_e112, c0, c1, d0, s0, d1, d2, s2, sl, e, if_true, if_false]
theorem m112_13 {h : pb_H} {Q : Option Value → pb_H → Prop} {l1 : Option Value} : pb_R 112 8 [some (.int (nI 8191)), l1] [] [] h Q ↔ Q (some (.int (nI 13))) h := by
  have c0 : (0 : Int32) < nI 8191 := by decide
  have c1 : nI 8191 ≤ (65536 : Int32) := by decide
  have d0 : ¬ nI 8191 ≤ (256 : Int32) := by decide
  have s0 : ((nI 8191).toUInt32 >>> ((8 : Int32).toUInt32 &&& Int32.toUInt32 31)).toInt32 = nI 31 := by decide
  have d1 : ¬ nI 31 ≤ (16 : Int32) := by decide
  have s1 : ((nI 31).toUInt32 >>> ((4 : Int32).toUInt32 &&& Int32.toUInt32 31)).toInt32 = nI 1 := by decide
  have d2 : nI 1 ≤ (4 : Int32) := by decide
  have sl : ((nI 1).toUInt32 >>> ((1 : Int32).toUInt32 &&& Int32.toUInt32 31)).toInt32 = nI 0 := by decide
  have e : (1 + 8 + 4 : Int32) + nI 0 = nI 13 := by decide
  simp only [pb_e112, c0, c1, d0, s0, d1, s1, d2, sl, e, if_true, if_false]
theorem m112_14 {h : pb_H} {Q : Option Value → pb_H → Prop} {l1 : Option Value} : pb_R 112 8 [some (.int (nI 16383)), l1] [] [] h Q ↔ Q (some (.int (nI 14))) h := by
  have c0 : (0 : Int32) < nI 16383 := by decide
  have c1 : nI 16383 ≤ (65536 : Int32) := by decide
  have d0 : ¬ nI 16383 ≤ (256 : Int32) := by decide
  have s0 : ((nI 16383).toUInt32 >>> ((8 : Int32).toUInt32 &&& Int32.toUInt32 31)).toInt32 = nI 63 := by decide
  have d1 : ¬ nI 63 ≤ (16 : Int32) := by decide
  have s1 : ((nI 63).toUInt32 >>> ((4 : Int32).toUInt32 &&& Int32.toUInt32 31)).toInt32 = nI 3 := by decide
  have d2 : nI 3 ≤ (4 : Int32) := by decide
  have sl : ((nI 3).toUInt32 >>> ((1 : Int32).toUInt32 &&& Int32.toUInt32 31)).toInt32 = nI 1 := by decide
  have e : (1 + 8 + 4 : Int32) + nI 1 = nI 14 := by decide
  simp only [pb_e112, c0, c1, d0, s0, d1, s1, d2, sl, e, if_true, if_false]
theorem m112_15 {h : pb_H} {Q : Option Value → pb_H → Prop} {l1 : Option Value} : pb_R 112 8 [some (.int (nI 32767)), l1] [] [] h Q ↔ Q (some (.int (nI 15))) h := by
  have c0 : (0 : Int32) < nI 32767 := by decide
  have c1 : nI 32767 ≤ (65536 : Int32) := by decide
  have d0 : ¬ nI 32767 ≤ (256 : Int32) := by decide
  have s0 : ((nI 32767).toUInt32 >>> ((8 : Int32).toUInt32 &&& Int32.toUInt32 31)).toInt32 = nI 127 := by decide
  have d1 : ¬ nI 127 ≤ (16 : Int32) := by decide
  have s1 : ((nI 127).toUInt32 >>> ((4 : Int32).toUInt32 &&& Int32.toUInt32 31)).toInt32 = nI 7 := by decide
  have d2 : ¬ nI 7 ≤ (4 : Int32) := by decide
  have s2 : ((nI 7).toUInt32 >>> ((2 : Int32).toUInt32 &&& Int32.toUInt32 31)).toInt32 = nI 1 := by decide
  have sl : ((nI 1).toUInt32 >>> ((1 : Int32).toUInt32 &&& Int32.toUInt32 31)).toInt32 = nI 0 := by decide
  have e : (1 + 8 + 4 + 2 : Int32) + nI 0 = nI 15 := by decide
  simp only [pb_e112, c0, c1, d0, s0, d1, s1, d2, s2, sl, e, if_true, if_false]
theorem m112_k {h : pb_H} {Q : Option Value → pb_H → Prop} {l1 : Option Value} {k : Nat} (hk : k < 16) : pb_R 112 8 [some (.int (nI (2 ^ k - 1))), l1] [] [] h Q ↔ Q (some (.int (nI k))) h := by
  have : k = 0 ∨ k = 1 ∨ k = 2 ∨ k = 3 ∨ k = 4 ∨ k = 5 ∨ k = 6 ∨ k = 7 ∨ k = 8 ∨ k = 9 ∨ k = 10 ∨ k = 11 ∨ k = 12 ∨ k = 13 ∨ k = 14 ∨ k = 15 := by omega
  rcases this with e | e | e | e | e | e | e | e | e | e | e | e | e | e | e | e
  · subst e; exact m112_0
  · subst e; exact m112_1
  · subst e; exact m112_2
  · subst e; exact m112_3
  · subst e; exact m112_4
  · subst e; exact m112_5
  · subst e; exact m112_6
  · subst e; exact m112_7
  · subst e; exact m112_8
  · subst e; exact m112_9
  · subst e; exact m112_10
  · subst e; exact m112_11
  · subst e; exact m112_12
  · subst e; exact m112_13
  · subst e; exact m112_14
  · subst e; exact m112_15
theorem bt_tb (x : Int32) (u : Nat) : bt x u = (wu x).testBit (u - 1) := rfl
theorem tz_bits {x : Int32} {k : Nat} (hk : k < 16) (h1 : bt x (k + 1) = true) (h0 : ∀ j, j < k → bt x (j + 1) = false) : (x ^^^ -1) &&& (x - 1) = nI (2 ^ k - 1) := by
  have hn := wu_lt x
  have t1 : (wu x).testBit k = true := h1
  have t0 : ∀ j, j < k → (wu x).testBit j = false := fun j hj => h0 j hj
  have hr : wu x % 2 ^ (k + 1) = 2 ^ k := by
    apply Nat.eq_of_testBit_eq
    intro j
    rw [Nat.testBit_mod_two_pow, Nat.testBit_two_pow]
    by_cases c1 : j < k
    · rw [t0 j c1, Bool.and_false, decide_eq_false (by omega)]
    · by_cases c2 : j = k
      · subst c2
        rw [t1, decide_eq_true (by omega), decide_eq_true (by omega)]; rfl
      · rw [decide_eq_false (by omega), decide_eq_false (by omega), Bool.false_and]
  have hd := Nat.div_add_mod (wu x) (2 ^ (k + 1))
  rw [hr] at hd
  have hp : 0 < 2 ^ k := Nat.two_pow_pos k
  have hlt : 2 ^ k - 1 < 2 ^ (k + 1) := by
    have : 2 ^ (k + 1) = 2 ^ k * 2 := rfl
    omega
  have hlt2 : 2 ^ k < 2 ^ (k + 1) := by
    have : 2 ^ (k + 1) = 2 ^ k * 2 := rfl
    omega
  have hx1 : wu (x - 1) = 2 ^ (k + 1) * (wu x / 2 ^ (k + 1)) + (2 ^ k - 1) := by
    have e : x = nI (wu x - 1) + 1 := by
      rw [nI_1, show wu x - 1 + 1 = wu x by omega, nI_wu]
    have e2 : x - 1 = nI (wu x - 1) := by
      rw [e, Int32.add_sub_cancel, ← e]
    rw [e2, wu_nI, Nat.mod_eq_of_lt (by omega)]
    omega
  have hk2 : 2 ^ k ≤ 2 ^ 15 := Nat.pow_le_pow_right (by omega) (by omega)
  apply i32_ext
  intro u hu
  rw [bt_and2, bt_tb (x - 1), hx1, Nat.testBit_two_pow_mul_add _ hlt, bt_tb (nI _), wu_nI, Nat.mod_eq_of_lt (by omega), Nat.testBit_two_pow_sub_one]
  by_cases c32 : u ≤ 32
  · rw [bt_not c32 hu, bt_tb x]
    by_cases c1 : u - 1 < k
    · rw [t0 _ c1, if_pos (by omega), decide_eq_true c1]; rfl
    · rw [decide_eq_false c1]
      by_cases c2 : u - 1 < k + 1
      · rw [if_pos c2, Bool.and_false]
      · rw [if_neg c2]
        have : (wu x).testBit (u - 1) = (wu x / 2 ^ (k + 1)).testBit (u - 1 - (k + 1)) := by
          conv => lhs; rw [← hd, Nat.testBit_two_pow_mul_add _ hlt2, if_neg c2]
        rw [this]
        cases (wu x / 2 ^ (k + 1)).testBit (u - 1 - (k + 1)) <;> rfl
  · rw [bt_big (by omega), Bool.false_and, decide_eq_false (by omega)]
/-- Trail.leastOf -/
theorem m113 {h : pb_H} {Q : Option Value → pb_H → Prop} {x : Int32} {v : Nat} (v1 : 1 ≤ v) (v2 : v ≤ 16) (h1 : bt x v = true) (h0 : ∀ u, 1 ≤ u → u < v → bt x u = false) : pb_call 113 [.int x] h Q ↔ Q (some (.int (nI v))) h := by
  obtain ⟨k, rfl⟩ : ∃ k, v = k + 1 := ⟨v - 1, by omega⟩
  have hz := tz_bits (x := x) (k := k) (by omega) h1 (fun j hj => h0 (j + 1) (by omega) (by omega))
  have h112 : ∀ Q : Option Value → pb_H → Prop, pb_call 112 [.int x] h Q ↔ Q (some (.int (nI k))) h := fun Q => by
    have q := m112_k (h := h) (Q := Q) (l1 := none) (by omega : k < 16)
    rw [pb_c112, ← q]
    simp only [pb_e112, hz]
  rw [pb_c113]
  simp only [pb_e113, h112, Option.toList_some, List.singleton_append, nI_1]
set_option maxRecDepth 100000 in
theorem lit_dec : ∀ v : Nat, v < 17 → 1 ≤ v → (0 : Int32) ≤ Int32.ofInt (v : Int) ∧ Int32.ofInt (v : Int) = nI v ∧ ¬ (0 : Int32) ≤ Int32.ofInt (-(v : Int)) ∧ (0 : Int32) - Int32.ofInt (-(v : Int)) = nI v ∧ ¬ Int32.ofInt (v : Int) ≤ 0 ∧ Int32.ofInt (-(v : Int)) ≤ 0 ∧ Int32.ofInt (-(v : Int)) = - nI v := by decide
/-- a LITERAL as an int -/
def lI (z : Int) : Int32 := Int32.ofInt z
theorem lI_cases {z : Int} (h1 : 1 ≤ z.natAbs) (h2 : z.natAbs ≤ 16) : (0 < z ∧ z = (z.natAbs : Int)) ∨ (z < 0 ∧ z = -(z.natAbs : Int)) := by omega
theorem lI_pos {z : Int} (h1 : 1 ≤ z.natAbs) (h2 : z.natAbs ≤ 16) : (lI z ≤ 0 ↔ ¬ 0 < z) ∧ (0 < z → lI z = nI z.natAbs) ∧ (z < 0 → lI z = - nI z.natAbs) := by
  have d := lit_dec z.natAbs (by omega) h1
  unfold lI
  rcases lI_cases h1 h2 with ⟨q, e⟩ | ⟨q, e⟩
  · rw [e]
    simp only [Int.natAbs_natCast]
    exact ⟨⟨fun w => absurd w d.2.2.2.2.1, fun w => absurd (by omega) w⟩, fun _ => d.2.1, fun w => by omega⟩
  · rw [e]
    simp only [Int.natAbs_neg, Int.natAbs_natCast]
    exact ⟨⟨fun _ => by omega, fun _ => d.2.2.2.2.2.1⟩, fun w => by omega, fun _ => d.2.2.2.2.2.2⟩
/-- Trail.bitOf -/
theorem m99 {h : pb_H} {Q : Option Value → pb_H → Prop} {z : Int} (h1 : 1 ≤ z.natAbs) (h2 : z.natAbs ≤ 16) : pb_call 99 [.int (lI z)] h Q ↔ Q (some (.int (bm z.natAbs))) h := by
  have d := lit_dec z.natAbs (by omega) h1
  have e : (if (0 : Int32) ≤ lI z then lI z else 0 - lI z) = nI z.natAbs := by
    unfold lI
    rcases lI_cases h1 h2 with ⟨q, e⟩ | ⟨q, e⟩
    · rw [e]
      simp only [Int.natAbs_natCast]
      rw [if_pos d.1]; exact d.2.1
    · rw [e]
      simp only [Int.natAbs_neg, Int.natAbs_natCast]
      rw [if_neg d.2.2.1]; exact d.2.2.2.1
  rw [pb_c99]
  simp only [pb_e99, e]
  rfl
