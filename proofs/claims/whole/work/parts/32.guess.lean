/-! Divider.guess. -/
theorem lN_ushr1 {n : Nat} (h : n < 18446744073709551616) : ((lN n).toUInt64 >>> ((1 : Int32).toInt64.toUInt64 &&& Int64.toUInt64 63)).toInt64 = lN (n / 2) := by
  apply l64_eq
  rw [lN_nat]
  show ((lN n).toUInt64 >>> (1 : UInt64)).toBitVec.toNat = _
  rw [UInt64.toBitVec_shiftRight]
  show ((lN n).toBitVec >>> (1 : Nat)).toNat = _
  rw [BitVec.toNat_ushiftRight, lN_nat, Nat.mod_eq_of_lt h, Nat.shiftRight_eq_div_pow]
  omega
theorem lN_shl1 (n : Nat) : lN n <<< ((1 : Int32).toInt64 &&& 63) = lN (n * 2) := lN_shl (s := 1) (by omega)
theorem lN_or {x y : Nat} (hx : x < 4294967296) (hy : y < 4294967296) : lN (x * 4294967296) ||| lN y = lN (x * 4294967296 + y) := by
  apply l64_eq
  rw [Int64.toBitVec_or, BitVec.toNat_or, lN_nat, lN_nat, lN_nat, Nat.mod_eq_of_lt (by omega), Nat.mod_eq_of_lt (by omega), Nat.mod_eq_of_lt (by omega)]
  have h1 : x * 4294967296 = 2 ^ 32 * x := by omega
  rw [h1, Nat.two_pow_add_eq_or_of_lt (i := 32) hy]
theorem xor63 {a : Nat} (h : a < 9223372036854775808) : 9223372036854775808 ^^^ a = 9223372036854775808 + a := by
  have h1 : 9223372036854775808 + a = 2 ^ 63 * 1 ||| a := Nat.two_pow_add_eq_or_of_lt (i := 63) h 1
  rw [h1]
  apply Nat.eq_of_testBit_eq
  intro i
  rw [Nat.testBit_xor, Nat.testBit_or, Nat.mul_one, show (9223372036854775808 : Nat) = 2 ^ 63 from rfl]
  by_cases hi : i = 63
  · subst hi
    rw [Nat.testBit_lt_two_pow (x := a) (i := 63) h]
    simp
  · rw [Nat.testBit_two_pow_of_ne (fun e => hi e.symm)]
    simp
theorem xsign {x y : Nat} (hx : x < 18446744073709551616) (hy : y < 18446744073709551616) : 0 < lg_cmp (lN x ^^^ -9223372036854775808) (lN y ^^^ -9223372036854775808) ↔ y < x := by
  have key : ∀ {z : Nat}, z < 18446744073709551616 → (lN z ^^^ -9223372036854775808).toInt = (z : Int) - 9223372036854775808 := by
    intro z hz
    have e0 : (lN z ^^^ -9223372036854775808).toBitVec.toNat = z ^^^ 9223372036854775808 := by
      rw [Int64.toBitVec_xor, BitVec.toNat_xor, lN_nat, Nat.mod_eq_of_lt hz]
      rfl
    show (lN z ^^^ -9223372036854775808).toBitVec.toInt = _
    rw [BitVec.toInt_eq_toNat_cond, e0]
    by_cases c : z < 9223372036854775808
    · rw [Nat.xor_comm, xor63 c, if_neg (by omega)]
      omega
    · obtain ⟨a, ha, rfl⟩ : ∃ a, a < 9223372036854775808 ∧ z = 9223372036854775808 + a := ⟨z - 9223372036854775808, by omega, by omega⟩
      rw [← xor63 ha, Nat.xor_comm 9223372036854775808 a, Nat.xor_assoc, Nat.xor_self, Nat.xor_zero, if_pos (by omega), Nat.xor_comm, xor63 ha]
      omega
  have h1 := key hx
  have h2 := key hy
  unfold lg_cmp
  by_cases c1 : y < x
  · rw [if_pos (by rw [gt_iff_lt, Int64.lt_iff_toInt_lt, h1, h2]; omega)]
    exact ⟨fun _ => c1, fun _ => by decide⟩
  · rw [if_neg (by rw [gt_iff_lt, Int64.lt_iff_toInt_lt, h1, h2]; omega)]
    by_cases c2 : x = y
    · rw [if_pos (by rw [c2])]
      exact ⟨fun q => absurd q (by decide), fun q => absurd q c1⟩
    · rw [if_neg (fun q => c2 (by rw [q, h2] at h1; omega))]
      exact ⟨fun q => absurd q (by decide), fun q => absurd q c1⟩
/-- down to a quotient's word that three words do not rule out -/
def gst (high next below : Nat) : Nat → Nat → Nat → Nat
  | 0, word, _ => word
  | k + 1, word, over => if 4294967295 < over then word else if 4294967295 < word then gst high next below k (word - 1) (over + high) else if over * 4294967296 + below < word * next then gst high next below k (word - 1) (over + high) else word
theorem lcm_gt {x y : Nat} (hx : x < 9223372036854775808) (hy : y < 9223372036854775808) : 0 < lg_cmp (lN x) (lN y) ↔ y < x := by
  unfold lg_cmp
  by_cases c1 : y < x
  · rw [if_pos ((pk_lLT hy hx).mpr c1)]
    exact ⟨fun _ => c1, fun _ => by decide⟩
  · rw [if_neg (fun q => c1 ((pk_lLT hy hx).mp q))]
    split
    · exact ⟨fun q => absurd q (by decide), fun q => absurd q c1⟩
    · exact ⟨fun q => absurd q (by decide), fun q => absurd q c1⟩
theorem lcm_lt {x y : Nat} (hx : x < 9223372036854775808) (hy : y < 9223372036854775808) : lg_cmp (lN x) (lN y) < 0 ↔ x < y := by
  unfold lg_cmp
  by_cases c1 : y < x
  · rw [if_pos ((pk_lLT hy hx).mpr c1)]
    exact ⟨fun q => absurd q (by decide), fun q => by omega⟩
  · rw [if_neg (fun q => c1 ((pk_lLT hy hx).mp q))]
    by_cases c2 : x = y
    · rw [if_pos (by rw [c2])]
      exact ⟨fun q => absurd q (by decide), fun q => by omega⟩
    · rw [if_neg (fun q => c2 ((pk_lEQ hx hy).mp q))]
      exact ⟨fun _ => by omega, fun _ => by decide⟩
theorem m33_loop {h : pb_H} {Q : Option Value → pb_H → Prop} {high next below : Nat} {l0 l1 : Option Value} {two : Int64} (hh : high < 4294967296) (hnx : next < 4294967296) (hbl : below < 4294967296) :
    ∀ (k i word over : Nat), i + k = 3 → word < 17179869184 → over < 4294967296 * (i + 1) → (pb_R 33 168 [l0, l1, none, none, none, none, none, none, none, none, none, none, none, none, some (.int (nI i))] [none, none, some (lN high), none, some (lN next), none, some (lN below), none, some two, none, some (lN word), none, some (lN over), none, none] [] h Q ↔ Q (some (.long (lN (gst high next below k word over)))) h) := by
  intro k
  induction k with
  | zero =>
    intro i word over hi _ _
    obtain rfl : i = 3 := by omega
    rw [pb_q33_168]
    simp only [pb_e33, show (3 : Int32) = nI 3 from rfl, if_pos (Int32.le_refl (nI 3))]
    rfl
  | succ k ih =>
    intro i word over hi hw ho
    have ho2 : over < 17179869184 := by
      have : i ≤ 3 := by omega
      have : 4294967296 * (i + 1) ≤ 4294967296 * 4 := Nat.mul_le_mul_left _ (by omega)
      omega
    have g1 : 0 < lg_cmp (lN over) 4294967295 ↔ 4294967295 < over := lcm_gt (y := 4294967295) (by omega) (by omega)
    have g2 : 0 < lg_cmp (lN word) 4294967295 ↔ 4294967295 < word := lcm_gt (y := 4294967295) (by omega) (by omega)
    rw [pb_q33_168]
    unfold gst
    by_cases c1 : 4294967295 < over
    · simp only [pb_e33, show (3 : Int32) = nI 3 from rfl, if_neg (nI_ge (a := i) (b := 3) (by omega) (by omega)), g1, if_pos c1]
    · have hnext : ∀ X, (4294967295 < word ∨ over * 4294967296 + below < word * next) → (pb_R 33 168 [l0, l1, none, none, none, none, none, none, none, none, none, none, none, none, some (.int (nI (i + 1)))] [none, none, some (lN high), none, some (lN next), none, some (lN below), none, some two, none, some (lN (word - 1)), none, some (lN (over + high)), none, none] [] h Q ↔ X) → (pb_R 33 168 [l0, l1, none, none, none, none, none, none, none, none, none, none, none, none, some (.int (nI (i + 1)))] [none, none, some (lN high), none, some (lN next), none, some (lN below), none, some two, none, some (lN (word - 1)), none, some (lN (over + high)), none, none] [] h Q ↔ X) := fun _ _ q => q
      by_cases c2 : 4294967295 < word
      · have es : lN word - 1 = lN (word - 1) := lN_sub (b := 1) (by omega)
        simp only [pb_e33, show (3 : Int32) = nI 3 from rfl, if_neg (nI_ge (a := i) (b := 3) (by omega) (by omega)), g1, if_neg c1, g2, if_pos c2, es, lN_add, nI_1]
        exact ih (i + 1) (word - 1) (over + high) (by omega) (by omega) (by omega)
      · have hp : word * next ≤ 18446744065119617025 := mul_bound (by omega) hnx
        have g3 := xsign (x := word * next) (y := over * 4294967296 + below) (by omega) (by omega)
        have eo : lN (over * 4294967296) ||| lN below = lN (over * 4294967296 + below) := lN_or (by omega) hbl
        by_cases c3 : over * 4294967296 + below < word * next
        · have hw1 : 1 ≤ word := by
            rcases Nat.eq_zero_or_pos word with e | e
            · rw [e, Nat.zero_mul] at c3; omega
            · exact e
          have es : lN word - 1 = lN (word - 1) := lN_sub (b := 1) hw1
          simp only [pb_e33, show (3 : Int32) = nI 3 from rfl, if_neg (nI_ge (a := i) (b := 3) (by omega) (by omega)), g1, if_neg c1, g2, if_neg c2, lN_mul, lN_shl32, eo, g3, if_pos c3, es, lN_add, nI_1]
          exact ih (i + 1) (word - 1) (over + high) (by omega) (by omega) (by omega)
        · simp only [pb_e33, show (3 : Int32) = nI 3 from rfl, if_neg (nI_ge (a := i) (b := 3) (by omega) (by omega)), g1, if_neg c1, g2, if_neg c2, lN_mul, lN_shl32, eo, g3, if_neg c3]
