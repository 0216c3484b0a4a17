/-! Words, and numbers made of words. -/
def wu (x : Int32) : Nat := x.toBitVec.toNat
theorem wu_lt (x : Int32) : wu x < 4294967296 := x.toBitVec.isLt
theorem wu_nI (n : Nat) : wu (nI n) = n % 4294967296 := by
  show (Int32.ofNat n).toBitVec.toNat = _
  rw [Int32.toBitVec_ofNat']
  simp
theorem wu_eq {x y : Int32} (h : wu x = wu y) : x = y := Int32.toBitVec_inj.mp (BitVec.eq_of_toNat_eq h)
theorem wu_zero : wu 0 = 0 := rfl
theorem nI_wu (x : Int32) : nI (wu x) = x := wu_eq (by rw [wu_nI, Nat.mod_eq_of_lt (wu_lt x)])
theorem lN_nat (n : Nat) : (lN n).toBitVec.toNat = n % 18446744073709551616 := by
  show (Int64.ofNat n).toBitVec.toNat = _
  rw [Int64.toBitVec_ofNat']
  simp
theorem l64_eq {x y : Int64} (h : x.toBitVec.toNat = y.toBitVec.toNat) : x = y := Int64.toBitVec_inj.mp (BitVec.eq_of_toNat_eq h)
theorem low_and (x : Int32) : x.toInt64 &&& 4294967295 = lN (wu x) := by
  apply l64_eq
  rw [lN_nat, Nat.mod_eq_of_lt (Nat.lt_trans (wu_lt x) (by decide)), Int64.toBitVec_and, BitVec.toNat_and]
  show (x.toInt64.toBitVec).toNat &&& (2 ^ 32 - 1) = _
  rw [Nat.and_two_pow_sub_one_eq_mod, Int32.toBitVec_toInt64, BitVec.toNat_signExtend]
  have h1 := wu_lt x
  unfold wu at h1 ⊢
  split
  · rw [BitVec.toNat_setWidth]
    omega
  · rw [BitVec.toNat_setWidth]
    omega
theorem lN_ushr32 {n : Nat} (h : n < 18446744073709551616) : ((lN n).toUInt64 >>> ((32 : Int32).toInt64.toUInt64 &&& Int64.toUInt64 63)).toInt64 = lN (n / 4294967296) := by
  apply l64_eq
  rw [lN_nat]
  show ((lN n).toUInt64 >>> (32 : UInt64)).toBitVec.toNat = _
  rw [UInt64.toBitVec_shiftRight]
  show ((lN n).toBitVec >>> (32 : Nat)).toNat = _
  rw [BitVec.toNat_ushiftRight, lN_nat, Nat.mod_eq_of_lt h, Nat.shiftRight_eq_div_pow]
  omega
theorem lN_i32 (n : Nat) : (lN n).toInt32 = nI n := lN_i n
/-- n words from place o on -/
def wv (f : Nat → Int32) (o : Nat) : Nat → Nat
  | 0 => 0
  | n + 1 => wv f o n + wu (f (o + n)) * 4294967296 ^ n
theorem wv_lt (f : Nat → Int32) (o : Nat) : ∀ n, wv f o n < 4294967296 ^ n
  | 0 => by show 0 < 1; omega
  | n + 1 => by
    have h1 := wv_lt f o n
    have h2 := wu_lt (f (o + n))
    show wv f o n + wu (f (o + n)) * 4294967296 ^ n < 4294967296 ^ (n + 1)
    rw [Nat.pow_succ]
    calc wv f o n + wu (f (o + n)) * 4294967296 ^ n < 4294967296 ^ n + wu (f (o + n)) * 4294967296 ^ n := by omega
      _ = (wu (f (o + n)) + 1) * 4294967296 ^ n := by rw [Nat.add_mul]; omega
      _ ≤ 4294967296 * 4294967296 ^ n := Nat.mul_le_mul_right _ (by omega)
      _ = 4294967296 ^ n * 4294967296 := Nat.mul_comm _ _
theorem wv_congr {f g : Nat → Int32} {o p : Nat} : ∀ {n : Nat}, (∀ i, i < n → f (o + i) = g (p + i)) → wv f o n = wv g p n
  | 0, _ => rfl
  | n + 1, h => by
    show wv f o n + _ = wv g p n + _
    rw [wv_congr (fun i hi => h i (by omega)), h n (by omega)]
theorem wv_zero {f : Nat → Int32} {o : Nat} : ∀ {n : Nat}, wv f o n = 0 → ∀ i, i < n → f (o + i) = 0
  | 0, _, i, hi => by omega
  | n + 1, h, i, hi => by
    have h' : wv f o n + wu (f (o + n)) * 4294967296 ^ n = 0 := h
    have hp : 0 < 4294967296 ^ n := Nat.pow_pos (by omega)
    have h1 : wv f o n = 0 := by omega
    have h2 : wu (f (o + n)) = 0 := by
      have : wu (f (o + n)) * 4294967296 ^ n = 0 := by omega
      rcases Nat.mul_eq_zero.mp this with h | h
      · exact h
      · omega
    by_cases hin : i = n
    · subst hin
      exact wu_eq (by rw [h2]; rfl)
    · exact wv_zero h1 i (by omega)
theorem wv_of_zero {f : Nat → Int32} {o : Nat} : ∀ {n : Nat}, (∀ i, i < n → f (o + i) = 0) → wv f o n = 0
  | 0, _ => rfl
  | n + 1, h => by
    show wv f o n + _ = 0
    rw [wv_of_zero (fun i hi => h i (by omega)), h n (by omega)]
    rw [wu_zero]
    omega
/-- the numbers of width k and more -/
theorem wv_cut {f : Nat → Int32} {o k : Nat} : ∀ {n : Nat}, k ≤ n → (∀ i, k ≤ i → i < n → f (o + i) = 0) → wv f o n = wv f o k
  | 0, hk, _ => by rw [show k = 0 by omega]
  | n + 1, hk, h => by
    by_cases hkn : k = n + 1
    · rw [hkn]
    · show wv f o n + _ = _
      rw [h n (by omega) (by omega), wu_zero, wv_cut (by omega) (fun i h1 h2 => h i h1 (by omega))]
      omega
theorem pb_ai_eq {k n j : Nat} {f : Nat → Int32} (hk : k = 0 ∨ k = 3) (hj : j < n) (hn : n < 2 ^ 31) : pb_ai (.inl (k, n, .inl f)) (nI j) = some (f j) := by
  unfold pb_ai
  dsimp only
  rw [if_pos ⟨hk, nI_in hj hn⟩, nI_clamp (by omega)]
theorem pb_si_eq {n j : Nat} {f : Nat → Int32} {x : Int32} (hj : j < n) (hn : n < 2 ^ 31) : pb_si (.inl (0, n, .inl f)) (nI j) x = some (.inl (0, n, .inl (upd f j x))) := by
  unfold pb_si
  dsimp only
  rw [if_pos ⟨rfl, nI_in hj hn⟩, nI_clamp (by omega)]
/-- how many words there are up to the highest that is not 0 -/
def wd (f : Nat → Int32) (o : Nat) : Nat → Nat
  | 0 => 0
  | n + 1 => if f (o + n) = 0 then wd f o n else n + 1
theorem wd_le (f : Nat → Int32) (o : Nat) : ∀ n, wd f o n ≤ n
  | 0 => Nat.le_refl _
  | n + 1 => by
    have := wd_le f o n
    unfold wd
    split <;> omega
theorem wd_top (f : Nat → Int32) (o : Nat) : ∀ n i, wd f o n ≤ i → i < n → f (o + i) = 0
  | 0, i, _, h => by omega
  | n + 1, i, h1, h2 => by
    unfold wd at h1
    split at h1
    · rename_i h0
      by_cases hi : i = n
      · rw [hi]; exact h0
      · exact wd_top f o n i h1 (by omega)
    · omega
theorem m4_loop {h : pb_H} {Q : Option Value → pb_H → Prop} {a n i : Nat} {f : Nat → Int32} (ha : h.2 a = .inl (0, n, .inl f)) (hn : n < 2 ^ 31) : ∀ w, i + w ≤ n → (pb_R 4 3 [some (.ref a), some (.int (nI i)), some (.int (nI w))] [] [] h Q ↔ Q (some (.int (nI (wd f i w)))) h) := by
  intro w
  induction w with
  | zero =>
    intro _
    rw [pb_q4_3]
    simp only [pb_e4, nI_0, if_pos (Int32.le_refl 0)]
    rfl
  | succ w ih =>
    intro hw
    rw [pb_q4_3]
    have e1 : nI i + nI (w + 1) - 1 = nI (i + w) := by rw [nI_add, show i + (w + 1) = (i + w) + 1 by omega, nI_pred]
    simp only [pb_e4, if_neg (nI_nle (n := w + 1) (by omega) (by omega)), ha, e1, pb_ai_eq (Or.inl rfl) (show i + w < n by omega) hn, pb_o_some, pk_m1]
    by_cases h0 : f (i + w) = 0
    · rw [if_neg (fun q => q h0), ih (by omega)]
      unfold wd
      rw [if_pos h0]
      cases w <;> rfl
    · rw [if_pos h0]
      unfold wd
      rw [if_neg h0]
