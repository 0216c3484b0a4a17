/-! take and split together: the quotient, and whether there is more. -/
def dvd (f0 g : Nat → Int32) : Nat → Int32 := (wsl f0 g 0 (dsh g) 8).1
theorem shl_top {t s : Nat} (hs : s < 32) (h : t * 2 ^ s < 4294967296) : (t + 1) * 2 ^ s ≤ 4294967296 := by
  have e : 4294967296 = 2 ^ (32 - s) * 2 ^ s := by rw [← Nat.pow_add, show 32 - s + s = 32 by omega]
  rw [e] at h ⊢
  exact Nat.mul_le_mul_right _ (Nat.succ_le_of_lt (Nat.lt_of_mul_lt_mul_right h))
theorem dv_norm {f0 g : Nat → Int32} (hG : wd g 0 8 ≠ 0) : wv (dvd f0 g) 0 (wd g 0 8) = wv g 0 8 * 2 ^ dsh g ∧ 2147483648 ≤ ghi (dvd f0 g) (wd g 0 8) := by
  have hwle := wd_le g 0 8
  have hs := dsh_lt g
  have hne := wd_ne (f := g) (o := 0) 8 hG
  rw [Nat.zero_add] at hne
  obtain ⟨n1, n2, n3⟩ := nlz_spec hne
  have es : dsh g = nlz (g (wd g 0 8 - 1)) := by unfold dsh; rw [if_neg hG]
  rw [← es] at n1 n2 n3
  have hcut : wv g 0 8 = wv g 0 (wd g 0 8) := wv_cut hwle (fun k h1 h2 => wd_top g 0 8 k h1 h2)
  have hval := wsl_val f0 g 0 (dsh g) 8
  obtain ⟨w, hw⟩ : ∃ w, wd g 0 8 = w + 1 := ⟨wd g 0 8 - 1, by omega⟩
  rw [hw] at hcut hne n2 n3 hwle ⊢
  rw [Nat.add_sub_cancel] at hne n2 n3
  have hG2 : wv g 0 8 = wv g 0 w + wu (g w) * 4294967296 ^ w := by
    rw [hcut]
    show wv g 0 w + wu (g (0 + w)) * 4294967296 ^ w = _
    rw [Nat.zero_add]
  have hlow := wv_lt g 0 w
  have hP : 0 < 4294967296 ^ w := Nat.pow_pos (by omega)
  have h2s : 0 < 2 ^ dsh g := Nat.pow_pos (by omega)
  have ht := shl_top hs n3
  have hb : wv g 0 8 * 2 ^ dsh g < 4294967296 ^ (w + 1) := by
    have k1 : (wv g 0 8 + 1) * 2 ^ dsh g ≤ (wu (g w) + 1) * 4294967296 ^ w * 2 ^ dsh g := Nat.mul_le_mul_right _ (by rw [hG2, Nat.add_mul, Nat.one_mul]; omega)
    have k2 : (wu (g w) + 1) * 4294967296 ^ w * 2 ^ dsh g = (wu (g w) + 1) * 2 ^ dsh g * 4294967296 ^ w := by rw [Nat.mul_assoc, Nat.mul_comm (4294967296 ^ w), ← Nat.mul_assoc]
    have k3 : (wu (g w) + 1) * 2 ^ dsh g * 4294967296 ^ w ≤ 4294967296 * 4294967296 ^ w := Nat.mul_le_mul_right _ ht
    rw [Nat.pow_succ, Nat.mul_comm (4294967296 ^ w)]
    rw [Nat.add_mul, Nat.one_mul] at k1
    omega
  have hc0 : (wsl f0 g 0 (dsh g) 8).2 = 0 := by
    rcases Nat.eq_zero_or_pos (wsl f0 g 0 (dsh g) 8).2 with e | e
    · exact e
    · exfalso
      have k1 : 1 * 4294967296 ^ 8 ≤ (wsl f0 g 0 (dsh g) 8).2 * 4294967296 ^ 8 := Nat.mul_le_mul_right _ e
      have k2 : 4294967296 ^ (w + 1) ≤ 4294967296 ^ 8 := Nat.pow_le_pow_right (by omega) hwle
      generalize 4294967296 ^ 8 = Y at *
      omega
  have h8 : wv (dvd f0 g) 0 8 = wv g 0 8 * 2 ^ dsh g := by
    rw [hc0, Nat.zero_mul, Nat.add_zero] at hval
    exact hval
  have hWv : wv (dvd f0 g) 0 (w + 1) = wv g 0 8 * 2 ^ dsh g := by
    obtain ⟨c, hc⟩ : ∃ c, 8 = w + 1 + c := ⟨8 - (w + 1), by omega⟩
    have := (wv_high (l := dvd f0 g) (m := w + 1) (n := c) (by rw [← hc, h8]; exact hb)).2
    rw [← this, ← hc, h8]
  refine ⟨hWv, ?_⟩
  have hd : wv (dvd f0 g) 0 (w + 1) = wv (dvd f0 g) 0 w + ghi (dvd f0 g) (w + 1) * 4294967296 ^ w := by
    show wv (dvd f0 g) 0 w + wu (dvd f0 g (0 + w)) * 4294967296 ^ w = _
    rw [Nat.zero_add]
    rfl
  have hdl := wv_lt (dvd f0 g) 0 w
  apply Nat.le_of_lt_succ
  apply Nat.lt_of_mul_lt_mul_right (a := 4294967296 ^ w)
  have k1 : 2147483648 * 4294967296 ^ w ≤ wu (g w) * 2 ^ dsh g * 4294967296 ^ w := Nat.mul_le_mul_right _ n2
  have k2 : wu (g w) * 2 ^ dsh g * 4294967296 ^ w ≤ wv g 0 8 * 2 ^ dsh g := by
    rw [hG2, Nat.mul_assoc, Nat.mul_comm (2 ^ dsh g), ← Nat.mul_assoc]
    exact Nat.mul_le_mul_right _ (by omega)
  rw [Nat.succ_mul (ghi (dvd f0 g) (w + 1))]
  omega
/-- the quotient of what take took, and whether there is more -/
theorem div_means {f0 g f l0 q0 : Nat → Int32} {i : Nat} (hG : wd g 0 8 ≠ 0) :
    wv (spl (dvd f0 g) (wd g 0 8) (spc f i (wd g 0 8)) (spn l0 f i (dsh g)) (spz q0)).2 0 8 = wv f i 8 / wv g 0 8 ∧ (wv (spl (dvd f0 g) (wd g 0 8) (spc f i (wd g 0 8)) (spn l0 f i (dsh g)) (spz q0)).1 0 9 = 0 ↔ wv f i 8 % wv g 0 8 = 0) := by
  obtain ⟨n1, n2⟩ := dv_norm (f0 := f0) hG
  obtain ⟨s1, s2⟩ := spl_div (f := f) (l0 := l0) (q0 := q0) (i := i) (show 1 ≤ wd g 0 8 by omega) (wd_le g 0 8) n2 (dsh_lt g)
  have h2 : 0 < 2 ^ dsh g := Nat.pow_pos (by omega)
  rw [s1, s2, n1]
  constructor
  · exact Nat.mul_div_mul_right _ _ h2
  · rw [Nat.mul_mod_mul_right]
    constructor
    · intro e
      rcases Nat.mul_eq_zero.mp e with e | e
      · exact e
      · omega
    · intro e
      rw [e, Nat.zero_mul]
