/-! The reference's digit of a quotient -/
theorem kd1 {q dv u P lx dl X D : Nat} (hX : X = u * P + lx) (hD : D = dv * P + dl) (hlx : lx < P) (hdl : dl < P) (hb : 65536 ≤ dv) (hXD : X < 65536 * D) (h : q * dv ≤ u) : q ≤ X / D + 1 := by
  apply Decidable.byContradiction
  intro hn
  have hDpos : 0 < D := by
    rcases Nat.eq_zero_or_pos D with e | e
    · rw [e] at hXD; omega
    · exact e
  have hq : X / D + 2 ≤ q := by omega
  have hQ : X / D < 65536 := Nat.div_lt_of_lt_mul (by rw [Nat.mul_comm]; exact hXD)
  have h1 : X < (X / D + 1) * D := by rw [Nat.mul_comm]; exact Nat.lt_mul_div_succ X hDpos
  have h2 := Nat.mul_le_mul_right dv hq
  generalize X / D = Q at hQ h1 h2
  have h3 := Nat.mul_le_mul_right P (Nat.le_trans h2 h)
  rw [hD, Nat.mul_add] at h1
  have h4 : (Q + 1) * dl ≤ (Q + 1) * P := Nat.mul_le_mul_left _ (by omega)
  have h5 : (Q + 2) * dv * P = (Q + 1) * (dv * P) + dv * P := by rw [show Q + 2 = Q + 1 + 1 by omega, Nat.add_mul (Q + 1), Nat.one_mul, Nat.add_mul, Nat.mul_assoc]
  have h6 : (Q + 1) * P ≤ 65536 * P := Nat.mul_le_mul_right _ (by omega)
  have h7 : 65536 * P ≤ dv * P := Nat.mul_le_mul_right _ (by omega)
  omega
theorem kd2 {q dv u P lx dl X D : Nat} (hX : X = u * P + lx) (hD : D = dv * P + dl) (hlx : lx < P) (h : u < q * dv) : X / D < q := by
  apply Decidable.byContradiction
  intro hn
  have h1 : D * (X / D) ≤ X := Nat.mul_div_le X D
  have hq : q ≤ X / D := by omega
  generalize X / D = Q at h1 hq
  have h2 : q * dv ≤ Q * dv := Nat.mul_le_mul_right _ hq
  have h3 : Q * dv * P ≤ D * Q := by
    rw [hD, Nat.add_mul, Nat.mul_comm (dv * P), Nat.mul_assoc]
    exact Nat.le_add_right _ _
  have h4 : (u + 1) * P ≤ Q * dv * P := Nat.mul_le_mul_right _ (by omega)
  rw [Nat.add_mul, Nat.one_mul] at h4
  omega
theorem sbl16 {a x b : Nat} (ha : a < 65536) (hx : x ≤ 196608) (hb : b ≤ 1) : (lN a - lN x - lN b) &&& 65535 = lN ((a + 262144 - x - b) % 65536) ∧ (0 ≤ lg_cmp (lN a - lN x - lN b) 0 ↔ x + b ≤ a) := by
  have e1 : lN a - lN x - lN b = lJ ((a : Int) - x - b) := by rw [lN_lJ, lN_lJ, lN_lJ, lJ_sub, lJ_sub]
  rw [e1]
  constructor
  · have e2 : lJ ((a : Int) - x - b) &&& 65535 = lJ ((a : Int) - x - b + 18446744073709551616) &&& 65535 := by
      rw [← lJ_add, show lJ 18446744073709551616 = 0 by decide]
      simp
    have e3 : lJ ((a : Int) - x - b + 18446744073709551616) = lN (a + 18446744073709551616 - x - b) := by
      rw [lN_lJ]; congr 1; omega
    by_cases c : x + b ≤ a
    · rw [show lJ ((a : Int) - x - b) = lN (a - x - b) by rw [lN_lJ]; congr 1; omega, lN_low16 (by omega)]
      congr 1
      omega
    · rw [e2, e3, lN_low16 (by omega)]
      congr 1
      omega
  · rw [lg_cmp_ge, Int64.le_iff_toInt_le, lJ_toInt (by omega) (by omega)]
    show (0 : Int) ≤ _ ↔ _
    omega
section RD
variable {h : pb_H} {Q : Option Value → pb_H → Prop} {s : Nat → Int32} {L B : Nat → Nat} {n j : Nat}
/-- the guess -/
theorem R157_52 {top x2 b1 b2 Qt : Nat} (hs : h.2 65 = rm s) (h72 : h.2 72 = cA 22 L) (h73 : h.2 73 = cA 21 B) (hn2 : 2 ≤ n) (hn : n ≤ 20) (hj : j + n ≤ 21) (hb1 : B (n - 1) = b1) (hb2 : B (n - 2) = b2) (hx2 : L (j + n - 2) = x2) (hb1l : b1 < 65536) (hb2l : b2 < 65536) (hx2l : x2 < 65536) (hb1g : 32768 ≤ b1)
    (hk1 : ∀ q, q * (b1 * 65536 + b2) ≤ top * 65536 + x2 → q ≤ Qt + 1) (hk2 : ∀ q, top * 65536 + x2 < q * (b1 * 65536 + b2) → Qt < q) (hQt : Qt < 65536)
    (hE : ∀ q r, Qt ≤ q → q ≤ Qt + 1 → pb_R 157 127 [some (.ref 65), some (.int (nI j)), some (.int (nI n)), none, none, none, none, none, none, none, none, none, none, none, none, none, none, none] [none, none, none, some (lN top), none, some (lN q), none, some (lN r), none, none, none, none, none, none, none, none, none, none] [] h Q) :
    ∀ k q r, 65536 ≤ r + k * 32768 → q * b1 + r = top → Qt ≤ q → q ≤ 65537 → (65536 ≤ r → q ≤ 65536) → r < 131072 → pb_R 157 52 [some (.ref 65), some (.int (nI j)), some (.int (nI n)), none, none, none, none, none, none, none, none, none, none, none, none, none, none, none] [none, none, none, some (lN top), none, some (lN q), none, some (lN r), none, none, none, none, none, none, none, none, none, none] [] h Q := by
  have hA1 : pb_ai (cA 21 B) (nI n - 1) = some (nI b1) := by
    rw [show nI n - 1 = nI (n - 1) from pk_sub (a := n) (b := 1) (by omega), cA_get (by omega) (by omega), hb1]
  have hA2 : pb_ai (cA 21 B) (nI n - 2) = some (nI b2) := by
    rw [show nI n - 2 = nI (n - 2) from pk_sub (a := n) (b := 2) (by omega), cA_get (by omega) (by omega), hb2]
  have hA3 : pb_ai (cA 22 L) (nI (j + n) - 2) = some (nI x2) := by
    rw [show nI (j + n) - 2 = nI (j + n - 2) from pk_sub (a := j + n) (b := 2) (by omega), cA_get (by omega) (by omega), hx2]
  have l1 := nI_l (n := b1) (by omega)
  have l2 := nI_l (n := b2) (by omega)
  have l3 := nI_l (n := x2) (by omega)
  have k65 : (65536 : Int64) = lN 65536 := rfl
  have k11 : (1 : Int64) = lN 1 := rfl
  intro k
  induction k with
  | zero =>
    intro q r hk hqr hQq hq hrq hr
    have c1 : 0 ≤ lg_cmp (lN r) (lN 65536) ↔ 65536 ≤ r := by rw [lg_cmp_ge, pk_lLE (by omega) (by omega)]
    have c2 : 65536 ≤ r := by omega
    have hf := hE q r hQq (hk1 q (by
      have h1 : q * b2 ≤ 65536 * 65535 := Nat.mul_le_mul (hrq c2) (by omega)
      rw [Nat.mul_add, ← Nat.mul_assoc, ← hqr, Nat.add_mul]
      omega))
    simp only [pb_e157] at hf
    rw [pb_q157_52]
    simp only [pb_e157, k65, c1, c2, if_true]
    exact hf
  | succ k ih =>
    intro q r hk hqr hQq hq hrq hr
    have c1 : 0 ≤ lg_cmp (lN r) (lN 65536) ↔ 65536 ≤ r := by rw [lg_cmp_ge, pk_lLE (by omega) (by omega)]
    have c3 : 0 ≤ lg_cmp (lN q) (lN 65536) ↔ 65536 ≤ q := by rw [lg_cmp_ge, pk_lLE (by omega) (by omega)]
    have hqb : q * b2 ≤ 65537 * 65535 := Nat.mul_le_mul hq (by omega)
    have c4 : lg_cmp (lN (q * b2)) (lN (r * 65536 + x2)) ≤ 0 ↔ q * b2 ≤ r * 65536 + x2 := by rw [lg_cmp_le, pk_lLE (by omega) (by omega)]
    have eU : top * 65536 + x2 = q * b1 * 65536 + (r * 65536 + x2) := by rw [← hqr, Nat.add_mul]; omega
    have eM : q * (b1 * 65536 + b2) = q * b1 * 65536 + q * b2 := by rw [Nat.mul_add, ← Nat.mul_assoc]
    have hdec : Qt < q → r < 65536 → pb_R 157 52 [some (.ref 65), some (.int (nI j)), some (.int (nI n)), none, none, none, none, none, none, none, none, none, none, none, none, none, none, none] [none, none, none, some (lN top), none, some (lN (q - 1)), none, some (lN (r + b1)), none, none, none, none, none, none, none, none, none, none] [] h Q := by
      intro hlt hr2
      refine ih (q - 1) (r + b1) (by omega) ?_ (by omega) (by omega) (fun _ => by omega) ?_
      · obtain ⟨q', rfl⟩ : ∃ q', q = q' + 1 := ⟨q - 1, by omega⟩
        rw [Nat.add_sub_cancel]
        rw [Nat.add_mul, Nat.one_mul] at hqr
        omega
      · omega
    by_cases c2 : 65536 ≤ r
    · have hf := hE q r hQq (hk1 q (by
        have h1 : q * b2 ≤ 65536 * 65535 := Nat.mul_le_mul (hrq c2) (by omega)
        rw [eM, eU]
        omega))
      simp only [pb_e157] at hf
      rw [pb_q157_52]
      simp only [pb_e157, k65, c1, c2, if_true]
      exact hf
    · by_cases c5 : 65536 ≤ q
      · have hlt : Qt < q := by omega
        have ls := lN_sub (a := q) (b := 1) (by omega)
        rw [pb_q157_52]
        simp only [pb_e157, k65, k11, c1, c2, if_false, c3, c5, if_true, hs, h73, pb_gr, pb_o_some, true_and, hA1, l1, ls, lN_add]
        exact hdec hlt (by omega)
      · by_cases c6 : q * b2 ≤ r * 65536 + x2
        · have hf := hE q r hQq (hk1 q (by rw [eM, eU]; omega))
          simp only [pb_e157] at hf
          rw [pb_q157_52]
          simp only [pb_e157, k65, c1, c2, if_false, c3, c5, hs, h72, h73, pb_gr, pb_o_some, true_and, hA2, hA3, nI_add, l2, l3, lN_mul, lN_add, c4, c6, if_true]
          exact hf
        · have hlt : Qt < q := hk2 q (by rw [eM, eU]; omega)
          have ls := lN_sub (a := q) (b := 1) (by omega)
          rw [pb_q157_52]
          simp only [pb_e157, k65, k11, c1, c2, if_false, c3, c5, hs, h72, h73, pb_gr, pb_o_some, true_and, hA1, hA2, hA3, nI_add, l1, l2, l3, lN_mul, lN_add, c4, c6, ls]
          exact hdec hlt (by omega)
end RD
