/-! The reference's digit: taken off, and added back -/
section RE
variable {h : pb_H} {Q : Option Value → pb_H → Prop} {s : Nat → Int32} {L B : Nat → Nat} {n j : Nat}
theorem rn_un {W : Nat → Nat} {o i x : Nat} : rn (un W (o + i) x) o (i + 1) = rn W o i + x * 65536 ^ i := by
  show rn (un W (o + i) x) o i + un W (o + i) x (o + i) * 65536 ^ i = _
  rw [un_same, rn_congr (G := un W (o + i) _) (H := W) (fun j hj => un_ne _ (by omega))]
theorem R157_136 {q : Nat} {j3 j7 : Option Int64} (hs : h.2 65 = rm s) (h73 : h.2 73 = cA 21 B) (hB : RB B) (hn : n ≤ 20) (hj : j + n ≤ 21) (hq : q ≤ 65536)
    (hE : ∀ L' c b l13 j14 j16, RB L' → c ≤ q → b ≤ 1 → bo j n L L' → rn L' j n + q * rn B 0 n = rn L j n + (c + b) * 65536 ^ n → pb_R 157 223 [some (.ref 65), some (.int (nI j)), some (.int (nI n)), none, none, none, none, none, none, none, none, none, none, l13, none, none, none, none] [none, none, none, j3, none, some (lN q), none, j7, none, some (lN c), none, some (lN b), none, none, j14, none, j16, none] [] (pb_set h 72 (cA 22 L')) Q) :
    ∀ r i L' c b j14 j16, i + r = n → RB L' → c ≤ q → b ≤ 1 → bo j i L L' → rn L' j i + q * rn B 0 i = rn L j i + (c + b) * 65536 ^ i → pb_R 157 136 [some (.ref 65), some (.int (nI j)), some (.int (nI n)), none, none, none, none, none, none, none, none, none, none, some (.int (nI i)), none, none, none, none] [none, none, none, j3, none, some (lN q), none, j7, none, some (lN c), none, some (lN b), none, none, j14, none, j16, none] [] (pb_set h 72 (cA 22 L')) Q := by
  have hs' : ∀ c, (pb_set h 72 c).2 65 = rm s := fun c => by rw [pb_set_get, if_neg (by omega), hs]
  have hb' : ∀ c, (pb_set h 72 c).2 73 = cA 21 B := fun c => by rw [pb_set_get, if_neg (by omega), h73]
  have hg' : ∀ c, (pb_set h 72 c).2 72 = c := fun c => by rw [pb_set_get, if_pos rfl]
  intro r
  induction r with
  | zero =>
    intro i L' c b j14 j16 hi hL' hc hb hbo hv
    obtain rfl : i = n := by omega
    have hf := hE L' c b (some (.int (nI i))) j14 j16 hL' hc hb hbo hv
    simp only [pb_e157, hs', pb_gr, pb_o_some, true_and] at hf
    rw [pb_q157_136]
    simp only [pb_e157, Int32.le_refl, if_true, hs', pb_gr, pb_o_some, true_and]
    exact hf
  | succ r ih =>
    intro i L' c b j14 j16 hi hL' hc hb hbo hv
    have c1 : ¬ nI n ≤ nI i := nI_ge (by omega) (by omega)
    have hA1 := cA_get (n := 21) (G := B) (j := i) (by omega) (by omega)
    have hA2 : pb_ai (cA 22 L') (nI (i + j)) = some (nI (L' (j + i))) := by rw [Nat.add_comm i j]; exact cA_get (by omega) (by omega)
    have hS : ∀ x, pb_si (cA 22 L') (nI (i + j)) (nI x) = some (cA 22 (un L' (j + i) x)) := fun x => by rw [Nat.add_comm i j]; exact cA_set (by omega) (by omega)
    have b1 := hB i
    have b2 := hL' (j + i)
    have l1 := nI_l (n := B i) (by omega)
    have l2 := nI_l (n := L' (j + i)) (by omega)
    have hm : q * B i ≤ 65536 * 65535 := Nat.mul_le_mul hq (by omega)
    have hm2 : q * B i ≤ q * 65535 := Nat.mul_le_mul_left _ (by omega)
    have k1 := lN_sar16 (m := q * B i + c) (by omega)
    have k2 := lN_low16 (m := q * B i + c) (by omega)
    have hmod : (q * B i + c) % 65536 < 65536 := Nat.mod_lt _ (by omega)
    obtain ⟨k3, k4⟩ := sbl16 (a := L' (j + i)) (x := (q * B i + c) % 65536) (b := b) b2 (by omega) hb
    have hx : L' (j + i) = L (j + i) := hbo _ (by omega)
    have hc' : (q * B i + c) / 65536 ≤ q := by omega
    generalize hz : q * B i + c = z at *
    have hfin : ∀ b', b' ≤ 1 → (L' (j + i) + 262144 - z % 65536 - b) % 65536 + z % 65536 + b = L' (j + i) + b' * 65536 → ∀ j14 j16, pb_R 157 136 [some (.ref 65), some (.int (nI j)), some (.int (nI n)), none, none, none, none, none, none, none, none, none, none, some (.int (nI (i + 1))), none, none, none, none] [none, none, none, j3, none, some (lN q), none, j7, none, some (lN (z / 65536)), none, some (lN b'), none, none, j14, none, j16, none] [] (pb_set h 72 (cA 22 (un L' (j + i) ((L' (j + i) + 262144 - z % 65536 - b) % 65536)))) Q := by
      intro b' hb' hcc j14 j16
      refine ih (i + 1) _ _ b' j14 j16 (by omega) (RB_un hL' (Nat.mod_lt _ (by omega))) hc' hb' (fun k hk => by rw [un_ne _ (by omega)]; exact hbo k (by omega)) ?_
      generalize (L' (j + i) + 262144 - z % 65536 - b) % 65536 = y at *
      have e2 : rn L j (i + 1) = rn L j i + L (j + i) * 65536 ^ i := rfl
      have e3 : rn B 0 (i + 1) = rn B 0 i + B i * 65536 ^ i := by
        show rn B 0 i + B (0 + i) * 65536 ^ i = _
        rw [Nat.zero_add]
      rw [rn_un, e2, e3, Nat.pow_succ, Nat.mul_add, ← Nat.mul_assoc q]
      rw [hx] at hcc
      generalize 65536 ^ i = P at *
      have e4 : y * P + q * B i * P + (c + b) * P = L (j + i) * P + (z / 65536 + b') * (P * 65536) := by
        rw [Nat.mul_comm P 65536, ← Nat.mul_assoc, ← Nat.add_mul, ← Nat.add_mul, ← Nat.add_mul]
        congr 1
        omega
      omega
    rw [pb_q157_136]
    by_cases cc : z % 65536 + b ≤ L' (j + i)
    · have hf := hfin 0 (by omega) (by omega)
      have : (0 : Int64) = lN 0 := rfl
      simp only [pb_e157, c1, if_false, hs', hb', hg', pb_gr, pb_o_some, true_and, hA1, nI_add, hA2, l1, l2, lN_mul, lN_add, hz, k1, k2, k3, k4, cc, if_true, lN_i32, hS, pb_set_same, nI_1]
      exact hf _ _
    · have hf := hfin 1 (by omega) (by omega)
      simp only [pb_e157, c1, if_false, hs', hb', hg', pb_gr, pb_o_some, true_and, hA1, nI_add, hA2, l1, l2, lN_mul, lN_add, hz, k1, k2, k3, k4, cc, lN_i32, hS, pb_set_same, nI_1]
      exact hf _ _
theorem R157_274 {j3 j5 j7 j9 j11 j13 : Option Int64} (hs : h.2 65 = rm s) (h73 : h.2 73 = cA 21 B) (hB : RB B) (hn : n ≤ 20) (hj : j + n ≤ 21)
    (hE : ∀ L' c l16 l17, RB L' → c ≤ 1 → bo j n L L' → rn L' j n + c * 65536 ^ n = rn L j n + rn B 0 n → pb_R 157 329 [some (.ref 65), some (.int (nI j)), some (.int (nI n)), none, none, none, none, none, none, none, none, none, none, none, none, some (.int (nI c)), l16, l17] [none, none, none, j3, none, j5, none, j7, none, j9, none, j11, none, j13, none, none, none, none] [] (pb_set h 72 (cA 22 L')) Q) :
    ∀ r i L' c l17, i + r = n → RB L' → c ≤ 1 → bo j i L L' → rn L' j i + c * 65536 ^ i = rn L j i + rn B 0 i → pb_R 157 274 [some (.ref 65), some (.int (nI j)), some (.int (nI n)), none, none, none, none, none, none, none, none, none, none, none, none, some (.int (nI c)), some (.int (nI i)), l17] [none, none, none, j3, none, j5, none, j7, none, j9, none, j11, none, j13, none, none, none, none] [] (pb_set h 72 (cA 22 L')) Q := by
  have hs' : ∀ c, (pb_set h 72 c).2 65 = rm s := fun c => by rw [pb_set_get, if_neg (by omega), hs]
  have hb' : ∀ c, (pb_set h 72 c).2 73 = cA 21 B := fun c => by rw [pb_set_get, if_neg (by omega), h73]
  have hg' : ∀ c, (pb_set h 72 c).2 72 = c := fun c => by rw [pb_set_get, if_pos rfl]
  intro r
  induction r with
  | zero =>
    intro i L' c l17 hi hL' hc hbo hv
    obtain rfl : i = n := by omega
    have hf := hE L' c (some (.int (nI i))) l17 hL' hc hbo hv
    simp only [pb_e157, hs', pb_gr, pb_o_some, true_and] at hf
    rw [pb_q157_274]
    simp only [pb_e157, Int32.le_refl, if_true, hs', pb_gr, pb_o_some, true_and]
    exact hf
  | succ r ih =>
    intro i L' c l17 hi hL' hc hbo hv
    have c1 : ¬ nI n ≤ nI i := nI_ge (by omega) (by omega)
    have hA1 := cA_get (n := 21) (G := B) (j := i) (by omega) (by omega)
    have hA2 : pb_ai (cA 22 L') (nI (i + j)) = some (nI (L' (j + i))) := by rw [Nat.add_comm i j]; exact cA_get (by omega) (by omega)
    have hS : ∀ x, pb_si (cA 22 L') (nI (i + j)) (nI x) = some (cA 22 (un L' (j + i) x)) := fun x => by rw [Nat.add_comm i j]; exact cA_set (by omega) (by omega)
    have b1 := hB i
    have b2 := hL' (j + i)
    have k1 := an16 (n := L' (j + i) + B i + c) (by omega)
    have k2 := sh16 (n := L' (j + i) + B i + c) (by omega)
    have hx : L' (j + i) = L (j + i) := hbo _ (by omega)
    rw [pb_q157_274]
    simp only [pb_e157, c1, if_false, hs', hb', hg', pb_gr, pb_o_some, true_and, hA1, nI_add, hA2, k1, k2, hS, pb_set_same, nI_1]
    refine ih (i + 1) _ _ _ (by omega) (RB_un hL' (Nat.mod_lt _ (by omega))) (by omega) (fun k hk => by rw [un_ne _ (by omega)]; exact hbo k (by omega)) ?_
    have e2 : rn L j (i + 1) = rn L j i + L (j + i) * 65536 ^ i := rfl
    have e3 : rn B 0 (i + 1) = rn B 0 i + B i * 65536 ^ i := by
      show rn B 0 i + B (0 + i) * 65536 ^ i = _
      rw [Nat.zero_add]
    rw [rn_un, e2, e3, Nat.pow_succ, hx]
    generalize 65536 ^ i = P at *
    have e4 : (L (j + i) + B i + c) % 65536 * P + (L (j + i) + B i + c) / 65536 * (P * 65536) = L (j + i) * P + B i * P + c * P := by
      rw [← Nat.add_mul, ← Nat.add_mul, Nat.mul_comm P 65536, ← Nat.mul_assoc, ← Nat.add_mul]
      congr 1
      omega
    omega
end RE
