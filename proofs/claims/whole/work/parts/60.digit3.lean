/-! The reference's digit: whole -/
theorem kd_fin {X D q cb T R P rl : Nat} (hDp : 0 < D) (hR : R < P) (hD : D < P) (hq1 : X / D ≤ q) (hq2 : q ≤ X / D + 1) (hv : R + q * D = rl + cb * P) (hX : X = rl + T * P) : (cb ≤ T → q = X / D ∧ T = cb ∧ R = X % D) ∧ (T < cb → q = X / D + 1 ∧ cb = T + 1 ∧ R + D = X % D + P) := by
  have h1 := Nat.div_add_mod X D
  have h2 := Nat.mod_lt X hDp
  have h3 : q = X / D ∨ q = X / D + 1 := by omega
  rw [Nat.mul_comm] at h1
  generalize X / D = Qt at *
  generalize X % D = M at *
  constructor
  · intro hc
    obtain ⟨d, rfl⟩ : ∃ d, T = cb + d := ⟨T - cb, by omega⟩
    rw [Nat.add_mul] at hX
    rcases h3 with rfl | rfl
    · have hd : d * P < P := by omega
      have hd0 : d = 0 := by
        rcases Nat.eq_zero_or_pos d with q | q
        · exact q
        · have := Nat.mul_le_mul_right P q
          omega
      subst hd0
      rw [Nat.zero_mul] at hX
      exact ⟨rfl, rfl, by omega⟩
    · rw [Nat.add_mul, Nat.one_mul] at hv
      omega
  · intro hc
    obtain ⟨d, rfl⟩ : ∃ d, cb = T + d := ⟨cb - T, by omega⟩
    rw [Nat.add_mul] at hv
    have hd1 : P ≤ d * P := by
      have := Nat.mul_le_mul_right P (show 1 ≤ d by omega)
      omega
    rcases h3 with rfl | rfl
    · omega
    · rw [Nat.add_mul, Nat.one_mul] at hv
      have hd2 : d * P < 2 * P := by omega
      have : d < 2 := Nat.lt_of_mul_lt_mul_right hd2
      have hd : d = 1 := by omega
      subst hd
      refine ⟨rfl, rfl, by omega⟩
theorem kd_alg {u P x rl b : Nat} : u * (P * b) + (rl + x * P) = (u * b + x) * P + rl := by
  rw [Nat.add_mul, Nat.mul_comm P b, ← Nat.mul_assoc]
  omega
/-- the quotient's digit at j: the rest stays in its place -/
theorem R157 {h : pb_H} {Q : Option Value → pb_H → Prop} {s : Nat → Int32} {L B : Nat → Nat} {n j : Nat} (hs : h.2 65 = rm s) (h72 : h.2 72 = cA 22 L) (h73 : h.2 73 = cA 21 B) (hL : RB L) (hB : RB B) (hn2 : 2 ≤ n) (hn : n ≤ 20) (hj : j + n ≤ 21) (hb1g : 32768 ≤ B (n - 1)) (hXD : rn L j (n + 1) < 65536 * rn B 0 n)
    (hQ : ∀ L', RB L' → bo j (n + 1) L L' → rn L' j (n + 1) = rn L j (n + 1) % rn B 0 n → Q (some (.int (nI (rn L j (n + 1) / rn B 0 n)))) (pb_set h 72 (cA 22 L'))) : pb_call 157 [.ref 65, .int (nI j), .int (nI n)] h Q := by
  obtain ⟨k, rfl⟩ : ∃ k, n = k + 2 := ⟨n - 2, by omega⟩
  rw [show k + 2 - 1 = k + 1 by omega] at hb1g
  have b1l := hB (k + 1)
  have b2l := hB k
  have t1l := hL (j + (k + 2))
  have t2l := hL (j + (k + 1))
  have x2l := hL (j + k)
  have eX1 : rn L j (k + 2 + 1) = (L (j + (k + 2)) * 65536 + L (j + (k + 1))) * 65536 ^ (k + 1) + rn L j (k + 1) := by
    show rn L j (k + 1) + L (j + (k + 1)) * 65536 ^ (k + 1) + L (j + (k + 2)) * 65536 ^ (k + 2) = _
    rw [Nat.add_mul, show 65536 ^ (k + 2) = 65536 ^ (k + 1) * 65536 from Nat.pow_succ _ _, Nat.mul_comm (65536 ^ (k + 1)) 65536, ← Nat.mul_assoc]
    omega
  have eD1 : rn B 0 (k + 2) = B (k + 1) * 65536 ^ (k + 1) + rn B 0 (k + 1) := by
    show rn B 0 (k + 1) + B (0 + (k + 1)) * 65536 ^ (k + 1) = _
    rw [Nat.zero_add, Nat.add_comm]
  have eX2 : rn L j (k + 2 + 1) = ((L (j + (k + 2)) * 65536 + L (j + (k + 1))) * 65536 + L (j + k)) * 65536 ^ k + rn L j k := by
    rw [eX1]
    exact kd_alg
  have eD2 : rn B 0 (k + 2) = (B (k + 1) * 65536 + B k) * 65536 ^ k + rn B 0 k := by
    rw [eD1]
    show _ + (rn B 0 k + B (0 + k) * 65536 ^ k) = _
    rw [Nat.zero_add]
    exact kd_alg
  have hDp : 0 < rn B 0 (k + 2) := by
    rcases Nat.eq_zero_or_pos (rn B 0 (k + 2)) with e | e
    · rw [e] at hXD; omega
    · exact e
  have hDlt := rn_lt hB 0 (k + 2)
  have hlx := rn_lt hL j k
  have hlx1 := rn_lt hL j (k + 1)
  have hdl := rn_lt hB 0 k
  have hdl1 := rn_lt hB 0 (k + 1)
  have hQt : rn L j (k + 2 + 1) / rn B 0 (k + 2) < 65536 := Nat.div_lt_of_lt_mul (by rw [Nat.mul_comm]; exact hXD)
  have hk1 : ∀ q, q * (B (k + 1) * 65536 + B k) ≤ (L (j + (k + 2)) * 65536 + L (j + (k + 1))) * 65536 + L (j + k) → q ≤ rn L j (k + 2 + 1) / rn B 0 (k + 2) + 1 := fun q hq => kd1 eX2 eD2 hlx hdl (by omega) hXD hq
  have hk2 : ∀ q, (L (j + (k + 2)) * 65536 + L (j + (k + 1))) * 65536 + L (j + k) < q * (B (k + 1) * 65536 + B k) → rn L j (k + 2 + 1) / rn B 0 (k + 2) < q := fun q hq => kd2 eX2 eD2 hlx hq
  have htop : L (j + (k + 2)) * 65536 + L (j + (k + 1)) < 65538 * B (k + 1) := by
    have h1 : L (j + (k + 2)) ≤ B (k + 1) := by
      apply Decidable.byContradiction
      intro hc
      have h2 := Nat.mul_le_mul_right (65536 * 65536 ^ (k + 1)) (show B (k + 1) + 1 ≤ L (j + (k + 2)) by omega)
      rw [Nat.add_mul, Nat.one_mul] at h2
      rw [eX1, eD1, Nat.add_mul, Nat.mul_assoc, Nat.mul_add 65536, Nat.mul_left_comm 65536] at hXD
      generalize 65536 ^ (k + 1) = P at *
      omega
    omega
  obtain ⟨top, ht⟩ : ∃ t, L (j + (k + 2)) * 65536 + L (j + (k + 1)) = t := ⟨_, rfl⟩
  rw [ht] at eX1 eX2 hk1 hk2 htop
  have hq0 : rn L j (k + 2 + 1) / rn B 0 (k + 2) ≤ top / B (k + 1) := by
    apply Nat.le_of_lt_succ
    refine kd2 (u := top) (dv := B (k + 1)) eX1 eD1 hlx1 ?_
    rw [Nat.mul_comm]
    exact Nat.lt_mul_div_succ top (by omega)
  have hq0b : top / B (k + 1) ≤ 65537 := by
    apply Nat.le_of_lt_succ
    exact Nat.div_lt_of_lt_mul (by rw [Nat.mul_comm]; exact htop)
  have hA1 : pb_ai (cA 22 L) (nI (j + (k + 2))) = some (nI (L (j + (k + 2)))) := cA_get (by omega) (by omega)
  have hA2 : pb_ai (cA 22 L) (nI (j + (k + 2)) - 1) = some (nI (L (j + (k + 1)))) := by
    rw [show nI (j + (k + 2)) - 1 = nI (j + (k + 1)) from nI_pred (j + (k + 1))]
    exact cA_get (by omega) (by omega)
  have hA3 : pb_ai (cA 21 B) (nI (k + 2) - 1) = some (nI (B (k + 1))) := by
    rw [show nI (k + 2) - 1 = nI (k + 1) from nI_pred (k + 1)]
    exact cA_get (by omega) (by omega)
  have l1 := nI_l (n := L (j + (k + 2))) (by omega)
  have l2 := nI_l (n := L (j + (k + 1))) (by omega)
  have l3 := nI_l (n := B (k + 1)) (by omega)
  have k65 : (65536 : Int64) = lN 65536 := rfl
  have kd := pk_lDiv (a := top) (b := B (k + 1)) (by omega) (by omega) (by omega)
  have kr := pk_lRem (a := top) (b := B (k + 1)) (by omega) (by omega) (by omega)
  rw [kd, lN_mul] at kr
  have kz : ¬ lN (B (k + 1)) = 0 := fun e => by
    have : lN (B (k + 1)) = lN 0 := e
    rw [pk_lEQ (by omega) (by omega)] at this
    omega
  have hdm := Nat.div_add_mod top (B (k + 1))
  have hml := Nat.mod_lt top (show 0 < B (k + 1) by omega)
  rw [Nat.mul_comm] at hdm
  rw [pb_c157]
  simp only [pb_e157, hs, h72, h73, pb_gr, pb_o_some, true_and, nI_add, hA1, hA2, hA3, l1, l2, l3, k65, lN_mul, lN_add, ht, kz, not_false_eq_true, kd, kr]
  refine R157_52 (top := top) (x2 := L (j + k)) (b1 := B (k + 1)) (b2 := B k) hs h72 h73 hn2 hn hj (by congr 1) (by congr 1) (by congr 1) b1l b2l x2l hb1g hk1 hk2 hQt ?_ 2 _ _ (by omega) hdm hq0 hq0b (fun e => by omega) (by omega)
  intro q r hqa hqb
  simp only [pb_e157]
  have hbo0 : rn L j 0 + q * rn B 0 0 = rn L j 0 + (0 + 0) * 65536 ^ 0 := by
    show 0 + q * 0 = 0 + 0 * _
    rw [Nat.mul_zero, Nat.zero_mul]
  rw [← pb_set_id h h72]
  refine R157_136 (L := L) (j3 := some (lN top)) (j7 := some (lN r)) hs h73 hB hn hj (by omega) ?_ (k + 2) 0 L 0 0 none none (by omega) hL (by omega) (by omega) (fun _ _ => rfl) hbo0
  intro L1 c b l13 j14 j16 hL1 hc hb hbo hv
  have hs' : ∀ c, (pb_set h 72 c).2 65 = rm s := fun c => by rw [pb_set_get, if_neg (by omega), hs]
  have hg' : ∀ c, (pb_set h 72 c).2 72 = c := fun c => by rw [pb_set_get, if_pos rfl]
  have hT : L1 (j + (k + 2)) = L (j + (k + 2)) := hbo _ (by omega)
  have hB1 : pb_ai (cA 22 L1) (nI (j + (k + 2))) = some (nI (L (j + (k + 2)))) := by rw [cA_get (by omega) (by omega), hT]
  have hS1 : ∀ x, pb_si (cA 22 L1) (nI (j + (k + 2))) (nI x) = some (cA 22 (un L1 (j + (k + 2)) x)) := fun x => cA_set (by omega) (by omega)
  obtain ⟨k3, k4⟩ := sbl16 (a := L (j + (k + 2))) (x := c) (b := b) (by omega) (by omega) hb
  have hR := rn_lt hL1 j (k + 2)
  have hXd : rn L j (k + 2 + 1) = rn L j (k + 2) + L (j + (k + 2)) * 65536 ^ (k + 2) := rfl
  obtain ⟨f1, f2⟩ := kd_fin hDp hR hDlt hqa hqb hv hXd
  by_cases cc : c + b ≤ L (j + (k + 2))
  · obtain ⟨g1, g2, g3⟩ := f1 cc
    simp only [pb_e157, hs', hg', pb_gr, pb_o_some, true_and, nI_add, hB1, l1, k3, k4, cc, if_true, lN_i32, hS1, pb_set_same]
    have hz : (L (j + (k + 2)) + 262144 - c - b) % 65536 = 0 := by omega
    rw [hz, g1]
    refine hQ _ (RB_un hL1 (by omega)) (fun i hi => by rw [un_ne _ (by omega)]; exact hbo i (by omega)) ?_
    rw [rn_un, Nat.zero_mul, Nat.add_zero, g3]
  · obtain ⟨g1, g2, g3⟩ := f2 (by omega)
    have hz : (L (j + (k + 2)) + 262144 - c - b) % 65536 = 65535 := by omega
    have ls := lN_sub (a := q) (b := 1) (by rw [g1]; exact Nat.le_add_left 1 _)
    rw [show lN 1 = 1 from rfl] at ls
    simp only [pb_e157, hs', hg', pb_gr, pb_o_some, true_and, nI_add, hB1, l1, k3, k4, cc, if_false, lN_i32, hS1, pb_set_same, hz, ls]
    have hL2 : RB (un L1 (j + (k + 2)) 65535) := RB_un hL1 (by omega)
    have hR2 : rn (un L1 (j + (k + 2)) 65535) j (k + 2) = rn L1 j (k + 2) := rn_congr (fun i hi => un_ne _ (by omega))
    refine R157_274 (L := un L1 (j + (k + 2)) 65535) hs h73 hB hn hj ?_ (k + 2) 0 _ 0 _ (by omega) hL2 (by omega) (fun _ _ => rfl) (by show 0 + 0 * _ = 0 + 0; rw [Nat.zero_mul])
    intro L3 c3 l16 l17 hL3 hc3 hbo3 hv3
    rw [hR2] at hv3
    have hR3 := rn_lt hL3 j (k + 2)
    have hM := Nat.mod_lt (rn L j (k + 2 + 1)) hDp
    have hc1 : c3 = 1 := by
      rcases Nat.lt_or_ge c3 1 with e | e
      · have : c3 = 0 := by omega
        rw [this, Nat.zero_mul, Nat.add_zero] at hv3
        generalize 65536 ^ (k + 2) = P at *
        omega
      · omega
    subst hc1
    rw [Nat.one_mul] at hv3
    have hT3 : L3 (j + (k + 2)) = 65535 := by rw [hbo3 _ (by omega), un_same]
    have hB3 : pb_ai (cA 22 L3) (nI (j + (k + 2))) = some (nI 65535) := by rw [cA_get (by omega) (by omega), hT3]
    have hS3 := cA_set (n := 22) (G := L3) (j := j + (k + 2)) (x := 0) (by omega) (by omega)
    have ka : nI 65536 &&& 65535 = nI 0 := by decide
    simp only [pb_e157, hs', hg', pb_gr, pb_o_some, true_and, nI_add, hB3, ka, hS3, pb_set_same, lN_i32]
    rw [g1, Nat.add_sub_cancel]
    refine hQ _ (RB_un hL3 (by omega)) (fun i hi => by rw [un_ne _ (by omega), hbo3 i (by omega), un_ne _ (by omega)]; exact hbo i (by omega)) ?_
    rw [rn_un, Nat.zero_mul, Nat.add_zero]
    omega
