/-! The reference's divide: by one limb; the digits -/
theorem rn_head (G : Nat → Nat) (o n : Nat) : rn G o (n + 1) = G o + 65536 * rn G (o + 1) n := by
  rw [Nat.add_comm n 1, rn_split]
  have : rn G o 1 = G o := by
    show 0 + G (o + 0) * 65536 ^ 0 = _
    rw [Nat.pow_zero, Nat.mul_one, Nat.zero_add, Nat.add_zero]
  rw [this, Nat.pow_one]
theorem dg_alg {D P d z e P1 y X0 A : Nat} (hv : X0 + P * (D * d + e + P1 * y) + D * (P * 65536 * z) = A) : X0 + P * (e + P1 * y) + D * (P * (d + 65536 * z)) = A := by
  have a1 : D * (P * (d + 65536 * z)) = P * (D * d) + D * (P * 65536 * z) := by rw [Nat.mul_add P d, Nat.mul_add D (P * d), Nat.mul_left_comm D P d, ← Nat.mul_assoc P 65536 z]
  have a2 : P * (D * d + e + P1 * y) = P * (D * d) + P * (e + P1 * y) := by rw [Nat.add_assoc, Nat.mul_add]
  omega
section DI
variable {h : pb_H} {Q : Option Value → pb_H → Prop} {s : Nat → Int32} {G L B : Nat → Nat} {o p m n : Nat}
theorem R158_113 {b : Nat} (hs : h.2 65 = rm s) (hL : RB L) (hb0 : B 0 = b) (hb : 0 < b) (hb2 : b < 65536) (hm : m ≤ 20)
    (hE : ∀ Qt rest l7 j8, RB Qt → (∀ k, m ≤ k → k < 21 → Qt k = 0) → rest < b → rn L 0 m = rn Qt 0 m * b + rest → pb_R 158 171 [some (.ref 65), some (.int (nI o)), some (.int (nI p)), some (.int (nI m)), some (.int (nI n)), none, none, l7, none, none] [none, none, none, none, none, some (lN rest), none, none, j8, none] [] (dH h Qt L B) Q) :
    ∀ k Qt rest j8, k ≤ m → RB Qt → (∀ k, m ≤ k → k < 21 → Qt k = 0) → rest < b → rn L k (m - k) = rn Qt k (m - k) * b + rest → pb_R 158 113 [some (.ref 65), some (.int (nI o)), some (.int (nI p)), some (.int (nI m)), some (.int (nI n)), none, none, some (.int (nI k + -1)), none, none] [none, none, none, none, none, some (lN rest), none, none, j8, none] [] (dH h Qt L B) Q := by
  have hs' : ∀ Qt L B, (dH h Qt L B).2 65 = rm s := fun Qt L B => by rw [dH_o (by omega) (by omega) (by omega), hs]
  intro k
  induction k with
  | zero =>
    intro Qt rest j8 hk hQ hz hr hv
    have c1 : nI 0 + -1 < 0 := by decide
    have hf := hE Qt rest (some (.int (nI 0 + -1))) j8 hQ hz hr hv
    simp only [pb_e158, hs', pb_gr, pb_o_some, true_and] at hf
    rw [pb_q158_113]
    simp only [pb_e158, c1, if_true, hs', pb_gr, pb_o_some, true_and]
    exact hf
  | succ k ih =>
    intro Qt rest j8 hk hQ hz hr hv
    have e2 : nI (k + 1) + -1 = nI k := pk_m1 k
    have c1 : ¬ nI k < 0 := nI_pos (by omega)
    have hA := cA_get (n := 22) (G := L) (j := k) (by omega) (by omega)
    have hA2 : pb_ai (cA 21 B) 0 = some (nI b) := by rw [← hb0]; exact cA_get (j := 0) (by omega) (by omega)
    have hS := fun x => cA_set (n := 21) (G := Qt) (j := k) (x := x) (by omega) (by omega)
    have b1 := hL k
    have l1 := nI_l (n := L k) (by omega)
    have l2 := nI_l (n := b) (by omega)
    have k65 : (65536 : Int64) = lN 65536 := rfl
    have hz1 : rest * 65536 + L k < b * 65536 := by
      have := Nat.mul_le_mul_right 65536 (show rest + 1 ≤ b from hr)
      omega
    have kd := pk_lDiv (a := rest * 65536 + L k) (b := b) (by omega) hb (by omega)
    have kr := pk_lRem (a := rest * 65536 + L k) (b := b) (by omega) hb (by omega)
    rw [kd, lN_mul] at kr
    have kz : ¬ lN b = 0 := fun e => by
      have : lN b = lN 0 := e
      rw [pk_lEQ (by omega) (by omega)] at this
      omega
    have hdm := Nat.div_add_mod (rest * 65536 + L k) b
    have hml := Nat.mod_lt (rest * 65536 + L k) hb
    have hql : (rest * 65536 + L k) / b < 65536 := Nat.div_lt_of_lt_mul hz1
    rw [pb_q158_113]
    simp only [pb_e158, e2, c1, if_false, hs', dH_l, dH_b, dH_q, pb_gr, pb_o_some, true_and, k65, hA, hA2, l1, l2, lN_mul, lN_add, kz, not_false_eq_true, kd, kr, lN_i32, hS, dH_sq]
    refine ih _ _ _ (by omega) (RB_un hQ hql) (fun i i1 i2 => by rw [un_ne _ (by omega)]; exact hz i i1 i2) hml ?_
    have q1 : m - k = m - (k + 1) + 1 := by omega
    rw [q1, rn_head, rn_head, un_same, rn_congr (G := un Qt k _) (H := Qt) (p := k + 1) (fun i hi => un_ne _ (by omega)), hv]
    generalize (rest * 65536 + L k) / b = d at *
    generalize (rest * 65536 + L k) % b = f at *
    rw [Nat.add_mul, Nat.mul_add, ← Nat.mul_assoc]
    rw [Nat.mul_comm] at hdm
    omega
theorem R158_191 {b : Nat} (hs : h.2 65 = rm s) (h73 : h.2 73 = cA 21 B) (hn1 : 1 ≤ n) (hn : n ≤ 20) (hbb : B (n - 1) = b) (hb : 0 < b) (hb2 : b < 65536)
    (hE : ∀ t, t ≤ 15 → 32768 ≤ b * 2 ^ t → b * 2 ^ t < 65536 → pb_R 158 215 [some (.ref 65), some (.int (nI o)), some (.int (nI p)), some (.int (nI m)), some (.int (nI n)), some (.int (nI t)), none, none, none, none] [none, none, none, none, none, none, none, none, none, none] [] h Q) :
    ∀ r t, t + r = 15 → b * 2 ^ t < 65536 → pb_R 158 191 [some (.ref 65), some (.int (nI o)), some (.int (nI p)), some (.int (nI m)), some (.int (nI n)), some (.int (nI t)), none, none, none, none] [none, none, none, none, none, none, none, none, none, none] [] h Q := by
  have hA : pb_ai (cA 21 B) (nI n - 1) = some (nI b) := by
    rw [show nI n - 1 = nI (n - 1) from pk_sub (a := n) (b := 1) (by omega), cA_get (by omega) (by omega), hbb]
  have hdone : ∀ t, t ≤ 15 → b * 2 ^ t < 65536 → 32768 ≤ b * 2 ^ t → pb_R 158 191 [some (.ref 65), some (.int (nI o)), some (.int (nI p)), some (.int (nI m)), some (.int (nI n)), some (.int (nI t)), none, none, none, none] [none, none, none, none, none, none, none, none, none, none] [] h Q := by
    intro t ht hlt hge
    have hf := hE t ht hge hlt
    have k0 := shl_or (x := b) (c := 0) ht hb2 (Nat.pow_pos (by omega))
    have k0' : nI b <<< (nI t &&& 31) = nI (b * 2 ^ t) := by
      rw [nI_0, Nat.add_zero] at k0
      rw [← k0]
      simp
    have k1 := bit15 hlt
    have c2 : ¬ b * 2 ^ t < 32768 := by omega
    simp only [pb_e158, hs, pb_gr, pb_o_some, true_and] at hf
    rw [pb_q158_191]
    simp only [pb_e158, hs, h73, pb_gr, pb_o_some, true_and, hA, k0', k1, c2, not_false_eq_true, if_true]
    exact hf
  intro r
  induction r with
  | zero =>
    intro t ht hlt
    obtain rfl : t = 15 := by omega
    exact hdone 15 (by omega) hlt (by
      have := Nat.mul_le_mul_right (2 ^ 15) hb
      omega)
  | succ r ih =>
    intro t ht hlt
    rcases Nat.lt_or_ge (b * 2 ^ t) 32768 with c | c
    · have k0 := shl_or (x := b) (c := 0) (t := t) (by omega) hb2 (Nat.pow_pos (by omega))
      have k0' : nI b <<< (nI t &&& 31) = nI (b * 2 ^ t) := by
        rw [nI_0, Nat.add_zero] at k0
        rw [← k0]
        simp
      have k1 := bit15 hlt
      rw [pb_q158_191]
      simp only [pb_e158, hs, h73, pb_gr, pb_o_some, true_and, hA, k0', k1, c, not_true_eq_false, if_false, nI_1]
      exact ih (t + 1) (by omega) (by rw [Nat.pow_succ, ← Nat.mul_assoc]; omega)
    · exact hdone t (by omega) hlt c
/-- the digits, from the highest down -/
theorem R158_244 {D A : Nat} {l5 : Option Value} (hs : h.2 65 = rm s) (hB : RB B) (hn2 : 2 ≤ n) (hn : n ≤ 20) (hm : m ≤ 20) (hnm : n ≤ m) (hD : D = rn B 0 n) (hbg : 32768 ≤ B (n - 1))
    (hE : ∀ Qt L l6, RB Qt → RB L → (∀ k, m < k → k < 22 → L k = 0) → (∀ k, m - n < k → k < 21 → Qt k = 0) → rn L 0 (m + 1) + D * rn Qt 0 (m - n + 1) = A → rn L 0 (m + 1) < D → pb_R 158 270 [some (.ref 65), some (.int (nI o)), some (.int (nI p)), some (.int (nI m)), some (.int (nI n)), l5, l6, none, none, none] [none, none, none, none, none, none, none, none, none, none] [] (dH h Qt L B) Q) :
    ∀ k Qt L, k ≤ m - n + 1 → RB Qt → RB L → (∀ k, m < k → k < 22 → L k = 0) → (∀ k, m - n < k → k < 21 → Qt k = 0) → rn L 0 (m + 1) + D * (65536 ^ k * rn Qt k (m - n + 1 - k)) = A → rn L k (m + 1 - k) < D → pb_R 158 244 [some (.ref 65), some (.int (nI o)), some (.int (nI p)), some (.int (nI m)), some (.int (nI n)), l5, some (.int (nI k + -1)), none, none, none] [none, none, none, none, none, none, none, none, none, none] [] (dH h Qt L B) Q := by
  have hs' : ∀ Qt L B, (dH h Qt L B).2 65 = rm s := fun Qt L B => by rw [dH_o (by omega) (by omega) (by omega), hs]
  have hDlt : D < 65536 ^ n := by rw [hD]; exact rn_lt hB 0 n
  intro k
  induction k with
  | zero =>
    intro Qt L hk hQ hL hzl hzq hv hlt
    have c1 : nI 0 + -1 < 0 := by decide
    rw [Nat.pow_zero, Nat.one_mul, Nat.sub_zero] at hv
    rw [Nat.sub_zero] at hlt
    have hf := hE Qt L (some (.int (nI 0 + -1))) hQ hL hzl hzq hv hlt
    simp only [pb_e158] at hf
    rw [pb_q158_244]
    simp only [pb_e158, c1, if_true]
    exact hf
  | succ k ih =>
    intro Qt L hk hQ hL hzl hzq hv hlt
    have e2 : nI (k + 1) + -1 = nI k := pk_m1 k
    have c1 : ¬ nI k < 0 := nI_pos (by omega)
    have hS := fun x => cA_set (n := 21) (G := Qt) (j := k) (x := x) (by omega) (by omega)
    have hDp : 0 < D := by omega
    have hnn : m + 1 - (k + 1) = n + (m - k - n) := by omega
    have hup : rn L (k + 1) n < D ∧ (∀ i, n ≤ i → i < m + 1 - (k + 1) → L (k + 1 + i) = 0) := by
      rw [hnn, rn_split] at hlt
      have hz : rn L (k + 1 + n) (m - k - n) = 0 := by
        rcases Nat.eq_zero_or_pos (rn L (k + 1 + n) (m - k - n)) with e | e
        · exact e
        · have := Nat.mul_le_mul_left (65536 ^ n) e
          omega
      rw [hz, Nat.mul_zero, Nat.add_zero] at hlt
      refine ⟨hlt, fun i i1 i2 => ?_⟩
      have := rn_zero hz (i - n) (by omega)
      rw [show k + 1 + n + (i - n) = k + 1 + i by omega] at this
      exact this
    obtain ⟨hup1, hup2⟩ := hup
    have hX : rn L k (n + 1) = L k + 65536 * rn L (k + 1) n := rn_head L k n
    have hLk := hL k
    have hXD : rn L k (n + 1) < 65536 * rn B 0 n := by rw [hX, ← hD]; omega
    rw [pb_q158_244]
    simp only [pb_e158, e2, c1, if_false, hs', dH_q, pb_gr, pb_o_some, true_and]
    refine R157 (s := s) (L := L) (B := B) (hs' _ _ _) dH_l dH_b hL hB hn2 hn (by omega) hbg hXD ?_
    intro L' hL' hbo hr
    have hql : rn L k (n + 1) / rn B 0 n < 65536 := Nat.div_lt_of_lt_mul (by rw [Nat.mul_comm]; exact hXD)
    simp only [Option.toList_some, List.singleton_append, pb_e158, dH_sl, dH_q, hS, pb_o_some, true_and, dH_sq]
    rw [← hD] at hr hql ⊢
    have hdm := Nat.div_add_mod (rn L k (n + 1)) D
    have hml := Nat.mod_lt (rn L k (n + 1)) hDp
    refine ih _ _ (by omega) (RB_un hQ hql) hL' (fun i i1 i2 => by rw [hbo i (by omega)]; exact hzl i i1 i2) (fun i i1 i2 => by rw [un_ne _ (by omega)]; exact hzq i i1 i2) ?_ ?_
    · have q1 : m - n + 1 - k = m - n + 1 - (k + 1) + 1 := by omega
      have q2 : m + 1 = k + ((n + 1) + (m - k - n)) := by omega
      have e1 : rn (un Qt k (rn L k (n + 1) / D)) k (m - n + 1 - k) = rn L k (n + 1) / D + 65536 * rn Qt (k + 1) (m - n + 1 - (k + 1)) := by
        rw [q1, rn_head, un_same, rn_congr (G := un Qt k _) (H := Qt) (p := k + 1) (fun i hi => un_ne _ (by omega))]
      have e3 : ∀ W : Nat → Nat, rn W 0 (m + 1) = rn W 0 k + 65536 ^ k * (rn W k (n + 1) + 65536 ^ (n + 1) * rn W (k + (n + 1)) (m - k - n)) := fun W => by
        have a1 := rn_split W 0 k (n + 1 + (m - k - n))
        rw [← q2, Nat.zero_add, rn_split W k (n + 1) (m - k - n)] at a1
        exact a1
      have e4 : rn L' 0 k = rn L 0 k := rn_congr (fun i hi => hbo _ (by omega))
      have e5 : rn L' (k + (n + 1)) (m - k - n) = rn L (k + (n + 1)) (m - k - n) := rn_congr (fun i hi => hbo _ (by omega))
      rw [e3 L, Nat.pow_succ] at hv
      rw [e1, e3 L', e4, e5, hr]
      refine dg_alg ?_
      rw [hdm]
      exact hv
    · have q2 : m + 1 - k = (n + 1) + (m - k - n) := by omega
      rw [q2, rn_split, hr, rn_of_zero (G := L') (n := m - k - n) (fun i hi => by
        rw [hbo _ (by omega)]
        have := hup2 (n + i) (by omega) (by omega)
        rw [show k + (n + 1) + i = k + 1 + (n + i) by omega]
        exact this), Nat.mul_zero, Nat.add_zero]
      exact hml
theorem R158_276 {l5 : Option Value} {Qt : Nat → Nat} (hs : h.2 65 = rm s) (hL : RB L)
    (hE : ∀ l7, pb_R 158 311 [some (.ref 65), some (.int (nI o)), some (.int (nI p)), some (.int (nI m)), some (.int (nI n)), l5, some (.int (if rn L 0 22 = 0 then 1 else 0)), l7, none, none] [none, none, none, none, none, none, none, none, none, none] [] (dH h Qt L B) Q) :
    ∀ r i w, i + r = 22 → (w = if rn L 0 i = 0 then 1 else 0) → pb_R 158 276 [some (.ref 65), some (.int (nI o)), some (.int (nI p)), some (.int (nI m)), some (.int (nI n)), l5, some (.int w), some (.int (nI i)), none, none] [none, none, none, none, none, none, none, none, none, none] [] (dH h Qt L B) Q := by
  have hs' : ∀ Qt L B, (dH h Qt L B).2 65 = rm s := fun Qt L B => by rw [dH_o (by omega) (by omega) (by omega), hs]
  intro r
  induction r with
  | zero =>
    intro i w hi hw
    obtain rfl : i = 22 := by omega
    have c1 : (21 : Int32) < nI 22 := by decide
    subst hw
    have hf := hE (some (.int (nI 22)))
    simp only [pb_e158] at hf
    rw [pb_q158_276]
    simp only [pb_e158, c1, if_true]
    exact hf
  | succ r ih =>
    intro i w hi hw
    have c1 : ¬ (21 : Int32) < nI i := nI_nlt (a := 21) (by omega) (by omega)
    have hA := cA_get (n := 22) (G := L) (j := i) (by omega) (by omega)
    have e0 : nI (L i) = 0 ↔ L i = 0 := nI_eq (b := 0) (by have := hL i; omega) (by omega)
    have er : rn L 0 (i + 1) = 0 ↔ rn L 0 i = 0 ∧ L i = 0 := by
      constructor
      · intro e
        have := rn_zero e
        refine ⟨rn_of_zero (fun j hj => this j (by omega)), ?_⟩
        have := this i (by omega)
        rwa [Nat.zero_add] at this
      · rintro ⟨a, b⟩
        have := rn_zero a
        refine rn_of_zero (fun j hj => ?_)
        by_cases e : j = i
        · subst e; rw [Nat.zero_add]; exact b
        · exact this j (by omega)
    rw [pb_q158_276]
    by_cases c : rn L 0 i = 0
    · rw [if_pos c] at hw
      subst hw
      by_cases c2 : L i = 0
      · simp only [pb_e158, c1, if_false, i32_10, hs', dH_l, pb_gr, pb_o_some, true_and, hA, c2, nI_0, not_true_eq_false, nI_1]
        exact ih (i + 1) 1 (by omega) (by rw [if_pos (er.mpr ⟨c, c2⟩)])
      · simp only [pb_e158, c1, if_false, i32_10, hs', dH_l, pb_gr, pb_o_some, true_and, hA, e0, c2, not_false_eq_true, if_true, nI_1]
        exact ih (i + 1) 0 (by omega) (by rw [if_neg (fun e => c2 (er.mp e).2)])
    · rw [if_neg c] at hw
      subst hw
      simp only [pb_e158, c1, if_false, if_true, nI_1]
      exact ih (i + 1) 0 (by omega) (by rw [if_neg (fun e => c (er.mp e).1)])
end DI
