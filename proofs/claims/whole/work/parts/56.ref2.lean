/-! The reference's arithmetic: isOne, compare, plus, minus, less, isGreat -/
def cm3 (a b : Nat) : Int32 := if a < b then -1 else if a = b then 0 else 1
section RC
variable {h : pb_H} {Q : Option Value → pb_H → Prop} {s : Nat → Int32} {G : Nat → Nat} {o p : Nat}
theorem rn_one {n : Nat} (hn : 1 ≤ n) : rn G o n = 1 ↔ G o = 1 ∧ lb G o n = 1 := by
  have h1 : rn G o 1 = G o := by
    show 0 + G (o + 0) * 65536 ^ 0 = _
    rw [Nat.pow_zero, Nat.mul_one, Nat.zero_add, Nat.add_zero]
  constructor
  · intro e
    have hl : lb G o n = 1 := by
      rcases Nat.lt_or_ge (lb G o n) 2 with q | q
      · have : lb G o n ≠ 0 := fun z => by rw [lb_zero] at z; omega
        omega
      · exfalso
        have := lb_ge (G := G) (o := o) (n := n) (by omega)
        have h3 : 65536 ^ 1 ≤ 65536 ^ (lb G o n - 1) := Nat.pow_le_pow_right (by omega) (by omega)
        rw [Nat.pow_one] at h3
        omega
    refine ⟨?_, hl⟩
    rw [lb_val, hl, h1] at e
    exact e
  · rintro ⟨a, b⟩
    rw [lb_val, b, h1, a]
theorem R149 (hs : h.2 65 = rm s) (hG : h.2 66 = cN G) (ho : o + 20 ≤ 123420) (hB : RB G) : pb_call 149 [.ref 65, .int (nI o)] h Q ↔ Q (some (.int (if rn G o 20 = 1 then 1 else 0))) h := by
  have hA := cN_get (G := G) (j := o) (by omega)
  have h148 := fun Q : Option Value → pb_H → Prop => R148 (Q := Q) hs hG ho hB
  have e0 : nI (G o) = 1 ↔ G o = 1 := nI_eq (b := 1) (by have := hB o; omega) (by omega)
  have e1 : nI (lb G o 20) = 1 ↔ lb G o 20 = 1 := nI_eq (b := 1) (by have := lb_le G o 20; omega) (by omega)
  have hr := rn_one (G := G) (o := o) (n := 20) (by omega)
  rw [pb_c149]
  by_cases c0 : G o = 1
  · by_cases c1 : lb G o 20 = 1
    · have c : rn G o 20 = 1 := hr.mpr ⟨c0, c1⟩
      simp only [pb_e149, hs, hG, pb_gr, pb_o_some, true_and, hA, e0, c0, not_true_eq_false, if_false, h148, Option.toList_some, List.singleton_append, e1, c1, nb1, c, if_true]
      exact Iff.rfl
    · have c : ¬ rn G o 20 = 1 := fun e => c1 (hr.mp e).2
      simp only [pb_e149, hs, hG, pb_gr, pb_o_some, true_and, hA, e0, c0, not_true_eq_false, if_false, h148, Option.toList_some, List.singleton_append, e1, c1, not_false_eq_true, nb0, c, if_true]
      exact Iff.rfl
  · have c : ¬ rn G o 20 = 1 := fun e => c0 (hr.mp e).1
    simp only [pb_e149, hs, hG, pb_gr, pb_o_some, true_and, hA, e0, c0, not_false_eq_true, nb0, c, if_true, if_false]
theorem cm3_step {a b x y P : Nat} (ha : a < P) (hb : b < P) : cm3 (a + x * P) (b + y * P) = if x = y then cm3 a b else if x < y then -1 else 1 := by
  by_cases e : x = y
  · subst e
    rw [if_pos rfl]
    unfold cm3
    by_cases c : a < b
    · rw [if_pos c, if_pos (by omega)]
    · rw [if_neg c, if_neg (by omega)]
      by_cases c2 : a = b
      · rw [if_pos c2, if_pos (by omega)]
      · rw [if_neg c2, if_neg (by omega)]
  · rw [if_neg e]
    unfold cm3
    by_cases c : x < y
    · have := Nat.mul_le_mul_right P (show x + 1 ≤ y from c)
      rw [Nat.add_mul, Nat.one_mul] at this
      rw [if_pos c, if_pos (by omega)]
    · have := Nat.mul_le_mul_right P (show y + 1 ≤ x by omega)
      rw [Nat.add_mul, Nat.one_mul] at this
      rw [if_neg c, if_neg (by omega), if_neg (by omega)]
theorem R150_loop (hs : h.2 65 = rm s) (hG : h.2 66 = cN G) (ho : o + 20 ≤ 123420) (hp : p + 20 ≤ 123420) (hB : RB G) : ∀ n, n ≤ 20 → (pb_R 150 3 [some (.ref 65), some (.int (nI o)), some (.int (nI p)), some (.int (nI n + -1))] [] [] h Q ↔ Q (some (.int (cm3 (rn G o n) (rn G p n)))) h) := by
  intro n
  induction n with
  | zero =>
    intro hn
    have c1 : nI 0 + -1 < 0 := by decide
    rw [pb_q150_3]
    simp only [pb_e150, c1, if_true]
    exact Iff.rfl
  | succ n ih =>
    intro hn
    have hA := cN_get (G := G) (j := o + n) (by omega)
    have hA2 := cN_get (G := G) (j := p + n) (by omega)
    have b1 := hB (o + n)
    have b2 := hB (p + n)
    have e0 : nI (G (o + n)) = nI (G (p + n)) ↔ G (o + n) = G (p + n) := nI_eq (by omega) (by omega)
    have e1 : nI (G (p + n)) ≤ nI (G (o + n)) ↔ G (p + n) ≤ G (o + n) := nI_leI (by omega) (by omega)
    have e2 : nI (n + 1) + -1 = nI n := pk_m1 n
    have c1 : ¬ nI n < 0 := nI_pos (by omega)
    have hst : cm3 (rn G o (n + 1)) (rn G p (n + 1)) = if G (o + n) = G (p + n) then cm3 (rn G o n) (rn G p n) else if G (o + n) < G (p + n) then -1 else 1 := cm3_step (rn_lt hB o n) (rn_lt hB p n)
    rw [hst, pb_q150_3]
    by_cases c : G (o + n) = G (p + n)
    · simp only [pb_e150, e2, c1, if_false, hs, hG, pb_gr, pb_o_some, true_and, nI_add, hA, hA2, e0, c, if_true]
      exact ih (by omega)
    · by_cases c2 : G (o + n) < G (p + n)
      · have k : ¬ G (p + n) ≤ G (o + n) := by omega
        simp only [pb_e150, e2, c1, if_false, hs, hG, pb_gr, pb_o_some, true_and, nI_add, hA, hA2, e0, c, e1, k, c2, if_true]
      · have k : G (p + n) ≤ G (o + n) := by omega
        simp only [pb_e150, e2, c1, if_false, hs, hG, pb_gr, pb_o_some, true_and, nI_add, hA, hA2, e0, c, e1, k, c2, if_true]
theorem R150 (hs : h.2 65 = rm s) (hG : h.2 66 = cN G) (ho : o + 20 ≤ 123420) (hp : p + 20 ≤ 123420) (hB : RB G) : pb_call 150 [.ref 65, .int (nI o), .int (nI p)] h Q ↔ Q (some (.int (cm3 (rn G o 20) (rn G p 20)))) h := by
  have := R150_loop (Q := Q) hs hG ho hp hB 20 (by omega)
  rw [show nI 20 + -1 = 19 by decide] at this
  rw [pb_c150]
  simp only [pb_e150]
  exact this
theorem R151_loop (hs : h.2 65 = rm s) (ho : o + 20 ≤ 123420) (hp : p + 20 ≤ 123420) (hd : o + 20 ≤ p ∨ p + 20 ≤ o) (hB : RB G) (hQ : ∀ G' c, RB G' → bo o 20 G G' → rn G' o 20 + c * 65536 ^ 20 = rn G o 20 + rn G p 20 → Q none (pb_set h 66 (cN G'))) : ∀ r i G' c l5, i + r = 20 → RB G' → c ≤ 1 → bo o i G G' → rn G' o i + c * 65536 ^ i = rn G o i + rn G p i → pb_R 151 5 [some (.ref 65), some (.int (nI o)), some (.int (nI p)), some (.int (nI c)), some (.int (nI i)), l5] [] [] (pb_set h 66 (cN G')) Q := by
  have hs' : ∀ c, (pb_set h 66 c).2 65 = rm s := fun c => by rw [pb_set_get, if_neg (by omega), hs]
  have hg' : ∀ c, (pb_set h 66 c).2 66 = c := fun c => by rw [pb_set_get, if_pos rfl]
  intro r
  induction r with
  | zero =>
    intro i G' c l5 hi hB' hc hb hv
    obtain rfl : i = 20 := by omega
    rw [pb_q151_5]
    simp only [pb_e151, nI20, Int32.le_refl, if_true]
    exact hQ G' c hB' hb hv
  | succ r ih =>
    intro i G' c l5 hi hB' hc hb hv
    have c1 : ¬ nI 20 ≤ nI i := nI_ge (by omega) (by omega)
    have hA := cN_get (G := G') (j := o + i) (by omega)
    have hA2 := cN_get (G := G') (j := p + i) (by omega)
    have b1 := hB' (o + i)
    have b2 := hB' (p + i)
    have hS := fun x => cN_set (G := G') (j := o + i) (x := x) (by omega)
    have k1 := an16 (n := G' (o + i) + G' (p + i) + c) (by omega)
    have k2 := sh16 (n := G' (o + i) + G' (p + i) + c) (by omega)
    rw [pb_q151_5]
    simp only [pb_e151, nI20, c1, if_false, hs', pb_gr, pb_o_some, true_and, nI_add, hg', hA, hA2, hS, k1, k2, pb_set_same, nI_1]
    refine ih (i + 1) _ _ _ (by omega) (RB_un hB' (Nat.mod_lt _ (by omega))) (by omega) (fun k hk => by rw [un_ne _ (by omega)]; exact hb k (by omega)) ?_
    have q1 : G' (o + i) = G (o + i) := hb _ (by omega)
    have q2 : G' (p + i) = G (p + i) := hb _ (by omega)
    have e1 : rn (un G' (o + i) ((G' (o + i) + G' (p + i) + c) % 65536)) o (i + 1) = rn G' o i + (G' (o + i) + G' (p + i) + c) % 65536 * 65536 ^ i := by
      show rn (un G' (o + i) _) o i + un G' (o + i) _ (o + i) * 65536 ^ i = _
      rw [un_same, rn_congr (G := un G' (o + i) _) (H := G') (fun j hj => un_ne _ (by omega))]
    have e2 : rn G o (i + 1) = rn G o i + G (o + i) * 65536 ^ i := rfl
    have e3 : rn G p (i + 1) = rn G p i + G (p + i) * 65536 ^ i := rfl
    rw [e1, e2, e3, Nat.pow_succ, q1, q2]
    generalize 65536 ^ i = P at *
    have e4 : (G (o + i) + G (p + i) + c) % 65536 * P + (G (o + i) + G (p + i) + c) / 65536 * (P * 65536) = G (o + i) * P + G (p + i) * P + c * P := by
      rw [← Nat.add_mul, ← Nat.add_mul, Nat.mul_comm P 65536, ← Nat.mul_assoc, ← Nat.add_mul]
      congr 1
      omega
    omega
theorem R151 (hs : h.2 65 = rm s) (hG : h.2 66 = cN G) (ho : o + 20 ≤ 123420) (hp : p + 20 ≤ 123420) (hd : o + 20 ≤ p ∨ p + 20 ≤ o) (hB : RB G) (hf : rn G o 20 + rn G p 20 < 65536 ^ 20) (hQ : ∀ G', RB G' → bo o 20 G G' → rn G' o 20 = rn G o 20 + rn G p 20 → Q none (pb_set h 66 (cN G'))) : pb_call 151 [.ref 65, .int (nI o), .int (nI p)] h Q := by
  have := fun l5 => R151_loop (Q := Q) hs ho hp hd hB (fun G' c hB' hb hv => hQ G' hB' hb (by
    generalize 65536 ^ 20 = P at *
    rcases Nat.eq_zero_or_pos c with q | q
    · rw [q, Nat.zero_mul, Nat.add_zero] at hv; exact hv
    · have := Nat.mul_le_mul_right P q
      omega)) 20 0 G 0 l5 (by omega) hB (by omega) (fun _ _ => rfl) rfl
  rw [pb_set_id h hG] at this
  rw [pb_c151]
  simp only [pb_e151]
  exact this none
theorem sb16 {a b c : Nat} (ha : a < 65536) (hb : b < 65536) (hc : c ≤ 1) : (nI a - nI b - nI c) &&& 65535 = nI ((a + 65536 - b - c) % 65536) ∧ (0 ≤ nI a - nI b - nI c ↔ b + c ≤ a) := by
  have e1 : nI a - nI b - nI c = nI a - nI (b + c) := by rw [← nI_add, Int32.sub_sub]
  have e2 : (nI a - nI (b + c)).toInt = (a : Int) - ((b + c : Nat) : Int) := pk_sub_toInt (by omega) (by omega)
  have e3 : nI a - nI (b + c) = Int32.ofInt ((a : Int) - ((b + c : Nat) : Int)) := by rw [← e2, Int32.ofInt_toInt]
  rw [e1]
  constructor
  · rw [pk_and (nI a - nI (b + c)) (m := 65535) 16 (by decide), e3]
    have : ((Int32.ofInt ((a : Int) - ((b + c : Nat) : Int))).toBitVec.toNat : Int) = ((a : Int) - ((b + c : Nat) : Int)) % 4294967296 := wu_ofInt _
    congr 1
    omega
  · rw [Int32.le_iff_toInt_le, e2]
    show (0 : Int) ≤ _ ↔ _
    omega
theorem R152_loop (hs : h.2 65 = rm s) (ho : o + 20 ≤ 123420) (hp : p + 20 ≤ 123420) (hd : o + 20 ≤ p ∨ p + 20 ≤ o) (hB : RB G) (hQ : ∀ G' c, RB G' → bo o 20 G G' → rn G' o 20 + rn G p 20 = rn G o 20 + c * 65536 ^ 20 → Q none (pb_set h 66 (cN G'))) : ∀ r i G' c l5, i + r = 20 → RB G' → c ≤ 1 → bo o i G G' → rn G' o i + rn G p i = rn G o i + c * 65536 ^ i → pb_R 152 5 [some (.ref 65), some (.int (nI o)), some (.int (nI p)), some (.int (nI c)), some (.int (nI i)), l5] [] [] (pb_set h 66 (cN G')) Q := by
  have hs' : ∀ c, (pb_set h 66 c).2 65 = rm s := fun c => by rw [pb_set_get, if_neg (by omega), hs]
  have hg' : ∀ c, (pb_set h 66 c).2 66 = c := fun c => by rw [pb_set_get, if_pos rfl]
  intro r
  induction r with
  | zero =>
    intro i G' c l5 hi hB' hc hb hv
    obtain rfl : i = 20 := by omega
    rw [pb_q152_5]
    simp only [pb_e152, nI20, Int32.le_refl, if_true]
    exact hQ G' c hB' hb hv
  | succ r ih =>
    intro i G' c l5 hi hB' hc hb hv
    have c1 : ¬ nI 20 ≤ nI i := nI_ge (by omega) (by omega)
    have hA := cN_get (G := G') (j := o + i) (by omega)
    have hA2 := cN_get (G := G') (j := p + i) (by omega)
    have b1 := hB' (o + i)
    have b2 := hB' (p + i)
    have hS := fun x => cN_set (G := G') (j := o + i) (x := x) (by omega)
    obtain ⟨k1, k2⟩ := sb16 b1 b2 hc
    have q1 : G' (o + i) = G (o + i) := hb _ (by omega)
    have q2 : G' (p + i) = G (p + i) := hb _ (by omega)
    have hfin : ∀ c', c' ≤ 1 → (G' (o + i) + 65536 - G' (p + i) - c) % 65536 + G' (p + i) + c = G' (o + i) + c' * 65536 → ∀ l5, pb_R 152 5 [some (.ref 65), some (.int (nI o)), some (.int (nI p)), some (.int (nI c')), some (.int (nI (i + 1))), l5] [] [] (pb_set h 66 (cN (un G' (o + i) ((G' (o + i) + 65536 - G' (p + i) - c) % 65536)))) Q := by
      intro c' hc' hcc l5
      refine ih (i + 1) _ c' l5 (by omega) (RB_un hB' (Nat.mod_lt _ (by omega))) hc' (fun k hk => by rw [un_ne _ (by omega)]; exact hb k (by omega)) ?_
      generalize hx : (G' (o + i) + 65536 - G' (p + i) - c) % 65536 = x at *
      have e1 : rn (un G' (o + i) x) o (i + 1) = rn G' o i + x * 65536 ^ i := by
        show rn (un G' (o + i) _) o i + un G' (o + i) _ (o + i) * 65536 ^ i = _
        rw [un_same, rn_congr (G := un G' (o + i) _) (H := G') (fun j hj => un_ne _ (by omega))]
      have e2 : rn G o (i + 1) = rn G o i + G (o + i) * 65536 ^ i := rfl
      have e3 : rn G p (i + 1) = rn G p i + G (p + i) * 65536 ^ i := rfl
      rw [e1, e2, e3, Nat.pow_succ]
      rw [q1, q2] at hcc
      generalize 65536 ^ i = P at *
      have e4 : x * P + G (p + i) * P + c * P = G (o + i) * P + c' * (P * 65536) := by
        rw [Nat.mul_comm P 65536, ← Nat.mul_assoc, ← Nat.add_mul, ← Nat.add_mul, ← Nat.add_mul, hcc]
      omega
    rw [pb_q152_5]
    by_cases cc : G' (p + i) + c ≤ G' (o + i)
    · have := hfin 0 (by omega) (by omega)
      rw [nI_0] at this
      simp only [pb_e152, nI20, c1, if_false, hs', pb_gr, pb_o_some, true_and, nI_add, hg', hA, hA2, k1, k2, cc, if_true, hS, pb_set_same, nI_1]
      exact this _
    · have := hfin 1 (by omega) (by omega)
      rw [show nI 1 = 1 from rfl] at this
      simp only [pb_e152, nI20, c1, if_false, hs', pb_gr, pb_o_some, true_and, nI_add, hg', hA, hA2, k1, k2, cc, hS, pb_set_same, nI_1]
      exact this _
theorem R152 (hs : h.2 65 = rm s) (hG : h.2 66 = cN G) (ho : o + 20 ≤ 123420) (hp : p + 20 ≤ 123420) (hd : o + 20 ≤ p ∨ p + 20 ≤ o) (hB : RB G) (hf : rn G p 20 ≤ rn G o 20) (hQ : ∀ G', RB G' → bo o 20 G G' → rn G' o 20 = rn G o 20 - rn G p 20 → Q none (pb_set h 66 (cN G'))) : pb_call 152 [.ref 65, .int (nI o), .int (nI p)] h Q := by
  have := fun l5 => R152_loop (Q := Q) hs ho hp hd hB (fun G' c hB' hb hv => hQ G' hB' hb (by
    have hl := rn_lt hB' o 20
    generalize 65536 ^ 20 = P at *
    rcases Nat.eq_zero_or_pos c with q | q
    · rw [q, Nat.zero_mul, Nat.add_zero] at hv; omega
    · have := Nat.mul_le_mul_right P q
      omega)) 20 0 G 0 l5 (by omega) hB (by omega) (fun _ _ => rfl) rfl
  rw [pb_set_id h hG] at this
  rw [pb_c152]
  simp only [pb_e152]
  exact this none
/-- less: down to 0 -/
theorem R153 (hs : h.2 65 = rm s) (hG : h.2 66 = cN G) (ho : o + 20 ≤ 123420) (hp : p + 20 ≤ 123420) (hd : o + 20 ≤ p ∨ p + 20 ≤ o) (hB : RB G) (hQ : ∀ G', RB G' → bo o 20 G G' → rn G' o 20 = rn G o 20 - rn G p 20 → Q none (pb_set h 66 (cN G'))) : pb_call 153 [.ref 65, .int (nI o), .int (nI p)] h Q := by
  have h150 := fun Q : Option Value → pb_H → Prop => R150 (Q := Q) hs hG ho hp hB
  rw [pb_c153]
  by_cases c : rn G o 20 ≤ rn G p 20
  · have k : ¬ 0 < cm3 (rn G o 20) (rn G p 20) := by
      unfold cm3
      split
      · decide
      · rw [if_pos (by omega)]; decide
    simp only [pb_e153, hs, pb_gr, true_and, h150, Option.toList_some, List.singleton_append, k, if_false]
    refine R144 hs hG ho hB (fun G' hB' hb hz => ?_)
    simp only [Option.toList_none, List.nil_append, pb_e153]
    exact hQ G' hB' hb (by omega)
  · have k : 0 < cm3 (rn G o 20) (rn G p 20) := by
      unfold cm3
      rw [if_neg (by omega), if_neg (by omega)]; decide
    simp only [pb_e153, hs, pb_gr, true_and, h150, Option.toList_some, List.singleton_append, k, if_true]
    refine R152 hs hG ho hp hd hB (by omega) (fun G' hB' hb hz => ?_)
    simp only [Option.toList_none, List.nil_append, pb_e153]
    exact hQ G' hB' hb hz
theorem R154 (hs : h.2 65 = rm s) (hG : h.2 66 = cN G) (ho : o + 20 ≤ 123420) (hB : RB G) : pb_call 154 [.ref 65, .int (nI o)] h Q ↔ Q (some (.int (if rn G o 20 < 65536 ^ 16 then 0 else 1))) h := by
  have h148 := fun Q : Option Value → pb_H → Prop => R148 (Q := Q) hs hG ho hB
  have hle := lb_le G o 20
  rw [pb_c154]
  by_cases c : lb G o 20 ≤ 16
  · have k : nI (lb G o 20) ≤ 16 := nI_le (b := 16) c (by omega)
    have c2 : rn G o 20 < 65536 ^ 16 := by
      have h1 := rn_lt hB o (lb G o 20)
      rw [← lb_val] at h1
      exact Nat.lt_of_lt_of_le h1 (Nat.pow_le_pow_right (by omega) c)
    rw [if_pos c2]
    simp only [pb_e154, hs, pb_gr, true_and, h148, Option.toList_some, List.singleton_append, k, if_true, nb0]
  · have k : ¬ nI (lb G o 20) ≤ 16 := nI_ge (a := 16) (by omega) (by omega)
    have c2 : ¬ rn G o 20 < 65536 ^ 16 := by
      have h1 := lb_ge (G := G) (o := o) (n := 20) (by omega)
      have h2 : 65536 ^ 16 ≤ 65536 ^ (lb G o 20 - 1) := Nat.pow_le_pow_right (by omega) (by omega)
      exact Nat.not_lt.mpr (Nat.le_trans h2 h1)
    rw [if_neg c2]
    simp only [pb_e154, hs, pb_gr, true_and, h148, Option.toList_some, List.singleton_append, k, if_false, nb1]
end RC
