/-! The reference's divide: moveUp, the short way -/
theorem nI_or {a b : Nat} (ha : a < 2 ^ 32) (hb : b < 2 ^ 32) : nI a ||| nI b = nI (a ||| b) := by
  apply wu_eq
  have h1 : (a ||| b) < 2 ^ 32 := Nat.or_lt_two_pow ha hb
  show (nI a ||| nI b).toBitVec.toNat = (nI (a ||| b)).toBitVec.toNat
  rw [Int32.toBitVec_or, BitVec.toNat_or, pk_tn ha, pk_tn hb, pk_tn h1]
theorem shl_or {x c t : Nat} (ht : t ≤ 15) (hx : x < 65536) (hc : c < 2 ^ t) : nI x <<< (nI t &&& 31) ||| nI c = nI (x * 2 ^ t + c) := by
  have hp : 2 ^ t ≤ 2 ^ 15 := Nat.pow_le_pow_right (by omega) ht
  have hm : x * 2 ^ t ≤ 65535 * 2 ^ 15 := Nat.mul_le_mul (by omega) hp
  have e : ∀ t, t < 16 → ((nI t &&& 31).toBitVec.smod 32).toNat = t := by decide
  rw [pk_shlN _ t (e t (by omega)) (by omega), nI_or (by omega) (by omega)]
  congr 1
  rw [Nat.mul_comm, ← Nat.two_pow_add_eq_or_of_lt hc]
theorem ush16 {n : Nat} (h : n < 2 ^ 32) : ((nI n).toUInt32 >>> ((16 : Int32).toUInt32 &&& Int32.toUInt32 31)).toInt32 = nI (n / 65536) := pk_ushrN h _ 16 (by decide)
theorem R156_loop {h : pb_H} {Q : Option Value → pb_H → Prop} {a N n t : Nat} {R : Nat → Nat} (hn : n ≤ N) (hN : N < 2 ^ 31) (ht : t ≤ 15)
    (hQ : ∀ R' c, RB R' → c < 2 ^ t → bo 0 n R R' → rn R' 0 n + c * 65536 ^ n = rn R 0 n * 2 ^ t → Q none (pb_set h a (cA N R'))) :
    ∀ r i R' c l5, i + r = n → RB R' → c < 2 ^ t → bo 0 i R R' → rn R' 0 i + c * 65536 ^ i = rn R 0 i * 2 ^ t → pb_R 156 5 [some (.ref a), some (.int (nI n)), some (.int (nI t)), some (.int (nI c)), some (.int (nI i)), l5] [] [] (pb_set h a (cA N R')) Q := by
  have hg' : ∀ c, (pb_set h a c).2 a = c := fun c => by rw [pb_set_get, if_pos rfl]
  have hp : 2 ^ t ≤ 2 ^ 15 := Nat.pow_le_pow_right (by omega) ht
  intro r
  induction r with
  | zero =>
    intro i R' c l5 hi hR' hc hb hv
    obtain rfl : i = n := by omega
    rw [pb_q156_5]
    simp only [pb_e156, Int32.le_refl, if_true]
    exact hQ R' c hR' hc hb hv
  | succ r ih =>
    intro i R' c l5 hi hR' hc hb hv
    have c1 : ¬ nI n ≤ nI i := nI_ge (by omega) (by omega)
    have hA := cA_get (n := N) (G := R') (j := i) (by omega) hN
    have hS := fun x => cA_set (n := N) (G := R') (j := i) (x := x) (by omega) hN
    have b1 := hR' i
    have k0 := shl_or (x := R' i) (c := c) ht b1 hc
    have hm : R' i * 2 ^ t ≤ 65535 * 2 ^ 15 := Nat.mul_le_mul (by omega) hp
    have hm2 : R' i * 2 ^ t ≤ 65535 * 2 ^ t := Nat.mul_le_mul_right _ (by omega)
    have k1 := an16 (n := R' i * 2 ^ t + c) (by omega)
    have k2 := ush16 (n := R' i * 2 ^ t + c) (by omega)
    have hx : R' i = R i := hb _ (by omega)
    have hc2 : (R' i * 2 ^ t + c) / 65536 < 2 ^ t := by
      apply Nat.div_lt_of_lt_mul
      omega
    rw [pb_q156_5]
    simp only [pb_e156, c1, if_false, hg', pb_o_some, true_and, hA, k0, k1, k2, hS, pb_set_same, nI_1]
    refine ih (i + 1) _ _ _ (by omega) (RB_un hR' (Nat.mod_lt _ (by omega))) hc2 (fun k hk => by rw [un_ne _ (by omega)]; exact hb k (by omega)) ?_
    have e1 := rn_un (W := R') (o := 0) (i := i) (x := (R' i * 2 ^ t + c) % 65536)
    rw [Nat.zero_add] at e1
    have e2 : rn R 0 (i + 1) = rn R 0 i + R i * 65536 ^ i := by
      show rn R 0 i + R (0 + i) * 65536 ^ i = _
      rw [Nat.zero_add]
    rw [e1, e2, Nat.add_mul (rn R 0 i), ← hv, Nat.pow_succ, hx, Nat.mul_right_comm (R i)]
    generalize 65536 ^ i = P at *
    generalize R i * 2 ^ t = y at *
    have e3 : (y + c) % 65536 * P + (y + c) / 65536 * (P * 65536) = c * P + y * P := by
      rw [Nat.mul_comm P 65536, ← Nat.mul_assoc, ← Nat.add_mul, ← Nat.add_mul]
      congr 1
      omega
    omega
theorem R156 {h : pb_H} {Q : Option Value → pb_H → Prop} {a N n t : Nat} {R : Nat → Nat} (ha : h.2 a = cA N R) (hn : n ≤ N) (hN : N < 2 ^ 31) (ht : t ≤ 15) (hR : RB R)
    (hQ : ∀ R' c, RB R' → c < 2 ^ t → bo 0 n R R' → rn R' 0 n + c * 65536 ^ n = rn R 0 n * 2 ^ t → Q none (pb_set h a (cA N R'))) : pb_call 156 [.ref a, .int (nI n), .int (nI t)] h Q := by
  have := fun l5 => R156_loop hn hN ht hQ n 0 R 0 l5 (by omega) hR (Nat.pow_pos (by omega)) (fun _ _ => rfl) (by show 0 + 0 * _ = 0 * _; rw [Nat.zero_mul, Nat.zero_mul])
  rw [pb_set_id h ha] at this
  rw [pb_c156]
  simp only [pb_e156]
  exact this none
theorem bit15 {x : Nat} (hx : x < 65536) : nI x &&& 32768 = 0 ↔ x < 32768 := by
  have h0 : (32768 : Int32) = bm 16 := by decide
  rw [h0, bm_and (by omega) (by omega)]
  unfold bt
  show (nI x).toBitVec.toNat.testBit 15 = false ↔ _
  rw [pk_tn (by omega), Nat.testBit_eq_decide_div_mod_eq]
  by_cases c : x < 32768
  · have : x / 2 ^ 15 % 2 = 0 := by omega
    simp [this, c]
  · have : x / 2 ^ 15 % 2 = 1 := by omega
    simp [this, c]
/-- the rows of divide -/
def dH (h : pb_H) (Qt L B : Nat → Nat) : pb_H := pb_set (pb_set (pb_set h 71 (cA 21 Qt)) 72 (cA 22 L)) 73 (cA 21 B)
section DH
variable {h : pb_H} {Q : Option Value → pb_H → Prop} {Qt L B Qt' L' B' : Nat → Nat}
theorem dH_q : (dH h Qt L B).2 71 = cA 21 Qt := by unfold dH; rw [pb_set_get, if_neg (by omega), pb_set_get, if_neg (by omega), pb_set_get, if_pos rfl]
theorem dH_l : (dH h Qt L B).2 72 = cA 22 L := by unfold dH; rw [pb_set_get, if_neg (by omega), pb_set_get, if_pos rfl]
theorem dH_b : (dH h Qt L B).2 73 = cA 21 B := by unfold dH; rw [pb_set_get, if_pos rfl]
theorem dH_o {b : Nat} (h1 : b ≠ 71) (h2 : b ≠ 72) (h3 : b ≠ 73) : (dH h Qt L B).2 b = h.2 b := by unfold dH; rw [pb_set_get, if_neg h3, pb_set_get, if_neg h2, pb_set_get, if_neg h1]
theorem dH_sb : pb_set (dH h Qt L B) 73 (cA 21 B') = dH h Qt L B' := by unfold dH; rw [pb_set_same]
theorem dH_sl : pb_set (dH h Qt L B) 72 (cA 22 L') = dH h Qt L' B := by unfold dH; rw [pb_set_comm _ _ _ (by omega), pb_set_same]
theorem dH_sq : pb_set (dH h Qt L B) 71 (cA 21 Qt') = dH h Qt' L B := by unfold dH; rw [pb_set_comm _ _ _ (by omega), pb_set_comm (pb_set h 71 _) _ _ (by omega), pb_set_same]
theorem dH_id (h1 : h.2 71 = cA 21 Qt) (h2 : h.2 72 = cA 22 L) (h3 : h.2 73 = cA 21 B) : dH h Qt L B = h := by unfold dH; rw [pb_set_id h h1, pb_set_id h h2, pb_set_id h h3]
variable {s : Nat → Int32} {G : Nat → Nat} {o p m n : Nat}
theorem R158_fill (hs : h.2 65 = rm s) (hG : h.2 66 = cN G) (hB : RB G) (ho : o + 20 ≤ 123420) (hp : p + 20 ≤ 123420)
    (hE : ∀ Qt L B l5, RB Qt → RB L → RB B → (∀ k, k < 21 → Qt k = 0) → (∀ k, k < 20 → L k = G (o + k)) → L 20 = 0 → L 21 = 0 → (∀ k, k < 20 → B k = G (p + k)) → pb_R 158 99 [some (.ref 65), some (.int (nI o)), some (.int (nI p)), some (.int (nI m)), some (.int (nI n)), l5, none, none, none, none] [none, none, none, none, none, none, none, none, none, none] [] (dH h Qt L B) Q) :
    ∀ r i Qt L B, i + r = 21 → RB Qt → RB L → RB B → (∀ k, k < i → Qt k = 0 ∧ (k < 20 → L k = G (o + k) ∧ B k = G (p + k)) ∧ (k = 20 → L k = 0)) → pb_R 158 16 [some (.ref 65), some (.int (nI o)), some (.int (nI p)), some (.int (nI m)), some (.int (nI n)), some (.int (nI i)), none, none, none, none] [none, none, none, none, none, none, none, none, none, none] [] (dH h Qt L B) Q := by
  have hs' : ∀ Qt L B, (dH h Qt L B).2 65 = rm s := fun Qt L B => by rw [dH_o (by omega) (by omega) (by omega), hs]
  have hn' : ∀ Qt L B, (dH h Qt L B).2 66 = cN G := fun Qt L B => by rw [dH_o (by omega) (by omega) (by omega), hG]
  intro r
  induction r with
  | zero =>
    intro i Qt L B hi hQ hL hBb hz
    obtain rfl : i = 21 := by omega
    have hS := cA_set (n := 22) (G := L) (j := 21) (x := 0) (by omega) (by omega)
    have hS' : pb_si (cA 22 L) 21 0 = some (cA 22 (un L 21 0)) := hS
    have c1 : (20 : Int32) < nI 21 := by decide
    have hf := hE Qt (un L 21 0) B (some (.int (nI 21))) hQ (RB_un hL (by omega)) hBb (fun k hk => (hz k hk).1) (fun k hk => by rw [un_ne _ (by omega)]; exact ((hz k (by omega)).2.1 hk).1) (by rw [un_ne _ (by omega)]; exact (hz 20 (by omega)).2.2 rfl) (un_same _ _ _) (fun k hk => ((hz k (by omega)).2.1 hk).2)
    simp only [pb_e158] at hf
    rw [pb_q158_16]
    simp only [pb_e158, c1, if_true, hs', dH_l, pb_gr, pb_o_some, true_and, hS', dH_sl]
    exact hf
  | succ r ih =>
    intro i Qt L B hi hQ hL hBb hz
    have c1 : ¬ (20 : Int32) < nI i := nI_nlt (a := 20) (by omega) (by omega)
    have hSq := cA_set (n := 21) (G := Qt) (j := i) (x := 0) (by omega) (by omega)
    rw [nI_0] at hSq
    have hSl := fun x => cA_set (n := 22) (G := L) (j := i) (x := x) (by omega) (by omega)
    have hSb := fun x => cA_set (n := 21) (G := B) (j := i) (x := x) (by omega) (by omega)
    rw [pb_q158_16]
    by_cases c : i < 20
    · have c2 : ¬ nI 20 ≤ nI i := nI_ge (by omega) (by omega)
      have hA1 := cN_get (G := G) (j := o + i) (by omega)
      have hA2 := cN_get (G := G) (j := p + i) (by omega)
      simp only [nI20] at c1
      simp only [pb_e158, nI20, c1, if_false, hs', hn', dH_q, dH_l, dH_b, dH_sq, dH_sl, dH_sb, pb_gr, pb_o_some, true_and, hSq, c2, nI_add, hA1, hA2, hSl, hSb, nI_1]
      refine ih (i + 1) _ _ _ (by omega) (RB_un hQ (by omega)) (RB_un hL (hB _)) (RB_un hBb (hB _)) (fun k hk => ?_)
      by_cases e : k = i
      · subst e
        rw [un_same, un_same, un_same]
        exact ⟨rfl, fun _ => ⟨rfl, rfl⟩, fun q => by omega⟩
      · rw [un_ne _ e, un_ne _ e, un_ne _ e]
        exact hz k (by omega)
    · have c2 : nI 20 ≤ nI i := nI_le (by omega) (by omega)
      have hi20 : i = 20 := by omega
      have hSl0 := hSl 0
      have hSb0 := hSb 0
      rw [nI_0] at hSl0 hSb0
      simp only [nI20] at c1
      simp only [pb_e158, nI20, c1, if_false, hs', hn', dH_q, dH_l, dH_b, dH_sq, dH_sl, dH_sb, pb_gr, pb_o_some, true_and, hSq, c2, if_true, hSl0, hSb0, nI_1]
      refine ih (i + 1) _ _ _ (by omega) (RB_un hQ (by omega)) (RB_un hL (by omega)) (RB_un hBb (by omega)) (fun k hk => ?_)
      by_cases e : k = i
      · subst e
        rw [un_same, un_same, un_same]
        exact ⟨rfl, fun q => by omega, fun _ => rfl⟩
      · rw [un_ne _ e, un_ne _ e, un_ne _ e]
        exact hz k (by omega)
end DH
