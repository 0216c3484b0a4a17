/-! The reference's product -/
/-- an array of ints that are not below 0 -/
def cA (n : Nat) (G : Nat → Nat) : pb_E := ci n (fun k => nI (G k))
theorem cA_get {n : Nat} {G : Nat → Nat} {j : Nat} (h : j < n) (hn : n < 2 ^ 31) : pb_ai (cA n G) (nI j) = some (nI (G j)) := pb_ai_eq (Or.inl rfl) h hn
theorem cA_set {n : Nat} {G : Nat → Nat} {j x : Nat} (h : j < n) (hn : n < 2 ^ 31) : pb_si (cA n G) (nI j) (nI x) = some (cA n (un G j x)) := by
  unfold cA
  rw [pb_si_eq h hn]
  congr 5
  funext i
  unfold upd un
  split <;> rfl
theorem cA_sz (n : Nat) (G H : Nat → Nat) : pb_sz (cA n G) = pb_sz (cA n H) := rfl
theorem lN_low16 {m : Nat} (h : m < 18446744073709551616) : lN m &&& 65535 = lN (m % 65536) := by
  apply l64_eq
  rw [lN_nat, Int64.toBitVec_and, BitVec.toNat_and, lN_nat, Nat.mod_eq_of_lt h]
  show m &&& (2 ^ 16 - 1) = _
  rw [Nat.and_two_pow_sub_one_eq_mod]
  omega
theorem lN_sar16 {m : Nat} (h : m < 9223372036854775808) : lN m >>> ((16 : Int32).toInt64 &&& 63) = lN (m / 65536) := by
  rw [lN_lJ, lN_lJ]
  apply Int64.toInt_inj.mp
  rw [lJ_toInt (by omega) (by omega)]
  show ((lJ m).toBitVec.sshiftRight' (BitVec.smod _ 64)).toInt = _
  have e1 : ((16 : Int32).toInt64 &&& 63 : Int64).toBitVec.smod 64 = 16#64 := by decide
  rw [e1]
  show ((lJ m).toBitVec.sshiftRight 16).toInt = _
  rw [BitVec.toInt_sshiftRight]
  have e2 : (lJ m).toBitVec.toInt = m := lJ_toInt (by omega) (by omega)
  rw [e2, Int.shiftRight_eq_div_pow]
  rfl
section RP
variable {h : pb_H} {Q : Option Value → pb_H → Prop} {s : Nat → Int32} {G : Nat → Nat} {o p m l : Nat}
theorem R155_in (hs : h.2 65 = rm s) (hG : h.2 66 = cN G) (hB : RB G) (ho : o + 20 ≤ 123420) (hp : p + 20 ≤ 123420) (hm : m ≤ 20) {i : Nat} (hi : i < 20) {W : Nat → Nat} (hW : RB W)
    (hE : ∀ W' c j9 l8, RB W' → c < 65536 → bo i m W W' → rn W' i m + c * 65536 ^ m = rn W i m + G (o + i) * rn G p m → pb_R 155 124 [some (.ref 65), some (.int (nI o)), some (.int (nI p)), some (.int (nI m)), some (.int (nI l)), some (.int (nI i)), none, none, l8, none, none] [none, none, none, none, none, none, some (lN c), none, none, j9, none] [] (pb_set h 70 (cA 42 W')) Q) :
    ∀ r j W' c j9, j + r = m → RB W' → c < 65536 → bo i j W W' → rn W' i j + c * 65536 ^ j = rn W i j + G (o + i) * rn G p j → pb_R 155 50 [some (.ref 65), some (.int (nI o)), some (.int (nI p)), some (.int (nI m)), some (.int (nI l)), some (.int (nI i)), none, none, some (.int (nI j)), none, none] [none, none, none, none, none, none, some (lN c), none, none, j9, none] [] (pb_set h 70 (cA 42 W')) Q := by
  have hs' : ∀ c, (pb_set h 70 c).2 65 = rm s := fun c => by rw [pb_set_get, if_neg (by omega), hs]
  have hn' : ∀ c, (pb_set h 70 c).2 66 = cN G := fun c => by rw [pb_set_get, if_neg (by omega), hG]
  have hg' : ∀ c, (pb_set h 70 c).2 70 = c := fun c => by rw [pb_set_get, if_pos rfl]
  intro r
  induction r with
  | zero =>
    intro j W' c j9 hj hB' hc hb hv
    obtain rfl : j = m := by omega
    have := hE W' c j9 (some (.int (nI j))) hB' hc hb hv
    rw [pb_q155_50]
    simp only [pb_e155, hs', pb_gr, pb_o_some, true_and] at this
    simp only [pb_e155, Int32.le_refl, if_true, hs', pb_gr, pb_o_some, true_and]
    exact this
  | succ r ih =>
    intro j W' c j9 hj hB' hc hb hv
    have c1 : ¬ nI m ≤ nI j := nI_ge (by omega) (by omega)
    have hA := cN_get (G := G) (j := o + i) (by omega)
    have hA2 := cN_get (G := G) (j := p + j) (by omega)
    have hA3 := cA_get (n := 42) (G := W') (j := i + j) (by omega) (by omega)
    have hS := fun x => cA_set (n := 42) (G := W') (j := i + j) (x := x) (by omega) (by omega)
    have b1 := hB (o + i)
    have b2 := hB (p + j)
    have b3 := hB' (i + j)
    have l1 := nI_l (n := G (o + i)) (by omega)
    have l2 := nI_l (n := G (p + j)) (by omega)
    have l3 := nI_l (n := W' (i + j)) (by omega)
    have hmul : G (o + i) * G (p + j) ≤ 65535 * 65535 := Nat.mul_le_mul (by omega) (by omega)
    have k1 := lN_low16 (m := G (o + i) * G (p + j) + W' (i + j) + c) (by omega)
    have k2 := lN_sar16 (m := G (o + i) * G (p + j) + W' (i + j) + c) (by omega)
    have hx : W' (i + j) = W (i + j) := hb _ (by omega)
    rw [pb_q155_50]
    simp only [pb_e155, c1, if_false, hs', hn', hg', pb_gr, pb_o_some, true_and, nI_add, hA, hA2, hA3, l1, l2, l3, lN_mul, lN_add, k1, k2, lN_i32, hS, pb_set_same, nI_1]
    refine ih (j + 1) _ _ _ (by omega) (RB_un hB' (Nat.mod_lt _ (by omega))) (by omega) (fun k hk => by rw [un_ne _ (by omega)]; exact hb k (by omega)) ?_
    generalize hz : G (o + i) * G (p + j) + W' (i + j) + c = z at *
    have e1 : rn (un W' (i + j) (z % 65536)) i (j + 1) = rn W' i j + z % 65536 * 65536 ^ j := by
      show rn (un W' (i + j) _) i j + un W' (i + j) _ (i + j) * 65536 ^ j = _
      rw [un_same, rn_congr (G := un W' (i + j) _) (H := W') (fun j hj => un_ne _ (by omega))]
    have e2 : rn W i (j + 1) = rn W i j + W (i + j) * 65536 ^ j := rfl
    have e3 : rn G p (j + 1) = rn G p j + G (p + j) * 65536 ^ j := rfl
    rw [e1, e2, e3, Nat.pow_succ, Nat.mul_add, ← Nat.mul_assoc (G (o + i))]
    generalize 65536 ^ j = P at *
    have e4 : z % 65536 * P + z / 65536 * (P * 65536) = z * P := by
      rw [Nat.mul_comm P 65536, ← Nat.mul_assoc, ← Nat.add_mul]
      congr 1
      omega
    have e5 : z * P = G (o + i) * G (p + j) * P + W' (i + j) * P + c * P := by rw [← hz, Nat.add_mul, Nat.add_mul]
    rw [hx] at e5
    omega
theorem R155_out (hs : h.2 65 = rm s) (hG : h.2 66 = cN G) (hB : RB G) (ho : o + 20 ≤ 123420) (hp : p + 20 ≤ 123420) (hm : m ≤ 20) (hl : l ≤ 20)
    (hE : ∀ W' l5 l8 j6 j9, RB W' → (∀ k, l + m ≤ k → k < 42 → W' k = 0) → rn W' 0 (l + m) = rn G o l * rn G p m → pb_R 155 142 [some (.ref 65), some (.int (nI o)), some (.int (nI p)), some (.int (nI m)), some (.int (nI l)), l5, none, none, l8, none, none] [none, none, none, none, none, none, j6, none, none, j9, none] [] (pb_set h 70 (cA 42 W')) Q) :
    ∀ r i W' l8 j6 j9, i + r = l → RB W' → (∀ k, i + m ≤ k → k < 42 → W' k = 0) → rn W' 0 (i + m) = rn G o i * rn G p m → pb_R 155 37 [some (.ref 65), some (.int (nI o)), some (.int (nI p)), some (.int (nI m)), some (.int (nI l)), some (.int (nI i)), none, none, l8, none, none] [none, none, none, none, none, none, j6, none, none, j9, none] [] (pb_set h 70 (cA 42 W')) Q := by
  have hs' : ∀ c, (pb_set h 70 c).2 65 = rm s := fun c => by rw [pb_set_get, if_neg (by omega), hs]
  have hg' : ∀ c, (pb_set h 70 c).2 70 = c := fun c => by rw [pb_set_get, if_pos rfl]
  intro r
  induction r with
  | zero =>
    intro i W' l8 j6 j9 hi hB' hz hv
    obtain rfl : i = l := by omega
    have := hE W' (some (.int (nI i))) l8 j6 j9 hB' hz hv
    simp only [pb_e155] at this
    rw [pb_q155_37]
    simp only [pb_e155, Int32.le_refl, if_true]
    exact this
  | succ r ih =>
    intro i W' l8 j6 j9 hi hB' hz hv
    have c1 : ¬ nI l ≤ nI i := nI_ge (by omega) (by omega)
    rw [pb_q155_37]
    simp only [pb_e155, c1, if_false]
    refine R155_in (l := l) hs hG hB ho hp hm (i := i) (by omega) hB' ?_ m 0 W' 0 j9 (by omega) hB' (by omega) (fun _ _ => rfl) (by rw [Nat.zero_mul]; rfl)
    intro W'' c j9' l8' hB'' hc hb hv2
    have hS := cA_set (n := 42) (G := W'') (j := i + m) (x := c) (by omega) (by omega)
    simp only [pb_e155, hs', hg', pb_gr, pb_o_some, true_and, nI_add, lN_i32, hS, pb_set_same, nI_1]
    refine ih (i + 1) _ _ _ _ (by omega) (RB_un hB'' hc) (fun k hk hk2 => by rw [un_ne _ (by omega), hb k (by omega)]; exact hz k (by omega) hk2) ?_
    have e1 : rn (un W'' (i + m) c) 0 (i + (m + 1)) = rn (un W'' (i + m) c) 0 i + 65536 ^ i * rn (un W'' (i + m) c) (0 + i) (m + 1) := rn_split _ _ _ _
    have e2 : rn (un W'' (i + m) c) (0 + i) (m + 1) = rn W'' i m + c * 65536 ^ m := by
      rw [Nat.zero_add]
      show rn (un W'' (i + m) c) i m + un W'' (i + m) c (i + m) * 65536 ^ m = _
      rw [un_same, rn_congr (G := un W'' (i + m) _) (H := W'') (fun j hj => un_ne _ (by omega))]
    have e3 : rn (un W'' (i + m) c) 0 i = rn W' 0 i := rn_congr (fun j hj => by rw [un_ne _ (by omega), hb _ (by omega)])
    have e4 : rn W' 0 (i + m) = rn W' 0 i + 65536 ^ i * rn W' (0 + i) m := rn_split _ _ _ _
    rw [Nat.zero_add] at e4
    have e5 : rn G o (i + 1) = rn G o i + G (o + i) * 65536 ^ i := rfl
    have e6 : 65536 ^ i * (G (o + i) * rn G p m) = G (o + i) * 65536 ^ i * rn G p m := by rw [← Nat.mul_assoc, Nat.mul_comm (65536 ^ i)]
    rw [show i + 1 + m = i + (m + 1) by omega, e1, e2, e3, hv2, e5, Nat.add_mul (rn G o i), ← hv, e4, Nat.mul_add, e6]
    exact (Nat.add_assoc _ _ _).symm
theorem R155_chk (hs : h.2 65 = rm s) {W : Nat → Nat} (hW : RB W) (h70 : h.2 70 = cA 42 W) {L1 : Option Value} {l8 : Option Value} {j6 j9 : Option Int64}
    (hE0 : (∃ k, 16 ≤ k ∧ k < 42 ∧ W k ≠ 0) → Q (some (.int 0)) h)
    (hE1 : (∀ k, 16 ≤ k → k < 42 → W k = 0) → ∀ l5, pb_R 155 171 [some (.ref 65), some (.int (nI o)), some (.int (nI p)), some (.int (nI m)), some (.int (nI l)), l5, none, none, l8, none, none] [none, none, none, none, none, none, j6, none, none, j9, none] [] h Q) :
    ∀ r i, i + r = 42 → 16 ≤ i → (∀ k, 16 ≤ k → k < i → W k = 0) → pb_R 155 146 [some (.ref 65), some (.int (nI o)), some (.int (nI p)), some (.int (nI m)), some (.int (nI l)), some (.int (nI i)), none, none, l8, none, none] [none, none, none, none, none, none, j6, none, none, j9, none] [] h Q := by
  intro r
  induction r with
  | zero =>
    intro i hi h16 hz
    obtain rfl : i = 42 := by omega
    have := hE1 hz (some (.int (nI 42)))
    simp only [pb_e155] at this
    rw [pb_q155_146]
    simp only [pb_e155, show (42 : Int32) = nI 42 from rfl, Int32.le_refl, if_true]
    exact this
  | succ r ih =>
    intro i hi h16 hz
    have c1 : ¬ nI 42 ≤ nI i := nI_ge (by omega) (by omega)
    have hA := cA_get (n := 42) (G := W) (j := i) (by omega) (by omega)
    have e0 : nI (W i) = 0 ↔ W i = 0 := nI_eq (b := 0) (by have := hW i; omega) (by omega)
    rw [pb_q155_146]
    by_cases c : W i = 0
    · simp only [pb_e155, show (42 : Int32) = nI 42 from rfl, c1, if_false, hs, h70, pb_gr, pb_o_some, true_and, hA, c, nI_0, if_true, nI_1]
      refine ih (i + 1) (by omega) (by omega) (fun k k1 k2 => ?_)
      by_cases e : k = i
      · subst e; exact c
      · exact hz k k1 (by omega)
    · simp only [pb_e155, show (42 : Int32) = nI 42 from rfl, c1, if_false, hs, h70, pb_gr, pb_o_some, true_and, hA, e0, c, nb0]
      exact hE0 ⟨i, h16, by omega, c⟩
theorem R155_put (hs : h.2 65 = rm s) {W : Nat → Nat} (hW : RB W) (h70 : h.2 70 = cA 42 W) (ho : o + 20 ≤ 123420) {l8 : Option Value} {j6 j9 : Option Int64}
    (hQ : ∀ G', RB G' → bo o 20 G G' → rn G' o 20 = rn W 0 20 → Q (some (.int 1)) (pb_set h 66 (cN G'))) :
    ∀ r i G', i + r = 20 → RB G' → bo o 20 G G' → (∀ j, j < i → G' (o + j) = W (0 + j)) → pb_R 155 174 [some (.ref 65), some (.int (nI o)), some (.int (nI p)), some (.int (nI m)), some (.int (nI l)), some (.int (nI i)), none, none, l8, none, none] [none, none, none, none, none, none, j6, none, none, j9, none] [] (pb_set h 66 (cN G')) Q := by
  have hs' : ∀ c, (pb_set h 66 c).2 65 = rm s := fun c => by rw [pb_set_get, if_neg (by omega), hs]
  have hw' : ∀ c, (pb_set h 66 c).2 70 = cA 42 W := fun c => by rw [pb_set_get, if_neg (by omega), h70]
  have hg' : ∀ c, (pb_set h 66 c).2 66 = c := fun c => by rw [pb_set_get, if_pos rfl]
  intro r
  induction r with
  | zero =>
    intro i G' hi hB' hb hz
    obtain rfl : i = 20 := by omega
    rw [pb_q155_174]
    simp only [pb_e155, nI20, Int32.le_refl, if_true, nb1, true_and]
    exact hQ G' hB' hb (rn_congr hz)
  | succ r ih =>
    intro i G' hi hB' hb hz
    have c1 : ¬ nI 20 ≤ nI i := nI_ge (by omega) (by omega)
    have hA := cA_get (n := 42) (G := W) (j := i) (by omega) (by omega)
    have hS := fun x => cN_set (G := G') (j := o + i) (x := x) (by omega)
    rw [pb_q155_174]
    simp only [pb_e155, nI20, c1, if_false, hs', hw', hg', pb_gr, pb_o_some, true_and, nI_add, hA, hS, pb_set_same, nI_1]
    refine ih (i + 1) _ (by omega) (RB_un hB' (hW _)) (bo_trans hb (bo_un (by omega) (by omega))) (fun j hj => ?_)
    by_cases e : j = i
    · subst e; rw [un_same, Nat.zero_add]
    · rw [un_ne _ (by omega)]; exact hz j (by omega)
theorem R155_fill (hs : h.2 65 = rm s) {L4 : Option Value}
    (hE : ∀ W l3, RB W → (∀ k, k < 42 → W k = 0) → pb_R 155 21 [some (.ref 65), some (.int (nI o)), some (.int (nI p)), l3, none, none, none, none, none, none, none] [none, none, none, none, none, none, none, none, none, none, none] [] (pb_set h 70 (cA 42 W)) Q) :
    ∀ r i W, i + r = 42 → RB W → (∀ k, k < i → W k = 0) → pb_R 155 2 [some (.ref 65), some (.int (nI o)), some (.int (nI p)), some (.int (nI i)), none, none, none, none, none, none, none] [none, none, none, none, none, none, none, none, none, none, none] [] (pb_set h 70 (cA 42 W)) Q := by
  have hs' : ∀ c, (pb_set h 70 c).2 65 = rm s := fun c => by rw [pb_set_get, if_neg (by omega), hs]
  have hg' : ∀ c, (pb_set h 70 c).2 70 = c := fun c => by rw [pb_set_get, if_pos rfl]
  intro r
  induction r with
  | zero =>
    intro i W hi hB' hz
    obtain rfl : i = 42 := by omega
    have := hE W (some (.int (nI 42))) hB' hz
    simp only [pb_e155, hs', pb_gr, true_and] at this
    rw [pb_q155_2]
    simp only [pb_e155, show (42 : Int32) = nI 42 from rfl, Int32.le_refl, if_true, hs', pb_gr, true_and]
    exact this
  | succ r ih =>
    intro i W hi hB' hz
    have c1 : ¬ nI 42 ≤ nI i := nI_ge (by omega) (by omega)
    have hS := cA_set (n := 42) (G := W) (j := i) (x := 0) (by omega) (by omega)
    rw [nI_0] at hS
    rw [pb_q155_2]
    simp only [pb_e155, show (42 : Int32) = nI 42 from rfl, c1, if_false, hs', hg', pb_gr, pb_o_some, true_and, hS, pb_set_same, nI_1]
    refine ih (i + 1) _ (by omega) (RB_un hB' (by omega)) (fun k hk => ?_)
    by_cases e : k = i
    · subst e; exact un_same _ _ _
    · rw [un_ne _ e]; exact hz k (by omega)
end RP
/-- product: the number at o becomes that times the number at p, if sixteen limbs take it -/
theorem R155 {h : pb_H} {Q : Option Value → pb_H → Prop} {s : Nat → Int32} {G W : Nat → Nat} {o p : Nat} (hs : h.2 65 = rm s) (hG : h.2 66 = cN G) (h70 : h.2 70 = cA 42 W) (hW : RB W) (ho : o + 20 ≤ 123420) (hp : p + 20 ≤ 123420) (hB : RB G)
    (hQ0 : ∀ W', RB W' → ¬ rn G o 20 * rn G p 20 < 65536 ^ 16 → Q (some (.int 0)) (pb_set h 70 (cA 42 W')))
    (hQ1 : ∀ W' G', RB W' → RB G' → rn G o 20 * rn G p 20 < 65536 ^ 16 → bo o 20 G G' → rn G' o 20 = rn G o 20 * rn G p 20 → Q (some (.int 1)) (pb_set (pb_set h 70 (cA 42 W')) 66 (cN G'))) : pb_call 155 [.ref 65, .int (nI o), .int (nI p)] h Q := by
  have hs' : ∀ c, (pb_set h 70 c).2 65 = rm s := fun c => by rw [pb_set_get, if_neg (by omega), hs]
  have hn' : ∀ c, (pb_set h 70 c).2 66 = cN G := fun c => by rw [pb_set_get, if_neg (by omega), hG]
  have hg' : ∀ c, (pb_set h 70 c).2 70 = c := fun c => by rw [pb_set_get, if_pos rfl]
  have hl1 := lb_le G o 20
  have hl2 := lb_le G p 20
  rw [pb_c155]
  simp only [pb_e155]
  rw [← pb_set_id h h70]
  refine R155_fill (h := h) hs (L4 := none) ?_ 42 0 W (by omega) hW (fun k hk => by omega)
  intro W0 l3 hW0 hz0
  have h1 := fun Q : Option Value → pb_H → Prop => R148 (Q := Q) (hs' (cA 42 W0)) (hn' _) ho hB
  have h2 := fun Q : Option Value → pb_H → Prop => R148 (Q := Q) (hs' (cA 42 W0)) (hn' _) hp hB
  simp only [pb_e155, hs', pb_gr, true_and, h1, h2, Option.toList_some, List.singleton_append]
  refine R155_out (l := lb G o 20) (m := lb G p 20) hs hG hB ho hp hl2 hl1 ?_ (lb G o 20) 0 W0 none none none (by omega) hW0 (fun k _ hk => hz0 k hk) (by rw [rn_of_zero (fun i hi => hz0 _ (by omega))]; show 0 = 0 * _; rw [Nat.zero_mul])
  intro W1 l5 l8 j6 j9 hW1 hz1 hv
  rw [← lb_val, ← lb_val] at hv
  have hall : rn W1 0 42 = rn G o 20 * rn G p 20 := by
    rw [← hv]
    exact rn_cut (by omega) (fun i i1 i2 => by rw [Nat.zero_add]; exact hz1 i i1 i2)
  have hsp : rn W1 0 42 = rn W1 0 16 + 65536 ^ 16 * rn W1 (0 + 16) 26 := rn_split W1 0 16 26
  have hlt := rn_lt hW1 0 16
  simp only [pb_e155]
  refine R155_chk (s := s) (hs' _) hW1 (hg' _) (L1 := none) ?_ ?_ 26 16 (by omega) (by omega) (fun k k1 k2 => by omega)
  · rintro ⟨k, k1, k2, k3⟩
    refine hQ0 W1 hW1 ?_
    rw [← hall, hsp]
    intro hh
    have : rn W1 (0 + 16) 26 = 0 := by
      generalize 65536 ^ 16 = P at *
      rcases Nat.eq_zero_or_pos (rn W1 (0 + 16) 26) with q | q
      · exact q
      · have := Nat.mul_le_mul_left P q
        omega
    have := rn_zero this (k - 16) (by omega)
    rw [show 0 + 16 + (k - 16) = k by omega] at this
    exact k3 this
  · intro hz l5'
    have hz16 : rn W1 (0 + 16) 26 = 0 := rn_of_zero (fun i hi => hz _ (by omega) (by omega))
    rw [hz16, Nat.mul_zero, Nat.add_zero] at hsp
    have hlt2 : rn G o 20 * rn G p 20 < 65536 ^ 16 := by rw [← hall, hsp]; exact hlt
    simp only [pb_e155]
    have hput := R155_put (h := pb_set h 70 (cA 42 W1)) (Q := Q) (G := G) (o := o) (p := p) (m := lb G p 20) (l := lb G o 20) (l8 := l8) (j6 := j6) (j9 := j9) (s := s) (hs' _) hW1 (hg' _) ho (fun G' hB' hb hv' => hQ1 W1 G' hW1 hB' hlt2 hb (by
      rw [hv', ← hall]
      exact (rn_cut (by omega) (fun i i1 i2 => by rw [Nat.zero_add]; exact hz i (by omega) i2)).symm)) 20 0 G (by omega) hB (bo_refl _ _ _) (fun j hj => by omega)
    rw [pb_set_id _ (hn' _)] at hput
    exact hput
