/-! The reference's divide, divideUp, isMultiple -/
theorem shl_top16 {t k : Nat} (hk : k ≤ 15) (h : t * 2 ^ k < 65536) : (t + 1) * 2 ^ k ≤ 65536 := by
  have e : 65536 = 2 ^ (16 - k) * 2 ^ k := by rw [← Nat.pow_add, show 16 - k + k = 16 by omega]
  rw [e] at h ⊢
  exact Nat.mul_le_mul_right _ (Nat.succ_le_of_lt (Nat.lt_of_mul_lt_mul_right h))
theorem R158 {h : pb_H} {Q : Option Value → pb_H → Prop} {s : Nat → Int32} {G Q0 L0 B0 : Nat → Nat} {o p : Nat} (hs : h.2 65 = rm s) (hG : h.2 66 = cN G) (h71 : h.2 71 = cA 21 Q0) (h72 : h.2 72 = cA 22 L0) (h73 : h.2 73 = cA 21 B0) (hQ0 : RB Q0) (hL0 : RB L0) (hB0 : RB B0) (ho : o + 20 ≤ 123420) (hp : p + 20 ≤ 123420) (hB : RB G) (hN : rn G p 20 ≠ 0)
    (hQ : ∀ Qt L B, RB Qt → RB L → RB B → rn Qt 0 20 = rn G o 20 / rn G p 20 → Q none (pb_set (dH h Qt L B) 65 (rm (upd s 14 (if rn G o 20 % rn G p 20 = 0 then 1 else 0))))) : pb_call 158 [.ref 65, .int (nI o), .int (nI p)] h Q := by
  have hs' : ∀ Qt L B, (dH h Qt L B).2 65 = rm s := fun Qt L B => by rw [dH_o (by omega) (by omega) (by omega), hs]
  have hl1 := lb_le G o 20
  have hl2 := lb_le G p 20
  have hl3 : lb G p 20 ≠ 0 := fun e => hN (lb_zero.mp e)
  have ht1 := fun i => lb_top G o 20 i
  have ht2 := fun i => lb_top G p 20 i
  have hne := lb_ne G p 20 hl3
  have hA := lb_val G o 20
  have hNv := lb_val G p 20
  have hAlt : rn G o 20 < 65536 ^ lb G o 20 := by rw [hA]; exact rn_lt hB _ _
  have hNge := lb_ge hl3
  have h1 := fun Q : Option Value → pb_H → Prop => R148 (Q := Q) hs hG ho hB
  have h2 := fun Q : Option Value → pb_H → Prop => R148 (Q := Q) hs hG hp hB
  generalize lb G o 20 = m at *
  generalize lb G p 20 = n at *
  rw [pb_c158]
  simp only [pb_e158, hs, pb_gr, true_and, h1, h2, Option.toList_some, List.singleton_append]
  rw [← dH_id h71 h72 h73]
  refine R158_fill (h := h) hs hG hB ho hp ?_ 21 0 Q0 L0 B0 (by omega) hQ0 hL0 hB0 (fun k hk => by omega)
  intro Qt L B l5 rQ rL rB hz hLv hL20 hL21 hBv
  have hrL : ∀ k, k ≤ 20 → rn L 0 k = rn G o k := fun k hk => rn_congr (fun i hi => by rw [Nat.zero_add]; exact hLv i (by omega))
  have hrB : ∀ k, k ≤ 20 → rn B 0 k = rn G p k := fun k hk => rn_congr (fun i hi => by rw [Nat.zero_add]; exact hBv i (by omega))
  have e1n : nI n = 1 ↔ n = 1 := nI_eq (b := 1) (by omega) (by omega)
  by_cases n1 : n = 1
  · subst n1
    have hb : rn G p 20 = B 0 := by
      rw [hNv, ← hrB 1 (by omega)]
      show 0 + B (0 + 0) * 65536 ^ 0 = _
      rw [Nat.pow_zero, Nat.mul_one, Nat.zero_add]
    have em : nI m - 1 = nI m + -1 := Int32.sub_eq_add_neg _ _
    simp only [pb_e158, show nI 1 = 1 from rfl, not_true_eq_false, if_false, em]
    refine R158_113 (h := h) (B := B) (n := 1) hs rL rfl (by omega) (rB 0) (by omega) ?_ m Qt 0 none (by omega) rQ (fun k _ hk => hz k hk) (by omega) (by rw [Nat.sub_self]; show 0 = 0 * _ + 0; rw [Nat.zero_mul])
    intro Qt' rest l7 j8 rQ' hz' hr hv
    rw [hrL m hl1, ← hA, ← hb] at hv
    rw [← hb] at hr
    have hNp : 0 < rn G p 20 := by omega
    have hq20 : rn Qt' 0 20 = rn Qt' 0 m := rn_cut hl1 (fun i i1 i2 => by rw [Nat.zero_add]; exact hz' i i1 (by omega))
    have hdiv : rn G o 20 / rn G p 20 = rn Qt' 0 m ∧ rn G o 20 % rn G p 20 = rest := by
      rw [hv, Nat.mul_comm, Nat.mul_add_div hNp, Nat.div_eq_of_lt hr, Nat.add_zero, Nat.mul_add_mod, Nat.mod_eq_of_lt hr]
      exact ⟨rfl, rfl⟩
    have hfin := hQ Qt' L B rQ' rL rB (by rw [hq20, hdiv.1])
    rw [hdiv.2] at hfin
    have c0 : lg_cmp (lN rest) 0 = 0 ↔ rest = 0 := by
      rw [lg_cmp_eq]
      have hBl := rB 0
      exact pk_lEQ (b := 0) (by omega) (by omega)
    by_cases c : rest = 0
    · rw [if_pos c] at hfin
      simp only [pb_e158, c0, c, not_true_eq_false, if_false, hs', pb_gr, pb_o_some, true_and]
      have c0' : lg_cmp (lN 0) 0 = 0 := by decide
      simp only [c0', not_true_eq_false, if_false]
      exact hfin
    · rw [if_neg c] at hfin
      simp only [pb_e158, c0, c, not_false_eq_true, if_true, hs', pb_gr, pb_o_some, true_and]
      exact hfin
  · have hbv : B (n - 1) = G (p + (n - 1)) := hBv _ (by omega)
    have hb0 : 0 < B (n - 1) := by rw [hbv]; omega
    simp only [pb_e158, e1n, n1, not_false_eq_true, if_true]
    refine R158_191 (b := B (n - 1)) (h := dH h Qt L B) (hs' _ _ _) dH_b (by omega) (by omega) rfl hb0 (rB _) ?_ 15 0 (by omega) (by rw [Nat.pow_zero, Nat.mul_one]; exact rB _)
    intro t ht hge hlt
    have hp2 : 2 ^ t ≤ 32768 := Nat.pow_le_pow_right (n := 2) (by omega) ht
    have hp0 : 0 < 2 ^ t := Nat.pow_pos (by omega)
    simp only [pb_e158, hs', pb_gr, pb_o_some, true_and, nI_1]
    refine R156 (a := 72) (N := 22) (n := m + 1) (R := L) dH_l (by omega) (by omega) ht rL ?_
    intro L1 c1 rL1 hc1 hbo1 hv1
    have hLm : L m = 0 := by
      by_cases e : m = 20
      · subst e; exact hL20
      · rw [hLv m (by omega)]; exact ht1 m (by omega) (by omega)
    have hrm : rn L 0 (m + 1) = rn G o 20 := by
      rw [hA, ← hrL m hl1]
      show rn L 0 m + L (0 + m) * 65536 ^ m = _
      rw [Nat.zero_add, hLm, Nat.zero_mul, Nat.add_zero]
    rw [hrm] at hv1
    have hc10 : c1 = 0 := by
      rcases Nat.eq_zero_or_pos c1 with e | e
      · exact e
      · exfalso
        have a1 := Nat.mul_le_mul_right (65536 ^ (m + 1)) e
        have a2 : rn G o 20 * 2 ^ t ≤ 65536 ^ m * 32768 := Nat.mul_le_mul (by omega) hp2
        rw [Nat.pow_succ] at a1 hv1
        generalize 65536 ^ m = P at *
        omega
    subst hc10
    rw [Nat.zero_mul, Nat.add_zero] at hv1
    simp only [Option.toList_none, List.nil_append, pb_e158, dH_sl, hs', pb_gr, pb_o_some, true_and]
    refine R156 (a := 73) (N := 21) (n := n) (R := B) dH_b (by omega) (by omega) ht rB ?_
    intro B1 c2 rB1 hc2 hbo2 hv2
    rw [hrB n hl2, ← hNv] at hv2
    obtain ⟨k, rfl⟩ : ∃ k, n = k + 2 := ⟨n - 2, by omega⟩
    rw [show k + 2 - 1 = k + 1 by omega] at *
    have hNe : rn G p 20 = rn B 0 (k + 1) + B (k + 1) * 65536 ^ (k + 1) := by
      rw [hNv, ← hrB (k + 2) hl2]
      show rn B 0 (k + 1) + B (0 + (k + 1)) * 65536 ^ (k + 1) = _
      rw [Nat.zero_add]
    have hlow := rn_lt rB 0 (k + 1)
    have hsh := shl_top16 ht hlt
    have hNub : rn G p 20 * 2 ^ t < 65536 ^ (k + 2) := by
      have a1 : rn G p 20 * 2 ^ t < (B (k + 1) + 1) * 65536 ^ (k + 1) * 2 ^ t := Nat.mul_lt_mul_of_pos_right (by rw [hNe, Nat.add_mul, Nat.one_mul]; omega) hp0
      have a2 : (B (k + 1) + 1) * 65536 ^ (k + 1) * 2 ^ t = (B (k + 1) + 1) * 2 ^ t * 65536 ^ (k + 1) := Nat.mul_right_comm _ _ _
      have a3 := Nat.mul_le_mul_right (65536 ^ (k + 1)) hsh
      rw [show 65536 ^ (k + 2) = 65536 ^ (k + 1) * 65536 from Nat.pow_succ _ _, Nat.mul_comm (65536 ^ (k + 1))]
      omega
    have hc20 : c2 = 0 := by
      rcases Nat.eq_zero_or_pos c2 with e | e
      · exact e
      · exfalso
        have a1 := Nat.mul_le_mul_right (65536 ^ (k + 2)) e
        omega
    subst hc20
    rw [Nat.zero_mul, Nat.add_zero] at hv2
    have hB1e : rn B1 0 (k + 2) = rn B1 0 (k + 1) + B1 (k + 1) * 65536 ^ (k + 1) := by
      show rn B1 0 (k + 1) + B1 (0 + (k + 1)) * 65536 ^ (k + 1) = _
      rw [Nat.zero_add]
    have hB1low := rn_lt rB1 0 (k + 1)
    have hbg : 32768 ≤ B1 (k + 1) := by
      have a1 : B (k + 1) * 2 ^ t * 65536 ^ (k + 1) ≤ rn G p 20 * 2 ^ t := by
        rw [Nat.mul_right_comm]
        exact Nat.mul_le_mul_right _ (by rw [hNe]; omega)
      have a2 := Nat.mul_le_mul_right (65536 ^ (k + 1)) hge
      apply Nat.le_of_lt_succ
      apply Nat.lt_of_mul_lt_mul_right (a := 65536 ^ (k + 1))
      rw [Nat.succ_mul (B1 (k + 1))]
      omega
    have hD : rn G p 20 * 2 ^ t = rn B1 0 (k + 2) := hv2.symm
    have hDp : 0 < rn G p 20 * 2 ^ t := Nat.mul_pos (by omega) hp0
    have hend : ∀ Qt2 L2 l6, RB Qt2 → RB L2 → (∀ k, m < k → k < 22 → L2 k = 0) → rn L2 0 (m + 1) + rn G p 20 * 2 ^ t * rn Qt2 0 20 = rn G o 20 * 2 ^ t → rn L2 0 (m + 1) < rn G p 20 * 2 ^ t → pb_R 158 270 [some (.ref 65), some (.int (nI o)), some (.int (nI p)), some (.int (nI m)), some (.int (nI (k + 2))), some (.int (nI t)), l6, none, none, none] [none, none, none, none, none, none, none, none, none, none] [] (dH h Qt2 L2 B1) Q := by
      intro Qt2 L2 l6 rQ2 rL2 hzl hv hlt2
      have hdm : rn Qt2 0 20 = rn G o 20 / rn G p 20 ∧ (rn L2 0 (m + 1) = 0 ↔ rn G o 20 % rn G p 20 = 0) := by
        have a1 : rn G o 20 * 2 ^ t / (rn G p 20 * 2 ^ t) = rn Qt2 0 20 := by
          rw [← hv, Nat.add_comm, Nat.mul_add_div hDp, Nat.div_eq_of_lt hlt2, Nat.add_zero]
        have a2 : rn G o 20 * 2 ^ t % (rn G p 20 * 2 ^ t) = rn L2 0 (m + 1) := by
          rw [← hv, Nat.add_comm, Nat.mul_add_mod, Nat.mod_eq_of_lt hlt2]
        rw [Nat.mul_div_mul_right _ _ hp0] at a1
        rw [Nat.mul_mod_mul_right] at a2
        refine ⟨a1.symm, ?_⟩
        rw [← a2]
        constructor
        · intro e
          rcases Nat.mul_eq_zero.mp e with q | q
          · exact q
          · omega
        · intro e; rw [e, Nat.zero_mul]
      have hfin := hQ Qt2 L2 B1 rQ2 rL2 rB1 hdm.1
      have h22 : rn L2 0 22 = rn L2 0 (m + 1) := rn_cut (by omega) (fun i i1 i2 => by rw [Nat.zero_add]; exact hzl i (by omega) i2)
      simp only [pb_e158]
      refine R158_276 (h := h) (B := B1) hs rL2 ?_ 22 0 1 (by omega) rfl
      intro l7
      rw [h22]
      by_cases c : rn G o 20 % rn G p 20 = 0
      · rw [if_pos c] at hfin
        rw [if_pos (hdm.2.mpr c)]
        simp only [pb_e158, hs', pb_gr, pb_o_some, true_and]
        exact hfin
      · rw [if_neg c] at hfin
        rw [if_neg (fun e => c (hdm.2.mp e))]
        simp only [pb_e158, hs', pb_gr, pb_o_some, true_and]
        exact hfin
    simp only [Option.toList_none, List.nil_append, pb_e158, dH_sb]
    have hzl1 : ∀ k, m < k → k < 22 → L1 k = 0 := fun i i1 i2 => by
      rw [hbo1 i (by omega)]
      by_cases e : i < 20
      · rw [hLv i e]; exact ht1 i (by omega) e
      · rcases (show i = 20 ∨ i = 21 by omega) with q | q
        · rw [q]; exact hL20
        · rw [q]; exact hL21
    by_cases hmn : m < k + 2
    · have hneg : nI m - nI (k + 2) < 0 := pk_sneg (by omega) hmn
      have hf := hend Qt L1 (some (.int (nI m - nI (k + 2)))) rQ rL1 hzl1 (by
        rw [hv1, rn_of_zero (fun i hi => hz _ (by omega)), Nat.mul_zero, Nat.add_zero]) (by
        rw [hv1]
        refine Nat.mul_lt_mul_of_pos_right (Nat.lt_of_lt_of_le hAlt (Nat.le_trans (Nat.pow_le_pow_right (by omega) ?_) hNge)) hp0
        omega)
      simp only [pb_e158] at hf
      rw [pb_q158_244]
      simp only [pb_e158, hneg, if_true]
      exact hf
    · have hj : nI m - nI (k + 2) = nI (m - (k + 2) + 1) + -1 := by rw [pk_m1, pk_sub (by omega)]
      rw [hj]
      refine R158_244 (h := h) (D := rn G p 20 * 2 ^ t) (A := rn G o 20 * 2 ^ t) hs rB1 (by omega) hl2 hl1 (by omega) hD hbg ?_ (m - (k + 2) + 1) Qt L1 (Nat.le_refl _) rQ rL1 hzl1 (fun i _ i2 => hz i i2) ?_ ?_
      · intro Qt2 L2 l6 rQ2 rL2 hzl hzq hv hlt2
        refine hend Qt2 L2 l6 rQ2 rL2 hzl ?_ hlt2
        rw [rn_cut (G := Qt2) (o := 0) (k := m - (k + 2) + 1) (n := 20) (by omega) (fun i i1 i2 => by rw [Nat.zero_add]; exact hzq i (by omega) (by omega))]
        exact hv
      · rw [hv1, Nat.sub_self]
        show _ + _ * (_ * 0) = _
        rw [Nat.mul_zero, Nat.mul_zero, Nat.add_zero]
      · have e1 : m + 1 - (m - (k + 2) + 1) = k + 2 := by omega
        rw [e1]
        have a1 := rn_split L1 0 (m - (k + 2) + 1) (k + 2)
        rw [show m - (k + 2) + 1 + (k + 2) = m + 1 by omega, hv1, Nat.zero_add] at a1
        have a2 : rn G o 20 * 2 ^ t < 65536 ^ m * 2 ^ t := Nat.mul_lt_mul_of_pos_right hAlt hp0
        have a3 : 65536 ^ m = 65536 ^ (m - (k + 2) + 1) * 65536 ^ (k + 1) := by rw [← Nat.pow_add, show m - (k + 2) + 1 + (k + 1) = m by omega]
        have a4 : 65536 ^ (m - (k + 2) + 1) * rn L1 (m - (k + 2) + 1) (k + 2) < 65536 ^ (m - (k + 2) + 1) * (65536 ^ (k + 1) * 2 ^ t) := by
          rw [← Nat.mul_assoc, ← a3]
          omega
        have a5 := Nat.lt_of_mul_lt_mul_left a4
        have a6 : 65536 ^ (k + 1) * 2 ^ t ≤ rn G p 20 * 2 ^ t := Nat.mul_le_mul_right _ hNge
        omega
section DU
variable {h : pb_H} {Q : Option Value → pb_H → Prop} {s : Nat → Int32} {G Qt : Nat → Nat} {o p : Nat}
theorem R159_8 (hs : h.2 65 = rm s) (h71 : h.2 71 = cA 21 Qt) (rQ : RB Qt) (ho : o + 20 ≤ 123420)
    (hE : ∀ G' l3, RB G' → bo o 20 G G' → rn G' o 20 = rn Qt 0 20 → pb_R 159 34 [some (.ref 65), some (.int (nI o)), some (.int (nI p)), l3, none, none] [] [] (pb_set h 66 (cN G')) Q) :
    ∀ r i G', i + r = 20 → RB G' → bo o 20 G G' → (∀ j, j < i → G' (o + j) = Qt (0 + j)) → pb_R 159 8 [some (.ref 65), some (.int (nI o)), some (.int (nI p)), some (.int (nI i)), none, none] [] [] (pb_set h 66 (cN G')) Q := by
  have hs' : ∀ c, (pb_set h 66 c).2 65 = rm s := fun c => by rw [pb_set_get, if_neg (by omega), hs]
  have hq' : ∀ c, (pb_set h 66 c).2 71 = cA 21 Qt := fun c => by rw [pb_set_get, if_neg (by omega), h71]
  have hg' : ∀ c, (pb_set h 66 c).2 66 = c := fun c => by rw [pb_set_get, if_pos rfl]
  intro r
  induction r with
  | zero =>
    intro i G' hi hB' hb hz
    obtain rfl : i = 20 := by omega
    have hf := hE G' (some (.int (nI 20))) hB' hb (rn_congr hz)
    simp only [pb_e159, hs', pb_gr, pb_o_some, true_and] at hf
    rw [pb_q159_8]
    simp only [pb_e159, nI20, Int32.le_refl, if_true, hs', pb_gr, pb_o_some, true_and]
    exact hf
  | succ r ih =>
    intro i G' hi hB' hb hz
    have c1 : ¬ nI 20 ≤ nI i := nI_ge (by omega) (by omega)
    have hA := cA_get (n := 21) (G := Qt) (j := i) (by omega) (by omega)
    have hS := fun x => cN_set (G := G') (j := o + i) (x := x) (by omega)
    rw [pb_q159_8]
    simp only [pb_e159, nI20, c1, if_false, hs', hq', hg', pb_gr, pb_o_some, true_and, nI_add, hA, hS, pb_set_same, nI_1]
    refine ih (i + 1) _ (by omega) (RB_un hB' (rQ _)) (bo_trans hb (bo_un (by omega) (by omega))) (fun j hj => ?_)
    by_cases e : j = i
    · subst e; rw [un_same, Nat.zero_add]
    · rw [un_ne _ (by omega)]; exact hz j (by omega)
theorem R159_50 (hs : h.2 65 = rm s) (ho : o + 20 ≤ 123420)
    (hQ : ∀ G' c, RB G' → bo o 20 G G' → rn G' o 20 + c * 65536 ^ 20 = rn G o 20 + 1 → Q none (pb_set h 66 (cN G'))) :
    ∀ r i G' c l5, i + r = 20 → RB G' → c ≤ 1 → bo o i G G' → rn G' o i + c * 65536 ^ i = rn G o i + 1 → pb_R 159 50 [some (.ref 65), some (.int (nI o)), some (.int (nI p)), some (.int (nI c)), some (.int (nI i)), l5] [] [] (pb_set h 66 (cN G')) Q := by
  have hs' : ∀ c, (pb_set h 66 c).2 65 = rm s := fun c => by rw [pb_set_get, if_neg (by omega), hs]
  have hg' : ∀ c, (pb_set h 66 c).2 66 = c := fun c => by rw [pb_set_get, if_pos rfl]
  intro r
  induction r with
  | zero =>
    intro i G' c l5 hi hB' hc hb hv
    obtain rfl : i = 20 := by omega
    rw [pb_q159_50]
    simp only [pb_e159, nI20, Int32.le_refl, if_true]
    exact hQ G' c hB' hb hv
  | succ r ih =>
    intro i G' c l5 hi hB' hc hb hv
    have c1 : ¬ nI 20 ≤ nI i := nI_ge (by omega) (by omega)
    rw [pb_q159_50]
    by_cases c0 : c = 0
    · subst c0
      have k : nI 0 ≤ 0 := by decide
      simp only [pb_e159, nI20, c1, if_false, k, if_true]
      refine hQ G' 0 hB' (fun k hk => hb k (by omega)) ?_
      rw [Nat.zero_mul, Nat.add_zero] at hv ⊢
      obtain ⟨d, hd⟩ : ∃ d, 20 = i + d := ⟨20 - i, by omega⟩
      rw [hd, rn_split, rn_split, hv, rn_congr (G := G') (H := G) (p := o + i) (n := d) (fun j hj => hb _ (by omega))]
      omega
    · obtain rfl : c = 1 := by omega
      have k : ¬ nI 1 ≤ 0 := by decide
      have hA := cN_get (G := G') (j := o + i) (by omega)
      have hS := fun x => cN_set (G := G') (j := o + i) (x := x) (by omega)
      have b1 := hB' (o + i)
      have k1 := an16 (n := G' (o + i) + 1) (by omega)
      have k2 := sh16 (n := G' (o + i) + 1) (by omega)
      have hx : G' (o + i) = G (o + i) := hb _ (by omega)
      simp only [pb_e159, nI20, c1, if_false, k, hs', hg', pb_gr, pb_o_some, true_and, nI_add, hA, k1, k2, hS, pb_set_same, nI_1]
      refine ih (i + 1) _ _ _ (by omega) (RB_un hB' (Nat.mod_lt _ (by omega))) (by omega) (fun k hk => by rw [un_ne _ (by omega)]; exact hb k (by omega)) ?_
      have e2 : rn G o (i + 1) = rn G o i + G (o + i) * 65536 ^ i := rfl
      rw [rn_un, e2, Nat.pow_succ, hx]
      rw [Nat.one_mul] at hv
      generalize 65536 ^ i = P at *
      have e4 : (G (o + i) + 1) % 65536 * P + (G (o + i) + 1) / 65536 * (P * 65536) = G (o + i) * P + P := by
        rw [Nat.mul_comm P 65536, ← Nat.mul_assoc, ← Nat.add_mul]
        have : (G (o + i) + 1) % 65536 + (G (o + i) + 1) / 65536 * 65536 = G (o + i) + 1 := by omega
        rw [this, Nat.add_mul, Nat.one_mul]
      omega
end DU
