/-! Divider.guess, from its beginning. -/
def gnx (dv : Nat → Int32) (W : Nat) : Nat := if 1 < W then wu (dv (W - 2)) else 0
def gbl (l : Nat → Int32) (pl W : Nat) : Nat := if 1 < W then wu (l (pl + W - 2)) else 0
def gtw (l : Nat → Int32) (pl W : Nat) : Nat := wu (l (pl + W)) * 4294967296 + wu (l (pl + W - 1))
def ghi (dv : Nat → Int32) (W : Nat) : Nat := wu (dv (W - 1))
def gss (l dv : Nat → Int32) (pl W : Nat) : Nat := gst (ghi dv W) (gnx dv W) (gbl l pl W) 3 (gtw l pl W / ghi dv W) (gtw l pl W % ghi dv W)
theorem gnx_lt (dv : Nat → Int32) (W : Nat) : gnx dv W < 4294967296 := by
  unfold gnx
  split
  · exact wu_lt _
  · omega
theorem gbl_lt (l : Nat → Int32) (pl W : Nat) : gbl l pl W < 4294967296 := by
  unfold gbl
  split
  · exact wu_lt _
  · omega
theorem gtw_lt (l : Nat → Int32) (pl W : Nat) : gtw l pl W < 18446744073709551616 := by
  unfold gtw
  have h1 := wu_lt (l (pl + W))
  have h2 := wu_lt (l (pl + W - 1))
  omega
theorem half_div (t v : Nat) (hv : 0 < v) : (t / 2 / v * 2) * v ≤ t ∧ t - (t / 2 / v * 2) * v < 2 * v ∧ (if t - (t / 2 / v * 2) * v < v then t / 2 / v * 2 = t / v ∧ t - (t / 2 / v * 2) * v = t % v else t / 2 / v * 2 + 1 = t / v ∧ t - (t / 2 / v * 2) * v - v = t % v) := by
  have h1 : t / 2 = v * (t / 2 / v) + t / 2 % v := (Nat.div_add_mod (t / 2) v).symm
  have h2 := Nat.mod_lt (t / 2) hv
  have h3 : (t / 2 / v * 2) * v = 2 * (v * (t / 2 / v)) := by rw [Nat.mul_comm (t / 2 / v) 2, Nat.mul_assoc, Nat.mul_comm (t / 2 / v) v]
  have h4 : t = 2 * (t / 2) + t % 2 := (Nat.div_add_mod t 2).symm
  have h5 := Nat.mod_lt t (show 0 < 2 by omega)
  have uniq : ∀ q r, t = v * q + r → r < v → q = t / v ∧ r = t % v := by
    intro q r e hr
    constructor
    · rw [e, Nat.mul_add_div hv, Nat.div_eq_of_lt hr, Nat.add_zero]
    · rw [e, Nat.mul_add_mod, Nat.mod_eq_of_lt hr]
  rw [h3]
  refine ⟨by omega, by omega, ?_⟩
  have h6 : v * (t / 2 / v * 2) = 2 * (v * (t / 2 / v)) := by rw [← Nat.mul_assoc, Nat.mul_comm]
  split
  · rename_i hc
    exact uniq _ _ (by rw [h6]; omega) hc
  · rename_i hc
    have h7 : v * (t / 2 / v * 2 + 1) = 2 * (v * (t / 2 / v)) + v := by rw [Nat.mul_add, h6, Nat.mul_one]
    exact uniq _ _ (by rw [h7]; omega) (by omega)
/-- Divider.guess -/
theorem m33 {h : pb_H} {Q : Option Value → pb_H → Prop} {d a0 a1 a2 n0 n1 pl W : Nat} {s0 : Int32} {l dv : Nat → Int32} (hd : h.2 d = cv a0 a1 a2 (nI W) s0) (h0 : h.2 a0 = ci n0 dv) (h1 : h.2 a1 = ci n1 l) (hW1 : 1 ≤ W) (hW : W ≤ n0) (hpl : pl + W < n1) (hn0 : n0 < 2 ^ 31) (hn1 : n1 < 2 ^ 31) (hv : 2147483648 ≤ ghi dv W) :
    pb_call 33 [.ref d, .int (nI pl)] h Q ↔ Q (some (.long (lN (gss l dv pl W)))) h := by
  have hvl : ghi dv W < 4294967296 := wu_lt _
  have ht := gtw_lt l pl W
  have hx0 := wu_lt (l (pl + W))
  have hx1 := wu_lt (l (pl + W - 1))
  obtain ⟨d1, d2, d3⟩ := half_div (gtw l pl W) (ghi dv W) (by omega)
  have hw0 : gtw l pl W / 2 / ghi dv W * 2 < 17179869183 := by
    have : gtw l pl W / 2 / ghi dv W ≤ gtw l pl W / 2 / 2147483648 := Nat.div_le_div_left hv (by omega)
    omega
  have A0 : pb_ai (ci n0 dv) (nI (W - 1)) = some (dv (W - 1)) := pb_ai_eq (Or.inl rfl) (by omega) hn0
  have A1 : pb_ai (ci n1 l) (nI (pl + W)) = some (l (pl + W)) := pb_ai_eq (Or.inl rfl) (by omega) hn1
  have A2 : pb_ai (ci n1 l) (nI (pl + W - 1)) = some (l (pl + W - 1)) := pb_ai_eq (Or.inl rfl) (by omega) hn1
  have s1 : nI W - 1 = nI (W - 1) := pk_sub (b := 1) hW1
  have s2 : nI (pl + W) - 1 = nI (pl + W - 1) := pk_sub (b := 1) (by omega)
  have ehi : lN (wu (dv (W - 1))) = lN (ghi dv W) := rfl
  have g0 : ¬ lg_cmp (lN (ghi dv W)) 0 = 0 := by
    intro e
    have := (lcm_gt (x := ghi dv W) (y := 0) (by omega) (by omega)).mpr (by omega)
    have e2 : lg_cmp (lN (ghi dv W)) (lN 0) = 0 := e
    rw [e2] at this
    exact absurd this (by decide)
  have e2 : lN (wu (l (pl + W)) * 4294967296) ||| lN (wu (l (pl + W - 1))) = lN (gtw l pl W) := lN_or hx0 hx1
  have hne : ¬ lN (ghi dv W) = 0 := by
    intro e
    have := (pk_lEQ (a := ghi dv W) (b := 0) (by omega) (by omega)).mp e
    omega
  have hdv : lN (gtw l pl W / 2) / lN (ghi dv W) = lN (gtw l pl W / 2 / ghi dv W) := pk_lDiv (by omega) (by omega) (by omega)
  have hsb : lN (gtw l pl W) - lN (gtw l pl W / 2 / ghi dv W * 2 * ghi dv W) = lN (gtw l pl W - gtw l pl W / 2 / ghi dv W * 2 * ghi dv W) := lN_sub d1
  have hlt := lcm_lt (x := gtw l pl W - gtw l pl W / 2 / ghi dv W * 2 * ghi dv W) (y := ghi dv W) (by omega) (by omega)
  have sb2 : ¬ gtw l pl W - gtw l pl W / 2 / ghi dv W * 2 * ghi dv W < ghi dv W → lN (gtw l pl W - gtw l pl W / 2 / ghi dv W * 2 * ghi dv W) - lN (ghi dv W) = lN (gtw l pl W - gtw l pl W / 2 / ghi dv W * 2 * ghi dv W - ghi dv W) := fun q => lN_sub (by omega)
  have hmod := Nat.mod_lt (gtw l pl W) (show 0 < ghi dv W by omega)
  have hdl : gtw l pl W / ghi dv W < 17179869184 := by
    have : gtw l pl W / ghi dv W ≤ gtw l pl W / 2147483648 := Nat.div_le_div_left hv (by omega)
    omega
  have hl := m33_loop (h := h) (Q := Q) (high := ghi dv W) (next := gnx dv W) (below := gbl l pl W) (l0 := some (.ref d)) (l1 := some (.int (nI pl))) (two := lN (gtw l pl W)) hvl (gnx_lt dv W) (gbl_lt l pl W) 3 0 (gtw l pl W / ghi dv W) (gtw l pl W % ghi dv W) (by omega) hdl (by omega)
  unfold gss
  refine Iff.trans ?_ hl
  rw [pb_c33]
  by_cases hW2 : 1 < W
  · have B0 : pb_ai (ci n0 dv) (nI (W - 2)) = some (dv (W - 2)) := pb_ai_eq (Or.inl rfl) (by omega) hn0
    have B1 : pb_ai (ci n1 l) (nI (pl + W - 2)) = some (l (pl + W - 2)) := pb_ai_eq (Or.inl rfl) (by omega) hn1
    have s3 : nI W - 2 = nI (W - 2) := pk_sub (b := 2) (by omega)
    have s4 : nI (pl + W) - 2 = nI (pl + W - 2) := pk_sub (b := 2) (by omega)
    have c1 : ¬ nI W ≤ 1 := nI_ge (a := 1) (b := W) hW2 (by omega)
    have enx : lN (wu (dv (W - 2))) = lN (gnx dv W) := by unfold gnx; rw [if_pos hW2]
    have ebl : lN (wu (l (pl + W - 2))) = lN (gbl l pl W) := by unfold gbl; rw [if_pos hW2]
    by_cases hc : gtw l pl W - gtw l pl W / 2 / ghi dv W * 2 * ghi dv W < ghi dv W
    · rw [if_pos hc] at d3
      simp only [pb_e33, hd, pb_g3, pb_o_some, s1, h0, A0, low_and, ehi, if_pos g0, if_neg c1, s3, B0, enx, h1, nI_add, s4, B1, ebl, A1, lN_shl32, s2, A2, e2, lN_ushr1 ht, hne, not_false_eq_true, true_and, hdv, lN_shl1, lN_mul, hsb, hlt, if_pos hc]
      rw [d3.2, d3.1]
      exact Iff.rfl
    · rw [if_neg hc] at d3
      have ea : lN (gtw l pl W / 2 / ghi dv W * 2) + 1 = lN (gtw l pl W / 2 / ghi dv W * 2 + 1) := lN_add _ 1
      simp only [pb_e33, hd, pb_g3, pb_o_some, s1, h0, A0, low_and, ehi, if_pos g0, if_neg c1, s3, B0, enx, h1, nI_add, s4, B1, ebl, A1, lN_shl32, s2, A2, e2, lN_ushr1 ht, hne, not_false_eq_true, true_and, hdv, lN_shl1, lN_mul, hsb, hlt, if_neg hc, ea, sb2 hc]
      rw [d3.1, d3.2]
      exact Iff.rfl
  · obtain rfl : W = 1 := by omega
    have c1 : nI 1 ≤ 1 := Int32.le_refl _
    have enx : lN (gnx dv 1) = 0 := rfl
    have ebl : lN (gbl l pl 1) = 0 := rfl
    by_cases hc : gtw l pl 1 - gtw l pl 1 / 2 / ghi dv 1 * 2 * ghi dv 1 < ghi dv 1
    · rw [if_pos hc] at d3
      simp only [pb_e33, hd, pb_g3, pb_o_some, s1, h0, A0, low_and, ehi, if_pos g0, if_pos c1, h1, nI_add, A1, lN_shl32, s2, A2, e2, lN_ushr1 ht, hne, not_false_eq_true, true_and, hdv, lN_shl1, lN_mul, hsb, hlt, if_pos hc]
      rw [d3.2, d3.1, enx, ebl]
      exact Iff.rfl
    · rw [if_neg hc] at d3
      have ea : lN (gtw l pl 1 / 2 / ghi dv 1 * 2) + 1 = lN (gtw l pl 1 / 2 / ghi dv 1 * 2 + 1) := lN_add _ 1
      simp only [pb_e33, hd, pb_g3, pb_o_some, s1, h0, A0, low_and, ehi, if_pos g0, if_pos c1, h1, nI_add, A1, lN_shl32, s2, A2, e2, lN_ushr1 ht, hne, not_false_eq_true, true_and, hdv, lN_shl1, lN_mul, hsb, hlt, if_neg hc, ea, sb2 hc]
      rw [d3.1, d3.2, enx, ebl]
      exact Iff.rfl
