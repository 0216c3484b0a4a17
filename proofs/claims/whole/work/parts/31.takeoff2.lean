/-! Divider.takeOff, its second loop and its meaning. -/
def tbm (dv : Nat → Int32) (W w : Nat) : Nat := if w < W then wu (dv w) else 0
def tb (l dv : Nat → Int32) (pl W : Nat) : Nat → (Nat → Int32) × Nat
  | 0 => (l, 0)
  | w + 1 => (upd (tb l dv pl W w).1 (pl + w) (nI ((tb l dv pl W w).2 + (wu (l (pl + w)) + tbm dv W w))), ((tb l dv pl W w).2 + (wu (l (pl + w)) + tbm dv W w)) / 4294967296)
theorem tbm_lt (dv : Nat → Int32) (W w : Nat) : tbm dv W w < 4294967296 := by
  unfold tbm
  split
  · exact wu_lt _
  · omega
theorem tb_c (l dv : Nat → Int32) (pl W : Nat) : ∀ w, (tb l dv pl W w).2 ≤ 1
  | 0 => Nat.zero_le _
  | w + 1 => by
    have h1 := tb_c l dv pl W w
    have h2 := wu_lt (l (pl + w))
    have h3 := tbm_lt dv W w
    show ((tb l dv pl W w).2 + (wu (l (pl + w)) + tbm dv W w)) / 4294967296 ≤ 1
    omega
theorem tb_out (l dv : Nat → Int32) (pl W : Nat) : ∀ w k, (k < pl ∨ pl + w ≤ k) → (tb l dv pl W w).1 k = l k
  | 0, _, _ => rfl
  | w + 1, k, h => by
    show upd (tb l dv pl W w).1 (pl + w) _ k = l k
    rw [upd_ne _ _ (by omega)]
    exact tb_out l dv pl W w k (by omega)
theorem tb_val (l dv : Nat → Int32) (pl W : Nat) : ∀ w, w ≤ W → wv (tb l dv pl W w).1 pl w + (tb l dv pl W w).2 * 4294967296 ^ w = wv l pl w + wv dv 0 w
  | 0, _ => by show 0 + 0 * 1 = 0 + 0; rfl
  | w + 1, hw => by
    have h1 := tb_val l dv pl W w (by omega)
    show wv (upd (tb l dv pl W w).1 (pl + w) _) pl w + wu (upd (tb l dv pl W w).1 (pl + w) _ (pl + w)) * 4294967296 ^ w + _ / 4294967296 * 4294967296 ^ (w + 1) = (wv l pl w + wu (l (pl + w)) * 4294967296 ^ w) + (wv dv 0 w + wu (dv (0 + w)) * 4294967296 ^ w)
    rw [Nat.zero_add, upd_same, wv_upd_above _ _ (Nat.le_refl _), wu_nI, Nat.pow_succ]
    generalize hs : (tb l dv pl W w).2 + (wu (l (pl + w)) + tbm dv W w) = sm
    generalize hP : 4294967296 ^ w = P at h1 ⊢
    have h2 := digit_sum sm P
    have e : tbm dv W w = wu (dv w) := by unfold tbm; rw [if_pos (by omega)]
    have h4 : sm * P = (tb l dv pl W w).2 * P + wu (l (pl + w)) * P + wu (dv w) * P := by
      rw [← hs, e, Nat.add_mul, Nat.add_mul]
      omega
    omega
theorem tb_top (l dv : Nat → Int32) (pl W : Nat) : wv (tb l dv pl W (W + 1)).1 pl (W + 1) + (tb l dv pl W (W + 1)).2 * 4294967296 ^ (W + 1) = wv l pl (W + 1) + wv dv 0 W := by
  have h1 := tb_val l dv pl W W (Nat.le_refl _)
  show wv (upd (tb l dv pl W W).1 (pl + W) _) pl W + wu (upd (tb l dv pl W W).1 (pl + W) _ (pl + W)) * 4294967296 ^ W + _ / 4294967296 * 4294967296 ^ (W + 1) = (wv l pl W + wu (l (pl + W)) * 4294967296 ^ W) + wv dv 0 W
  rw [upd_same, wv_upd_above _ _ (Nat.le_refl _), wu_nI, Nat.pow_succ]
  generalize hs : (tb l dv pl W W).2 + (wu (l (pl + W)) + tbm dv W W) = sm
  generalize hP : 4294967296 ^ W = P at h1 ⊢
  have h2 := digit_sum sm P
  have e : tbm dv W W = 0 := by unfold tbm; rw [if_neg (by omega)]
  have h4 : sm * P = (tb l dv pl W W).2 * P + wu (l (pl + W)) * P := by
    rw [← hs, e, Nat.add_zero, Nat.add_mul]
  omega
theorem m34_back {H : pb_H} {Q : Option Value → pb_H → Prop} {d a0 a1 a2 n0 n1 pl W q : Nat} {s0 : Int32} {l dv : Nat → Int32} {j4 j6 : Option Int64} (hda : d ≠ a1) (h01 : a0 ≠ a1) (hD : H.2 d = cv a0 a1 a2 (nI W) s0) (h0 : H.2 a0 = ci n0 dv) (hW : W ≤ n0) (hpl : pl + W + 1 ≤ n1) (hn0 : n0 < 2 ^ 31) (hn1 : n1 < 2 ^ 31) :
    ∀ k w, w + k = W + 1 → (pb_R 34 124 [some (.ref d), some (.int (nI pl)), none, none, none, none, none, none, none, none, some (.int (nI w))] [none, none, some (lN q), none, j4, none, j6, none, some (lN (tb l dv pl W w).2), none, none] [] (pb_set H a1 (ci n1 (tb l dv pl W w).1)) Q ↔
      Q (some (.int (lN q - 1).toInt32)) (pb_set H a1 (ci n1 (tb l dv pl W (W + 1)).1))) := by
  intro k
  induction k with
  | zero =>
    intro w hw
    obtain rfl : w = W + 1 := by omega
    have hF : (pb_set H a1 (ci n1 (tb l dv pl W (W + 1)).1)).2 d = cv a0 a1 a2 (nI W) s0 := by rw [pb_set_get, if_neg hda, hD]
    rw [pb_q34_124]
    simp only [pb_e34, hF, pb_g3, pb_o_some, if_pos (nI_lt (a := W) (b := W + 1) (by omega) (by omega))]
  | succ k ih =>
    intro w hw
    have hF : (pb_set H a1 (ci n1 (tb l dv pl W w).1)).2 d = cv a0 a1 a2 (nI W) s0 := by rw [pb_set_get, if_neg hda, hD]
    have hA : pb_ai ((pb_set H a1 (ci n1 (tb l dv pl W w).1)).2 a1) (nI (pl + w)) = some (l (pl + w)) := by
      rw [pb_set_get, if_pos rfl, pb_ai_eq (Or.inl rfl) (by omega) hn1, tb_out _ _ _ _ _ _ (by omega)]
    have hS : ∀ x, pb_si ((pb_set H a1 (ci n1 (tb l dv pl W w).1)).2 a1) (nI (pl + w)) x = some (ci n1 (upd (tb l dv pl W w).1 (pl + w) x)) := by
      intro x
      rw [pb_set_get, if_pos rfl, pb_si_eq (by omega) hn1]
    have hcc := tb_c l dv pl W w
    have hx := wu_lt (l (pl + w))
    have hy := tbm_lt dv W w
    rw [← ih (w + 1) (by omega), pb_q34_124]
    by_cases hwW : w < W
    · have hB : pb_ai ((pb_set H a1 (ci n1 (tb l dv pl W w).1)).2 a0) (nI w) = some (dv w) := by
        rw [pb_set_get, if_neg h01, h0, pb_ai_eq (Or.inl rfl) (by omega) hn0]
      have em : wu (dv w) = tbm dv W w := by unfold tbm; rw [if_pos hwW]
      simp only [pb_e34, hF, pb_g3, pb_o_some, if_neg (nI_nlt (a := W) (b := w) (by omega) (by omega)), if_neg (nI_ge (a := w) (b := W) hwW (by omega)), hB, low_and, em, lN_add, nI_add, hA, lN_i32, hS, pb_set_same, lN_ushr32 (n := (tb l dv pl W w).2 + (wu (l (pl + w)) + tbm dv W w)) (by omega), nI_1]
      rfl
    · have em : (0 : Int64) = lN (tbm dv W w) := by unfold tbm; rw [if_neg hwW]; rfl
      have em2 : lN (wu (l (pl + w))) + 0 = lN (wu (l (pl + w)) + tbm dv W w) := by rw [em, lN_add]
      simp only [pb_e34, hF, pb_g3, pb_o_some, if_neg (nI_nlt (a := W) (b := w) (by omega) (by omega)), if_pos (nI_le (a := W) (b := w) (by omega) (by omega)), em2, low_and, lN_add, nI_add, hA, lN_i32, hS, pb_set_same, lN_ushr32 (n := (tb l dv pl W w).2 + (wu (l (pl + w)) + tbm dv W w)) (by omega), nI_1]
      rfl
/-- what takeOff leaves, and what it answers -/
def tof (l dv : Nat → Int32) (q pl W : Nat) : (Nat → Int32) × Nat := if (tk l dv q pl W (W + 1)).2.2 = 0 then ((tk l dv q pl W (W + 1)).1, q) else ((tb (tk l dv q pl W (W + 1)).1 dv pl W (W + 1)).1, q - 1)
/-- Divider.takeOff -/
theorem m34 {h : pb_H} {Q : Option Value → pb_H → Prop} {d a0 a1 a2 n0 n1 pl W q : Nat} {s0 : Int32} {l dv : Nat → Int32} (h01 : a0 ≠ a1) (hd : h.2 d = cv a0 a1 a2 (nI W) s0) (h0 : h.2 a0 = ci n0 dv) (h1 : h.2 a1 = ci n1 l) (hq : q ≤ 4294967296) (hq1 : 1 ≤ q ∨ (tk l dv q pl W (W + 1)).2.2 = 0) (hW : W ≤ n0) (hpl : pl + W + 1 ≤ n1) (hn0 : n0 < 2 ^ 31) (hn1 : n1 < 2 ^ 31) :
    pb_call 34 [.ref d, .int (nI pl), .long (lN q)] h Q ↔ Q (some (.int (nI (tof l dv q pl W).2))) (pb_set h a1 (ci n1 (tof l dv q pl W).1)) := by
  have hda : d ≠ a1 := fun e => by rw [e, h1] at hd; cases hd
  have hl := m34_loop (H := h) (Q := Q) (l := l) (q := q) (pl := pl) hda h01 hd h0 hq hW hpl hn0 hn1 (W + 1) 0 (by omega)
  rw [show pb_set h a1 (ci n1 (tk l dv q pl W 0).1) = h from pb_set_id h h1] at hl
  have hb := tk_b l dv q pl W (W + 1)
  rw [pb_c34]
  simp only [pb_e34]
  refine Iff.trans hl ?_
  rcases (show (tk l dv q pl W (W + 1)).2.2 = 0 ∨ (tk l dv q pl W (W + 1)).2.2 = 1 by omega) with e | e
  · have e2 : ¬ lg_cmp (lJ (-(((tk l dv q pl W (W + 1)).2.2 : Nat) : Int))) 0 < 0 := by rw [e]; decide
    unfold tof
    rw [if_pos e]
    simp only [pb_e34, if_neg e2, lN_i32]
  · have e2 : lg_cmp (lJ (-(((tk l dv q pl W (W + 1)).2.2 : Nat) : Int))) 0 < 0 := by rw [e]; decide
    unfold tof
    rw [if_neg (by omega)]
    simp only [pb_e34, if_pos e2]
    have hk := m34_back (H := h) (Q := Q) (l := (tk l dv q pl W (W + 1)).1) (q := q) (pl := pl) (j4 := some (lN (tk l dv q pl W (W + 1)).2.1)) (j6 := some (lJ (-((tk l dv q pl W (W + 1)).2.2 : Int)))) hda h01 hd h0 hW hpl hn0 hn1 (W + 1) 0 (by omega)
    rw [show lN q - 1 = lN (q - 1) from lN_sub (a := q) (b := 1) (by omega), lN_i32] at hk
    exact hk
theorem tof_out (l dv : Nat → Int32) (q pl W : Nat) {k : Nat} (h : k < pl ∨ pl + (W + 1) ≤ k) : (tof l dv q pl W).1 k = l k := by
  unfold tof
  split
  · exact tk_out _ _ _ _ _ _ _ h
  · show (tb _ dv pl W (W + 1)).1 k = l k
    rw [tb_out _ _ _ _ _ _ h, tk_out _ _ _ _ _ _ _ h]
theorem tof_spec (l dv : Nat → Int32) {q : Nat} (pl W : Nat) (hq : q ≤ 4294967296) (hlow : q = 0 ∨ (q - 1) * wv dv 0 W ≤ wv l pl (W + 1)) :
    (wv (tof l dv q pl W).1 pl (W + 1) + (tof l dv q pl W).2 * wv dv 0 W = wv l pl (W + 1)) ∧ ((tof l dv q pl W).2 = if q * wv dv 0 W ≤ wv l pl (W + 1) then q else q - 1) ∧ (1 ≤ q ∨ (tk l dv q pl W (W + 1)).2.2 = 0) := by
  have h1 := tk_val l dv pl W hq (W + 1)
  have hb := tk_b l dv q pl W (W + 1)
  have hpW := tk_p l dv pl W hq W
  have hpr : (tk l dv q pl W (W + 1)).2.1 = 0 := by
    show ((tk l dv q pl W W).2.1 + tkm dv q W W) / 4294967296 = 0
    have : tkm dv q W W = 0 := by unfold tkm; rw [if_neg (by omega)]
    rw [this]
    omega
  have hlt := wv_lt (tk l dv q pl W (W + 1)).1 pl (W + 1)
  have hX := wv_lt l pl (W + 1)
  rw [tkv_top, hpr, Nat.add_zero] at h1
  have htb := tb_top (tk l dv q pl W (W + 1)).1 dv pl W
  have htc := tb_c (tk l dv q pl W (W + 1)).1 dv pl W (W + 1)
  have htl := wv_lt (tb (tk l dv q pl W (W + 1)).1 dv pl W (W + 1)).1 pl (W + 1)
  unfold tof
  generalize 4294967296 ^ (W + 1) = P at *
  by_cases hc : q * wv dv 0 W ≤ wv l pl (W + 1)
  · have e : (tk l dv q pl W (W + 1)).2.2 = 0 := by
      rcases (show (tk l dv q pl W (W + 1)).2.2 = 0 ∨ (tk l dv q pl W (W + 1)).2.2 = 1 by omega) with e | e
      · exact e
      · rw [e] at h1; omega
    rw [if_pos e, if_pos hc]
    rw [e] at h1
    refine ⟨?_, rfl, Or.inr e⟩
    show wv (tk l dv q pl W (W + 1)).1 pl (W + 1) + q * wv dv 0 W = _
    omega
  · have e : (tk l dv q pl W (W + 1)).2.2 = 1 := by
      rcases (show (tk l dv q pl W (W + 1)).2.2 = 0 ∨ (tk l dv q pl W (W + 1)).2.2 = 1 by omega) with e | e
      · rw [e] at h1; omega
      · exact e
    have hq0 : q ≠ 0 := fun e0 => hc (by rw [e0]; omega)
    obtain ⟨q', rfl⟩ : ∃ q', q = q' + 1 := ⟨q - 1, by omega⟩
    rw [if_neg (by omega), if_neg hc]
    have hlow' : q' * wv dv 0 W ≤ wv l pl (W + 1) := by
      rcases hlow with h | h
      · omega
      · exact h
    rw [e] at h1
    rw [Nat.add_mul, Nat.one_mul] at h1 hc
    refine ⟨?_, rfl, Or.inl (by omega)⟩
    show wv (tb (tk l dv (q' + 1) pl W (W + 1)).1 dv pl W (W + 1)).1 pl (W + 1) + (q' + 1 - 1) * wv dv 0 W = _
    rw [Nat.add_sub_cancel]
    rcases (show (tb (tk l dv (q' + 1) pl W (W + 1)).1 dv pl W (W + 1)).2 = 0 ∨ (tb (tk l dv (q' + 1) pl W (W + 1)).1 dv pl W (W + 1)).2 = 1 by omega) with f | f
    · rw [f] at htb; omega
    · rw [f] at htb; omega
