/-! Divider.split. -/
theorem pb_set3 (h : pb_H) {a b : Nat} (hab : b ≠ a) (x y z : pb_E) : pb_set (pb_set (pb_set h a x) b y) a z = pb_set (pb_set h a z) b y := by
  rw [pb_set_comm _ y z hab, pb_set_same]
/-- the words of the quotient, from the c-th down; what is left -/
def spl (dv : Nat → Int32) (W : Nat) : Nat → (Nat → Int32) → (Nat → Int32) → (Nat → Int32) × (Nat → Int32)
  | 0, l, qf => (l, qf)
  | p + 1, l, qf => spl dv W p (tof l dv (gss l dv p W) p W).1 (upd qf p (nI (tof l dv (gss l dv p W) p W).2))
theorem wv_high {l : Nat → Int32} {m n : Nat} (h : wv l 0 (m + n) < 4294967296 ^ m) : wv l m n = 0 ∧ wv l 0 (m + n) = wv l 0 m := by
  have h1 := wv_split l 0 m n
  rw [Nat.zero_add] at h1
  have hp : 0 < 4294967296 ^ m := Nat.pow_pos (by omega)
  rcases Nat.eq_zero_or_pos (wv l m n) with e | e
  · rw [e, Nat.mul_zero, Nat.add_zero] at h1
    exact ⟨e, h1⟩
  · exfalso
    have : 4294967296 ^ m * 1 ≤ 4294967296 ^ m * wv l m n := Nat.mul_le_mul_left _ e
    omega
theorem spl_step {l dv : Nat → Int32} {p W : Nat} (hW : 1 ≤ W) (hv : 2147483648 ≤ ghi dv W) (hpW : p + W + 1 ≤ 9) (hR : wv l 0 9 < wv dv 0 W * 4294967296 ^ (p + 1)) :
    gss l dv p W ≤ 4294967296 ∧ (gss l dv p W = 0 ∨ (gss l dv p W - 1) * wv dv 0 W ≤ wv l p (W + 1)) ∧ (tof l dv (gss l dv p W) p W).2 < 4294967296 ∧
    wv (tof l dv (gss l dv p W) p W).1 0 9 + (tof l dv (gss l dv p W) p W).2 * wv dv 0 W * 4294967296 ^ p = wv l 0 9 ∧ wv (tof l dv (gss l dv p W) p W).1 0 9 < wv dv 0 W * 4294967296 ^ p := by
  have hDlt := wv_lt dv 0 W
  have hP : 0 < 4294967296 ^ p := Nat.pow_pos (by omega)
  have hRlt : wv l 0 9 < 4294967296 ^ (p + (W + 1)) := by
    refine Nat.lt_of_lt_of_le hR ?_
    rw [show p + (W + 1) = W + (p + 1) by omega, Nat.pow_add 4294967296 W (p + 1)]
    exact Nat.mul_le_mul_right _ (Nat.le_of_lt hDlt)
  obtain ⟨c, hc⟩ : ∃ c, 9 = p + (W + 1) + c := ⟨9 - (p + (W + 1)), by omega⟩
  have hhi := wv_high (l := l) (m := p + (W + 1)) (n := c) (by rw [← hc]; exact hRlt)
  have hlow : wv l 0 9 = wv l 0 p + 4294967296 ^ p * wv l p (W + 1) := by
    rw [hc, hhi.2, wv_split, Nat.zero_add]
  have hX : wv l p (W + 1) < wv dv 0 W * 4294967296 := by
    apply Nat.lt_of_mul_lt_mul_left (a := 4294967296 ^ p)
    have e : wv dv 0 W * 4294967296 ^ (p + 1) = 4294967296 ^ p * (wv dv 0 W * 4294967296) := by
      rw [Nat.pow_succ, ← Nat.mul_assoc, Nat.mul_comm (wv dv 0 W), Nat.mul_assoc]
    rw [← e]
    omega
  obtain ⟨g1, g2⟩ := gss_range hW hv hX
  have hDp : 0 < wv dv 0 W := by
    apply Nat.pos_of_ne_zero
    intro e
    rw [e] at hX
    omega
  have hq : wv l p (W + 1) / wv dv 0 W < 4294967296 := Nat.div_lt_of_lt_mul hX
  have q1 := Nat.div_mul_le_self (wv l p (W + 1)) (wv dv 0 W)
  have q2 : wv l p (W + 1) < (wv l p (W + 1) / wv dv 0 W + 1) * wv dv 0 W := by
    rw [Nat.mul_comm]
    exact Nat.lt_mul_div_succ _ hDp
  have hg : gss l dv p W ≤ 4294967296 := by omega
  have hgl : gss l dv p W = 0 ∨ (gss l dv p W - 1) * wv dv 0 W ≤ wv l p (W + 1) := by
    right
    exact Nat.le_trans (Nat.mul_le_mul_right _ (Nat.sub_le_of_le_add g2)) q1
  obtain ⟨t1, t2, -⟩ := tof_spec l dv p W hg hgl
  have tq : (tof l dv (gss l dv p W) p W).2 = wv l p (W + 1) / wv dv 0 W := by
    rw [t2]
    rcases (show gss l dv p W = wv l p (W + 1) / wv dv 0 W ∨ gss l dv p W = wv l p (W + 1) / wv dv 0 W + 1 by omega) with e | e
    · rw [e, if_pos q1]
    · rw [e, if_neg (Nat.not_le.mpr q2), Nat.add_sub_cancel]
  refine ⟨hg, hgl, by rw [tq]; exact hq, ?_⟩
  have o1 : wv (tof l dv (gss l dv p W) p W).1 0 p = wv l 0 p := wv_congr (fun i hi => tof_out _ _ _ _ _ (by omega))
  have o2 : wv (tof l dv (gss l dv p W) p W).1 (p + (W + 1)) c = wv l (p + (W + 1)) c := wv_congr (fun i hi => tof_out _ _ _ _ _ (by omega))
  have hnew : wv (tof l dv (gss l dv p W) p W).1 0 9 = wv l 0 p + 4294967296 ^ p * wv (tof l dv (gss l dv p W) p W).1 p (W + 1) := by
    rw [hc, wv_split _ 0 (p + (W + 1)), Nat.zero_add, o2, hhi.1, Nat.mul_zero, Nat.add_zero, wv_split, Nat.zero_add, o1]
  rw [hnew, hlow, tq]
  rw [tq] at t1
  generalize wv l p (W + 1) / wv dv 0 W = q at *
  generalize wv (tof l dv (gss l dv p W) p W).1 p (W + 1) = X' at *
  generalize wv l p (W + 1) = X at *
  have hl0 := wv_lt l 0 p
  generalize 4294967296 ^ p = P at *
  generalize wv dv 0 W = Dv at *
  constructor
  · rw [← t1, Nat.mul_add, Nat.mul_comm (q * Dv) P]
    omega
  · have h3 : X' + 1 ≤ Dv := by
      rw [Nat.add_mul, Nat.one_mul] at q2
      omega
    have h4 : P * (X' + 1) ≤ P * Dv := Nat.mul_le_mul_left _ h3
    rw [Nat.mul_add, Nat.mul_one, Nat.mul_comm P Dv] at h4
    omega
theorem spl_spec {dv : Nat → Int32} {W : Nat} (hW : 1 ≤ W) (hv : 2147483648 ≤ ghi dv W) : ∀ (c : Nat) (l qf : Nat → Int32), c + W ≤ 9 → wv l 0 9 < wv dv 0 W * 4294967296 ^ c →
    wv (spl dv W c l qf).1 0 9 + wv (spl dv W c l qf).2 0 c * wv dv 0 W = wv l 0 9 ∧ wv (spl dv W c l qf).1 0 9 < wv dv 0 W ∧ ∀ k, c ≤ k → (spl dv W c l qf).2 k = qf k := by
  intro c
  induction c with
  | zero =>
    intro l qf _ hR
    refine ⟨?_, ?_, fun _ _ => rfl⟩
    · show wv l 0 9 + 0 * _ = _
      omega
    · show wv l 0 9 < _
      rw [Nat.pow_zero, Nat.mul_one] at hR
      exact hR
  | succ p ih =>
    intro l qf hp hR
    obtain ⟨-, -, s1, s2, s3⟩ := spl_step (l := l) hW hv (by omega) hR
    obtain ⟨i1, i2, i3⟩ := ih (tof l dv (gss l dv p W) p W).1 (upd qf p (nI (tof l dv (gss l dv p W) p W).2)) (by omega) s3
    refine ⟨?_, i2, fun k hk => ?_⟩
    · show wv (spl dv W p _ _).1 0 9 + (wv (spl dv W p _ _).2 0 p + wu ((spl dv W p _ _).2 (0 + p)) * 4294967296 ^ p) * wv dv 0 W = _
      rw [Nat.zero_add, i3 p (Nat.le_refl _), upd_same, wu_nI, Nat.mod_eq_of_lt s1, Nat.add_mul, ← s2, ← i1, Nat.mul_assoc _ (4294967296 ^ p), Nat.mul_comm (4294967296 ^ p) (wv dv 0 W), ← Nat.mul_assoc]
      omega
    · show (spl dv W p _ _).2 k = qf k
      rw [i3 k (by omega), upd_ne _ _ (by omega)]
theorem m36_two {h : pb_H} {Q : Option Value → pb_H → Prop} {d a0 a1 a2 n0 W : Nat} {s0 : Int32} {dv : Nat → Int32} {l1 l2 l3 l4 : Option Value} {j3 : Option Int64} (h01 : a0 ≠ a1) (h02 : a0 ≠ a2) (h12 : a1 ≠ a2) (hd1 : d ≠ a1) (hd2 : d ≠ a2) (hd : h.2 d = cv a0 a1 a2 (nI W) s0) (h0 : h.2 a0 = ci n0 dv) (hW1 : 1 ≤ W) (hW : W ≤ n0) (hn0 : n0 < 2 ^ 31) (hv : 2147483648 ≤ ghi dv W) :
    ∀ (c : Nat) (l qf : Nat → Int32), c + W ≤ 9 → wv l 0 9 < wv dv 0 W * 4294967296 ^ c → (pb_R 36 89 [some (.ref d), l1, l2, l3, l4, some (.int (nI c - 1))] [none, none, none, j3, none, none] [] (pb_set (pb_set h a2 (ci 8 qf)) a1 (ci 9 l)) Q ↔
      Q (some (.int (if wv (spl dv W c l qf).1 0 9 = 0 then 0 else 1))) (pb_set (pb_set h a2 (ci 8 (spl dv W c l qf).2)) a1 (ci 9 (spl dv W c l qf).1))) := by
  have hF : ∀ x y, (pb_set (pb_set h a2 x) a1 y).2 d = cv a0 a1 a2 (nI W) s0 := by
    intro x y
    rw [pb_set_get, if_neg hd1, pb_set_get, if_neg hd2, hd]
  have hA0 : ∀ x y, (pb_set (pb_set h a2 x) a1 y).2 a0 = ci n0 dv := by
    intro x y
    rw [pb_set_get, if_neg h01, pb_set_get, if_neg h02, h0]
  have hA1 : ∀ x y, (pb_set (pb_set h a2 x) a1 y).2 a1 = y := by
    intro x y
    rw [pb_set_get, if_pos rfl]
  have hA2 : ∀ x y, (pb_set (pb_set h a2 x) a1 y).2 a2 = x := by
    intro x y
    rw [pb_set_get, if_neg (Ne.symm h12), pb_set_get, if_pos rfl]
  intro c
  induction c with
  | zero =>
    intro l qf _ _
    rw [pb_q36_89]
    simp only [pb_e36, if_pos (show nI 0 - 1 < 0 by decide), hF, pb_g3, true_and, m35 (hF (ci 8 qf) (ci 9 l)) (hA1 (ci 8 qf) (ci 9 l)) (by omega) (by omega), Option.toList_some, List.singleton_append]
    show _ ↔ Q (some (.int (if wv l 0 9 = 0 then 0 else 1))) _
    by_cases e : wv l 0 9 = 0
    · simp only [if_pos e]
      exact and_iff_right nb0
    · simp only [if_neg e]
      exact and_iff_right nb1
  | succ p ih =>
    intro l qf hp hR
    obtain ⟨s0', s1, s2, s3, s4⟩ := spl_step (l := l) hW1 hv (by omega) hR
    have ht := (tof_spec l dv p W s0' s1).2.2
    have hS : ∀ x y z, pb_si ((pb_set (pb_set h a2 (ci 8 x)) a1 y).2 a2) (nI p) z = some (ci 8 (upd x p z)) := by
      intro x y z
      rw [hA2, pb_si_eq (by omega) (by omega)]
    have h9 := ih (tof l dv (gss l dv p W) p W).1 (upd qf p (nI (tof l dv (gss l dv p W) p W).2)) (by omega) s4
    rw [pb_q36_89, nI_pred]
    simp only [pb_e36, if_neg (nI_pos (n := p) (by omega)), hF, pb_g3, pb_o_some, true_and, m33 (hF (ci 8 qf) (ci 9 l)) (hA0 _ _) (hA1 _ _) hW1 hW (show p + W < 9 by omega) hn0 (by omega) hv, Option.toList_some, List.singleton_append, m34 h01 (hF (ci 8 qf) (ci 9 l)) (hA0 _ _) (hA1 _ _) s0' ht hW (show p + W + 1 ≤ 9 by omega) hn0 (by omega), pb_set_same, hS, pb_set3 h h12, sub1]
    exact h9
