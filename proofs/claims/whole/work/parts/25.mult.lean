/-! Wide.multiply. -/
theorem wv_split (f : Nat → Int32) (o m : Nat) : ∀ n, wv f o (m + n) = wv f o m + 4294967296 ^ m * wv f (o + m) n
  | 0 => by show wv f o m = wv f o m + 4294967296 ^ m * 0; omega
  | n + 1 => by
    have h1 := wv_split f o m n
    show wv f o (m + n) + wu (f (o + (m + n))) * 4294967296 ^ (m + n) = wv f o m + 4294967296 ^ m * (wv f (o + m) n + wu (f (o + m + n)) * 4294967296 ^ n)
    rw [h1, Nat.pow_add, Nat.mul_add, ← Nat.add_assoc o m n, Nat.add_assoc, Nat.mul_left_comm]
theorem wv_one (f : Nat → Int32) (o : Nat) : wv f o 1 = wu (f o) := by
  show 0 + wu (f (o + 0)) * 1 = _
  rw [Nat.add_zero]
  omega
theorem digit_sum (sm P : Nat) : sm % 4294967296 * P + sm / 4294967296 * (P * 4294967296) = sm * P := by
  have h3 : sm = sm % 4294967296 + 4294967296 * (sm / 4294967296) := (Nat.mod_add_div sm 4294967296).symm
  calc sm % 4294967296 * P + sm / 4294967296 * (P * 4294967296) = (sm % 4294967296 + 4294967296 * (sm / 4294967296)) * P := by
        rw [Nat.add_mul, Nat.mul_comm P 4294967296, ← Nat.mul_assoc, Nat.mul_comm (sm / 4294967296) 4294967296]
    _ = sm * P := by rw [← h3]
def wmi (p g : Nat → Int32) (one u : Nat) : Nat → (Nat → Int32) × Nat
  | 0 => (p, 0)
  | w + 1 => (upd (wmi p g one u w).1 (u + w) (nI ((wmi p g one u w).2 + (one * wu (g w) + wu (p (u + w))))), ((wmi p g one u w).2 + (one * wu (g w) + wu (p (u + w)))) / 4294967296)
theorem mul_bound {x y : Nat} (hx : x < 4294967296) (hy : y < 4294967296) : x * y ≤ 18446744065119617025 := Nat.le_trans (Nat.mul_le_mul (show x ≤ 4294967295 by omega) (show y ≤ 4294967295 by omega)) (by decide)
theorem wmi_carry (p g : Nat → Int32) {one : Nat} (u : Nat) (ho : one < 4294967296) : ∀ w, (wmi p g one u w).2 < 4294967296
  | 0 => by show 0 < _; omega
  | w + 1 => by
    have h1 := wmi_carry p g u ho w
    have h2 := mul_bound ho (wu_lt (g w))
    have h3 := wu_lt (p (u + w))
    show ((wmi p g one u w).2 + (one * wu (g w) + wu (p (u + w)))) / 4294967296 < 4294967296
    omega
theorem wmi_out (p g : Nat → Int32) (one u : Nat) : ∀ w k, (k < u ∨ u + w ≤ k) → (wmi p g one u w).1 k = p k
  | 0, _, _ => rfl
  | w + 1, k, h => by
    show upd (wmi p g one u w).1 (u + w) _ k = p k
    rw [upd_ne _ _ (by omega)]
    exact wmi_out p g one u w k (by omega)
theorem wmi_val (p g : Nat → Int32) (one u : Nat) : ∀ w, wv (wmi p g one u w).1 u w + (wmi p g one u w).2 * 4294967296 ^ w = wv p u w + one * wv g 0 w
  | 0 => by show 0 + 0 * 1 = 0 + one * 0; omega
  | w + 1 => by
    have h1 := wmi_val p g one u w
    show wv (upd (wmi p g one u w).1 (u + w) _) u w + wu (upd (wmi p g one u w).1 (u + w) _ (u + w)) * 4294967296 ^ w + _ / 4294967296 * 4294967296 ^ (w + 1) = (wv p u w + wu (p (u + w)) * 4294967296 ^ w) + one * (wv g 0 w + wu (g (0 + w)) * 4294967296 ^ w)
    rw [Nat.zero_add, upd_same, wv_upd_above _ _ (Nat.le_refl _), wu_nI, Nat.pow_succ]
    generalize hs : (wmi p g one u w).2 + (one * wu (g w) + wu (p (u + w))) = sm
    generalize hP : 4294967296 ^ w = P at h1 ⊢
    have h2 := digit_sum sm P
    have h4 : sm * P = (wmi p g one u w).2 * P + one * (wu (g w) * P) + wu (p (u + w)) * P := by
      rw [← hs, Nat.add_mul, Nat.add_mul, Nat.mul_assoc]
      omega
    rw [Nat.mul_add]
    omega
def wm (p f g : Nat → Int32) (i fw : Nat) : Nat → Nat → Int32
  | 0 => p
  | u + 1 => upd (wmi (wm p f g i fw u) g (wu (f (i + u))) u fw).1 (u + fw) (nI (wmi (wm p f g i fw u) g (wu (f (i + u))) u fw).2)
theorem wm_out (p f g : Nat → Int32) (i fw : Nat) : ∀ u k, u + fw ≤ k → wm p f g i fw u k = p k
  | 0, _, _ => rfl
  | u + 1, k, h => by
    show upd _ (u + fw) _ k = p k
    rw [upd_ne _ _ (by omega), wmi_out _ _ _ _ _ _ (by omega)]
    exact wm_out p f g i fw u k (by omega)
theorem wm_val (p f g : Nat → Int32) (i fw : Nat) (hp : ∀ k, k < fw → p k = 0) : ∀ u, wv (wm p f g i fw u) 0 (u + fw) = wv f i u * wv g 0 fw
  | 0 => by
    rw [Nat.zero_add]
    show wv p 0 fw = 0 * _
    rw [Nat.zero_mul]
    exact wv_of_zero (fun k hk => by rw [Nat.zero_add]; exact hp k hk)
  | u + 1 => by
    have h1 := wm_val p f g i fw hp u
    have h2 := wmi_val (wm p f g i fw u) g (wu (f (i + u))) u fw
    have hc := wmi_carry (wm p f g i fw u) g u (wu_lt (f (i + u))) fw
    rw [wv_split] at h1
    rw [Nat.zero_add] at h1
    rw [show u + 1 + fw = u + (fw + 1) by omega, wv_split, Nat.zero_add, wv_split]
    show wv (upd _ (u + fw) _) 0 u + 4294967296 ^ u * (wv (upd _ (u + fw) _) u fw + 4294967296 ^ fw * wv (upd _ (u + fw) _) (u + fw) 1) = (wv f i u + wu (f (i + u)) * 4294967296 ^ u) * wv g 0 fw
    rw [wv_one, upd_same, wu_nI, Nat.mod_eq_of_lt hc, wv_upd_above _ _ (by omega), wv_upd_above _ _ (Nat.le_refl _)]
    rw [wv_congr (f := (wmi (wm p f g i fw u) g (wu (f (i + u))) u fw).1) (g := wm p f g i fw u) (o := 0) (p := 0) (n := u) (fun k hk => wmi_out _ _ _ _ _ _ (by omega))]
    rw [Nat.mul_comm (4294967296 ^ fw), h2, Nat.mul_add, Nat.add_mul, ← Nat.add_assoc, h1]
    congr 1
    rw [Nat.mul_left_comm, Nat.mul_assoc]
theorem m41_in {h : pb_H} {Q : Option Value → pb_H → Prop} {a i W c np nq u fw one : Nat} {q g pf : Nat → Int32} {l0 l1 l2 : Option Value} (hgq : c ≠ a) (hg : h.2 c = ci nq g) (hfw : fw ≤ nq) (hu : u + fw ≤ np) (hnp : np < 2 ^ 31) (hnq : nq < 2 ^ 31) (ho : one < 4294967296) :
    ∀ k w, w + k = fw → (pb_R 41 34 [l0, l1, l2, some (.ref c), some (.int (nI fw)), some (.ref a), some (.int (nI u)), none, none, none, none, some (.int (nI w))] [none, none, none, none, none, none, none, some (lN one), none, some (lN (wmi q g one u w).2), none, none] [] (pb_set h a (ci np (wmi q g one u w).1)) Q ↔
      pb_R 41 96 [l0, l1, l2, some (.ref c), some (.int (nI fw)), some (.ref a), some (.int (nI u)), none, none, none, none, some (.int (nI fw))] [none, none, none, none, none, none, none, some (lN one), none, some (lN (wmi q g one u fw).2), none, none] [] (pb_set h a (ci np (wmi q g one u fw).1)) Q) := by
  intro k
  induction k with
  | zero =>
    intro w hw
    obtain rfl : w = fw := by omega
    rw [pb_q41_34]
    generalize hX : (pb_R 41 96 _ _ _ _ Q) = X
    simp only [pb_e41, if_pos (Int32.le_refl (nI w))] at hX ⊢
    rw [← hX]
  | succ k ih =>
    intro w hw
    have hA : pb_ai ((pb_set h a (ci np (wmi q g one u w).1)).2 a) (nI (u + w)) = some (q (u + w)) := by
      rw [pb_set_get, if_pos rfl, pb_ai_eq (Or.inl rfl) (by omega) hnp, wmi_out _ _ _ _ _ _ (by omega)]
    have hB : pb_ai ((pb_set h a (ci np (wmi q g one u w).1)).2 c) (nI w) = some (g w) := by
      rw [pb_set_get, if_neg hgq, hg, pb_ai_eq (Or.inl rfl) (by omega) hnq]
    have hS : ∀ x, pb_si ((pb_set h a (ci np (wmi q g one u w).1)).2 a) (nI (u + w)) x = some (ci np (upd (wmi q g one u w).1 (u + w) x)) := by
      intro x
      rw [pb_set_get, if_pos rfl, pb_si_eq (by omega) hnp]
    have hc := wmi_carry q g u ho w
    have h2 := mul_bound ho (wu_lt (g w))
    have h3 := wu_lt (q (u + w))
    have h0 := ih (w + 1) (by omega)
    rw [← h0, pb_q41_34]
    simp only [pb_e41, if_neg (nI_ge (a := w) (b := fw) (by omega) (by omega)), nI_add, hA, hB, hS, pb_o_some, low_and, lN_mul, lN_add, lN_i32, lN_ushr32 (n := (wmi q g one u w).2 + (one * wu (g w) + wu (q (u + w)))) (by omega), pb_set_same, nI_1]
    rfl
theorem m41_out {h : pb_H} {Q : Option Value → pb_H → Prop} {a c d i W n nq np fw : Nat} {f g p0 : Nat → Int32} (had : a ≠ d) (hcd : c ≠ d) (ha : h.2 a = ci n f) (hc : h.2 c = ci nq g) (hi : i + W ≤ n) (hfw : fw ≤ nq) (hW : W + fw ≤ np) (hn : n < 2 ^ 31) (hnq : nq < 2 ^ 31) (hnp : np < 2 ^ 31) :
    ∀ k u, u + k = W → ∀ (l11 : Option Value) (j7 j9 : Option Int64), (pb_R 41 9 [some (.ref a), some (.int (nI i)), some (.int (nI W)), some (.ref c), some (.int (nI fw)), some (.ref d), some (.int (nI u)), none, none, none, none, l11] [none, none, none, none, none, none, none, j7, none, j9, none, none] [] (pb_set h d (ci np (wm p0 f g i fw u))) Q ↔ Q none (pb_set h d (ci np (wm p0 f g i fw W)))) := by
  intro k
  induction k with
  | zero =>
    intro u hu l11 j7 j9
    obtain rfl : u = W := by omega
    rw [pb_q41_9]
    simp only [pb_e41, if_pos (Int32.le_refl (nI u))]
  | succ k ih =>
    intro u hu l11 j7 j9
    have hA : pb_ai ((pb_set h d (ci np (wm p0 f g i fw u))).2 a) (nI (i + u)) = some (f (i + u)) := by
      rw [pb_set_get, if_neg had, ha, pb_ai_eq (Or.inl rfl) (by omega) hn]
    have hS : ∀ (z : Nat → Int32) (x : Int32), pb_si ((pb_set h d (ci np z)).2 d) (nI (u + fw)) x = some (ci np (upd z (u + fw) x)) := by
      intro z x
      rw [pb_set_get, if_pos rfl, pb_si_eq (by omega) hnp]
    rw [pb_q41_9]
    simp only [pb_e41, if_neg (nI_ge (a := u) (b := W) (by omega) (by omega)), nI_add, hA, pb_o_some, low_and]
    refine Iff.trans (m41_in (h := h) (a := d) (c := c) (np := np) (nq := nq) (u := u) (fw := fw) (one := wu (f (i + u))) (q := wm p0 f g i fw u) (g := g) (i := 0) (W := 0) (pf := g) hcd hc hfw (by omega) hnp hnq (wu_lt _) fw 0 (by omega)) ?_
    simp only [pb_e41, nI_add, hS, pb_o_some, lN_i32, pb_set_same, nI_1]
    exact ih (u + 1) (by omega) _ _ _
/-- Wide.multiply -/
theorem m41 {h : pb_H} {Q : Option Value → pb_H → Prop} {a c d i W n nq np fw : Nat} {f g p0 : Nat → Int32} (had : a ≠ d) (hcd : c ≠ d) (ha : h.2 a = ci n f) (hc : h.2 c = ci nq g) (hd : h.2 d = ci np p0) (hi : i + W ≤ n) (hfw : fw ≤ nq) (hW : W + fw ≤ np) (hn : n < 2 ^ 31) (hnq : nq < 2 ^ 31) (hnp : np < 2 ^ 31) :
    pb_call 41 [.ref a, .int (nI i), .int (nI W), .ref c, .int (nI fw), .ref d] h Q ↔ Q none (pb_set h d (ci np (wm (fun z => if z < np then 0 else p0 z) f g i fw W))) := by
  have h0 := m41_out (h := h) (Q := Q) (a := a) (c := c) (d := d) (i := i) (W := W) (n := n) (nq := nq) (np := np) (fw := fw) (f := f) (g := g) (p0 := fun z => if z < np then 0 else p0 z) had hcd ha hc hi hfw hW hn hnq hnp W 0 (by omega) none none none
  rw [pb_c41]
  simp only [pb_e41, m24 hd hnp, Option.toList_none, List.nil_append]
  exact h0
