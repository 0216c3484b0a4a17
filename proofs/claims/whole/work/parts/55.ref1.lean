/-! The reference's arithmetic: at, zero, small, copy, isZero, limbs, isOne, compare, plus, minus, less, isGreat -/
def ro (r v : Nat) : Nat := (r * 17 + v) * 20
theorem R143 {h : pb_H} {Q : Option Value → pb_H → Prop} {r v : Nat} : pb_call 143 [.int (nI r), .int (nI v)] h Q ↔ Q (some (.int (nI (ro r v)))) h := by
  have e1 : nI r * 17 = nI (r * 17) := pk_mul r 17
  have e2 : nI (r * 17 + v) * 20 = nI ((r * 17 + v) * 20) := pk_mul _ 20
  rw [pb_c143]
  simp only [pb_e143, e1, nI_add, e2]
  exact Iff.rfl
section RA
variable {h : pb_H} {Q : Option Value → pb_H → Prop} {s : Nat → Int32} {G : Nat → Nat} {o p : Nat}
theorem R144_loop (hs : h.2 65 = rm s) (ho : o + 20 ≤ 123420) (hB : RB G) (hQ : ∀ G', RB G' → bo o 20 G G' → rn G' o 20 = 0 → Q none (pb_set h 66 (cN G'))) : ∀ r i G', i + r = 20 → RB G' → bo o 20 G G' → (∀ j, j < i → G' (o + j) = 0) → pb_R 144 2 [some (.ref 65), some (.int (nI o)), some (.int (nI i))] [] [] (pb_set h 66 (cN G')) Q := by
  have hs' : ∀ c, (pb_set h 66 c).2 65 = rm s := fun c => by rw [pb_set_get, if_neg (by omega), hs]
  have hg' : ∀ c, (pb_set h 66 c).2 66 = c := fun c => by rw [pb_set_get, if_pos rfl]
  intro r
  induction r with
  | zero =>
    intro i G' hi hB' hb hz
    obtain rfl : i = 20 := by omega
    rw [pb_q144_2]
    simp only [pb_e144, nI20, Int32.le_refl, if_true]
    exact hQ G' hB' hb (rn_of_zero hz)
  | succ r ih =>
    intro i G' hi hB' hb hz
    have c1 : ¬ nI 20 ≤ nI i := nI_ge (by omega) (by omega)
    have hS := cN_set (G := G') (j := o + i) (x := 0) (by omega)
    rw [nI_0] at hS
    rw [pb_q144_2]
    simp only [pb_e144, nI20, c1, if_false, hs', pb_gr, pb_o_some, true_and, nI_add, hg', hS, pb_set_same, nI_1]
    refine ih (i + 1) _ (by omega) (RB_un hB' (by omega)) (bo_trans hb (bo_un (by omega) (by omega))) (fun j hj => ?_)
    by_cases e : j = i
    · subst e; exact un_same _ _ _
    · rw [un_ne _ (by omega)]; exact hz j (by omega)
theorem R144 (hs : h.2 65 = rm s) (hG : h.2 66 = cN G) (ho : o + 20 ≤ 123420) (hB : RB G) (hQ : ∀ G', RB G' → bo o 20 G G' → rn G' o 20 = 0 → Q none (pb_set h 66 (cN G'))) : pb_call 144 [.ref 65, .int (nI o)] h Q := by
  have := R144_loop hs ho hB hQ 20 0 G (by omega) hB (bo_refl _ _ _) (fun j hj => by omega)
  rw [pb_set_id h hG] at this
  rw [pb_c144]
  simp only [pb_e144]
  exact this
theorem R145 {n : Nat} (hs : h.2 65 = rm s) (hG : h.2 66 = cN G) (ho : o + 20 ≤ 123420) (hB : RB G) (hn : n < 65536) (hQ : ∀ G', RB G' → bo o 20 G G' → rn G' o 20 = n → Q none (pb_set h 66 (cN G'))) : pb_call 145 [.ref 65, .int (nI o), .int (nI n)] h Q := by
  rw [pb_c145]
  simp only [pb_e145, hs, pb_gr, true_and]
  refine R144 hs hG ho hB ?_
  intro G' hB' hb hz
  have hs' : ∀ c, (pb_set h 66 c).2 65 = rm s := fun c => by rw [pb_set_get, if_neg (by omega), hs]
  have hg' : ∀ c, (pb_set h 66 c).2 66 = c := fun c => by rw [pb_set_get, if_pos rfl]
  have hS := cN_set (G := G') (j := o) (x := n) (by omega)
  simp only [Option.toList_none, List.nil_append, pb_e145, hs', hg', pb_gr, pb_o_some, true_and, hS, pb_set_same]
  refine hQ _ (RB_un hB' hn) (bo_trans hb (bo_un (by omega) (by omega))) ?_
  have h0 := rn_zero hz
  have h1 := rn_split (un G' o n) o 1 19
  rw [rn_of_zero (o := o + 1) (fun i hi => by rw [un_ne _ (by omega)]; exact (show o + 1 + i = o + (1 + i) by omega) ▸ h0 (1 + i) (by omega)), Nat.mul_zero, Nat.add_zero] at h1
  have h2 : rn (un G' o n) o 1 = n := by
    show 0 + un G' o n (o + 0) * 65536 ^ 0 = n
    rw [Nat.add_zero, un_same, Nat.pow_zero, Nat.mul_one, Nat.zero_add]
  rw [h2] at h1
  exact h1
theorem R146_loop (hs : h.2 65 = rm s) (ho : o + 20 ≤ 123420) (hp : p + 20 ≤ 123420) (hd : o + 20 ≤ p ∨ p + 20 ≤ o) (hQ : ∀ G', RB G' → bo p 20 G G' → rn G' p 20 = rn G o 20 → Q none (pb_set h 66 (cN G'))) : ∀ r i G', i + r = 20 → RB G' → bo p 20 G G' → (∀ j, j < i → G' (p + j) = G (o + j)) → pb_R 146 2 [some (.ref 65), some (.int (nI o)), some (.int (nI p)), some (.int (nI i))] [] [] (pb_set h 66 (cN G')) Q := by
  have hs' : ∀ c, (pb_set h 66 c).2 65 = rm s := fun c => by rw [pb_set_get, if_neg (by omega), hs]
  have hg' : ∀ c, (pb_set h 66 c).2 66 = c := fun c => by rw [pb_set_get, if_pos rfl]
  intro r
  induction r with
  | zero =>
    intro i G' hi hB' hb hz
    obtain rfl : i = 20 := by omega
    rw [pb_q146_2]
    simp only [pb_e146, nI20, Int32.le_refl, if_true]
    exact hQ G' hB' hb (rn_congr hz)
  | succ r ih =>
    intro i G' hi hB' hb hz
    have c1 : ¬ nI 20 ≤ nI i := nI_ge (by omega) (by omega)
    have hA := cN_get (G := G') (j := o + i) (by omega)
    have hS := fun x => cN_set (G := G') (j := p + i) (x := x) (by omega)
    rw [pb_q146_2]
    simp only [pb_e146, nI20, c1, if_false, hs', pb_gr, pb_o_some, true_and, nI_add, hg', hA, hS, pb_set_same, nI_1]
    refine ih (i + 1) _ (by omega) (RB_un hB' (hB' _)) (bo_trans hb (bo_un (by omega) (by omega))) (fun j hj => ?_)
    by_cases e : j = i
    · subst e; rw [un_same, hb _ (by omega)]
    · rw [un_ne _ (by omega)]; exact hz j (by omega)
theorem R146 (hs : h.2 65 = rm s) (hG : h.2 66 = cN G) (ho : o + 20 ≤ 123420) (hp : p + 20 ≤ 123420) (hd : o + 20 ≤ p ∨ p + 20 ≤ o) (hB : RB G) (hQ : ∀ G', RB G' → bo p 20 G G' → rn G' p 20 = rn G o 20 → Q none (pb_set h 66 (cN G'))) : pb_call 146 [.ref 65, .int (nI o), .int (nI p)] h Q := by
  have := R146_loop hs ho hp hd hQ 20 0 G (by omega) hB (bo_refl _ _ _) (fun j hj => by omega)
  rw [pb_set_id h hG] at this
  rw [pb_c146]
  simp only [pb_e146]
  exact this
theorem R147_loop (hs : h.2 65 = rm s) (hG : h.2 66 = cN G) (ho : o + 20 ≤ 123420) (hB : RB G) : ∀ r i, i + r = 20 → (∀ j, j < i → G (o + j) = 0) → (pb_R 147 2 [some (.ref 65), some (.int (nI o)), some (.int (nI i))] [] [] h Q ↔ Q (some (.int (if rn G o 20 = 0 then 1 else 0))) h) := by
  intro r
  induction r with
  | zero =>
    intro i hi hz
    obtain rfl : i = 20 := by omega
    rw [pb_q147_2, if_pos (rn_of_zero hz)]
    simp only [pb_e147, nI20, Int32.le_refl, if_true, nb1, true_and]
  | succ r ih =>
    intro i hi hz
    have c1 : ¬ nI 20 ≤ nI i := nI_ge (by omega) (by omega)
    have hA := cN_get (G := G) (j := o + i) (by omega)
    have e0 : nI (G (o + i)) = 0 ↔ G (o + i) = 0 := nI_eq (b := 0) (by have := hB (o + i); omega) (by omega)
    rw [pb_q147_2]
    by_cases c : G (o + i) = 0
    · simp only [pb_e147, nI20, c1, if_false, hs, hG, pb_gr, pb_o_some, true_and, nI_add, hA, c, nI_0, if_true, nI_1]
      refine ih (i + 1) (by omega) (fun j hj => ?_)
      by_cases e : j = i
      · subst e; exact c
      · exact hz j (by omega)
    · have : ¬ rn G o 20 = 0 := fun e => c (rn_zero e i (by omega))
      simp only [pb_e147, nI20, c1, if_false, hs, hG, pb_gr, pb_o_some, true_and, nI_add, hA, e0, c, nb0, this]
theorem R147 (hs : h.2 65 = rm s) (hG : h.2 66 = cN G) (ho : o + 20 ≤ 123420) (hB : RB G) : pb_call 147 [.ref 65, .int (nI o)] h Q ↔ Q (some (.int (if rn G o 20 = 0 then 1 else 0))) h := by
  have := R147_loop (Q := Q) hs hG ho hB 20 0 (by omega) (fun j hj => by omega)
  rw [pb_c147]
  simp only [pb_e147]
  exact this
/-- how many limbs there are -/
def lb (G : Nat → Nat) (o : Nat) : Nat → Nat
  | 0 => 0
  | n + 1 => if G (o + n) = 0 then lb G o n else n + 1
theorem lb_le (G : Nat → Nat) (o : Nat) : ∀ n, lb G o n ≤ n
  | 0 => Nat.le_refl _
  | n + 1 => by
    unfold lb
    split
    · exact Nat.le_succ_of_le (lb_le G o n)
    · exact Nat.le_refl _
theorem lb_top (G : Nat → Nat) (o : Nat) : ∀ n i, lb G o n ≤ i → i < n → G (o + i) = 0
  | 0, i, _, h => by omega
  | n + 1, i, h1, h2 => by
    unfold lb at h1
    split at h1
    · rename_i e
      by_cases c : i = n
      · subst c; exact e
      · exact lb_top G o n i h1 (by omega)
    · omega
theorem lb_ne (G : Nat → Nat) (o : Nat) : ∀ n, lb G o n ≠ 0 → G (o + (lb G o n - 1)) ≠ 0
  | 0, h => absurd rfl h
  | n + 1, h => by
    unfold lb at h ⊢
    split
    · rename_i e
      rw [if_pos e] at h
      exact lb_ne G o n h
    · rename_i e
      exact e
theorem lb_val (G : Nat → Nat) (o n : Nat) : rn G o n = rn G o (lb G o n) := rn_cut (lb_le G o n) (fun i h1 h2 => lb_top G o n i h1 h2)
theorem lb_zero {G : Nat → Nat} {o n : Nat} : lb G o n = 0 ↔ rn G o n = 0 := by
  constructor
  · intro h; rw [lb_val, h]; rfl
  · intro h
    rcases Nat.eq_zero_or_pos (lb G o n) with q | q
    · exact q
    · exfalso
      have := lb_le G o n
      exact lb_ne G o n (by omega) (rn_zero h _ (by omega))
theorem lb_ge {G : Nat → Nat} {o n : Nat} (h : lb G o n ≠ 0) : 65536 ^ (lb G o n - 1) ≤ rn G o n := by
  rw [lb_val]
  have h1 := lb_ne G o n h
  generalize lb G o n = k at *
  obtain ⟨j, rfl⟩ : ∃ j, k = j + 1 := ⟨k - 1, by omega⟩
  rw [Nat.add_sub_cancel] at h1 ⊢
  show 65536 ^ j ≤ rn G o j + G (o + j) * 65536 ^ j
  have := Nat.mul_le_mul_right (65536 ^ j) (show 1 ≤ G (o + j) by omega)
  rw [Nat.one_mul] at this
  exact Nat.le_trans this (Nat.le_add_left _ _)
theorem R148_loop (hs : h.2 65 = rm s) (hG : h.2 66 = cN G) (ho : o + 20 ≤ 123420) (hB : RB G) : ∀ n, n ≤ 20 → (pb_R 148 3 [some (.ref 65), some (.int (nI o)), some (.int (nI n))] [] [] h Q ↔ Q (some (.int (nI (lb G o n)))) h) := by
  intro n
  induction n with
  | zero =>
    intro hn
    rw [pb_q148_3]
    simp only [pb_e148, nI_0, Int32.le_refl, if_true]
    exact Iff.rfl
  | succ n ih =>
    intro hn
    have c1 : ¬ nI (n + 1) ≤ 0 := nI_nle (by omega) (by omega)
    have e1 : nI (o + (n + 1)) - 1 = nI (o + n) := nI_pred (o + n)
    have hA := cN_get (G := G) (j := o + n) (by omega)
    have e0 : nI (G (o + n)) = 0 ↔ G (o + n) = 0 := nI_eq (b := 0) (by have := hB (o + n); omega) (by omega)
    have e2 : nI (n + 1) + -1 = nI n := pk_m1 n
    rw [pb_q148_3]
    by_cases c : G (o + n) = 0
    · have : lb G o (n + 1) = lb G o n := by show (if _ then _ else _) = _; rw [if_pos c]
      simp only [pb_e148, c1, if_false, hs, hG, pb_gr, pb_o_some, true_and, nI_add, e1, hA, c, nI_0, not_true_eq_false, e2, this]
      exact ih (by omega)
    · have : lb G o (n + 1) = n + 1 := by show (if _ then _ else _) = _; rw [if_neg c]
      simp only [pb_e148, c1, if_false, hs, hG, pb_gr, pb_o_some, true_and, nI_add, e1, hA, e0, c, not_false_eq_true, if_true, this]
theorem R148 (hs : h.2 65 = rm s) (hG : h.2 66 = cN G) (ho : o + 20 ≤ 123420) (hB : RB G) : pb_call 148 [.ref 65, .int (nI o)] h Q ↔ Q (some (.int (nI (lb G o 20)))) h := by
  have := R148_loop (Q := Q) hs hG ho hB 20 (by omega)
  rw [pb_c148]
  simp only [pb_e148]
  exact this
end RA
