/-! The reference's numbers by their index -/
/-- the reference's object, numbers, signs and rows to work in -/
def RX (h : pb_H) (s : Nat → Int32) (G : Nat → Nat) (sg : Nat → Int32) : Prop := h.2 65 = rm s ∧ h.2 66 = cN G ∧ RB G ∧ h.2 67 = ci 6171 sg ∧ (∃ W, h.2 70 = cA 42 W ∧ RB W) ∧ (∃ W, h.2 71 = cA 21 W ∧ RB W) ∧ (∃ W, h.2 72 = cA 22 W ∧ RB W) ∧ (∃ W, h.2 73 = cA 21 W ∧ RB W)
abbrev rS : Nat → Prop := fun b => b = 65 ∨ b = 66 ∨ b = 67 ∨ b = 70 ∨ b = 71 ∨ b = 72 ∨ b = 73
def sq (s s' : Nat → Int32) : Prop := ∀ k, k ≠ 14 → s' k = s k
theorem sq_refl (s : Nat → Int32) : sq s s := fun _ _ => rfl
theorem sq_trans {s s' s'' : Nat → Int32} (a : sq s s') (b : sq s' s'') : sq s s'' := fun k hk => (b k hk).trans (a k hk)
theorem sq_upd (s : Nat → Int32) (x : Int32) : sq s (upd s 14 x) := fun k hk => upd_ne _ _ hk
/-- number i -/
def rv (G : Nat → Nat) (i : Nat) : Nat := rn G (i * 20) 20
abbrev NB (i : Nat) (G G' : Nat → Nat) : Prop := bo (i * 20) 20 G G'
theorem rv_ne {i j : Nat} {G G' : Nat → Nat} (h : NB i G G') (hij : j ≠ i) : rv G' j = rv G j := bo_rn h (by omega)
theorem rv_lt {G : Nat → Nat} (h : RB G) (i : Nat) : rv G i < 65536 ^ 20 := rn_lt h _ _
section RXS
variable {h : pb_H} {Q : Option Value → pb_H → Prop} {s sg : Nat → Int32} {G : Nat → Nat} {i j : Nat}
theorem RX_num (hX : RX h s G sg) {G' : Nat → Nat} (hB : RB G') : RX (pb_set h 66 (cN G')) s G' sg ∧ fr rS h (pb_set h 66 (cN G')) := by
  obtain ⟨a1, a2, a3, a4, ⟨W0, b1, b2⟩, ⟨W1, c1, c2⟩, ⟨W2, d1, d2⟩, ⟨W3, e1, e2⟩⟩ := hX
  refine ⟨⟨by rw [pb_set_get, if_neg (by omega), a1], by rw [pb_set_get, if_pos rfl], hB, by rw [pb_set_get, if_neg (by omega), a4], ⟨W0, by rw [pb_set_get, if_neg (by omega), b1], b2⟩, ⟨W1, by rw [pb_set_get, if_neg (by omega), c1], c2⟩, ⟨W2, by rw [pb_set_get, if_neg (by omega), d1], d2⟩, ⟨W3, by rw [pb_set_get, if_neg (by omega), e1], e2⟩⟩, fr_set (Or.inr (Or.inl rfl)) (by rw [a2]; rfl)⟩
theorem RX_sig (hX : RX h s G sg) {sg' : Nat → Int32} : RX (pb_set h 67 (ci 6171 sg')) s G sg' ∧ fr rS h (pb_set h 67 (ci 6171 sg')) := by
  obtain ⟨a1, a2, a3, a4, ⟨W0, b1, b2⟩, ⟨W1, c1, c2⟩, ⟨W2, d1, d2⟩, ⟨W3, e1, e2⟩⟩ := hX
  refine ⟨⟨by rw [pb_set_get, if_neg (by omega), a1], by rw [pb_set_get, if_neg (by omega), a2], a3, by rw [pb_set_get, if_pos rfl], ⟨W0, by rw [pb_set_get, if_neg (by omega), b1], b2⟩, ⟨W1, by rw [pb_set_get, if_neg (by omega), c1], c2⟩, ⟨W2, by rw [pb_set_get, if_neg (by omega), d1], d2⟩, ⟨W3, by rw [pb_set_get, if_neg (by omega), e1], e2⟩⟩, fr_set (Or.inr (Or.inr (Or.inl rfl))) (by rw [a4]; rfl)⟩
theorem RX_obj (hX : RX h s G sg) {s' : Nat → Int32} : RX (pb_set h 65 (rm s')) s' G sg ∧ fr rS h (pb_set h 65 (rm s')) := by
  obtain ⟨a1, a2, a3, a4, ⟨W0, b1, b2⟩, ⟨W1, c1, c2⟩, ⟨W2, d1, d2⟩, ⟨W3, e1, e2⟩⟩ := hX
  refine ⟨⟨by rw [pb_set_get, if_pos rfl], by rw [pb_set_get, if_neg (by omega), a2], a3, by rw [pb_set_get, if_neg (by omega), a4], ⟨W0, by rw [pb_set_get, if_neg (by omega), b1], b2⟩, ⟨W1, by rw [pb_set_get, if_neg (by omega), c1], c2⟩, ⟨W2, by rw [pb_set_get, if_neg (by omega), d1], d2⟩, ⟨W3, by rw [pb_set_get, if_neg (by omega), e1], e2⟩⟩, fr_set (Or.inl rfl) (by rw [a1]; rfl)⟩
theorem A144 (hX : RX h s G sg) (hi : i < 6171) (hQ : ∀ h' G', fr rS h h' → RX h' s G' sg → NB i G G' → rv G' i = 0 → Q none h') : pb_call 144 [.ref 65, .int (nI (i * 20))] h Q :=
  R144 hX.1 hX.2.1 (by omega) hX.2.2.1 (fun G' hB hb hv => hQ _ G' (RX_num hX hB).2 (RX_num hX hB).1 hb hv)
theorem A145 {n : Nat} (hX : RX h s G sg) (hi : i < 6171) (hn : n < 65536) (hQ : ∀ h' G', fr rS h h' → RX h' s G' sg → NB i G G' → rv G' i = n → Q none h') : pb_call 145 [.ref 65, .int (nI (i * 20)), .int (nI n)] h Q :=
  R145 hX.1 hX.2.1 (by omega) hX.2.2.1 hn (fun G' hB hb hv => hQ _ G' (RX_num hX hB).2 (RX_num hX hB).1 hb hv)
theorem A146 (hX : RX h s G sg) (hi : i < 6171) (hj : j < 6171) (hij : i ≠ j) (hQ : ∀ h' G', fr rS h h' → RX h' s G' sg → NB j G G' → rv G' j = rv G i → Q none h') : pb_call 146 [.ref 65, .int (nI (i * 20)), .int (nI (j * 20))] h Q :=
  R146 hX.1 hX.2.1 (by omega) (by omega) (by omega) hX.2.2.1 (fun G' hB hb hv => hQ _ G' (RX_num hX hB).2 (RX_num hX hB).1 hb hv)
theorem A147 (hX : RX h s G sg) (hi : i < 6171) : pb_call 147 [.ref 65, .int (nI (i * 20))] h Q ↔ Q (some (.int (if rv G i = 0 then 1 else 0))) h := R147 hX.1 hX.2.1 (by omega) hX.2.2.1
theorem A149 (hX : RX h s G sg) (hi : i < 6171) : pb_call 149 [.ref 65, .int (nI (i * 20))] h Q ↔ Q (some (.int (if rv G i = 1 then 1 else 0))) h := R149 hX.1 hX.2.1 (by omega) hX.2.2.1
theorem A150 (hX : RX h s G sg) (hi : i < 6171) (hj : j < 6171) : pb_call 150 [.ref 65, .int (nI (i * 20)), .int (nI (j * 20))] h Q ↔ Q (some (.int (cm3 (rv G i) (rv G j)))) h := R150 hX.1 hX.2.1 (by omega) (by omega) hX.2.2.1
theorem A151 (hX : RX h s G sg) (hi : i < 6171) (hj : j < 6171) (hij : i ≠ j) (hf : rv G i + rv G j < 65536 ^ 20) (hQ : ∀ h' G', fr rS h h' → RX h' s G' sg → NB i G G' → rv G' i = rv G i + rv G j → Q none h') : pb_call 151 [.ref 65, .int (nI (i * 20)), .int (nI (j * 20))] h Q :=
  R151 hX.1 hX.2.1 (by omega) (by omega) (by omega) hX.2.2.1 hf (fun G' hB hb hv => hQ _ G' (RX_num hX hB).2 (RX_num hX hB).1 hb hv)
theorem A152 (hX : RX h s G sg) (hi : i < 6171) (hj : j < 6171) (hij : i ≠ j) (hf : rv G j ≤ rv G i) (hQ : ∀ h' G', fr rS h h' → RX h' s G' sg → NB i G G' → rv G' i = rv G i - rv G j → Q none h') : pb_call 152 [.ref 65, .int (nI (i * 20)), .int (nI (j * 20))] h Q :=
  R152 hX.1 hX.2.1 (by omega) (by omega) (by omega) hX.2.2.1 hf (fun G' hB hb hv => hQ _ G' (RX_num hX hB).2 (RX_num hX hB).1 hb hv)
theorem A153 (hX : RX h s G sg) (hi : i < 6171) (hj : j < 6171) (hij : i ≠ j) (hQ : ∀ h' G', fr rS h h' → RX h' s G' sg → NB i G G' → rv G' i = rv G i - rv G j → Q none h') : pb_call 153 [.ref 65, .int (nI (i * 20)), .int (nI (j * 20))] h Q :=
  R153 hX.1 hX.2.1 (by omega) (by omega) (by omega) hX.2.2.1 (fun G' hB hb hv => hQ _ G' (RX_num hX hB).2 (RX_num hX hB).1 hb hv)
theorem A154 (hX : RX h s G sg) (hi : i < 6171) : pb_call 154 [.ref 65, .int (nI (i * 20))] h Q ↔ Q (some (.int (if rv G i < 65536 ^ 16 then 0 else 1))) h := R154 hX.1 hX.2.1 (by omega) hX.2.2.1
theorem A155 (hX : RX h s G sg) (hi : i < 6171) (hj : j < 6171)
    (hQ0 : ∀ h', fr rS h h' → RX h' s G sg → ¬ rv G i * rv G j < 65536 ^ 16 → Q (some (.int 0)) h')
    (hQ1 : ∀ h' G', fr rS h h' → RX h' s G' sg → rv G i * rv G j < 65536 ^ 16 → NB i G G' → rv G' i = rv G i * rv G j → Q (some (.int 1)) h') : pb_call 155 [.ref 65, .int (nI (i * 20)), .int (nI (j * 20))] h Q := by
  have hX' := hX
  obtain ⟨a1, a2, a3, a4, ⟨W0, b1, b2⟩, ⟨W1, c1, c2⟩, ⟨W2, d1, d2⟩, ⟨W3, e1, e2⟩⟩ := hX
  have hW : ∀ W', RB W' → RX (pb_set h 70 (cA 42 W')) s G sg ∧ fr rS h (pb_set h 70 (cA 42 W')) := fun W' hW' =>
    ⟨⟨by rw [pb_set_get, if_neg (by omega), a1], by rw [pb_set_get, if_neg (by omega), a2], a3, by rw [pb_set_get, if_neg (by omega), a4], ⟨W', by rw [pb_set_get, if_pos rfl], hW'⟩, ⟨W1, by rw [pb_set_get, if_neg (by omega), c1], c2⟩, ⟨W2, by rw [pb_set_get, if_neg (by omega), d1], d2⟩, ⟨W3, by rw [pb_set_get, if_neg (by omega), e1], e2⟩⟩, fr_set (by omega) (by rw [b1]; rfl)⟩
  refine R155 a1 a2 b1 b2 (by omega) (by omega) a3 (fun W' hW' hn => hQ0 _ (hW W' hW').2 (hW W' hW').1 hn) (fun W' G' hW' hB' hlt hb hv => ?_)
  have := RX_num (hW W' hW').1 hB'
  exact hQ1 _ G' (fr_trans (hW W' hW').2 this.2) this.1 hlt hb hv
theorem dH_fr {Qt L B W1 W2 W3 : Nat → Nat} (c1 : h.2 71 = cA 21 W1) (d1 : h.2 72 = cA 22 W2) (e1 : h.2 73 = cA 21 W3) : fr rS h (dH h Qt L B) := by
  unfold dH
  have f1 : fr rS h (pb_set h 71 (cA 21 Qt)) := fr_set (by omega) (by rw [c1]; exact cA_sz _ _ _)
  have f2 : fr rS (pb_set h 71 (cA 21 Qt)) (pb_set (pb_set h 71 (cA 21 Qt)) 72 (cA 22 L)) := fr_set (by omega) (by rw [pb_set_get, if_neg (by omega), d1]; exact cA_sz _ _ _)
  have f3 : fr rS (pb_set (pb_set h 71 (cA 21 Qt)) 72 (cA 22 L)) (pb_set (pb_set (pb_set h 71 (cA 21 Qt)) 72 (cA 22 L)) 73 (cA 21 B)) := fr_set (by omega) (by rw [pb_set_get, if_neg (by omega), pb_set_get, if_neg (by omega), e1]; exact cA_sz _ _ _)
  exact fr_trans f1 (fr_trans f2 f3)
theorem A158 (hX : RX h s G sg) (hi : i < 6171) (hj : j < 6171) (hN : rv G j ≠ 0) (hQ : ∀ h' s' Qt, fr rS h h' → RX h' s' G sg → sq s s' → s' 14 = (if rv G i % rv G j = 0 then 1 else 0) → h'.2 71 = cA 21 Qt → RB Qt → rn Qt 0 20 = rv G i / rv G j → Q none h') : pb_call 158 [.ref 65, .int (nI (i * 20)), .int (nI (j * 20))] h Q := by
  unfold rv at hN hQ
  obtain ⟨a1, a2, a3, a4, ⟨W0, b1, b2⟩, ⟨W1, c1, c2⟩, ⟨W2, d1, d2⟩, ⟨W3, e1, e2⟩⟩ := hX
  refine R158 a1 a2 c1 d1 e1 c2 d2 e2 (by omega) (by omega) a3 hN (fun Qt L B rQ rL rB hq => ?_)
  refine hQ _ (upd s 14 (if rn G (i * 20) 20 % rn G (j * 20) 20 = 0 then 1 else 0)) Qt ?_ ⟨by rw [pb_set_get, if_pos rfl], ?_, a3, ?_, ⟨W0, ?_, b2⟩, ⟨Qt, ?_, rQ⟩, ⟨L, ?_, rL⟩, ⟨B, ?_, rB⟩⟩ (sq_upd s _) (upd_same _ _ _) ?_ rQ hq
  · exact fr_trans (dH_fr c1 d1 e1) (fr_set (Or.inl rfl) (by rw [dH_o (by omega) (by omega) (by omega), a1]; exact rm_sz _ _))
  · rw [pb_set_get, if_neg (by omega), dH_o (by omega) (by omega) (by omega), a2]
  · rw [pb_set_get, if_neg (by omega), dH_o (by omega) (by omega) (by omega), a4]
  · rw [pb_set_get, if_neg (by omega), dH_o (by omega) (by omega) (by omega), b1]
  · rw [pb_set_get, if_neg (by omega), dH_q]
  · rw [pb_set_get, if_neg (by omega), dH_l]
  · rw [pb_set_get, if_neg (by omega), dH_b]
  · rw [pb_set_get, if_neg (by omega), dH_q]
/-- divideUp -/
theorem A159 (hX : RX h s G sg) (hi : i < 6171) (hj : j < 6171) (hN : rv G j ≠ 0) (hQ : ∀ h' s' G', fr rS h h' → RX h' s' G' sg → sq s s' → NB i G G' → rv G' i = cdv (rv G i) (rv G j) → Q none h') : pb_call 159 [.ref 65, .int (nI (i * 20)), .int (nI (j * 20))] h Q := by
  rw [pb_c159]
  simp only [pb_e159, hX.1, pb_gr, true_and]
  refine A158 hX hi hj hN ?_
  intro h1 s1 Qt F1 X1 q1 w1 h71 rQ hq
  simp only [Option.toList_none, List.nil_append, pb_e159]
  rw [← pb_set_id h1 X1.2.1]
  refine R159_8 (h := h1) (G := G) X1.1 h71 rQ (by omega) ?_ 20 0 G (by omega) X1.2.2.1 (bo_refl _ _ _) (fun k hk => by omega)
  intro G1 l3 hB1 hb1 hv1
  obtain ⟨X2, F2⟩ := RX_num X1 hB1
  rw [hq] at hv1
  have hlt := rv_lt hX.2.2.1 i
  have hle := cdv_le (rv G i) (rv G j) hN
  by_cases c : rv G i % rv G j = 0
  · rw [if_pos c] at w1
    have e10 : ¬ (1 : Int32) = 0 := by decide
    simp only [pb_e159, X2.1, pb_gr, pb_o_some, true_and, w1, e10, if_false]
    rw [pb_q159_50]
    have k : (0 : Int32) ≤ 0 := by decide
    have k2 : ¬ (20 : Int32) ≤ 0 := by decide
    simp only [pb_e159, k, k2, if_true, if_false]
    refine hQ _ s1 G1 (fr_trans F1 F2) X2 q1 hb1 ?_
    show rn G1 (i * 20) 20 = _
    rw [hv1]
    unfold cdv
    rw [if_pos c, Nat.add_zero]
  · rw [if_neg c] at w1
    simp only [pb_e159, X2.1, pb_gr, pb_o_some, true_and, w1, if_true]
    refine R159_50 (h := h1) (G := G1) X1.1 (by omega) ?_ 20 0 G1 1 _ (by omega) hB1 (by omega) (fun _ _ => rfl) (by show 0 + 1 * 65536 ^ 0 = 0 + 1; rw [Nat.pow_zero])
    intro G2 c2 hB2 hb2 hv2
    obtain ⟨X3, F3⟩ := RX_num X1 hB2
    refine hQ _ s1 G2 (fr_trans F1 F3) X3 q1 (bo_trans hb1 hb2) ?_
    show rn G2 (i * 20) 20 = _
    have hcd : cdv (rv G i) (rv G j) = rv G i / rv G j + 1 := by unfold cdv; rw [if_neg c]
    rw [hv1] at hv2
    rw [hcd] at hle ⊢
    generalize 65536 ^ 20 = P at *
    rcases Nat.eq_zero_or_pos c2 with e | e
    · rw [e, Nat.zero_mul, Nat.add_zero] at hv2; exact hv2
    · have := Nat.mul_le_mul_right P e
      rw [Nat.one_mul] at this
      omega
/-- isMultiple -/
theorem A160 (hX : RX h s G sg) (hi : i < 6171) (hj : j < 6171) (hN : rv G j ≠ 0) (hQ : ∀ h' s', fr rS h h' → RX h' s' G sg → sq s s' → Q (some (.int (if rv G i % rv G j = 0 then 1 else 0))) h') : pb_call 160 [.ref 65, .int (nI (i * 20)), .int (nI (j * 20))] h Q := by
  have h150 := fun Q : Option Value → pb_H → Prop => A150 (Q := Q) hX hi hj
  have h147 := fun Q : Option Value → pb_H → Prop => A147 (Q := Q) hX hi
  rw [pb_c160]
  by_cases c : rv G i < rv G j
  · have k : ¬ 0 ≤ cm3 (rv G i) (rv G j) := by unfold cm3; rw [if_pos c]; decide
    have hf := hQ h s (fr_refl _ _) hX (sq_refl s)
    rw [Nat.mod_eq_of_lt c] at hf
    simp only [pb_e160, hX.1, pb_gr, true_and, h150, Option.toList_some, List.singleton_append, k, if_false, h147]
    by_cases z : rv G i = 0
    · rw [if_pos z] at hf ⊢
      simp only [nb1, true_and]
      exact hf
    · rw [if_neg z] at hf ⊢
      simp only [nb0, true_and]
      exact hf
  · have k : 0 ≤ cm3 (rv G i) (rv G j) := by
      unfold cm3
      rw [if_neg c]
      split <;> decide
    simp only [pb_e160, hX.1, pb_gr, true_and, h150, Option.toList_some, List.singleton_append, k, if_true]
    refine A158 hX hi hj hN ?_
    intro h1 s1 Qt F1 X1 q1 w1 h71 rQ hq
    have hf := hQ h1 s1 F1 X1 q1
    rw [← w1] at hf
    simp only [Option.toList_none, List.nil_append, pb_e160, X1.1, pb_gr, pb_o_some, true_and]
    by_cases z : rv G i % rv G j = 0
    · rw [if_pos z] at w1
      rw [w1] at hf ⊢
      simp only [nb1, true_and]
      exact hf
    · rw [if_neg z] at w1
      rw [w1] at hf ⊢
      simp only [nb0, true_and]
      exact hf
end RXS
