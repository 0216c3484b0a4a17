/-! The reference's look: the whole -/
section LQ3
variable {h : pb_H} {Q : Option Value → pb_H → Prop} {V m ts i : Nat} {s sg t : Nat → Int32} {G : Nat → Nat} {L : List Nat} {T : Nat → Int} {Rs : Nat → Nat} {X : Nat → LN} {f1 f3 : Nat → Int32}
/-- the values ahead of i -/
theorem U215_131 {l2 l3 l4 l5 l6 l8 : Option Value} (hV : V ≤ 16) (hts : ts ≤ V) (hi : i < ts) (hT : ∀ i, i < ts → 1 ≤ (T i).natAbs ∧ (T i).natAbs ≤ V) (h65 : h.2 65 = rm s) (h77 : h.2 77 = ci 17 f1) (h81 : h.2 81 = ci 17 t) (hf : ∀ i, i < ts → f1 i = lI (T i))
    (hQ : ∀ t' l8, AV V t' (asg T i) → pb_R 215 210 [some (.ref 65), some (.int (nI i)), l2, l3, l4, l5, l6, some (.int (nI (0 + 1))), l8] [] [] (pb_set h 81 (ci 17 t')) Q) : pb_R 215 131 [some (.ref 65), some (.int (nI i)), l2, l3, l4, l5, l6, none, l8] [] [] h Q := by
  have k65 : ∀ x, (pb_set h 81 x).2 65 = rm s := fun x => by rw [pb_set_get, if_neg (by omega), h65]
  have k77 : ∀ x, (pb_set h 81 x).2 77 = ci 17 f1 := fun x => by rw [pb_set_get, if_neg (by omega), h77]
  have k81 : ∀ x, (pb_set h 81 x).2 81 = x := fun x => by rw [pb_set_get, if_pos rfl]
  have loop2 : ∀ r n t' l8, n + r = i → AV V t' (asg T n) → pb_R 215 158 [some (.ref 65), some (.int (nI i)), l2, l3, l4, l5, l6, some (.int (nI n)), l8] [] [] (pb_set h 81 (ci 17 t')) Q := by
    intro r
    induction r with
    | zero =>
      intro n t' l8 hn hA
      obtain rfl : n = i := by omega
      have c1 : nI n ≤ nI n := (nI_leI (by omega) (by omega)).mpr (Nat.le_refl _)
      have key := hQ t' l8 hA
      rw [pb_q215_158]
      simp only [pb_e215, c1, if_true]
      exact key
    | succ r ih =>
      intro n t' l8 hn hA
      have c1 : ¬ nI i ≤ nI n := nI_ge (by omega) (by omega)
      have gb := pb_ai_eq (k := 0) (n := 17) (j := n) (f := f1) (Or.inl rfl) (by omega) (by omega)
      rw [hf n (by omega)] at gb
      obtain ⟨b1, b2⟩ := hT n (by omega)
      obtain ⟨g1, g2⟩ := lI_ge b1 (by omega)
      have hstep : ∀ x, x = avI (some (decide (0 < T n))) → AV V (upd t' (T n).natAbs x) (asg T (n + 1)) := fun x hx u u1 u2 => by
        rw [asg_step]
        show (if u = (T n).natAbs then x else t' u) = avI (if u = (T n).natAbs then _ else _)
        by_cases e : u = (T n).natAbs
        · rw [if_pos e, if_pos e, hx]
        · rw [if_neg e, if_neg e]; exact hA u u1 u2
      rw [pb_q215_158]
      by_cases cz : 0 < T n
      · obtain ⟨q1, q2⟩ := g1 cz
        have ss := pb_si_eq (n := 17) (j := (T n).natAbs) (f := t') (x := 1) (by omega) (by omega)
        rw [← q2] at ss
        simp only [pb_e215, k65, pb_gr, pb_o_some, c1, if_false, k77, gb, q1, if_true, k81, ss, pb_set_same, nI_1]
        exact ih (n + 1) _ _ (by omega) (hstep 1 (by rw [decide_eq_true cz]; rfl))
      · obtain ⟨q1, q2, q3⟩ := g2 (by omega)
        have ss := pb_si_eq (n := 17) (j := (T n).natAbs) (f := t') (x := 0) (by omega) (by omega)
        simp only [pb_e215, k65, pb_gr, pb_o_some, c1, if_false, k77, gb, q1, q2, q3, k81, ss, pb_set_same, nI_1]
        exact ih (n + 1) _ _ (by omega) (hstep 0 (by rw [decide_eq_false cz]; rfl))
  have e17 : (17 : Int32) = nI 17 := rfl
  have loop1 : ∀ r n t', n + r = 17 → (∀ v, v < n → t' v = -1) → pb_R 215 134 [some (.ref 65), some (.int (nI i)), l2, l3, l4, l5, l6, some (.int (nI n)), l8] [] [] (pb_set h 81 (ci 17 t')) Q := by
    intro r
    induction r with
    | zero =>
      intro n t' hn ht
      obtain rfl : n = 17 := by omega
      have c1 : nI 17 ≤ nI 17 := (nI_leI (by omega) (by omega)).mpr (Nat.le_refl _)
      have key := loop2 i 0 t' l8 (by omega) (fun v v1 v2 => by rw [ht v (by omega)]; rfl)
      rw [pb_q215_134]
      simp only [pb_e215, e17, c1, if_true]
      exact key
    | succ r ih =>
      intro n t' hn ht
      have c1 : ¬ nI 17 ≤ nI n := nI_ge (by omega) (by omega)
      have ss := pb_si_eq (n := 17) (j := n) (f := t') (x := -1) (by omega) (by omega)
      rw [pb_q215_134]
      simp only [pb_e215, e17, c1, if_false, k65, pb_gr, pb_o_some, k81, ss, pb_set_same, nI_1]
      refine ih (n + 1) _ (by omega) (fun v hv => ?_)
      show (if v = n then -1 else t' v) = -1
      by_cases e : v = n
      · rw [if_pos e]
      · rw [if_neg e]; exact ht v (by omega)
  have key := loop1 17 0 t (by omega) (fun v hv => absurd hv (Nat.not_lt_zero _))
  have es : pb_set h 81 (ci 17 t) = h := pb_set_id h h81
  rw [es] at key
  simp only [pb_e215]
  exact key
theorem at3206 (Q : Option Value → pb_H → Prop) : pb_call 143 [.int 320, .int 6] h Q ↔ Q (some (.int (nI (5446 * 20)))) h := A143 (r := 320) (v := 6)
theorem at3207 (Q : Option Value → pb_H → Prop) : pb_call 143 [.int 320, .int 7] h Q ↔ Q (some (.int (nI (5447 * 20)))) h := A143 (r := 320) (v := 7)
theorem at314 {u : Nat} (Q : Option Value → pb_H → Prop) : pb_call 143 [.int 314, .int (nI u)] h Q ↔ Q (some (.int (nI ((314 * 17 + u) * 20)))) h := A143 (r := 314) (v := u)
theorem NB_NF {j : Nat} {G G' : Nat → Nat} (b : NB j G G') : NF (fun k => k = j) G sg G' sg := fun i hi => ⟨fun k k1 k2 => b k (by omega), rfl⟩
theorem B8_80 {n : Nat} (h : n < B8) : n < 10 ^ 80 := Nat.lt_of_lt_of_le h (by decide)
/-- what look has to do -/
theorem U215_56 {K : LN} {l2 l4 : Option Value} {k v : Nat} (hV : V ≤ 16) (hts : ts ≤ V) (hi : i < ts) (hT : ∀ i, i < ts → 1 ≤ (T i).natAbs ∧ (T i).natAbs ≤ V) (hX : RX h s G sg) (h3 : s 3 = nI V) (hW : RW h s L) (hL : L.length ≤ 880000) (h77 : h.2 77 = ci 17 f1) (h79 : h.2 79 = ci 17 f3) (h81 : h.2 81 = ci 17 t) (h82 : ∃ d, h.2 82 = ci 110 d) (hf : ∀ i, i < ts → f1 i = lI (T i)) (hf3 : f3 i = nI k) (hv : v = (T i).natAbs) (k1 : 1 ≤ k) (k2 : k ≤ m) (hm : m ≤ 300) (hLn : RLX V G sg m X) (hK : RR V G sg 314 K) (fK : ln_fit V K) (hKv : K.2 v ≠ 0) (hRv : (X k).2 v ≠ 0)
    (hQ1 : ∀ h' s' G' sg' t', ((K.2 v).natAbs = 1 ∨ ln_fit V (ln_tm (rsn V (X k) (asg T i) v) (K.2 v).natAbs)) → ln_fit V (ln_sum V K (tmx (rsn V (X k) (asg T i) v) (K.2 v).natAbs)) → LQ h s G sg t' h' s' G' sg' (L ++ rst_t V k (X k) (asg T i) v ++ (if (K.2 v).natAbs = 1 then [] else [32] ++ dec (K.2 v).natAbs ++ [32, 42]) ++ [32, 43, 32, 115]) → RR V G' sg' 314 (ln_cut (ln_sum V K (tmx (rsn V (X k) (asg T i) v) (K.2 v).natAbs))) → Q (some (.int 1)) h')
    (hQ0 : ∀ h' s' G' sg' t' L', ¬ (((K.2 v).natAbs = 1 ∨ ln_fit V (ln_tm (rsn V (X k) (asg T i) v) (K.2 v).natAbs)) ∧ ln_fit V (ln_sum V K (tmx (rsn V (X k) (asg T i) v) (K.2 v).natAbs))) → LQ h s G sg t' h' s' G' sg' L' → L'.length ≤ L.length + 2000 → (∃ M, L' = L ++ M) → Q (some (.int 0)) h') : pb_R 215 56 [some (.ref 65), some (.int (nI i)), l2, some (.int (nI v)), l4, none, none, none, none] [] [] h Q := by
  have e32 : wu (32 : Int32) % 256 = 32 := by decide
  have i315 : (315 : Int32) = nI 315 := rfl
  obtain ⟨b1, b2⟩ := hT i hi
  rw [← hv] at b1 b2
  have W0 : LQ h s G sg t h s G sg L := ⟨fr_refl _ _, hX, fun _ _ => rfl, NF_refl _ _ _, hW, h81, h82⟩
  have a6 := at3206 (h := h)
  have a7 := at3207 (h := h)
  have a314 := at314 (h := h) (u := v)
  have hg3 := pb_ai_eq (k := 0) (n := 17) (j := i) (f := f3) (Or.inl rfl) (by omega) (by omega)
  rw [hf3] at hg3
  simp only [pb_e215, a6, a7, a314, Option.toList_some, List.singleton_append, LQ_is W0, true_and]
  refine A146 (i := 314 * 17 + v) (j := 5446) hX (by omega) (by omega) (by omega) ?_
  intro h1 G1 F1 X1 N1 e1
  have N1 := NB_NF (sg := sg) N1
  have W1 := LQ_row W0 F1 X1 (sq_refl _) N1 (fun i w => by omega)
  rw [(hK.2 v b1 b2).1] at e1
  have K1 : RR V G1 sg 314 K := RR_NF N1 (fun v hv => by omega) hK
  have h791 : h1.2 79 = ci 17 f3 := (F1.2.2 79 (by omega)).trans h79
  simp only [Option.toList_none, List.nil_append, pb_e215, X1.1, pb_gr, pb_o_some, h791, hg3, true_and, i315]
  refine A162 (q := k) (r := 315) X1 (by omega) (by omega) (by omega) ?_
  intro h2 G2 sg2 F2 X2 N2 c2
  have W2 := LQ_row W1 F2 X2 (sq_refl _) N2 (fun i w => Or.inr (Or.inl w))
  have K2 : RR V G2 sg2 314 K := RR_NF N2 (fun v hv => by omega) K1
  have R2 : RR V G2 sg2 315 (X k) := RR_copy hV c2 (RR_NF N1 (fun v hv => by omega) (hLn.1 k k1 k2))
  have e2 : rv G2 5446 = (K.2 v).natAbs := (NF_rv N2 (by omega)).trans e1
  have a315 := at315 (h := h2) (u := v)
  simp only [← i315, Option.toList_none, List.nil_append, pb_e215, a315, Option.toList_some, List.singleton_append, LQ_is W2, true_and]
  refine A146 (i := 315 * 17 + v) (j := 5447) X2 (by omega) (by omega) (by omega) ?_
  intro h4 G4 F4 X4 N4 e4
  have N4 := NB_NF (sg := sg2) N4
  have W4 := LQ_row W2 F4 X4 (sq_refl _) N4 (fun i w => by omega)
  rw [(R2.2 v b1 b2).1] at e4
  have K4 : RR V G4 sg2 314 K := RR_NF N4 (fun v hv => by omega) K2
  have R4 : RR V G4 sg2 315 (X k) := RR_NF N4 (fun v hv => by omega) R2
  have e44 : rv G4 5446 = (K.2 v).natAbs := (NF_rv N4 (by omega)).trans e2
  simp only [Option.toList_none, List.nil_append, pb_e215, LQ_is W4, true_and]
  refine A209 X4 W4.2.2.2.2.1 e32 (by omega) ?_
  intro h5 s5 F5 X5 B5 q5 p5
  have W5 := LQ_txt W4 F5 X5 B5 q5 p5
  obtain ⟨d5, w5⟩ := W5.2.2.2.2.2.2
  have h795 : h5.2 79 = ci 17 f3 := (W5.1.2.2 79 (by omega)).trans h79
  simp only [Option.toList_none, List.nil_append, pb_e215, X5.1, pb_gr, pb_o_some, h795, hg3, true_and]
  refine A211 X5 B5 w5 (by omega) (by rw [List.length_append]; show _ + 1 + 80 < _; omega) ?_
  intro h6 s6 G6 dg6 F6 X6 N6 B6 q6 p6
  have W6 := LQ_num W5 F6 X6 N6 (fun i w => Or.inr (Or.inr (by omega))) B6 q6 p6
  have K6 : RR V G6 sg2 314 K := RR_NF N6 (fun v hv => by omega) K4
  have R6 : RR V G6 sg2 315 (X k) := RR_NF N6 (fun v hv => by omega) R4
  have e66 : rv G6 5446 = (K.2 v).natAbs := (NF_rv N6 (by omega)).trans e44
  have e67 : rv G6 5447 = ((X k).2 v).natAbs := (NF_rv N6 (by omega)).trans e4
  have h776 : h6.2 77 = ci 17 f1 := (W6.1.2.2 77 (by omega)).trans h77
  have hdk := dec_len k
  suffices key : pb_R 215 131 [some (.ref 65), some (.int (nI i)), l2, some (.int (nI v)), l4, some (.int (nI (5446 * 20))), some (.int (nI (5447 * 20))), none, none] [] [] h6 Q by
    simp only [pb_e215] at key
    simp only [Option.toList_none, List.nil_append, pb_e215]
    exact key
  refine U215_131 hV hts hi hT X6.1 h776 W6.2.2.2.2.2.1 hf ?_
  intro t7 l8 hA
  have F7 : fr (fun q => q = 81) h6 (pb_set h6 81 (ci 17 t7)) := fr_set rfl (by rw [W6.2.2.2.2.2.1]; rfl)
  have W7 : LQ h s G sg t7 (pb_set h6 81 (ci 17 t7)) s6 G6 sg2 (L ++ [32] ++ dec k) := by
    obtain ⟨w1, w2, w3, w4, w5', w6, d, w7⟩ := W6
    exact ⟨fr_trans w1 (fr_mono (fun q w => Or.inr (Or.inr (Or.inl w))) F7), RX_fr F7 (fun q w => by omega) w2, w3, w4, RW_fr F7 (by omega) rfl w5', by rw [pb_set_get, if_pos rfl], d, (F7.2.2 82 (by omega)).trans w7⟩
  have hl7 : (L ++ [32] ++ dec k).length ≤ L.length + 81 := by rw [List.length_append, List.length_append]; show _ + 1 + _ ≤ _; omega
  refine U215_210 (R := X k) (A := asg T i) (c := ((X k).2 v).natAbs) (h0 := h) (s0 := s) (G0 := G) (sg0 := sg) (G := G6) (sg := sg2) (L := L ++ [32] ++ dec k) hV h3 (by omega) hA (by omega) (by omega) ?_ V 0 _ s6 G6 sg2 l8 (by omega) (by
    show LQ h s G sg t7 _ s6 G6 sg2 (L ++ [32] ++ dec k ++ [])
    rw [List.append_nil]; exact W7) R6 e67 (fun _ _ => rfl) (NF_refl _ _ _)
  intro h8 s8 G8 sg8 l8' W8 R8 k8 N8
  have hwl := (wkt_lon (X k) (asg T i) v ((X k).2 v).natAbs V).2
  have hl8 : (L ++ [32] ++ dec k ++ wkt (X k) (asg T i) v ((X k).2 v).natAbs V).length ≤ L.length + 81 + 84 * V := by rw [List.length_append]; omega
  refine U215_314 (a := (K.2 v).natAbs) (c := ((X k).2 v).natAbs) hV h3 W8 (by omega) R8 (fit_wk (hLn.2 k k1 k2) V) (RR_NF N8 (fun v hv => by omega) K6) fK ((k8 5447 (Or.inr rfl)).trans e67) ((k8 5446 (Or.inl rfl)).trans e66) (by omega) (by omega) (B8_80 ((hLn.2 k k1 k2).2 v b1 b2)) (B8_80 (fK.2 v b1 b2)) ?_ ?_
  · intro h9 s9 G9 sg9 p1 p2 W9' R9
    refine hQ1 h9 s9 G9 sg9 t7 p1 p2 ?_ R9
    have et : L ++ rst_t V k (X k) (asg T i) v = L ++ [32] ++ dec k ++ wkt (X k) (asg T i) v ((X k).2 v).natAbs V ++ (if ((X k).2 v).natAbs = 1 then [] else [32] ++ dec ((X k).2 v).natAbs ++ [32, 100]) ++ [32, 115] := by
      unfold rst_t
      simp only [List.append_assoc]
    rw [et]; exact W9'
  · intro h9 s9 G9 sg9 L9 np W9' hl9 hx
    exact hQ0 h9 s9 G9 sg9 t7 L9 np W9' (by omega) (by
      obtain ⟨M, e⟩ := hx
      simp only [e, List.append_assoc]
      exact ⟨_, rfl⟩)
end LQ3
