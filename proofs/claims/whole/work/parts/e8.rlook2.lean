/-! The reference's look: from the division on -/
theorem fit_wk {V : Nat} {R : LN} {A : AS} {v c : Nat} (h : ln_fit V R) : ∀ u, ln_fit V (wk R A v c u) := by
  intro u
  induction u with
  | zero => exact h
  | succ u ih =>
    show ln_fit V (if wcb R A v c (u + 1) = true then ln_wo (wk R A v c u) (u + 1) else wk R A v c u)
    by_cases w : wcb R A v c (u + 1) = true
    · rw [if_pos w]; exact fit_wo ih
    · rw [if_neg w]; exact ih
section LQ2
variable {h0 h : pb_H} {Q : Option Value → pb_H → Prop} {V : Nat} {s0 s sg0 sg t : Nat → Int32} {G0 G : Nat → Nat} {L : List Nat}
theorem U215_314 {K R1 : LN} {v a c : Nat} {l1 l2 l4 l7 l8 : Option Value} (hV : V ≤ 16) (h3 : s0 3 = nI V) (W : LQ h0 s0 G0 sg0 t h s G sg L) (hL : L.length ≤ 900000) (hR : RR V G sg 315 R1) (fR : ln_fit V R1) (hK : RR V G sg 314 K) (fK : ln_fit V K) (ec : rv G 5447 = c) (ea : rv G 5446 = a) (c0 : c ≠ 0) (a0 : a ≠ 0) (c80 : c < 10 ^ 80) (a80 : a < 10 ^ 80)
    (hQ1 : ∀ h' s' G' sg', (a = 1 ∨ ln_fit V (ln_tm (ln_cut (if c = 1 then R1 else ln_dv R1 c)) a)) → ln_fit V (ln_sum V K (tmx (ln_cut (if c = 1 then R1 else ln_dv R1 c)) a)) → LQ h0 s0 G0 sg0 t h' s' G' sg' (L ++ (if c = 1 then [] else [32] ++ dec c ++ [32, 100]) ++ [32, 115] ++ (if a = 1 then [] else [32] ++ dec a ++ [32, 42]) ++ [32, 43, 32, 115]) → RR V G' sg' 314 (ln_cut (ln_sum V K (tmx (ln_cut (if c = 1 then R1 else ln_dv R1 c)) a))) → Q (some (.int 1)) h')
    (hQ0 : ∀ h' s' G' sg' L', ¬ ((a = 1 ∨ ln_fit V (ln_tm (ln_cut (if c = 1 then R1 else ln_dv R1 c)) a)) ∧ ln_fit V (ln_sum V K (tmx (ln_cut (if c = 1 then R1 else ln_dv R1 c)) a))) → LQ h0 s0 G0 sg0 t h' s' G' sg' L' → L'.length ≤ L.length + 400 → (∃ M, L' = L ++ M) → Q (some (.int 0)) h') : pb_R 215 314 [some (.ref 65), l1, l2, some (.int (nI v)), l4, some (.int (nI (5446 * 20))), some (.int (nI (5447 * 20))), l7, l8] [] [] h Q := by
  have e32 : wu (32 : Int32) % 256 = 32 := by decide
  have e100 : wu (100 : Int32) % 256 = 100 := by decide
  have e115 : wu (115 : Int32) % 256 = 115 := by decide
  have e42 : wu (42 : Int32) % 256 = 42 := by decide
  have e43 : wu (43 : Int32) % 256 = 43 := by decide
  have i315 : (315 : Int32) = nI 315 := rfl
  have i314 : (314 : Int32) = nI 314 := rfl
  have n10 : ¬ (1 : Int32) = 0 := by decide
  have hda := dec_len a
  have hdc := dec_len c
  -- from the SUM on
  have fin404 : ∀ h2 s2 G2 sg2 L2 Rn, LQ h0 s0 G0 sg0 t h2 s2 G2 sg2 L2 → L2.length ≤ L.length + 300 → RR V G2 sg2 315 Rn → ln_fit V Rn → RR V G2 sg2 314 K → Rn = tmx (ln_cut (if c = 1 then R1 else ln_dv R1 c)) a → (a = 1 ∨ ln_fit V (ln_tm (ln_cut (if c = 1 then R1 else ln_dv R1 c)) a)) → L2 = L ++ (if c = 1 then [] else [32] ++ dec c ++ [32, 100]) ++ [32, 115] ++ (if a = 1 then [] else [32] ++ dec a ++ [32, 42]) → pb_R 215 404 [some (.ref 65), l1, l2, some (.int (nI v)), l4, some (.int (nI (5446 * 20))), some (.int (nI (5447 * 20))), l7, l8] [] [] h2 Q := by
    intro h2 s2 G2 sg2 L2 Rn W2 hl2 R2 fR2 K2 er hor el
    have k3 : s2 3 = nI V := (W2.2.2.1 3 (by omega)).trans h3
    simp only [pb_e215, LQ_is W2, true_and, i315, i314]
    refine A165 W2.2.1 k3 hV (by omega) (by omega) (by omega) K2 R2 fK fR2 ?_ ?_
    · intro h4 G4 sg4 F4 X4 N4 f4 R4
      have W4 := LQ_row W2 F4 X4 (sq_refl _) N4 (fun i w => by omega)
      simp only [Option.toList_some, List.singleton_append, pb_e215, n10, not_false_eq_true, if_true, LQ_is W4, true_and]
      refine A214 X4 W4.2.2.2.2.1 e43 (by omega) ?_
      intro h5 s5 F5 X5 B5 e5 q5
      have W5 := LQ_txt W4 F5 X5 B5 e5 q5
      have k35 : s5 3 = nI V := (W5.2.2.1 3 (by omega)).trans h3
      simp only [Option.toList_none, List.nil_append, pb_e215, LQ_is W5, true_and, i314]
      refine A168 X5 k35 hV (by omega) R4 ?_
      intro h6 G6 sg6 F6 X6 N6 R6
      have W6 := LQ_row W5 F6 X6 (sq_refl _) N6 (fun i w => Or.inl w)
      simp only [Option.toList_none, List.nil_append, pb_e215, LQ_is W6, true_and]
      refine A214 X6 W6.2.2.2.2.1 e115 (by rw [List.length_append]; show _ + 2 + 2 < _; omega) ?_
      intro h7 s7 F7 X7 B7 e7 q7
      have W7 := LQ_txt W6 F7 X7 B7 e7 q7
      simp only [Option.toList_none, List.nil_append, pb_e215, nb1, true_and]
      rw [er] at f4 R6
      refine hQ1 h7 s7 G6 sg6 hor f4 ?_ R6
      rw [← el]
      have e2 : L2 ++ [32, 43, 32, 115] = L2 ++ [32, 43] ++ [32, 115] := by rw [List.append_assoc]; rfl
      rw [e2]; exact W7
    · intro h4 G4 sg4 F4 X4 N4 f4
      have W4 := LQ_row W2 F4 X4 (sq_refl _) N4 (fun i w => by omega)
      simp only [Option.toList_some, List.singleton_append, pb_e215, not_true_eq_false, if_false, nb0, true_and]
      rw [er] at f4
      exact hQ0 h4 s2 G4 sg4 L2 (fun w => f4 w.2) W4 (by omega) (by simp only [el, List.append_assoc]; exact ⟨_, rfl⟩)
  -- from the CUT on
  have fin350 : ∀ h2 s2 G2 sg2 L2 R2, LQ h0 s0 G0 sg0 t h2 s2 G2 sg2 L2 → L2.length ≤ L.length + 90 → RR V G2 sg2 315 R2 → ln_fit V R2 → RR V G2 sg2 314 K → rv G2 5446 = a → R2 = (if c = 1 then R1 else ln_dv R1 c) → L2 = L ++ (if c = 1 then [] else [32] ++ dec c ++ [32, 100]) → pb_R 215 350 [some (.ref 65), l1, l2, some (.int (nI v)), l4, some (.int (nI (5446 * 20))), some (.int (nI (5447 * 20))), l7, l8] [] [] h2 Q := by
    intro h2 s2 G2 sg2 L2 R2 W2 hl2 RR2 fR2 K2 a2 er el
    have k3 : s2 3 = nI V := (W2.2.2.1 3 (by omega)).trans h3
    simp only [pb_e215, LQ_is W2, true_and, i315]
    refine A168 W2.2.1 k3 hV (by omega) RR2 ?_
    intro h4 G4 sg4 F4 X4 N4 R4
    have W4 := LQ_row W2 F4 X4 (sq_refl _) N4 (fun i w => Or.inr (Or.inl w))
    have K4 : RR V G4 sg4 314 K := RR_NF N4 (fun v hv => by omega) K2
    have a4 : rv G4 5446 = a := (NF_rv N4 (by omega)).trans a2
    simp only [Option.toList_none, List.nil_append, pb_e215, LQ_is W4, true_and]
    refine A214 X4 W4.2.2.2.2.1 e115 (by omega) ?_
    intro h5 s5 F5 X5 B5 e5 q5
    have W5 := LQ_txt W4 F5 X5 B5 e5 q5
    have hl5 : (L2 ++ [32, 115]).length ≤ L.length + 92 := by rw [List.length_append]; show _ + 2 ≤ _; omega
    have h149 := fun Q : Option Value → pb_H → Prop => A149 (Q := Q) (i := 5446) X5 (by omega)
    rw [a4] at h149
    by_cases c1 : a = 1
    · have key := fin404 h5 s5 G4 sg4 _ _ W5 (by omega) R4 (fit_cut fR2) K4 (by unfold tmx; rw [if_pos c1, er]) (Or.inl c1) (by rw [if_pos c1, List.append_nil, el])
      simp only [pb_e215, LQ_is W5, true_and] at key
      simp only [Option.toList_none, List.nil_append, pb_e215, LQ_is W5, true_and, h149, c1, if_true, Option.toList_some, List.singleton_append, n10, not_false_eq_true]
      exact key
    · have k35 : s5 3 = nI V := (W5.2.2.1 3 (by omega)).trans h3
      simp only [Option.toList_none, List.nil_append, pb_e215, LQ_is W5, true_and, h149, c1, if_false, Option.toList_some, List.singleton_append, not_true_eq_false, i315]
      refine A166 (j := 5446) X5 k35 hV (by omega) (by omega) (by omega) R4 (by rw [a4]; exact a0) ?_ ?_
      · intro h6 G6 F6 X6 N6 f6 R6
        rw [a4] at f6 R6
        have W6 := LQ_row W5 F6 X6 (sq_refl _) N6 (fun i w => Or.inr (Or.inl w))
        have K6 : RR V G6 sg4 314 K := RR_NF N6 (fun v hv => by omega) K4
        have a6 : rv G6 5446 = a := (NF_rv N6 (by omega)).trans a4
        simp only [Option.toList_some, List.singleton_append, pb_e215, n10, not_false_eq_true, if_true, LQ_is W6, true_and]
        refine A209 X6 W6.2.2.2.2.1 e32 (by omega) ?_
        intro h7 s7 F7 X7 B7 e7 q7
        have W7 := LQ_txt W6 F7 X7 B7 e7 q7
        obtain ⟨d7, w7⟩ := W7.2.2.2.2.2.2
        simp only [Option.toList_none, List.nil_append, pb_e215, LQ_is W7, true_and]
        refine A210 X7 B7 w7 (by omega) (by omega) a6 a80 (by rw [List.length_append]; show _ + 1 + 80 < _; omega) ?_
        intro h8 s8 G8 dg8 F8 X8 N8 B8 e8 q8
        have W8 := LQ_num W7 F8 X8 N8 (fun i w => by omega) B8 e8 q8
        simp only [Option.toList_none, List.nil_append, pb_e215, LQ_is W8, true_and]
        refine A214 X8 B8 e42 (by rw [List.length_append, List.length_append]; show _ + 1 + _ + 2 < _; omega) ?_
        intro h9 s9 F9 X9 B9 e9 q9
        have W9' := LQ_txt W8 F9 X9 B9 e9 q9
        have key := fin404 h9 s9 G8 sg4 _ _ W9' (by rw [List.length_append, List.length_append, List.length_append]; show _ + 1 + _ + 2 ≤ _; omega) (RR_NF N8 (fun v hv => by omega) R6) f6 (RR_NF N8 (fun v hv => by omega) K6) (by unfold tmx; rw [if_neg c1, er]) (Or.inr (by rw [← er]; exact f6)) (by rw [if_neg c1, el]; simp only [List.append_assoc])
        simp only [pb_e215, LQ_is W9', true_and] at key
        simp only [Option.toList_none, List.nil_append, pb_e215, LQ_is W9', true_and]
        exact key
      · intro h6 G6 F6 X6 N6 f6
        rw [a4] at f6
        have W6 := LQ_row W5 F6 X6 (sq_refl _) N6 (fun i w => Or.inr (Or.inl w))
        simp only [Option.toList_some, List.singleton_append, pb_e215, not_true_eq_false, if_false, nb0, true_and]
        refine hQ0 h6 s5 G6 sg4 _ (fun w => ?_) W6 (by omega) (by simp only [el, List.append_assoc]; exact ⟨_, rfl⟩)
        rcases w.1 with w | w
        · exact c1 w
        · rw [← er] at w; exact f6 w
  have h149 := fun Q : Option Value → pb_H → Prop => A149 (Q := Q) (i := 5447) W.2.1 (by omega)
  rw [ec] at h149
  by_cases c1 : c = 1
  · have key := fin350 h s G sg L R1 W (by omega) hR fR hK ea (by rw [if_pos c1]) (by rw [if_pos c1, List.append_nil])
    simp only [pb_e215, LQ_is W, true_and] at key
    simp only [pb_e215, LQ_is W, true_and, h149, c1, if_true, Option.toList_some, List.singleton_append, n10, not_false_eq_true]
    exact key
  · have k3 : s 3 = nI V := (W.2.2.1 3 (by omega)).trans h3
    simp only [pb_e215, LQ_is W, true_and, h149, c1, if_false, Option.toList_some, List.singleton_append, not_true_eq_false, i315]
    refine A167 (j := 5447) W.2.1 k3 hV (by omega) (by omega) (by omega) hR (by rw [ec]; exact c0) ?_
    intro h2 s2 G2 F2 X2 q2 N2 R2
    rw [ec] at R2
    have W2 := LQ_row W F2 X2 q2 N2 (fun i w => Or.inr (Or.inl w))
    have K2 : RR V G2 sg 314 K := RR_NF N2 (fun v hv => by omega) hK
    simp only [Option.toList_none, List.nil_append, pb_e215, LQ_is W2, true_and]
    refine A209 X2 W2.2.2.2.2.1 e32 (by omega) ?_
    intro h7 s7 F7 X7 B7 e7 q7
    have W7 := LQ_txt W2 F7 X7 B7 e7 q7
    obtain ⟨d7, w7⟩ := W7.2.2.2.2.2.2
    simp only [Option.toList_none, List.nil_append, pb_e215, LQ_is W7, true_and]
    refine A210 X7 B7 w7 (by omega) (by omega) ((NF_rv N2 (by omega)).trans ec) c80 (by rw [List.length_append]; show _ + 1 + 80 < _; omega) ?_
    intro h8 s8 G8 dg8 F8 X8 N8 B8 e8 q8
    have W8 := LQ_num W7 F8 X8 N8 (fun i w => by omega) B8 e8 q8
    simp only [Option.toList_none, List.nil_append, pb_e215, LQ_is W8, true_and]
    refine A214 X8 B8 e100 (by rw [List.length_append, List.length_append]; show _ + 1 + _ + 2 < _; omega) ?_
    intro h9 s9 F9 X9 B9 e9 q9
    have W9' := LQ_txt W8 F9 X9 B9 e9 q9
    have key := fin350 h9 s9 G8 sg _ _ W9' (by rw [List.length_append, List.length_append, List.length_append]; show _ + 1 + _ + 2 ≤ _; omega) (RR_NF N8 (fun v hv => by omega) R2) (fit_dv c0 fR) (RR_NF N8 (fun v hv => by omega) K2) (((NF_rv N8 (by omega)).trans (NF_rv N2 (by omega))).trans ea) (by rw [if_neg c1]) (by rw [if_neg c1]; simp only [List.append_assoc])
    simp only [pb_e215, LQ_is W9', true_and] at key
    simp only [Option.toList_none, List.nil_append, pb_e215, LQ_is W9', true_and]
    exact key
end LQ2
