/-! Search: addReason -/
section ADR
variable {h h0 : pb_H} {Q : Option Value → pb_H → Prop} {V c0 N0 c N m p ts lv : Nat} {L0 L : List Nat} {st ch le ac pb : Int32}
/-- Search.addReason -/
theorem L107 {v : Nat} {K R : LN} {so so' : Int32} (hV : V ≤ 16) (W : WB V c0 N0 h0 L0 h c N L) (h47 : h0.2 47 = csr st (nI lv) ch le ac pb) (v1 : 1 ≤ v) (v2 : v ≤ V) (hKv : K.2 v ≠ 0) (hK : LA h V 61 so K) (hR : LA h V 63 so' R)
    (hQ1 : ∀ h' c' N', ((K.2 v).natAbs = 1 ∨ ln_fit V (ln_tm R (K.2 v).natAbs)) → ln_fit V (ln_sum V K (tmx R (K.2 v).natAbs)) → WB V c0 N0 h0 L0 h' c' N' (L ++ (if (K.2 v).natAbs = 1 then [] else [32] ++ dec (K.2 v).natAbs ++ [32, 42]) ++ [32, 43, 32, 115]) → LA h' V 61 so (ln_cut (ln_sum V K (tmx R (K.2 v).natAbs))) → LG h' V 63 → Q (some (.int 1)) h')
    (hQ0 : ∀ h' c' N' L', ¬ (((K.2 v).natAbs = 1 ∨ ln_fit V (ln_tm R (K.2 v).natAbs)) ∧ ln_fit V (ln_sum V K (tmx R (K.2 v).natAbs))) → WB V c0 N0 h0 L0 h' c' N' L' → LG h' V 61 → LG h' V 63 → Q (some (.int 0)) h') : pb_call 107 [.ref 47, .int (nI v)] h Q := by
  have e42 : wu (42 : Int32) % 256 = 42 := by decide
  have e43 : wu (43 : Int32) % 256 = 43 := by decide
  have e115 : wu (115 : Int32) % 256 = 115 := by decide
  have k47 : h.2 47 = csr st (nI lv) ch le ac pb := (WB_low W (by omega) (by omega)).trans h47
  obtain ⟨f, pl, nl, wi, ca, cf, co, d1, d2, d3, d4⟩ := id hK
  obtain ⟨f4, w54⟩ := W.2.2.2.2.1
  have e8 : nI v * 8 = nI (v * 8) := pk_mul v 8
  have hval : wv (va_cpy f f4 (v * 8) 0 8) 0 8 = (K.2 v).natAbs := by rw [cpy_wv, d3.2.2.1 v v1 v2]
  have h42 := fun Q : Option Value → pb_H → Prop => m42 (Q := Q) (a := 54) (b := 61 + 1) (i := 0) (j := v * 8) (n := 8) (nb := (V + 1) * 8) w54 d2 (by omega) (by omega) (by omega) (by omega)
  have i0 : (0 : Int32) = nI 0 := rfl
  obtain ⟨W1, F1, g54⟩ := WB_54 (f := va_cpy f f4 (v * 8) 0 8) W
  have K1 := LA_fr F1 (by omega) (by omega) hK
  have R1 := LA_fr F1 (by omega) (by omega) hR
  generalize ha : (K.2 v).natAbs = a at *
  have a0 : a ≠ 0 := by omega
  generalize hh1 : pb_set h 54 (ci 8 (va_cpy f f4 (v * 8) 0 8)) = h1 at *
  have k47a : h1.2 47 = csr st (nI lv) ch le ac pb := (WB_low W1 (by omega) (by omega)).trans h47
  have h104 := fun Q : Option Value → pb_H → Prop => m104 (Q := Q) g54 (by omega) (by omega)
  have fin : ∀ h2 c2 N2 L2 R2, WB V c0 N0 h0 L0 h2 c2 N2 L2 → LA h2 V 61 so K → LA h2 V 63 so' R2 → R2 = tmx R a → (a = 1 ∨ ln_fit V (ln_tm R a)) → L2 = L ++ (if a = 1 then [] else [32] ++ dec a ++ [32, 42]) → pb_R 107 55 [some (.ref 47), some (.int (nI v))] [] [] h2 Q := by
    intro h2 c2 N2 L2 R2 W2 K2 LR2 er hor el
    subst er el
    have k47b : h2.2 47 = csr st (nI lv) ch le ac pb := (WB_low W2 (by omega) (by omega)).trans h47
    simp only [pb_e107, k47b, pb_g6, pb_o_some, LA_is K2, true_and]
    refine L64 hV (by omega) K2 LR2 ?_ ?_
    · intro h3 F3 hf L3
      have W3 := WB_k W2 F3 (fun q w => by omega)
      have k47c : h3.2 47 = csr st (nI lv) ch le ac pb := (WB_low W3 (by omega) (by omega)).trans h47
      have n10 : ¬ (1 : Int32) = 0 := by decide
      simp only [Option.toList_some, List.singleton_append, pb_e107, n10, not_false_eq_true, if_true, k47c, pb_g6, pb_o_some, LA_is L3, true_and]
      refine L66 hV L3 ?_
      intro h4 F4 L4
      have W4 := WB_k W3 F4 (fun q w => by omega)
      have k47d : h4.2 47 = csr st (nI lv) ch le ac pb := (WB_low W4 (by omega) (by omega)).trans h47
      simp only [Option.toList_none, List.nil_append, pb_e107, k47d, pb_g6, pb_o_some, WB_is W4, true_and]
      refine W9 W4.2.2.1 e43 ?_
      intro h5 c5 N5 G5 B5
      have W5 := WB_txt W4 G5 B5
      have P5 := BG_kpl W4 G5
      have k47e : h5.2 47 = csr st (nI lv) ch le ac pb := (WB_low W5 (by omega) (by omega)).trans h47
      simp only [Option.toList_none, List.nil_append, pb_e107, k47e, pb_g6, pb_o_some, WB_is W5, true_and]
      refine W9 W5.2.2.1 e115 ?_
      intro h6 c6 N6 G6 B6
      have W6 := WB_txt W5 G6 B6
      have P6 := BG_kpl W5 G6
      have P := kpl_trans P5 P6
      simp only [Option.toList_none, List.nil_append, pb_e107, nb1, true_and]
      refine hQ1 h6 c6 N6 hor hf ?_ (LA_kpl P (by omega) (by omega) (by omega) L4) (LG_kpl P (by omega) (by omega) (by omega) (LG_fr F4 (by omega) (by omega) (LG_fr F3 (by omega) (by omega) (LA_LG LR2))))
      have e2 : L ++ (if a = 1 then [] else [32] ++ dec a ++ [32, 42]) ++ [32, 43, 32, 115] = L ++ (if a = 1 then [] else [32] ++ dec a ++ [32, 42]) ++ [32, 43] ++ [32, 115] := by
        rw [List.append_assoc (L ++ _) [32, 43] [32, 115]]; rfl
      rw [e2]; exact W6
    · intro h3 F3 hf L3
      have W3 := WB_k W2 F3 (fun q w => by omega)
      simp only [Option.toList_some, List.singleton_append, pb_e107, not_true_eq_false, if_false, nb0, true_and]
      exact hQ0 h3 c2 N2 _ (fun w => hf w.2) W3 L3 (LG_fr F3 (by omega) (by omega) (LA_LG LR2))
  rw [pb_c107]
  by_cases c1 : a = 1
  · have hv1 : wv (va_cpy f f4 (v * 8) 0 8) 0 8 = 1 := hval.trans c1
    have n10 : ¬ (1 : Int32) = 0 := by decide
    have key := fin h1 c N L R W1 K1 R1 (by unfold tmx; rw [if_pos c1]) (Or.inl c1) (by rw [if_pos c1, List.append_nil])
    simp only [pb_e107, k47a, pb_g6, pb_o_some] at key
    simp only [pb_e107, k47, pb_g6, pb_o_some, d1, pb_g4, e8, i0, h42, Option.toList_none, List.nil_append, hh1, k47a, h104, hv1, if_true, Option.toList_some, List.singleton_append]
    simp only [← i0, n10, not_false_eq_true, if_true, k47a, pb_g6, pb_o_some]
    exact key
  · have hv1 : ¬ wv (va_cpy f f4 (v * 8) 0 8) 0 8 = 1 := fun e => c1 (hval.symm.trans e)
    obtain ⟨f6, w56⟩ := W1.2.2.2.2.2.2.1
    simp only [pb_e107, k47, pb_g6, pb_o_some, d1, pb_g4, e8, i0, h42, Option.toList_none, List.nil_append, hh1, k47a, h104, hv1, if_false, Option.toList_some, List.singleton_append]
    simp only [← i0, not_true_eq_false, if_false, k47a, pb_g6, pb_o_some, LA_is R1, true_and]
    refine L43 (c := 54) (d := 56) hV R1 (by omega) (by omega) (by omega) (by omega) (by omega) g54 w56 (by omega) (by omega) (by rw [hval]; exact a0) ?_
    intro h2 q2 F2 e56
    rw [hval]
    have W2 : WB V c0 N0 h0 L0 h2 c N L := by
      obtain ⟨w1, w2, w3, w4, ⟨f4', w5⟩, ⟨f5, w6⟩, ⟨f6, w7⟩, r8, w8⟩ := id W1
      exact WB_mv W1 F2 (fun q w => by omega) (DG_fr F2 (fun b hb w => by omega) w4) ⟨f4', (F2.2.2 _ (by omega)).trans w5⟩ ⟨f5, (F2.2.2 _ (by omega)).trans w6⟩ ⟨q2, e56⟩ ⟨r8, (F2.2.2 _ (by omega)).trans w8⟩
    have k47b : h2.2 47 = csr st (nI lv) ch le ac pb := (WB_low W2 (by omega) (by omega)).trans h47
    have K2 := LA_fr F2 (by omega) (by omega) K1
    refine ⟨fun ⟨hf, L2⟩ => ?_, fun ⟨hf, L2⟩ => ?_⟩
    · have n10 : ¬ (1 : Int32) = 0 := by decide
      have is47 : pb_is0 (h2.2 47) 6 = true := by rw [k47b]; rfl
      have g54b : h2.2 54 = ci 8 (va_cpy f f4 (v * 8) 0 8) := (F2.2.2 _ (by omega)).trans g54
      simp only [Option.toList_some, List.singleton_append, pb_e107, n10, not_false_eq_true, if_true, is47, true_and]
      refine L105 W2 h47 g54b hval e42 ?_
      intro h3 c3 N3 W3 P3
      have k47c : h3.2 47 = csr st (nI lv) ch le ac pb := (WB_low W3 (by omega) (by omega)).trans h47
      have key := fin h3 c3 N3 _ _ W3 (LA_kpl P3 (by omega) (by omega) (by omega) K2) (LA_kpl P3 (by omega) (by omega) (by omega) L2) (by unfold tmx; rw [if_neg c1]) (Or.inr hf) (by rw [if_neg c1]; simp only [List.append_assoc])
      simp only [pb_e107, k47c, pb_g6, pb_o_some] at key
      simp only [Option.toList_none, List.nil_append, pb_e107, k47c, pb_g6, pb_o_some]
      exact key
    · simp only [Option.toList_some, List.singleton_append, pb_e107, not_true_eq_false, if_false, nb0, true_and]
      exact hQ0 h2 c N L (fun w => by
        rcases w.1 with w | w
        · exact c1 w
        · exact hf w) W2 (LA_LG K2) L2
end ADR
