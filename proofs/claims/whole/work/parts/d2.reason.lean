/-! Search: takeReason, addReason -/
section REA
variable {h h0 : pb_H} {Q : Option Value → pb_H → Prop} {V c0 N0 c N m p ts lv : Nat} {L0 L : List Nat} {T : Nat → Int} {Lv Rs : Nat → Nat} {tb fb lt : Int32} {st ch le ac pb : Int32} {F : Nat → Option Nat} {X : Nat → LN} {og : Nat → Nat}
theorem cpy_wv {f g : Nat → Int32} {j : Nat} : wv (va_cpy g f j 0 8) 0 8 = wv g j 8 := by
  refine wv_congr (fun i hi => ?_)
  unfold va_cpy
  rw [if_pos (by omega)]
  congr 1
  omega
theorem WB_54 {f : Nat → Int32} (W : WB V c0 N0 h0 L0 h c N L) : WB V c0 N0 h0 L0 (pb_set h 54 (ci 8 f)) c N L ∧ fr (fun q => q = 54) h (pb_set h 54 (ci 8 f)) ∧ (pb_set h 54 (ci 8 f)).2 54 = ci 8 f := by
  obtain ⟨w1, w2, w3, w4, ⟨f4, w5⟩, ⟨f5, w6⟩, ⟨f6, w7⟩, r, w8⟩ := id W
  have F1 : fr (fun q => q = 54) h (pb_set h 54 (ci 8 f)) := fr_set rfl (by rw [w5]; rfl)
  have g : (pb_set h 54 (ci 8 f)).2 54 = ci 8 f := by rw [pb_set_get, if_pos rfl]
  exact ⟨WB_mv W F1 (fun q w => by omega) (DG_fr F1 (fun b hb w => by omega) w4) ⟨f, g⟩ ⟨f5, (F1.2.2 _ (by omega)).trans w6⟩ ⟨f6, (F1.2.2 _ (by omega)).trans w7⟩ ⟨r, (F1.2.2 _ (by omega)).trans w8⟩, F1, g⟩
/-- cells of the reason's making -/
abbrev trS : Nat → Prop := fun q => (48 ≤ q ∧ q ≤ 56) ∨ q = 63 ∨ q = 64
/-- Search.takeReason -/
theorem L106 {i v k : Nat} (hV : V ≤ 16) (W : WB V c0 N0 h0 L0 h c N L) (hS : SHL h0 V m p F X og) (hC : CT h0 V ts T Lv Rs tb fb lt) (hd : ∀ a b, a < b → b < ts → (T a).natAbs ≠ (T b).natAbs) (h47 : h0.2 47 = csr st (nI lv) ch le ac pb) (hi : i < ts) (v1 : 1 ≤ v) (v2 : v ≤ V) (hk : Rs i = k) (k1 : 1 ≤ k) (k2 : k ≤ m) (hRv : (X k).2 v ≠ 0) (hG : LG h V 63)
    (hQ : ∀ h' c' N' so', WB V c0 N0 h0 L0 h' c' N' (L ++ rst_t V k (X k) (asg T i) v) → kpl trS h h' → LA h' V 63 so' (rsn V (X k) (asg T i) v) → Q (some (.int 1)) h') : pb_call 106 [.ref 47, .int (nI i), .int (nI v)] h Q := by
  have e32 : wu (32 : Int32) % 256 = 32 := by decide
  have e100 : wu (100 : Int32) % 256 = 100 := by decide
  have e115 : wu (115 : Int32) % 256 = 115 := by decide
  obtain ⟨u1, ⟨r, u2⟩, u3, u4, u5, u6, u7⟩ := id hS
  have k47 : h.2 47 = csr st (nI lv) ch le ac pb := (WB_low W (by omega) (by omega)).trans h47
  have k2c : h.2 2 = csh V m p (nfl V X m) := (WB_low W (by omega) (by omega)).trans u1
  have k4c : h.2 4 = co 300 F := (WB_low W (by omega) (by omega)).trans u3
  have C' := CT_low W hC
  obtain ⟨a, ea, La0⟩ := u5 k k1 k2
  have lka := u6 (k - 1) a (by omega) ea
  have La := LA_high W lka La0
  have h46 : ∀ Q : Option Value → pb_H → Prop, pb_call 46 [.ref 2, .int (nI k)] h Q ↔ Q (some (.ref a)) h := fun Q => m46_in k2c k4c u4 k1 k2 ea
  obtain ⟨t1, t2, t3, ⟨f1, f2, f3, s1, s2, s3, s4⟩, t5, t6⟩ := id C'
  have hg := pb_ai_eq (k := 0) (n := V) (j := i) (f := f3) (Or.inl rfl) (by omega) (by omega)
  rw [(s4 i hi).2.2, hk] at hg
  have a83 := lka.1
  rw [pb_c106]
  simp only [pb_e106, k47, pb_g6, pb_o_some, t1, pb_g9, s3, hg, k2c, pb_g7, true_and, h46, Option.toList_some, List.singleton_append, LG_is hG]
  refine L48 hV (by omega) hG La ?_
  intro h1 so1 F1 L1
  have W1 := WB_k W F1 (fun q w => by omega)
  have k47a : h1.2 47 = csr st (nI lv) ch le ac pb := (WB_low W1 (by omega) (by omega)).trans h47
  simp only [Option.toList_none, List.nil_append, pb_e106, k47a, pb_g6, pb_o_some, WB_is W1, true_and]
  refine W2x W1.2.2.1 e32 ?_
  intro h2 c2 N2 G2 B2
  have W2 := WB_txt W1 G2 B2
  have P2 := BG_kpl W1 G2
  have k47b : h2.2 47 = csr st (nI lv) ch le ac pb := (WB_low W2 (by omega) (by omega)).trans h47
  simp only [Option.toList_none, List.nil_append, pb_e106, k47b, pb_g6, pb_o_some, WB_is W2, true_and]
  refine W8 W2.2.2.1 (by omega) ?_
  intro h3 c3 N3 G3 B3
  have W3 := WB_txt W2 G3 B3
  have P3 := BG_kpl W2 G3
  have k47d : h3.2 47 = csr st (nI lv) ch le ac pb := (WB_low W3 (by omega) (by omega)).trans h47
  have La3 := LA_high W3 lka La0
  obtain ⟨f, pl, nl, wi, ca, cf, co, d1, d2, d3, d4⟩ := id La3
  obtain ⟨f4, w54⟩ := W3.2.2.2.2.1
  have e8 : nI v * 8 = nI (v * 8) := pk_mul v 8
  have hval : wv (va_cpy f f4 (v * 8) 0 8) 0 8 = ((X k).2 v).natAbs := by rw [cpy_wv, d3.2.2.1 v v1 v2]
  have h42 := fun Q : Option Value → pb_H → Prop => m42 (Q := Q) (a := 54) (b := a + 1) (i := 0) (j := v * 8) (n := 8) (nb := (V + 1) * 8) w54 d2 (by omega) (by omega) (by omega) (by omega)
  have i0 : (0 : Int32) = nI 0 := rfl
  obtain ⟨W4, F4, g54⟩ := WB_54 (f := va_cpy f f4 (v * 8) 0 8) W3
  have k47e : (pb_set h3 54 (ci 8 (va_cpy f f4 (v * 8) 0 8))).2 47 = csr st (nI lv) ch le ac pb := (WB_low W4 (by omega) (by omega)).trans h47
  have hd0 : pb_is0 ((pb_set h3 54 (ci 8 (va_cpy f f4 (v * 8) 0 8))).2 50) 3 = true := by
    obtain ⟨_, _, _, _, _, k1, _⟩ := W4.2.2.2.1
    rw [k1]; rfl
  simp only [Option.toList_none, List.nil_append, pb_e106, k47d, pb_g6, pb_o_some, d1, pb_g4, e8, i0, h42, k47e, hd0, true_and]
  refine L31 W4.2.2.2.1 g54 (by omega) (by omega) (by omega) (by rw [hval]; omega) ?_
  intro h5 F5 D5
  rw [hval] at D5
  have W5 : WB V c0 N0 h0 L0 h5 c3 N3 (L ++ [32] ++ dec k) := by
    obtain ⟨w1, w2, w3, w4, ⟨f4', w5⟩, ⟨f5, w6⟩, ⟨f6, w7⟩, r8, w8⟩ := id W4
    exact WB_mv W4 F5 (fun q w => by omega) (DV_DG D5) ⟨f4', (F5.2.2 _ (by omega)).trans w5⟩ ⟨f5, (F5.2.2 _ (by omega)).trans w6⟩ ⟨f6, (F5.2.2 _ (by omega)).trans w7⟩ ⟨r8, (F5.2.2 _ (by omega)).trans w8⟩
  have P5 : kpl (fun q => q = 48 ∨ q = 49 ∨ (50 ≤ q ∧ q ≤ 54)) h1 h5 := kpl_trans (kpl_mono P2 (fun q w => by omega)) (kpl_trans (kpl_mono P3 (fun q w => by omega)) (kpl_trans (kpl_fr F4 (fun q w => by omega)) (kpl_fr F5 (fun q w => by omega))))
  have L5 : LA h5 V 63 so1 (X k) := LA_kpl P5 (by omega) (by omega) (by omega) L1
  have g54b : h5.2 54 = ci 8 (va_cpy f f4 (v * 8) 0 8) := (F5.2.2 _ (by omega)).trans g54
  have k47f : h5.2 47 = csr st (nI lv) ch le ac pb := (WB_low W5 (by omega) (by omega)).trans h47
  have is47 : pb_is0 (h5.2 47) 6 = true := by rw [k47f]; rfl
  simp only [Option.toList_none, List.nil_append, pb_e106, is47, true_and]
  refine L103 (i := i) hV W5 u1 hC hd h47 (by omega) (by omega) L5 D5 ?_
  intro h6 c6 N6 W6 P6 L6 D6
  have g54c : h6.2 54 = ci 8 (va_cpy f f4 (v * 8) 0 8) := (P6 _ (by omega) (by omega)).trans g54b
  have k47g : h6.2 47 = csr st (nI lv) ch le ac pb := (WB_low W6 (by omega) (by omega)).trans h47
  have h104 := fun Q : Option Value → pb_H → Prop => m104 (Q := Q) g54c (by omega) (by omega)
  have P16 : kpl trS h h6 := kpl_trans (kpl_fr F1 (fun q w => by omega)) (kpl_trans (kpl_mono P5 (fun q w => by omega)) (kpl_mono P6 (fun q w => by omega)))
  have fin : ∀ h7 c7 N7 L7 R7, WB V c0 N0 h0 L0 h7 c7 N7 L7 → kpl trS h h7 → LA h7 V 63 so1 R7 → rsn V (X k) (asg T i) v = ln_cut R7 → L ++ rst_t V k (X k) (asg T i) v = L7 ++ [32, 115] → ∀ l0 l1 l2 l3 l4, l0 = some (.ref 47) → pb_R 106 114 [l0, l1, l2, l3, l4] [] [] h7 Q := by
    intro h7 c7 N7 L7 R7 W7 P7 LR7 er et l0 l1 l2 l3 l4 el
    subst el
    have k47h : h7.2 47 = csr st (nI lv) ch le ac pb := (WB_low W7 (by omega) (by omega)).trans h47
    simp only [pb_e106, k47h, pb_g6, pb_o_some, LA_is LR7, true_and]
    refine L66 hV LR7 ?_
    intro h8 F8 L8
    have W8 := WB_k W7 F8 (fun q w => by omega)
    have k47i : h8.2 47 = csr st (nI lv) ch le ac pb := (WB_low W8 (by omega) (by omega)).trans h47
    simp only [Option.toList_none, List.nil_append, pb_e106, k47i, pb_g6, pb_o_some, WB_is W8, true_and]
    refine W9 W8.2.2.1 e115 ?_
    intro h9 c9 N9 G9 B9
    have W9' := WB_txt W8 G9 B9
    have P9 := BG_kpl W8 G9
    rw [← et] at W9'
    rw [← er] at L8
    simp only [Option.toList_none, List.nil_append, pb_e106, nb1, true_and]
    exact hQ h9 c9 N9 so1 W9' (kpl_trans P7 (kpl_trans (kpl_fr F8 (fun q w => by omega)) (kpl_mono P9 (fun q w => by omega)))) (LA_kpl P9 (by omega) (by omega) (by omega) L8)
  by_cases c1 : ((X k).2 v).natAbs = 1
  · have hv1 : wv (va_cpy f f4 (v * 8) 0 8) 0 8 = 1 := hval.trans c1
    have n10 : ¬ (1 : Int32) = 0 := by decide
    have key := fin h6 c6 N6 _ _ W6 P16 L6 (by unfold rsn; rw [if_pos c1]) (by unfold rst_t; rw [if_pos c1]; simp only [List.append_assoc, List.append_nil, List.nil_append]) (some (.ref 47)) (some (.int (nI i))) (some (.int (nI v))) (some (.int (nI k))) (some (.ref a)) rfl
    simp only [pb_e106, k47g, pb_g6, pb_o_some] at key
    simp only [Option.toList_none, List.nil_append, pb_e106, k47g, pb_g6, pb_o_some, h104, hv1, if_true, Option.toList_some, List.singleton_append, n10, not_false_eq_true]
    exact key
  · have hv1 : ¬ wv (va_cpy f f4 (v * 8) 0 8) 0 8 = 1 := fun e => c1 (hval.symm.trans e)
    simp only [Option.toList_none, List.nil_append, pb_e106, k47g, pb_g6, pb_o_some, h104, hv1, if_false, Option.toList_some, List.singleton_append, not_true_eq_false, LA_is L6, true_and]
    refine L40 hV L6 D6 (by omega) ?_
    intro h7 F7 L7 D7
    have W7 : WB V c0 N0 h0 L0 h7 c6 N6 (L ++ [32] ++ dec k ++ wkt (X k) (asg T i) v ((X k).2 v).natAbs V) := by
      obtain ⟨w1, w2, w3, w4, ⟨f4', w5⟩, ⟨f5, w6⟩, ⟨f6, w7⟩, r8, w8⟩ := id W6
      exact WB_mv W6 F7 (fun q w => by omega) (DV_DG D7) ⟨f4', (F7.2.2 _ (by omega)).trans w5⟩ ⟨f5, (F7.2.2 _ (by omega)).trans w6⟩ ⟨f6, (F7.2.2 _ (by omega)).trans w7⟩ ⟨r8, (F7.2.2 _ (by omega)).trans w8⟩
    have k47h : h7.2 47 = csr st (nI lv) ch le ac pb := (WB_low W7 (by omega) (by omega)).trans h47
    have is47b : pb_is0 (h7.2 47) 6 = true := by rw [k47h]; rfl
    have g54d : h7.2 54 = ci 8 (va_cpy f f4 (v * 8) 0 8) := (F7.2.2 _ (by omega)).trans g54c
    simp only [Option.toList_none, List.nil_append, pb_e106, is47b, true_and]
    refine L105 W7 h47 g54d hval e100 ?_
    intro h8 c8 N8 W8 P8
    have L8 := LA_kpl P8 (by omega) (by omega) (by omega) L7
    have k47i : h8.2 47 = csr st (nI lv) ch le ac pb := (WB_low W8 (by omega) (by omega)).trans h47
    have key := fin h8 c8 N8 _ _ W8 (kpl_trans P16 (kpl_trans (kpl_fr F7 (fun q w => by omega)) (kpl_mono P8 (fun q w => by omega)))) L8 (by unfold rsn; rw [if_neg c1]) (by unfold rst_t; rw [if_neg c1]; simp only [List.append_assoc]) (some (.ref 47)) (some (.int (nI i))) (some (.int (nI v))) (some (.int (nI k))) (some (.ref a)) rfl
    simp only [pb_e106, k47i, pb_g6, pb_o_some] at key
    simp only [Option.toList_none, List.nil_append, pb_e106, k47i, pb_g6, pb_o_some]
    exact key
end REA
