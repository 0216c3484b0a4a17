/-! Search: resolve, writeEnd -/
/-- the end of what is written -/
def edt (m lv : Nat) : List Nat := [32, 59, 10] ++ (if lv = 0 then [99, 32] ++ dec (m + 1) ++ [32, 59, 10] else [])
section RSP
variable {h h0 : pb_H} {Q : Option Value → pb_H → Prop} {V c N c0 N0 m p ts lv : Nat} {P L L0 : List Nat} {T : Nat → Int} {Lv Rs : Nat → Nat} {tb fb lt : Int32} {st ch le ac pb : Int32} {F : Nat → Option Nat} {X : Nat → LN} {og : Nat → Nat}
theorem LG_high {a : Nat} (W : WB V c0 N0 h0 L0 h c N L) (hl : lok h0 V a) : lok h V a := by
  obtain ⟨⟨g, _⟩, ⟨k1, k2, k3, M, b, k4⟩, _⟩ := W
  obtain ⟨l1, l2, L2⟩ := id hl
  refine lok_fg g (fun w => ?_) (fun w => ?_) hl
  · rcases w with w | w
    · omega
    · subst w
      obtain ⟨f, p, n, wi, so, ca, cf, co, e1, _⟩ := L2
      rw [k4] at e1
      exact cb_inr e1
  · rcases w with w | w
    · omega
    · subst w
      obtain ⟨f, p, n, wi, so, ca, cf, co, _, e1⟩ := L2
      rw [k4] at e1
      unfold cb at e1
      injection e1 with e1
      injection e1 with e1 _
      exact absurd e1 (by decide)
theorem SHL_WB (W : WB V c0 N0 h0 L0 h c N L) (hS : SHL h0 V m p F X og) : SHL h V m p F X og := by
  obtain ⟨u1, _, u3, u4, u5, u6, u7⟩ := hS
  refine ⟨(WB_low W (by omega) (by omega)).trans u1, W.2.2.2.2.2.2.2, (WB_low W (by omega) (by omega)).trans u3, u4, fun k k1 k2 => ?_, fun i a hi ha => LG_high W (u6 i a hi ha), u7⟩
  obtain ⟨a, ea, La⟩ := u5 k k1 k2
  exact ⟨a, ea, LA_high W (u6 (k - 1) a (by omega) ea) La⟩
/-- the cell 47 changes -/
theorem WB_47 {x : pb_E} (W : WB V c N h P h c N P) (hx : pb_sz x = pb_sz (h.2 47)) : WB V c N (pb_set h 47 x) P (pb_set h 47 x) c N P := by
  have F1 : fr (fun q => q = 47) h (pb_set h 47 x) := fr_set rfl hx
  have hc := WB_c W
  obtain ⟨w1, ⟨x1, x2, x3, M, b, x4⟩, ⟨sz, ov, bb, w3⟩, w4, ⟨f4, w5⟩, ⟨f5, w6⟩, ⟨f6, w7⟩, r, w8⟩ := W
  exact ⟨SG_refl _ _ _, ⟨x1, x2, x3, M, b, (F1.2.2 c (by omega)).trans x4⟩, ⟨sz, ov, bb, BX_fr F1 (by omega) (by omega) w3⟩, DG_fr F1 (fun b hb w => by omega) w4, ⟨f4, (F1.2.2 _ (by omega)).trans w5⟩, ⟨f5, (F1.2.2 _ (by omega)).trans w6⟩, ⟨f6, (F1.2.2 _ (by omega)).trans w7⟩, r, (F1.2.2 _ (by omega)).trans w8⟩
/-- Search.resolve -/
theorem L108 {a k : Nat} (hV : V ≤ 16) (W : WB V c N h P h c N P) (hl : P.length ≤ 20000) (hS : SHL h V m p F X og) (hC : CT h V ts T Lv Rs tb fb lt) (hT : TV V m X T Lv Rs lv ts) (h47 : h.2 47 = csr st (nI lv) ch le ac pb) (k1 : 1 ≤ k) (k2 : k ≤ m) (ea : F (k - 1) = some a) (hb : ln_br V (X k) (asg T ts)) (h61 : LG h V 61) (h63 : LG h V 63)
    (hQ1 : ∀ h' c' N' K L' so, rsv V X T Lv Rs lv ts ts (X k) (P ++ [112, 32] ++ dec k) = some (K, L') → WB V c N (pb_set h 47 (csr st (nI lv) ch le ac (nI P.length))) P h' c' N' L' → LA h' V 61 so K → LG h' V 63 → (lv = 0 ∨ rdy V K T Lv ts lv 0 < lv) → Q (some (.int 1)) h')
    (hQ0 : ∀ h' c' N' L', rsv V X T Lv Rs lv ts ts (X k) (P ++ [112, 32] ++ dec k) = none → WB V c N (pb_set h 47 (csr st (nI lv) ch le ac (nI P.length))) P h' c' N' L' → LG h' V 61 → LG h' V 63 → Q (some (.int 0)) h') : pb_call 108 [.ref 47, .int (nI k), .ref a] h Q := by
  have e112 : wu (112 : Int32) % 256 = 112 := by decide
  have e32 : wu (32 : Int32) % 256 = 32 := by decide
  have hlv : lv ≤ 16 := by
    have := TV_lv hT
    have := hT.1
    omega
  have h48 : h.2 48 = cw 20000 c P.length 0 := by
    obtain ⟨sz, ov, b, hB⟩ := W.2.2.1
    obtain ⟨⟨b1, _⟩, _, _, q | q⟩ := hB
    · rw [b1, q.1, q.2.1]
    · omega
  have W1 := WB_47 (x := csr st (nI lv) ch le ac (nI P.length)) W (by rw [h47]; rfl)
  have F1 : fr (fun q => q = 47) h (pb_set h 47 (csr st (nI lv) ch le ac (nI P.length))) := fr_set rfl (by rw [h47]; rfl)
  have g47 : (pb_set h 47 (csr st (nI lv) ch le ac (nI P.length))).2 47 = csr st (nI lv) ch le ac (nI P.length) := by rw [pb_set_get, if_pos rfl]
  have hS1 := SHL_fr F1 (fun b w => by omega) hS
  have hC1 := CT_fr F1 (fun q w => by omega) hC
  have G61 := LG_fr F1 (by omega) (by omega) h61
  have G63 := LG_fr F1 (by omega) (by omega) h63
  generalize hh1 : pb_set h 47 (csr st (nI lv) ch le ac (nI P.length)) = h1 at *
  have e1 : h.2 47 = csr st (nI lv) ch le ac pb := h47
  obtain ⟨a', ea', La0⟩ := hS1.2.2.2.2.1 k k1 k2
  obtain rfl : a' = a := by rw [ea] at ea'; injection ea' with e; exact e.symm
  have lka := hS1.2.2.2.2.2.1 (k - 1) a' (by have := hS1.2.2.2.1; omega) ea
  have m300 := hS1.2.2.2.1
  have a83 := lka.1
  rw [pb_c108]
  simp only [pb_e108, e1, pb_g6, pb_o_some, h48, pb_g0, hh1, g47, LG_is G61, true_and]
  refine L48 hV (by omega) G61 La0 ?_
  intro h2 so2 F2 L2
  have W2 := WB_k W1 F2 (fun q w => by omega)
  have R2 := LG_fr F2 (by omega) (by omega) G63
  have k47b : h2.2 47 = csr st (nI lv) ch le ac (nI P.length) := (WB_low W2 (by omega) (by omega)).trans g47
  simp only [Option.toList_none, List.nil_append, pb_e108, k47b, pb_g6, pb_o_some, WB_is W2, true_and]
  refine W2x W2.2.2.1 e112 ?_
  intro h3 c3 N3 G3 B3
  have W3 := WB_txt W2 G3 B3
  have P3 := BG_kpl W2 G3
  have k47c : h3.2 47 = csr st (nI lv) ch le ac (nI P.length) := (WB_low W3 (by omega) (by omega)).trans g47
  simp only [Option.toList_none, List.nil_append, pb_e108, k47c, pb_g6, pb_o_some, WB_is W3, true_and]
  refine W2x W3.2.2.1 e32 ?_
  intro h4 c4 N4 G4 B4
  have W4 := WB_txt W3 G4 B4
  have P4 := BG_kpl W3 G4
  have k47d : h4.2 47 = csr st (nI lv) ch le ac (nI P.length) := (WB_low W4 (by omega) (by omega)).trans g47
  simp only [Option.toList_none, List.nil_append, pb_e108, k47d, pb_g6, pb_o_some, WB_is W4, true_and]
  refine W8 W4.2.2.1 (by omega) ?_
  intro h5 c5 N5 G5 B5
  have W5 := WB_txt W4 G5 B5
  have P5 := BG_kpl W4 G5
  have PP := kpl_trans P3 (kpl_trans P4 P5)
  have L5 := LA_kpl PP (by omega) (by omega) (by omega) L2
  have R5 := LG_kpl PP (by omega) (by omega) (by omega) R2
  have k47e : h5.2 47 = csr st (nI lv) ch le ac (nI P.length) := (WB_low W5 (by omega) (by omega)).trans g47
  have is47 : pb_is0 (h5.2 47) 6 = true := by rw [k47e]; rfl
  simp only [Option.toList_none, List.nil_append, pb_e108, is47, true_and]
  refine L102 hV W5 hS1.1 hC1 hT.2.2.1 g47 hlv L5 ?_
  intro h6 F6 W6 K6
  have R6 := LG_fr F6 (by omega) (by omega) R5
  have k47f : h6.2 47 = csr st (nI lv) ch le ac (nI P.length) := (WB_low W6 (by omega) (by omega)).trans g47
  have C6 := (CT_low W6 hC1).1
  have hrl := rdy_le V (X k) T Lv ts lv 0
  have fl := rdy_flag (r := rdy V (X k) T Lv ts lv 0) (lv := lv) (by omega)
  have et : P ++ [112] ++ [32] ++ dec k = P ++ [112, 32] ++ dec k := by simp only [List.append_assoc, List.cons_append, List.nil_append]
  rw [et] at W6
  have key := L108_70 (Q := Q) (a := a') (k := k) (c := c) (N := N) (P := P) (P0 := P ++ [112, 32] ++ dec k) (K0 := X k) (so := so2) hV hS1 hC1 hT g47 (fun h' c' N' K L' e w1 w2 w3 w4 => hQ1 h' c' N' K L' so2 e w1 w2 w3 w4) hQ0 ts h6 c5 N5 (X k) _ none (Nat.le_refl _) W6 K6 R6 hb rfl
  by_cases rd : rdy V (X k) T Lv ts lv 0 < lv
  · have nf : ¬ _ := fun w => fl.mp w rd
    rw [if_pos rd] at key
    simp only [Option.toList_some, List.singleton_append, pb_e108, nf, if_false, k47f, pb_g6, pb_o_some, C6, pb_g9]
    exact key
  · have nf := fl.mpr rd
    rw [if_neg rd] at key
    simp only [Option.toList_some, List.singleton_append, pb_e108, nf, if_true, k47f, pb_g6, pb_o_some, C6, pb_g9]
    exact key
/-- Search.writeEnd -/
theorem L109 {q : Nat} (W : WB V c0 N0 h0 L0 h c N L) (h2 : h0.2 2 = csh V m p q) (hm : m ≤ 300) (h47 : h0.2 47 = csr st (nI lv) ch le ac pb) (hlv : lv ≤ 16)
    (hQ : ∀ h' c' N', WB V c0 N0 h0 L0 h' c' N' (L ++ edt m lv) → kpl (fun q => q = 48 ∨ q = 49) h h' → Q none h') : pb_call 109 [.ref 47] h Q := by
  have e59 : wu (59 : Int32) % 256 = 59 := by decide
  have e10 : wu (10 : Int32) % 256 = 10 := by decide
  have e99 : wu (99 : Int32) % 256 = 99 := by decide
  have e32 : wu (32 : Int32) % 256 = 32 := by decide
  have k47 : h.2 47 = csr st (nI lv) ch le ac pb := (WB_low W (by omega) (by omega)).trans h47
  rw [pb_c109]
  simp only [pb_e109, k47, pb_g6, pb_o_some, WB_is W, true_and]
  refine W9 W.2.2.1 e59 ?_
  intro h3 c3 N3 G3 B3
  have W3 := WB_txt W G3 B3
  have P3 := BG_kpl W G3
  have k47c : h3.2 47 = csr st (nI lv) ch le ac pb := (WB_low W3 (by omega) (by omega)).trans h47
  simp only [Option.toList_none, List.nil_append, pb_e109, k47c, pb_g6, pb_o_some, WB_is W3, true_and]
  refine W2x W3.2.2.1 e10 ?_
  intro h4 c4 N4 G4 B4
  have W4 := WB_txt W3 G4 B4
  have P4 := BG_kpl W3 G4
  have k47d : h4.2 47 = csr st (nI lv) ch le ac pb := (WB_low W4 (by omega) (by omega)).trans h47
  by_cases c0' : lv = 0
  · subst c0'
    have i0 : nI 0 = 0 := rfl
    simp only [Option.toList_none, List.nil_append, pb_e109, k47d, pb_g6, pb_o_some, i0, not_true_eq_false, if_false, WB_is W4, true_and]
    refine W2x W4.2.2.1 e99 ?_
    intro h5 c5 N5 G5 B5
    have W5 := WB_txt W4 G5 B5
    have P5 := BG_kpl W4 G5
    have k47e : h5.2 47 = csr st (nI 0) ch le ac pb := (WB_low W5 (by omega) (by omega)).trans h47
    simp only [Option.toList_none, List.nil_append, pb_e109, k47e, pb_g6, pb_o_some, WB_is W5, true_and]
    refine W2x W5.2.2.1 e32 ?_
    intro h6 c6 N6 G6 B6
    have W6 := WB_txt W5 G6 B6
    have P6 := BG_kpl W5 G6
    have k47f : h6.2 47 = csr st (nI 0) ch le ac pb := (WB_low W6 (by omega) (by omega)).trans h47
    have k2f : h6.2 2 = csh V m p q := (WB_low W6 (by omega) (by omega)).trans h2
    simp only [Option.toList_none, List.nil_append, pb_e109, k47f, pb_g6, pb_o_some, k2f, pb_g7, nI_1, WB_is W6, true_and]
    refine W8 W6.2.2.1 (by omega) ?_
    intro h7 c7 N7 G7 B7
    have W7 := WB_txt W6 G7 B7
    have P7 := BG_kpl W6 G7
    have k47g : h7.2 47 = csr st (nI 0) ch le ac pb := (WB_low W7 (by omega) (by omega)).trans h47
    simp only [Option.toList_none, List.nil_append, pb_e109, k47g, pb_g6, pb_o_some, WB_is W7, true_and]
    refine W9 W7.2.2.1 e59 ?_
    intro h8 c8 N8 G8 B8
    have W8 := WB_txt W7 G8 B8
    have P8 := BG_kpl W7 G8
    have k47h : h8.2 47 = csr st (nI 0) ch le ac pb := (WB_low W8 (by omega) (by omega)).trans h47
    simp only [Option.toList_none, List.nil_append, pb_e109, k47h, pb_g6, pb_o_some, WB_is W8, true_and]
    refine W2x W8.2.2.1 e10 ?_
    intro h9 c9 N9 G9 B9
    have W9' := WB_txt W8 G9 B9
    have P9 := BG_kpl W8 G9
    simp only [Option.toList_none, List.nil_append, pb_e109]
    refine hQ h9 c9 N9 ?_ (kpl_trans P3 (kpl_trans P4 (kpl_trans P5 (kpl_trans P6 (kpl_trans P7 (kpl_trans P8 P9))))))
    have et : L ++ edt m 0 = L ++ [32, 59] ++ [10] ++ [99] ++ [32] ++ dec (m + 1) ++ [32, 59] ++ [10] := by
      unfold edt
      rw [if_pos rfl]
      simp only [List.append_assoc, List.cons_append, List.nil_append]
    rw [et]; exact W9'
  · have nz : ¬ nI lv = 0 := fun e => c0' (nI_inj (by omega) (by omega) (show nI lv = nI 0 from e))
    simp only [Option.toList_none, List.nil_append, pb_e109, k47d, pb_g6, pb_o_some, nz, not_false_eq_true, if_true]
    refine hQ h4 c4 N4 ?_ (kpl_trans P3 P4)
    have et : L ++ edt m lv = L ++ [32, 59] ++ [10] := by
      unfold edt
      rw [if_neg c0']
      simp only [List.append_assoc, List.cons_append, List.nil_append]
    rw [et]; exact W4
end RSP
