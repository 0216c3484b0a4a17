/-! Search: writeNumberAnd, readyLevel, weakenReason -/
section RDY
variable {h h0 : pb_H} {Q : Option Value → pb_H → Prop} {V c0 N0 c N m p ts lv : Nat} {L0 L : List Nat} {T : Nat → Int} {Lv Rs : Nat → Nat} {tb fb lt : Int32} {st ch le ac pb : Int32} {q : Nat}
/-- Search.writeNumberAnd -/
theorem L105 {M k : Nat} {x : Int32} {f : Nat → Int32} (W : WB V c0 N0 h0 L0 h c N L) (h47 : h0.2 47 = csr st (nI lv) ch le ac pb) (h54 : h.2 54 = ci 8 f) (hM : wv f 0 8 = M) (hk : wu x % 256 = k)
    (hQ : ∀ h' c' N', WB V c0 N0 h0 L0 h' c' N' (L ++ [32] ++ dec M ++ [32, k]) → kpl (fun q => q = 48 ∨ q = 49 ∨ q = 55) h h' → Q none h') : pb_call 105 [.ref 47, .int x] h Q := by
  have e32 : wu (32 : Int32) % 256 = 32 := by decide
  have k47 : h.2 47 = csr st (nI lv) ch le ac pb := (WB_low W (by omega) (by omega)).trans h47
  obtain ⟨f5, h55⟩ := W.2.2.2.2.2.1
  have h42 := fun Q : Option Value → pb_H → Prop => m42 (Q := Q) (a := 55) (b := 54) (i := 0) (j := 0) (n := 8) (nb := 8) h55 h54 (by omega) (by omega) (by omega) (by omega)
  have F1 : fr (fun q => q = 55) h (pb_set h 55 (ci 8 (va_cpy f f5 0 0 8))) := fr_set rfl (by rw [h55]; rfl)
  have g55 : (pb_set h 55 (ci 8 (va_cpy f f5 0 0 8))).2 55 = ci 8 (va_cpy f f5 0 0 8) := by rw [pb_set_get, if_pos rfl]
  have g54 : (pb_set h 55 (ci 8 (va_cpy f f5 0 0 8))).2 54 = ci 8 f := by rw [pb_set_get, if_neg (by omega), h54]
  have W1 : WB V c0 N0 h0 L0 (pb_set h 55 (ci 8 (va_cpy f f5 0 0 8))) c N L := by
    obtain ⟨w1, w2, w3, w4, ⟨f4, w5⟩, _, ⟨f6, w7⟩, r, w8⟩ := id W
    exact WB_mv W F1 (fun q w => by omega) (DG_fr F1 (fun b hb w => by omega) w4) ⟨f, g54⟩ ⟨_, g55⟩ ⟨f6, by rw [pb_set_get, if_neg (by omega), w7]⟩ ⟨r, by rw [pb_set_get, if_neg (by omega), w8]⟩
  have hv : wv (va_cpy f f5 0 0 8) 0 8 = M := by
    rw [← hM]
    refine wv_congr (fun i hi => ?_)
    unfold va_cpy
    rw [if_pos (by omega)]
    congr 1
    omega
  have k47a : (pb_set h 55 (ci 8 (va_cpy f f5 0 0 8))).2 47 = csr st (nI lv) ch le ac pb := (WB_low W1 (by omega) (by omega)).trans h47
  have i0 : (0 : Int32) = nI 0 := rfl
  rw [pb_c105]
  simp only [pb_e105, k47, pb_g6, pb_o_some, i0, h42, Option.toList_none, List.nil_append, k47a, WB_is W1, true_and]
  refine W2x W1.2.2.1 e32 ?_
  intro h2 c2 N2 G2 B2
  have W2 := WB_txt W1 G2 B2
  have K2 := BG_kpl W1 G2
  have k47b : h2.2 47 = csr st (nI lv) ch le ac pb := (WB_low W2 (by omega) (by omega)).trans h47
  have g55b : h2.2 55 = ci 8 (va_cpy f f5 0 0 8) := (K2 55 (by omega) (by omega)).trans g55
  simp only [Option.toList_none, List.nil_append, pb_e105, k47b, pb_g6, pb_o_some, WB_is W2, true_and]
  refine W7 W2.2.2.1 g55b (by have := WB_83 W2; omega) hv ?_
  intro h3 c3 N3 f3 G3 B3 g55c
  have K3 : kpl (fun q => q = 48 ∨ q = 49 ∨ q = 55) h2 h3 := fun q q1 q2 => G3.1.2 q (by have := WB_83 W2; omega) (fun w => by have := WB_c W2; omega)
  have W3 : WB V c0 N0 h0 L0 h3 c3 N3 (L ++ [32] ++ dec M) := by
    obtain ⟨w1, w2, w3, ⟨x1, x2, x3, x4, x5, d1, d2, d3, d4⟩, ⟨f4, w5⟩, _, ⟨f6, w7⟩, r, w8⟩ := id W2
    exact ⟨SG_trans w1 (SG_BG2 G3), w2, B3, ⟨x1, x2, x3, x4, x5, (K3 50 (by omega) (by omega)).trans d1, (K3 51 (by omega) (by omega)).trans d2, (K3 52 (by omega) (by omega)).trans d3, (K3 53 (by omega) (by omega)).trans d4⟩, ⟨f4, (K3 _ (by omega) (by omega)).trans w5⟩, ⟨f3, g55c⟩, ⟨f6, (K3 _ (by omega) (by omega)).trans w7⟩, r, (K3 _ (by omega) (by omega)).trans w8⟩
  have k47c : h3.2 47 = csr st (nI lv) ch le ac pb := (WB_low W3 (by omega) (by omega)).trans h47
  simp only [Option.toList_none, List.nil_append, pb_e105, k47c, pb_g6, pb_o_some, WB_is W3, true_and]
  refine W9 W3.2.2.1 hk ?_
  intro h4 c4 N4 G4 B4
  have W4 := WB_txt W3 G4 B4
  have K4 := BG_kpl W3 G4
  simp only [Option.toList_none, List.nil_append, pb_e105]
  refine hQ h4 c4 N4 W4 ?_
  exact kpl_trans (kpl_fr F1 (fun q w => Or.inr (Or.inr w))) (kpl_trans (kpl_mono K2 (fun q w => by omega)) (kpl_trans K3 (kpl_mono K4 (fun q w => by omega))))
/-- Search.readyLevel -/
theorem L102 {K : LN} {so : Int32} (hV : V ≤ 16) (W : WB V c0 N0 h0 L0 h c N L) (h2 : h0.2 2 = csh V m p q) (hC : CT h0 V ts T Lv Rs tb fb lt) (hd : ∀ a b, a < b → b < ts → (T a).natAbs ≠ (T b).natAbs) (h47 : h0.2 47 = csr st (nI lv) ch le ac pb) (hlv : lv ≤ 16) (hK : LA h V 61 so K)
    (hQ : ∀ h', fr (fun q => q = 61 ∨ q = 3) h h' → WB V c0 N0 h0 L0 h' c N L → LA h' V 61 so K → Q (some (.int (if rdy V K T Lv ts lv 0 < lv then nI (rdy V K T Lv ts lv 0) else -1))) h') : pb_call 102 [.ref 47] h Q := by
  have loop : ∀ f j h' l2, j + f = lv → fr (fun q => q = 61 ∨ q = 3) h h' → WB V c0 N0 h0 L0 h' c N L → LA h' V 61 so K → rdy V K T Lv ts lv 0 = rdy V K T Lv ts f j → pb_R 102 2 [some (.ref 47), some (.int (nI j)), l2] [] [] h' Q := by
    intro f
    induction f with
    | zero =>
      intro j h' l2 hj F W' K' hr
      obtain rfl : j = lv := by omega
      have k47 : h'.2 47 = csr st (nI j) ch le ac pb := (WB_low W' (by omega) (by omega)).trans h47
      have c1 : nI j ≤ nI j := nI_leI (by omega) (by omega) |>.mpr (Nat.le_refl _)
      have key := hQ h' F W' K'
      have e0 : rdy V K T Lv ts j 0 = j := hr
      rw [e0, if_neg (Nat.lt_irrefl _)] at key
      rw [pb_q102_2]
      simp only [pb_e102, k47, pb_g6, pb_o_some, c1, if_true]
      exact key
    | succ f ih =>
      intro j h' l2 hj F W' K' hr
      have k47 : h'.2 47 = csr st (nI lv) ch le ac pb := (WB_low W' (by omega) (by omega)).trans h47
      have k2 : h'.2 2 = csh V m p q := (WB_low W' (by omega) (by omega)).trans h2
      have C' := CT_low W' hC
      have k57 := C'.1
      have c1 : ¬ nI lv ≤ nI j := nI_ge (by omega) (by omega)
      have hsz : szl Lv j ts ≤ ts := szl_le j ts
      have h98 := fun Q : Option Value → pb_H → Prop => m98 (Q := Q) (j := j) C' (by omega)
      have h100 := fun Q : Option Value → pb_H → Prop => m100 (Q := Q) C' hsz
      have h101 := fun Q : Option Value → pb_H → Prop => m101 (Q := Q) C' hsz
      obtain ⟨r, k3⟩ := W'.2.2.2.2.2.2.2
      have hAB : AB V (asg T (szl Lv j ts)) (tbs T (szl Lv j ts)) (fbs T (szl Lv j ts)) := tbs_AB (fun k hk => ⟨(hC.2.2.2.2.1 k (by omega)).1, by have := (hC.2.2.2.2.1 k (by omega)).2; omega⟩) (fun a b a1 b1 => hd a b a1 (by omega))
      rw [pb_q102_2]
      simp only [pb_e102, k47, pb_g6, pb_o_some, c1, if_false, k57, pb_g9, true_and, h98, Option.toList_some, List.singleton_append, h100, h101, LA_is K', k2, pb_g7]
      refine L71 hV K' hAB k3 (by omega) (by omega) (by omega) ?_
      intro h2' z r2 G2 L2 e32 hz
      have F2 := fr_trans F G2
      have W2 := WB_look W' G2 e32
      have es : rdy V K T Lv ts (f + 1) j = if nqb V K (asg T (szl Lv j ts)) = true then j else rdy V K T Lv ts f (j + 1) := rfl
      by_cases cq : quiet V K (asg T (szl Lv j ts))
      · have z0 : z = 0 := (LK_0 hV hz).mpr cq
        subst z0
        rw [es, if_neg (nqb_0 cq)] at hr
        simp only [Option.toList_some, List.singleton_append, pb_e102, if_true, nI_1]
        exact ih (j + 1) h2' _ (by omega) F2 W2 L2 hr
      · have z0 : ¬ z = 0 := fun e => cq ((LK_0 hV hz).mp e)
        rw [es, if_pos (nqb_1 cq)] at hr
        have key := hQ h2' F2 W2 L2
        rw [hr, if_pos (by omega)] at key
        simp only [Option.toList_some, List.singleton_append, pb_e102, z0, if_false]
        exact key
  rw [pb_c102]
  simp only [pb_e102]
  exact loop lv 0 h _ (by omega) (fr_refl _ _) W hK rfl
end RDY
