/-! Search: weakenReason -/
section WEA
variable {h h0 : pb_H} {Q : Option Value → pb_H → Prop} {V c0 N0 c N m p ts lv : Nat} {L0 L : List Nat} {T : Nat → Int} {Lv Rs : Nat → Nat} {tb fb lt : Int32} {st ch le ac pb : Int32} {q : Nat}
/-- cells of the reason's making, the reason itself set apart -/
abbrev wkS : Nat → Prop := fun q => q = 48 ∨ q = 49 ∨ q = 52 ∨ q = 53 ∨ q = 63 ∨ q = 64
theorem wk_mask {R : LN} {A : AS} {f : Nat → Int32} {pR nR tA fA : Int32} {wi u : Nat} (hR : LF V f pR nR wi R) (hA : AB V A tA fA) (u1 : 1 ≤ u) (u2 : u ≤ V) : bt ((pR &&& (fA ^^^ -1)) ||| (nR &&& (tA ^^^ -1))) u = true ↔ R.2 u ≠ 0 ∧ ¬ lwr (R.2 u) (A u) := by
  obtain ⟨_, _, _, l4, l5, _⟩ := hR
  obtain ⟨a1, a2⟩ := hA u u1 u2
  have k4 := l4 u u1
  have k5 := l5 u u1
  rw [bt_or2, bt_andn u1, bt_andn u1, Bool.or_eq_true, Bool.and_eq_true, Bool.and_eq_true, Bool.not_eq_true', Bool.not_eq_true', ← Bool.not_eq_true, ← Bool.not_eq_true, a1, a2, k4, k5]
  unfold lwr
  constructor
  · rintro (⟨⟨_, x⟩, y⟩ | ⟨⟨_, x⟩, y⟩)
    · refine ⟨by omega, fun w => ?_⟩
      rcases w with ⟨_, w⟩ | ⟨w, _⟩
      · exact y w
      · omega
    · refine ⟨by omega, fun w => ?_⟩
      rcases w with ⟨w, _⟩ | ⟨_, w⟩
      · omega
      · exact y w
  · rintro ⟨x, y⟩
    by_cases c : 0 < R.2 u
    · exact Or.inl ⟨⟨u2, c⟩, fun w => y (Or.inl ⟨c, w⟩)⟩
    · exact Or.inr ⟨⟨u2, by omega⟩, fun w => y (Or.inr ⟨by omega, w⟩)⟩
/-- Search.weakenReason -/
theorem L103 {R : LN} {so : Int32} {i v d : Nat} (hV : V ≤ 16) (W : WB V c0 N0 h0 L0 h c N L) (h2 : h0.2 2 = csh V m p q) (hC : CT h0 V ts T Lv Rs tb fb lt) (hd : ∀ a b, a < b → b < ts → (T a).natAbs ≠ (T b).natAbs) (h47 : h0.2 47 = csr st (nI lv) ch le ac pb) (hi : i ≤ ts) (hv : v ≤ 16) (hR : LA h V 63 so R) (hD : DV h 50 d)
    (hQ : ∀ h' c' N', WB V c0 N0 h0 L0 h' c' N' (L ++ wkt R (asg T i) v d V) → kpl wkS h h' → LA h' V 63 so (wk R (asg T i) v d V) → DV h' 50 d → Q none h') : pb_call 103 [.ref 47, .int (nI i), .int (nI v)] h Q := by
  have e120 : wu (120 : Int32) % 256 = 120 := by decide
  have e119 : wu (119 : Int32) % 256 = 119 := by decide
  have hAB : AB V (asg T i) (tbs T i) (fbs T i) := tbs_AB (fun k hk => ⟨(hC.2.2.2.2.1 k (by omega)).1, by have := (hC.2.2.2.2.1 k (by omega)).2; omega⟩) (fun a b a1 b1 => hd a b a1 (by omega))
  have loop : ∀ r u h' c' N' x, (∀ w, 1 ≤ w → w ≤ V → (bt x w = true ↔ R.2 w ≠ 0 ∧ ¬ lwr (R.2 w) (asg T i w))) → u + r = V + 1 → 1 ≤ u → WB V c0 N0 h0 L0 h' c' N' (L ++ wkt R (asg T i) v d (u - 1)) → kpl wkS h h' → LA h' V 63 so (wk R (asg T i) v d (u - 1)) → DV h' 50 d → pb_R 103 48 [some (.ref 47), some (.int (nI i)), some (.int (nI v)), some (.int (tbs T i)), some (.int (fbs T i)), some (.int x), some (.int (nI u))] [] [] h' Q := by
    intro r
    induction r with
    | zero =>
      intro u h' c' N' x hx hu u1 W' K' L' D'
      obtain rfl : u = V + 1 := by omega
      rw [Nat.add_sub_cancel] at W' L'
      have k47 : h'.2 47 = csr st (nI lv) ch le ac pb := (WB_low W' (by omega) (by omega)).trans h47
      have k2 : h'.2 2 = csh V m p q := (WB_low W' (by omega) (by omega)).trans h2
      have c1 : nI V < nI (V + 1) := nI_lt (by omega) (by omega)
      rw [pb_q103_48]
      simp only [pb_e103, k47, pb_g6, pb_o_some, k2, pb_g7, c1, if_true]
      exact hQ h' c' N' W' K' L' D'
    | succ r ih =>
      intro u h' c' N' x hx hu u1 W' K' L' D'
      obtain ⟨w, rfl⟩ : ∃ w, u = w + 1 := ⟨u - 1, by omega⟩
      rw [Nat.add_sub_cancel] at W' L'
      have k47 : h'.2 47 = csr st (nI lv) ch le ac pb := (WB_low W' (by omega) (by omega)).trans h47
      have k2 : h'.2 2 = csh V m p q := (WB_low W' (by omega) (by omega)).trans h2
      have c1 : ¬ nI V < nI (w + 1) := nI_nlt (by omega) (by omega)
      have eb : (x &&& 1 <<< ((nI (w + 1) - 1) &&& 31) = 0) ↔ bt x (w + 1) = false := bm_and (by omega) (by omega)
      have ew : (wk R (asg T i) v d w).2 (w + 1) = R.2 (w + 1) := by rw [wk_2, if_neg (by omega)]
      have ewv : nI (w + 1) = nI v ↔ w + 1 = v := ⟨fun e => nI_inj (by omega) (by omega) e, fun e => by rw [e]⟩
      have next : ∀ h2 c2 N2, ¬ wcond R (asg T i) v d (w + 1) → WB V c0 N0 h0 L0 h2 c2 N2 (L ++ wkt R (asg T i) v d w) → kpl wkS h h2 → LA h2 V 63 so (wk R (asg T i) v d w) → DV h2 50 d → pb_R 103 48 [some (.ref 47), some (.int (nI i)), some (.int (nI v)), some (.int (tbs T i)), some (.int (fbs T i)), some (.int x), some (.int (nI (w + 1 + 1)))] [] [] h2 Q := by
        intro h2 c2 N2 nc Wn Kn Ln Dn
        refine ih (w + 1 + 1) h2 c2 N2 x hx (by omega) (by omega) ?_ Kn ?_ Dn
        · have e : wkt R (asg T i) v d (w + 1) = wkt R (asg T i) v d w := by
            show wkt R (asg T i) v d w ++ _ = _
            rw [if_neg (wcb_0 nc), List.append_nil]
          rw [Nat.add_sub_cancel, e]; exact Wn
        · have e : wk R (asg T i) v d (w + 1) = wk R (asg T i) v d w := by
            show (if _ then _ else _) = _
            rw [if_neg (wcb_0 nc)]
          rw [Nat.add_sub_cancel, e]; exact Ln
      rw [pb_q103_48]
      by_cases cv : w + 1 = v
      · subst cv
        simp only [pb_e103, k47, pb_g6, pb_o_some, k2, pb_g7, c1, if_false, if_true, nI_1]
        exact next h' c' N' (fun q => q.1 rfl) W' K' L' D'
      · have ev : ¬ nI (w + 1) = nI v := fun e => cv (ewv.mp e)
        by_cases cb : bt x (w + 1) = false
        · have nb := eb.mpr cb
          simp only [pb_e103, k47, pb_g6, pb_o_some, k2, pb_g7, c1, if_false, ev, nb, not_true_eq_false, nI_1]
          refine next h' c' N' (fun q => ?_) W' K' L' D'
          have := (hx (w + 1) (by omega) (by omega)).mpr ⟨q.2.1, q.2.2.1⟩
          rw [cb] at this
          cases this
        · have nb : ¬ (x &&& 1 <<< ((nI (w + 1) - 1) &&& 31) = 0) := fun e => cb (eb.mp e)
          have bt1 : bt x (w + 1) = true := by
            cases e : bt x (w + 1)
            · exact absurd e cb
            · rfl
          obtain ⟨x1, x2⟩ := (hx (w + 1) (by omega) (by omega)).mp bt1
          obtain ⟨f, pl, nl, wi, ca, cf, co, d1, d2, d3, d4⟩ := id L'
          have e8 : nI (w + 1) * 8 = nI ((w + 1) * 8) := pk_mul (w + 1) 8
          have hd0 : pb_is0 (h'.2 50) 3 = true := by
            obtain ⟨_, _, _, _, k1, _⟩ := D'
            rw [k1]; rfl
          have hval : wv f ((w + 1) * 8) 8 = (R.2 (w + 1)).natAbs := by rw [d3.2.2.1 (w + 1) (by omega) (by omega), ew]
          simp only [pb_e103, k47, pb_g6, pb_o_some, k2, pb_g7, c1, if_false, ev, nb, not_false_eq_true, if_true, hd0, true_and, d1, pb_g4, e8]
          refine L36 (i := (w + 1) * 8) D' d2 (by omega) (by omega) (by omega) (by omega) ?_
          intro h3 q3 F3 D3 eq3 hq3
          have W3 : WB V c0 N0 h0 L0 h3 c' N' (L ++ wkt R (asg T i) v d w) := by
            obtain ⟨w1, w2, w3, w4, ⟨f4, w5⟩, ⟨f5, w6⟩, ⟨f6, w7⟩, r8, w8⟩ := id W'
            exact WB_mv W' F3 (fun q w => by omega) (DV_DG D3) ⟨f4, (F3.2.2 _ (by omega)).trans w5⟩ ⟨f5, (F3.2.2 _ (by omega)).trans w6⟩ ⟨f6, (F3.2.2 _ (by omega)).trans w7⟩ ⟨r8, (F3.2.2 _ (by omega)).trans w8⟩
          have K3 : kpl wkS h h3 := kpl_trans K' (kpl_fr F3 (fun q w => by omega))
          have L3 := LA_fr F3 (by omega) (by omega) L'
          have k47c : h3.2 47 = csr st (nI lv) ch le ac pb := (WB_low W3 (by omega) (by omega)).trans h47
          rw [hval]
          by_cases cm : (R.2 (w + 1)).natAbs % d = 0
          · simp only [cm, if_true, Option.toList_some, List.singleton_append, pb_e103, nI_1]
            exact next h3 c' N' (fun q => q.2.2.2 cm) W3 K3 L3 D3
          · have hcon : wcond R (asg T i) v d (w + 1) := ⟨cv, x1, x2, cm⟩
            have n10 : ¬ (1 : Int32) = 0 := by decide
            simp only [cm, if_false, n10, Option.toList_some, List.singleton_append, pb_e103, k47c, pb_g6, pb_o_some, LA_is L3, true_and]
            refine L55 hV L3 (by omega) (by omega) ?_
            intro h4 F4 L4
            have W4 := WB_k W3 F4 (fun q w => by omega)
            have K4 : kpl wkS h h4 := kpl_trans K3 (kpl_fr F4 (fun q w => by omega))
            have D4 : DV h4 50 d := DV_fr F4 (fun b hb w => by omega) D3
            have k47d : h4.2 47 = csr st (nI lv) ch le ac pb := (WB_low W4 (by omega) (by omega)).trans h47
            simp only [Option.toList_none, List.nil_append, pb_e103, k47d, pb_g6, pb_o_some, WB_is W4, true_and]
            refine W9 W4.2.2.1 e120 ?_
            intro h5 c5 N5 G5 B5
            have W5 := WB_txt W4 G5 B5
            have P5 := BG_kpl W4 G5
            have k47e : h5.2 47 = csr st (nI lv) ch le ac pb := (WB_low W5 (by omega) (by omega)).trans h47
            simp only [Option.toList_none, List.nil_append, pb_e103, k47e, pb_g6, pb_o_some, WB_is W5, true_and]
            refine W8 W5.2.2.1 (by omega) ?_
            intro h6 c6 N6 G6 B6
            have W6 := WB_txt W5 G6 B6
            have P6 := BG_kpl W5 G6
            have k47f : h6.2 47 = csr st (nI lv) ch le ac pb := (WB_low W6 (by omega) (by omega)).trans h47
            simp only [Option.toList_none, List.nil_append, pb_e103, k47f, pb_g6, pb_o_some, WB_is W6, true_and]
            refine W9 W6.2.2.1 e119 ?_
            intro h7 c7 N7 G7 B7
            have W7 := WB_txt W6 G7 B7
            have P7 := BG_kpl W6 G7
            have P : kpl (fun q => q = 48 ∨ q = 49) h4 h7 := kpl_trans P5 (kpl_trans P6 P7)
            simp only [Option.toList_none, List.nil_append, pb_e103, nI_1]
            refine ih (w + 1 + 1) h7 c7 N7 x hx (by omega) (by omega) ?_ (kpl_trans K4 (kpl_mono P (fun q w => by omega))) ?_ (DV_kpl P (fun q _ _ => by omega) D4)
            · have e : wkt R (asg T i) v d (w + 1) = wkt R (asg T i) v d w ++ ([32, 120] ++ dec (w + 1) ++ [32, 119]) := by
                show wkt R (asg T i) v d w ++ _ = _
                rw [if_pos (wcb_1 hcon)]
              rw [Nat.add_sub_cancel, e]
              have e2 : L ++ (wkt R (asg T i) v d w ++ ([32, 120] ++ dec (w + 1) ++ [32, 119])) = L ++ wkt R (asg T i) v d w ++ [32, 120] ++ dec (w + 1) ++ [32, 119] := by simp only [List.append_assoc]
              rw [e2]; exact W7
            · have e : wk R (asg T i) v d (w + 1) = ln_wo (wk R (asg T i) v d w) (w + 1) := by
                show (if _ then _ else _) = _
                rw [if_pos (wcb_1 hcon)]
              rw [Nat.add_sub_cancel, e]
              exact LA_kpl P (by omega) (by omega) (by omega) L4
  have k47 : h.2 47 = csr st (nI lv) ch le ac pb := (WB_low W (by omega) (by omega)).trans h47
  have C' := CT_low W hC
  have h100 := fun Q : Option Value → pb_H → Prop => m100 (Q := Q) C' hi
  have h101 := fun Q : Option Value → pb_H → Prop => m101 (Q := Q) C' hi
  obtain ⟨f, pl, nl, wi, ca, cf, co, d1, d2, d3, d4⟩ := id hR
  have e1 : (1 : Int32) = nI 1 := rfl
  have key := loop V 1 h c N _ (fun w w1 w2 => wk_mask d3 hAB w1 w2) (by omega) (by omega) (by
    show WB V c0 N0 h0 L0 h c N (L ++ [])
    rw [List.append_nil]; exact W) (fun q _ _ => rfl) hR hD
  rw [pb_c103]
  simp only [pb_e103, k47, pb_g6, pb_o_some, C'.1, pb_g9, true_and, h100, h101, Option.toList_some, List.singleton_append, d1, pb_g4]
  exact key
end WEA
