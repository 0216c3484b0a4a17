/-! The reference's learn: the end of the text, taking back -/
section RL2
variable {h0 h : pb_H} {Q : Option Value → pb_H → Prop} {V m ts lv : Nat} {s0 s sg0 sg t : Nat → Int32} {G0 G : Nat → Nat} {L : List Nat} {T : Nat → Int} {Lv : Nat → Nat}
theorem U216_104 {l1 l2 l3 l4 : Option Value} (W : LQ h0 s0 G0 sg0 t h s G sg L) (hL : L.length ≤ 70000) (hm : m ≤ 300) (hlv : lv ≤ 16) (h23 : s0 23 = nI lv) (h4 : s0 4 = nI m)
    (hQ : ∀ h' s' G', LQ h0 s0 G0 sg0 t h' s' G' sg (L ++ edt m lv) → NF (fun k => k = 5444 ∨ k = 5445) G sg G' sg → pb_R 216 157 [some (.ref 65), l1, l2, l3, l4, none] [] [] h' Q) : pb_R 216 104 [some (.ref 65), l1, l2, l3, l4, none] [] [] h Q := by
  have e59 : wu (59 : Int32) % 256 = 59 := by decide
  have e10 : wu (10 : Int32) % 256 = 10 := by decide
  have e99 : wu (99 : Int32) % 256 = 99 := by decide
  have e32 : wu (32 : Int32) % 256 = 32 := by decide
  simp only [pb_e216, LQ_is W, true_and]
  refine A214 W.2.1 W.2.2.2.2.1 e59 (by omega) ?_
  intro h2 s2 F2 X2 B2 q2 p2
  have W2 := LQ_txt W F2 X2 B2 q2 p2
  simp only [Option.toList_none, List.nil_append, pb_e216, LQ_is W2, true_and]
  refine A209 X2 B2 e10 (by rw [List.length_append]; show _ + 2 + 1 < _; omega) ?_
  intro h3 s3 F3 X3 B3 q3 p3
  have W3 := LQ_txt W2 F3 X3 B3 q3 p3
  have k23 : s3 23 = nI lv := (W3.2.2.1 23 (by omega)).trans h23
  by_cases c0 : lv = 0
  · have z0 : nI lv = 0 := by rw [c0]; rfl
    simp only [Option.toList_none, List.nil_append, pb_e216, X3.1, pb_gr, pb_o_some, k23, z0, not_true_eq_false, if_false, true_and]
    refine A209 X3 B3 e99 (by rw [List.length_append, List.length_append]; show _ + 2 + 1 + 1 < _; omega) ?_
    intro h5 s5 F5 X5 B5 q5 p5
    have W5 := LQ_txt W3 F5 X5 B5 q5 p5
    simp only [Option.toList_none, List.nil_append, pb_e216, LQ_is W5, true_and]
    refine A209 X5 B5 e32 (by rw [List.length_append, List.length_append, List.length_append]; show _ + 2 + 1 + 1 + 1 < _; omega) ?_
    intro h6 s6 F6 X6 B6 q6 p6
    have W6 := LQ_txt W5 F6 X6 B6 q6 p6
    obtain ⟨d6, w6⟩ := W6.2.2.2.2.2.2
    have k4 : s6 4 = nI m := (W6.2.2.1 4 (by omega)).trans h4
    simp only [Option.toList_none, List.nil_append, pb_e216, X6.1, pb_gr, pb_o_some, k4, nI_1, true_and]
    refine A211 X6 B6 w6 (by omega) (by rw [List.length_append, List.length_append, List.length_append, List.length_append]; show _ + 2 + 1 + 1 + 1 + 80 < _; omega) ?_
    intro h7 s7 G7 dg7 F7 X7 N7 B7 q7 p7
    have W7 := LQ_num W6 F7 X7 N7 (fun i w => Or.inr (Or.inr (by omega))) B7 q7 p7
    have hdl := dec_len (m + 1)
    simp only [Option.toList_none, List.nil_append, pb_e216, LQ_is W7, true_and]
    refine A214 X7 B7 e59 (by rw [List.length_append, List.length_append, List.length_append, List.length_append, List.length_append]; show _ + 2 + 1 + 1 + 1 + _ + 2 < _; omega) ?_
    intro h8 s8 F8 X8 B8 q8 p8
    have W8 := LQ_txt W7 F8 X8 B8 q8 p8
    simp only [Option.toList_none, List.nil_append, pb_e216, LQ_is W8, true_and]
    refine A209 X8 B8 e10 (by rw [List.length_append, List.length_append, List.length_append, List.length_append, List.length_append, List.length_append]; show _ + 2 + 1 + 1 + 1 + _ + 2 + 1 < _; omega) ?_
    intro h9 s9 F9 X9 B9 q9 p9
    have W9' := LQ_txt W8 F9 X9 B9 q9 p9
    have et : L ++ edt m lv = L ++ [32, 59] ++ [10] ++ [99] ++ [32] ++ dec (m + 1) ++ [32, 59] ++ [10] := by
      unfold edt
      rw [if_pos c0]
      simp only [List.append_assoc, List.cons_append, List.nil_append]
    rw [← et] at W9'
    have key := hQ h9 s9 G7 W9' N7
    simp only [Option.toList_none, List.nil_append]
    exact key
  · have z0 : ¬ nI lv = 0 := fun e => c0 (nI_inj (by omega) (by omega) (show nI lv = nI 0 from e))
    have et : L ++ edt m lv = L ++ [32, 59] ++ [10] := by
      unfold edt
      rw [if_neg c0]
      simp only [List.append_assoc, List.cons_append, List.nil_append]
    rw [← et] at W3
    have key := hQ h3 s3 G W3 (NF_refl _ _ _)
    suffices k2 : pb_R 216 120 [some (.ref 65), l1, l2, l3, l4, none] [] [.int (nI lv)] h3 Q by
      simp only [Option.toList_none, List.nil_append, pb_e216, X3.1, pb_gr, pb_o_some, k23] at k2 ⊢
      exact k2
    simp only [pb_e216, z0, not_false_eq_true, if_true] at key ⊢
    exact key
/-- taking back -/
theorem U216_227 {r : Nat} {l1 l2 l4 : Option Value} {f1 f2 : Nat → Int32} (hV : V ≤ 16) (hr : r ≤ 16) (hts : ts ≤ V) (hT : ∀ i, i < ts → 1 ≤ (T i).natAbs ∧ (T i).natAbs ≤ V) (hd : ∀ a b, a < b → b < ts → (T a).natAbs ≠ (T b).natAbs) (hl16 : ∀ i, i < ts → Lv i ≤ 16) (hX0 : RX h0 s0 G sg) (h77 : h0.2 77 = ci 17 f1) (h78 : h0.2 78 = ci 17 f2) (hf : ∀ i, i < ts → f1 i = lI (T i) ∧ f2 i = nI (Lv i))
    (hQ : ∀ h' f', fr (fun q => q = 65 ∨ q = 75) h0 h' → RX h' (upd (upd s0 24 (nI (szl Lv r ts))) 23 (nI r)) G sg → h'.2 75 = ci 17 f' → AV V f' (asg T (szl Lv r ts)) → Q none h') :
    ∀ n h f l5, n ≤ ts → fr (fun q => q = 65 ∨ q = 75) h0 h → RX h (upd s0 24 (nI n)) G sg → h.2 75 = ci 17 f → AV V f (asg T n) → szl Lv r n = szl Lv r ts → pb_R 216 227 [some (.ref 65), l1, l2, some (.int (nI r)), l4, l5] [] [] h Q := by
  have e24 : ∀ x, upd s0 24 x 24 = x := fun x => by unfold upd; rw [if_pos rfl]
  have stop : ∀ n h f, n ≤ ts → fr (fun q => q = 65 ∨ q = 75) h0 h → RX h (upd s0 24 (nI n)) G sg → h.2 75 = ci 17 f → AV V f (asg T n) → n = szl Lv r ts → Q none (pb_set h 65 (rm (upd (upd s0 24 (nI n)) 23 (nI r)))) := by
    intro n h f hn F X e75 hA es
    have F1 : fr (fun q => q = 65 ∨ q = 75) h (pb_set h 65 (rm (upd (upd s0 24 (nI n)) 23 (nI r)))) := fr_set (Or.inl rfl) (by rw [X.1]; rfl)
    rw [es] at X hA F1 ⊢
    exact hQ _ f (fr_trans F F1) (RX_obj X).1 (by rw [pb_set_get, if_neg (by omega), e75]) hA
  intro n
  induction n with
  | zero =>
    intro h f l5 hn F X e75 hA es
    have z0 : nI 0 ≤ 0 := by decide
    have key := stop 0 h f hn F X e75 hA es
    rw [pb_q216_227]
    simp only [pb_e216, X.1, pb_gr, pb_o_some, e24, z0, if_true]
    exact key
  | succ n ih =>
    intro h f l5 hn F X e75 hA es
    have z0 : ¬ nI (n + 1) ≤ 0 := nI_nle (by omega) (by omega)
    have en : nI (n + 1) - 1 = nI n := nI_pred n
    have k77 : h.2 77 = ci 17 f1 := (F.2.2 77 (by omega)).trans h77
    have k78 : h.2 78 = ci 17 f2 := (F.2.2 78 (by omega)).trans h78
    have ga := pb_ai_eq (k := 0) (n := 17) (j := n) (f := f2) (Or.inl rfl) (by omega) (by omega)
    have gb := pb_ai_eq (k := 0) (n := 17) (j := n) (f := f1) (Or.inl rfl) (by omega) (by omega)
    rw [(hf n (by omega)).2] at ga
    rw [(hf n (by omega)).1] at gb
    have hl := hl16 n (by omega)
    have kc : nI (Lv n) ≤ nI r ↔ Lv n ≤ r := nI_leI (by omega) (by omega)
    by_cases cl : Lv n ≤ r
    · have e1 : szl Lv r (n + 1) = n + 1 := by
        show (if r < Lv n then _ else _) = _
        rw [if_neg (by omega)]
      have key := stop (n + 1) h f hn F X e75 hA (e1.symm.trans es)
      rw [pb_q216_227]
      simp only [pb_e216, X.1, pb_gr, pb_o_some, e24, z0, if_false, k78, en, ga, kc.mpr cl, if_true]
      exact key
    · have nk : ¬ nI (Lv n) ≤ nI r := fun w => cl (kc.mp w)
      have e1 : szl Lv r (n + 1) = szl Lv r n := by
        show (if r < Lv n then _ else _) = _
        rw [if_pos (by omega)]
      obtain ⟨b1, b2⟩ := hT n (by omega)
      obtain ⟨g1, g2⟩ := lI_ge b1 (by omega)
      have ss := pb_si_eq (n := 17) (j := (T n).natAbs) (f := f) (x := -1) (by omega) (by omega)
      have F1 : fr (fun q => q = 65 ∨ q = 75) h (pb_set h 65 (rm (upd s0 24 (nI n)))) := fr_set (Or.inl rfl) (by rw [X.1]; rfl)
      have X1 : RX (pb_set h 65 (rm (upd s0 24 (nI n)))) (upd s0 24 (nI n)) G sg := (RX_obj X).1
      have j75 : (pb_set h 65 (rm (upd s0 24 (nI n)))).2 75 = ci 17 f := by rw [pb_set_get, if_neg (by omega), e75]
      have j77 : (pb_set h 65 (rm (upd s0 24 (nI n)))).2 77 = ci 17 f1 := by rw [pb_set_get, if_neg (by omega), k77]
      have F2 : fr (fun q => q = 65 ∨ q = 75) (pb_set h 65 (rm (upd s0 24 (nI n)))) (pb_set (pb_set h 65 (rm (upd s0 24 (nI n)))) 75 (ci 17 (upd f (T n).natAbs (-1)))) := fr_set (Or.inr rfl) (by rw [j75]; rfl)
      have F3 : fr (fun q => q = 75) (pb_set h 65 (rm (upd s0 24 (nI n)))) (pb_set (pb_set h 65 (rm (upd s0 24 (nI n)))) 75 (ci 17 (upd f (T n).natAbs (-1)))) := fr_set rfl (by rw [j75]; rfl)
      have euu : ∀ x y, upd (upd s0 24 x) 24 y = upd s0 24 y := fun x y => by
        funext k
        unfold upd
        by_cases e : k = 24
        · rw [if_pos e, if_pos e]
        · rw [if_neg e, if_neg e, if_neg e]
      have key := ih _ (upd f (T n).natAbs (-1)) (some (.int (lI (T n)))) (by omega) (fr_trans F (fr_trans F1 F2)) (RX_fr F3 (fun q w => by omega) X1) (by rw [pb_set_get, if_pos rfl]) (fun u u1 u2 => by
        show (if u = (T n).natAbs then -1 else f u) = _
        by_cases e : u = (T n).natAbs
        · subst e
          rw [if_pos rfl, asg_none (fun j hj => hd j n hj (by omega))]
          rfl
        · rw [if_neg e, hA u u1 u2, asg_step]
          show avI (if u = (T n).natAbs then _ else _) = _
          rw [if_neg e]) (e1.symm.trans es)
      rw [pb_q216_227]
      by_cases cz : 0 < T n
      · obtain ⟨q1, q2⟩ := g1 cz
        have ss2 := ss
        rw [← q2] at ss2
        simp only [pb_e216, X.1, pb_gr, pb_o_some, e24, z0, if_false, k78, en, ga, nk, euu, X1.1, j77, gb, q1, if_true, j75, ss2]
        exact key
      · obtain ⟨q1, q2, q3⟩ := g2 (by omega)
        simp only [pb_e216, X.1, pb_gr, pb_o_some, e24, z0, if_false, k78, en, ga, nk, euu, X1.1, j77, gb, q1, q2, q3, j75, ss]
        exact key
end RL2
