/-! The constructors -/
theorem sn_t {h : pb_H} {a : Nat} {d c : pb_E} (e : h.1 = a) : pb_set (pb_new h d) a c = pb_new h c := by
  subst e
  unfold pb_set pb_new va_up
  congr 1
  funext i
  by_cases q : i = h.1
  · simp only [q, if_true]
  · simp only [q, if_false]
theorem sn_n {h : pb_H} {a : Nat} {d c : pb_E} (e : ¬ h.1 = a) : pb_set (pb_new h d) a c = pb_new (pb_set h a c) d := by
  unfold pb_set pb_new va_up
  congr 1
  funext i
  by_cases q : i = a
  · subst q
    simp only [if_true, if_neg (fun w : i = h.1 => e w.symm)]
  · simp only [q, if_false]
section CTOR
variable {h : pb_H} {Q : Option Value → pb_H → Prop} {V : Nat}
/-- Checker: its Lines -/
theorem Y14_73 {l1 l2 : Option Value} {hb : pb_H} {S : Nat} (hV : V ≤ 16) (b2 : hb.2 2 = csh V 0 0 0)
    (hQ : ∀ h', h'.1 = 47 → pb_sl h' = S + 12 * (9 + (V + 1) * 8) → h'.2 13 = cck 0 → (∃ f, h'.2 14 = co 12 f ∧ ∀ j, j < 12 → f j = some (23 + 2 * j)) → (∀ q, q < 23 → q ≠ 13 → q ≠ 14 → h'.2 q = hb.2 q) → (∀ j, j < 12 → LG h' V (23 + 2 * j)) → Q none h') :
    ∀ r i hh, i + r = 12 → hh.1 = 23 + 2 * i → pb_sl hh = S + i * (9 + (V + 1) * 8) → hh.2 13 = cck 0 → (∃ f, hh.2 14 = co 12 f ∧ ∀ j, j < i → f j = some (23 + 2 * j)) → (∀ q, q < 23 → q ≠ 13 → q ≠ 14 → hh.2 q = hb.2 q) → (∀ j, j < i → LG hh V (23 + 2 * j)) → pb_R 14 73 [some (.ref 13), l1, l2, some (.ref 2), some (.int (nI i))] [] [] hh Q := by
  have al : ∀ f, pb_al2 (co 12 f) = some 12 := fun f => rfl
  have e12 : Int32.ofNat 12 = nI 12 := rfl
  intro r
  induction r with
  | zero =>
    intro i hh hi p1 p2 p3 ⟨f, p4, p5⟩ p6 p7
    obtain rfl : i = 12 := by omega
    have c1 : nI 12 ≤ nI 12 := (nI_leI (by omega) (by omega)).mpr (Nat.le_refl _)
    have key := hQ hh p1 p2 p3 ⟨f, p4, p5⟩ p6 p7
    rw [pb_q14_73]
    simp only [pb_e14, p3, pb_g1, pb_o_some, p4, al, e12, c1, if_true]
    exact key
  | succ r ih =>
    intro i hh hi p1 p2 p3 ⟨f, p4, p5⟩ p6 p7
    have c1 : ¬ nI 12 ≤ nI i := nI_ge (by omega) (by omega)
    have q2 : (pb_new hh (.inr (4, pb_df 4))).2 2 = csh V 0 0 0 := by rw [pb_new_get, if_neg (by omega), p6 2 (by omega) (by omega) (by omega), b2]
    rw [pb_q14_73]
    suffices key : pb_call 13 [.ref (23 + 2 * i), .int (nI V)] (pb_new hh (.inr (4, pb_df 4))) (fun v t => pb_R 14 100 [some (.ref 13), l1, l2, some (.ref 2), some (.int (nI i))] [] (v.toList ++ [.ref (23 + 2 * i), .int (nI i), .ref 14]) t Q) by
      simp only [pb_e14, p3, pb_g1, pb_o_some, p4, al, e12, c1, if_false, p1, q2, pb_g7] at key ⊢
      exact key
    refine L13 hV (by rw [pb_new_get, if_pos p1.symm]) (by rw [pb_new_fst, p1]) ?_
    intro h2 e1 e2 e3 LA2
    have h14 : h2.2 14 = co 12 f := by rw [e3 14 (by omega) (by omega), pb_new_get, if_neg (by omega), p4]
    have ss := co_set (n := 12) (j := i) (f := f) (r := some (23 + 2 * i)) (by omega) (by omega)
    have F2 : fr (fun q => q = 14) h2 (pb_set h2 14 (co 12 (va_up f i (some (23 + 2 * i))))) := fr_set rfl (by rw [h14]; rfl)
    have old : ∀ q, q < 23 + 2 * i → h2.2 q = hh.2 q := fun q hq => by rw [e3 q (by omega) (by omega), pb_new_get, if_neg (by omega)]
    have key := ih (i + 1) (pb_set h2 14 (co 12 (va_up f i (some (23 + 2 * i))))) (by omega) (by rw [F2.1, e1, pb_new_fst, p1]; omega) (by
        rw [fr_sl F2, e2, pb_sl_new, p2]
        show S + i * (9 + (V + 1) * 8) + 9 + (V + 1) * 8 = S + (i + 1) * (9 + (V + 1) * 8)
        rw [Nat.succ_mul i]
        omega) (by rw [F2.2.2 13 (by omega), old 13 (by omega), p3]) ⟨_, by rw [pb_set_get, if_pos rfl], fun j hj => by
          by_cases e : j = i
          · rw [e, up_same]
          · rw [up_ne e]; exact p5 j (by omega)⟩ (fun q q1 q2 q3 => by rw [F2.2.2 q q3, old q (by omega), p6 q q1 q2 q3]) (fun j hj => by
          by_cases e : j = i
          · rw [e]; exact LG_fr F2 (by omega) (by omega) (LA_LG LA2)
          · exact LG_fr F2 (by omega) (by omega) (LG_eq (old _ (by omega)) (old _ (by omega)) (p7 j (by omega))))
    simp only [Option.toList_none, List.nil_append, pb_e14, h14, ss, pb_o_some, nI_1]
    refine ⟨fun v hv => by cases hv; exact LA_is LA2, ?_⟩
    exact key
set_option maxRecDepth 100000 in
theorem Y14 (hV : V ≤ 16) (hb : h.1 = 13) (h2 : h.2 2 = csh V 0 0 0) (hQ : ∀ h', h'.1 = 47 → pb_sl h' = pb_sl h + 75 + 13 * (9 + (V + 1) * 8) → (∀ q, q < 13 → h'.2 q = h.2 q) → h'.2 13 = cck 0 → CKs h' V → Q none h') : pb_call 14 [.ref 13, .ref 5, .ref 6, .ref 2] (pb_new h (.inr (1, pb_df 1))) Q := by
  have d1 : pb_df 1 = [.null, .null, .null, .null, .null, .null, .null, .null, .int 0] := rfl
  have d3 : pb_df 3 = [.null, .null, .null, .int 0, .int 0] := rfl
  have d4 : pb_df 4 = [.int 0, .null, .int 0, .int 0, .int 0, .int 0, .int 0, .int 0, .int 0] := rfl
  have t12 : (12 : Int32).toNatClampNeg = 12 := rfl
  have t8 : (8 : Int32).toNatClampNeg = 8 := rfl
  have t9 : (9 : Int32).toNatClampNeg = 9 := rfl
  have t16 : (16 : Int32).toNatClampNeg = 16 := rfl
  have n12 : ¬ (12 : Int32) < 0 := by decide
  have n8 : ¬ (8 : Int32) < 0 := by decide
  have n9 : ¬ (9 : Int32) < 0 := by decide
  have n16 : ¬ (16 : Int32) < 0 := by decide
  have e8 : (nI V + 1) * 8 = nI ((V + 1) * 8) := by rw [show (1 : Int32) = nI 1 from rfl, nI_add]; exact pk_mul (V + 1) 8
  have hn1 : ¬ nI ((V + 1) * 8) < 0 := Int32.not_lt.mpr (nI_pos' (by omega))
  have hn2 : (nI ((V + 1) * 8)).toNatClampNeg = (V + 1) * 8 := nI_clamp (by omega)
  have hn3 : (V + 1) * 8 ≤ 1000000 := by omega
  have i0 : (0 : Int32) = nI 0 := rfl
  rw [pb_c14]
  simp only [pb_e14, pb_c12, pb_e12, pb_c13, pb_e13, d1, d3, d4, pb_g1, pb_g3, pb_g4, pb_g7, pb_new_get, pb_set_get, pb_new_fst, pb_set_fst, hb, h2, sn_t, sn_n, pb_o_some, Option.toList_none, List.nil_append, true_and, t12, t8, t9, t16, n12, n8, n9, n16, e8, hn1, hn2, hn3, not_false_eq_true, if_true, if_false, Nat.reduceAdd, Nat.reduceLeDiff, Nat.reduceEqDiff]
  refine Y14_73 (S := pb_sl h + 75 + (9 + (V + 1) * 8)) hV ?_ ?_ 12 0 _ rfl ?_ ?_ ?_ ⟨fun _ => none, ?_, fun j hj => absurd hj (Nat.not_lt_zero _)⟩ (fun q _ _ _ => rfl) (fun j hj => absurd hj (Nat.not_lt_zero _))
  · simp only [pb_new_get, pb_new_fst, hb, Nat.reduceAdd, Nat.reduceEqDiff, if_false]
    exact h2
  · intro h' q1 q2 q3 q4 q5 q6
    refine hQ h' q1 (by rw [q2]; omega) (fun q hq => (q5 q (by omega) (by omega) (by omega)).trans ?_) q3 ⟨q4, ⟨0, 0, fun _ => 0, fun _ => 0, fun _ => 0, (q5 15 (by omega) (by omega) (by omega)).trans ?_, (q5 16 (by omega) (by omega) (by omega)).trans ?_, (q5 17 (by omega) (by omega) (by omega)).trans ?_, (q5 18 (by omega) (by omega) (by omega)).trans ?_⟩, ⟨fun _ => 0, (q5 19 (by omega) (by omega) (by omega)).trans ?_⟩, ⟨fun _ => 0, (q5 20 (by omega) (by omega) (by omega)).trans ?_⟩, ⟨fun _ => 0, 0, 0, 0, 0, 0, 0, 0, (q5 21 (by omega) (by omega) (by omega)).trans ?_, (q5 22 (by omega) (by omega) (by omega)).trans ?_⟩, q6⟩
    · repeat rw [pb_new_get, if_neg (by simp only [pb_new_fst, hb]; omega)]
    · simp only [pb_new_get, pb_new_fst, hb, Nat.reduceAdd, Nat.reduceEqDiff, if_false, if_true]
    · simp only [pb_new_get, pb_new_fst, hb, Nat.reduceAdd, Nat.reduceEqDiff, if_false, if_true]
    · simp only [pb_new_get, pb_new_fst, hb, Nat.reduceAdd, Nat.reduceEqDiff, if_false, if_true]
    · simp only [pb_new_get, pb_new_fst, hb, Nat.reduceAdd, Nat.reduceEqDiff, if_false, if_true]
    · simp only [pb_new_get, pb_new_fst, hb, Nat.reduceAdd, Nat.reduceEqDiff, if_false, if_true]
    · simp only [pb_new_get, pb_new_fst, hb, Nat.reduceAdd, Nat.reduceEqDiff, if_false, if_true]
    · simp only [pb_new_get, pb_new_fst, hb, Nat.reduceAdd, Nat.reduceEqDiff, if_false, if_true]
    · simp only [pb_new_get, pb_new_fst, hb, Nat.reduceAdd, Nat.reduceEqDiff, if_false, if_true]
  · simp only [pb_new_fst, hb]
  · simp only [pb_sl_new, pb_sz, List.length_cons, List.length_nil]
    omega
  · simp only [pb_new_get, pb_new_fst, hb, Nat.reduceAdd, Nat.reduceEqDiff, if_false, if_true]
    rfl
  · simp only [pb_new_get, pb_new_fst, hb, Nat.reduceAdd, Nat.reduceEqDiff, if_false, if_true]
    rfl
set_option maxRecDepth 100000 in
theorem Y94 (hV : V ≤ 16) (hb : h.1 = 47) (h2 : h.2 2 = csh V 0 0 0) (hQ : ∀ h', h'.1 = 65 → pb_sl h' = pb_sl h + 249 + 3 * V + 2 * (9 + (V + 1) * 8) → (∀ q, q < 47 → h'.2 q = h.2 q) → h'.2 47 = csr 0 0 0 0 0 0 → h'.2 48 = cw 20000 49 0 0 → h'.2 49 = cb 160 (fun _ => 0) → DG h' 50 → h'.2 54 = ci 8 (fun _ => 0) → h'.2 55 = ci 8 (fun _ => 0) → h'.2 56 = ci 16 (fun _ => 0) → h'.2 57 = ctr V 0 0 0 0 → h'.2 58 = ci V (fun _ => 0) → h'.2 59 = ci V (fun _ => 0) → h'.2 60 = ci V (fun _ => 0) → LG h' V 61 → LG h' V 63 → Q none h') : pb_call 94 [.ref 47, .ref 2] (pb_new h (.inr (6, pb_df 6))) Q := by
  have d0 : pb_df 0 = [.int 0, .null, .int 0, .int 0] := rfl
  have d3 : pb_df 3 = [.null, .null, .null, .int 0, .int 0] := rfl
  have d4 : pb_df 4 = [.int 0, .null, .int 0, .int 0, .int 0, .int 0, .int 0, .int 0, .int 0] := rfl
  have d6 : pb_df 6 = [.null, .null, .null, .int 0, .int 0, .int 0, .int 0, .int 0, .int 0, .null, .null, .null, .null, .null, .null] := rfl
  have d9 : pb_df 9 = [.int 0, .null, .null, .null, .int 0, .int 0, .int 0, .int 0] := rfl
  have t8 : (8 : Int32).toNatClampNeg = 8 := rfl
  have t9 : (9 : Int32).toNatClampNeg = 9 := rfl
  have t16 : (16 : Int32).toNatClampNeg = 16 := rfl
  have t160 : (160 : Int32).toNatClampNeg = 160 := rfl
  have n8 : ¬ (8 : Int32) < 0 := by decide
  have n9 : ¬ (9 : Int32) < 0 := by decide
  have n16 : ¬ (16 : Int32) < 0 := by decide
  have n160 : ¬ (160 : Int32) < 0 := by decide
  have e8 : (nI V + 1) * 8 = nI ((V + 1) * 8) := by rw [show (1 : Int32) = nI 1 from rfl, nI_add]; exact pk_mul (V + 1) 8
  have hn1 : ¬ nI ((V + 1) * 8) < 0 := Int32.not_lt.mpr (nI_pos' (by omega))
  have hn2 : (nI ((V + 1) * 8)).toNatClampNeg = (V + 1) * 8 := nI_clamp (by omega)
  have hn3 : (V + 1) * 8 ≤ 1000000 := by omega
  have hv1 : ¬ nI V < 0 := Int32.not_lt.mpr (nI_pos' (by omega))
  have hv2 : (nI V).toNatClampNeg = V := nI_clamp (by omega)
  have hv3 : V ≤ 1000000 := by omega
  rw [pb_c94]
  simp only [pb_e94, pb_c0, pb_e0, pb_c12, pb_e12, pb_c13, pb_e13, pb_c93, pb_e93, d0, d3, d4, d6, d9, pb_g0, pb_g3, pb_g4, pb_g6, pb_g7, pb_g9, pb_new_get, pb_set_get, pb_new_fst, pb_set_fst, hb, h2, sn_t, sn_n, pb_o_some, Option.toList_none, List.nil_append, true_and, t8, t9, t16, t160, n8, n9, n16, n160, e8, hn1, hn2, hn3, hv1, hv2, hv3, not_false_eq_true, if_true, if_false, Nat.reduceAdd, Nat.reduceLeDiff, Nat.reduceEqDiff]
  refine hQ _ ?_ ?_ (fun q hq => ?_) ?_ ?_ ?_ ⟨0, 0, fun _ => 0, fun _ => 0, fun _ => 0, ?_, ?_, ?_, ?_⟩ ?_ ?_ ?_ ?_ ?_ ?_ ?_ ⟨fun _ => 0, 0, 0, 0, 0, 0, 0, 0, ?_, ?_⟩ ⟨fun _ => 0, 0, 0, 0, 0, 0, 0, 0, ?_, ?_⟩
  · simp only [pb_new_fst, hb]
  · simp only [pb_sl_new, pb_sz, List.length_cons, List.length_nil]
    omega
  · repeat rw [pb_new_get, if_neg (by simp only [pb_new_fst, hb]; omega)]
  all_goals first | (simp only [pb_new_get, pb_new_fst, hb, Nat.reduceAdd, Nat.reduceEqDiff, if_false, if_true]; done) | (simp only [pb_new_get, pb_new_fst, hb, Nat.reduceAdd, Nat.reduceEqDiff, if_false, if_true]; rfl)
end CTOR
