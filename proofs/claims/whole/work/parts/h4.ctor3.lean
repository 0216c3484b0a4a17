/-! The reference's constructor; the law from its beginning -/
section CTOR3
variable {h : pb_H} {Q : Option Value → pb_H → Prop} {V : Nat}
/-- the heap with the reference's cells -/
def rch (h : pb_H) (y : Int32) : pb_H := pb_new (pb_new (pb_new (pb_new (pb_new (pb_new (pb_new (pb_new (pb_new (pb_new (pb_new (pb_new (pb_new (pb_new (pb_new (pb_new (pb_new (pb_new h (.inr (12, [.ref 66, .ref 67, .ref 68, .int y, .int 0, .int 0, .ref 69, .int 0, .int 0, .int (-1), .ref 70, .ref 71, .ref 72, .ref 73, .int 0, .int 0, .int 0, .int 0, .int 0, .int 0, .int 0, .ref 74, .int 0, .int 0, .int 0, .int 0, .int 0, .int 0, .ref 75, .ref 76, .ref 77, .ref 78, .ref 79, .ref 80, .int 0, .int 0, .ref 81, .ref 82]))) (.inl (0, 123420, .inl (fun _ => 0)))) (.inl (0, 6171, .inl (fun _ => 0)))) (.inl (0, 301, .inl (fun _ => 0)))) (.inl (1, 4000, .inl (fun _ => 0)))) (.inl (0, 42, .inl (fun _ => 0)))) (.inl (0, 21, .inl (fun _ => 0)))) (.inl (0, 22, .inl (fun _ => 0)))) (.inl (0, 21, .inl (fun _ => 0)))) (.inl (0, 17, .inl (fun _ => 0)))) (.inl (0, 17, .inl (fun _ => 0)))) (.inl (0, 17, .inl (fun _ => 0)))) (.inl (0, 17, .inl (fun _ => 0)))) (.inl (0, 17, .inl (fun _ => 0)))) (.inl (0, 17, .inl (fun _ => 0)))) (.inl (1, 20000, .inl (fun _ => 0)))) (.inl (0, 17, .inl (fun _ => 0)))) (.inl (0, 110, .inl (fun _ => 0)))
theorem rch_s {y : Int32} (hb : h.1 = 65) : (rch h y).1 = 83 ∧ pb_sl (rch h y) = pb_sl h + 154265 ∧ ∀ q, q < 65 → (rch h y).2 q = h.2 q := by
  unfold rch
  refine ⟨?_, ?_, fun q hq => ?_⟩
  · simp only [pb_new_fst, hb]
  · have key : ∀ z : Nat, z + 38 + 123420 + 6171 + 301 + 4000 + 42 + 21 + 22 + 21 + 17 + 17 + 17 + 17 + 17 + 17 + 20000 + 17 + 110 = z + 154265 := fun z => by omega
    rw [pb_sl_new, pb_sl_new, pb_sl_new, pb_sl_new, pb_sl_new, pb_sl_new, pb_sl_new, pb_sl_new, pb_sl_new, pb_sl_new, pb_sl_new, pb_sl_new, pb_sl_new, pb_sl_new, pb_sl_new, pb_sl_new, pb_sl_new, pb_sl_new]
    exact key _
  · repeat rw [pb_new_get, if_neg (by simp only [pb_new_fst, hb]; omega)]
theorem rch_c {y : Int32} (hb : h.1 = 65) : (rch h y).2 65 = rm (fun k => if k = 3 then y else if k = 9 then -1 else 0) ∧ (rch h y).2 66 = cN (fun _ => 0) ∧ (rch h y).2 67 = ci 6171 (fun _ => 0) ∧ (rch h y).2 68 = ci 301 (fun _ => 0) ∧ (rch h y).2 69 = cb 4000 (fun _ => 0) ∧ (rch h y).2 70 = cA 42 (fun _ => 0) ∧ (rch h y).2 71 = cA 21 (fun _ => 0) ∧ (rch h y).2 72 = cA 22 (fun _ => 0) ∧ (rch h y).2 73 = cA 21 (fun _ => 0) ∧ (rch h y).2 74 = ci 17 (fun _ => 0) ∧ (rch h y).2 75 = ci 17 (fun _ => 0) ∧ (rch h y).2 76 = ci 17 (fun _ => 0) ∧ (rch h y).2 77 = ci 17 (fun _ => 0) ∧ (rch h y).2 78 = ci 17 (fun _ => 0) ∧ (rch h y).2 79 = ci 17 (fun _ => 0) ∧ (rch h y).2 80 = cb 20000 (fun _ => 0) ∧ (rch h y).2 81 = ci 17 (fun _ => 0) ∧ (rch h y).2 82 = ci 110 (fun _ => 0) := by
  unfold rch
  refine ⟨?_, ?_, ?_, ?_, ?_, ?_, ?_, ?_, ?_, ?_, ?_, ?_, ?_, ?_, ?_, ?_, ?_, ?_⟩
  all_goals first | (simp only [pb_new_get, pb_new_fst, hb, Nat.reduceAdd, Nat.reduceEqDiff, if_false, if_true]; done) | (simp only [pb_new_get, pb_new_fst, hb, Nat.reduceAdd, Nat.reduceEqDiff, if_false, if_true]; rfl)
set_option maxRecDepth 100000 in
theorem Y139 {x : Int32} (hb : h.1 = 65) (hx : (if (1 : Int32) ≤ x then (if x ≤ 16 then x else 16) else 1) = nI V)
    (hQ : ∀ h', h'.1 = 83 → pb_sl h' = pb_sl h + 154265 → (∀ q, q < 65 → h'.2 q = h.2 q) → YR h' V → Q none h') : pb_call 139 [.ref 65, .int x] (pb_new h (.inr (12, pb_df 12))) Q := by
  have d12 : pb_df 12 = [.null, .null, .null, .int 0, .int 0, .int 0, .null, .int 0, .int 0, .int 0, .null, .null, .null, .null, .int 0, .int 0, .int 0, .int 0, .int 0, .int 0, .int 0, .null, .int 0, .int 0, .int 0, .int 0, .int 0, .int 0, .null, .null, .null, .null, .null, .null, .int 0, .int 0, .null, .null] := rfl
  have t17 : (17 : Int32).toNatClampNeg = 17 := rfl
  have n17 : ¬ (17 : Int32) < 0 := by decide
  have t21 : (21 : Int32).toNatClampNeg = 21 := rfl
  have n21 : ¬ (21 : Int32) < 0 := by decide
  have t22 : (22 : Int32).toNatClampNeg = 22 := rfl
  have n22 : ¬ (22 : Int32) < 0 := by decide
  have t42 : (42 : Int32).toNatClampNeg = 42 := rfl
  have n42 : ¬ (42 : Int32) < 0 := by decide
  have t110 : (110 : Int32).toNatClampNeg = 110 := rfl
  have n110 : ¬ (110 : Int32) < 0 := by decide
  have t301 : (301 : Int32).toNatClampNeg = 301 := rfl
  have n301 : ¬ (301 : Int32) < 0 := by decide
  have t4000 : (4000 : Int32).toNatClampNeg = 4000 := rfl
  have n4000 : ¬ (4000 : Int32) < 0 := by decide
  have t6171 : (6171 : Int32).toNatClampNeg = 6171 := rfl
  have n6171 : ¬ (6171 : Int32) < 0 := by decide
  have t20000 : (20000 : Int32).toNatClampNeg = 20000 := rfl
  have n20000 : ¬ (20000 : Int32) < 0 := by decide
  have t123420 : (123420 : Int32).toNatClampNeg = 123420 := rfl
  have n123420 : ¬ (123420 : Int32) < 0 := by decide
  have fin : ∀ y, y = nI V → pb_R 139 176 [some (.ref 65), some (.int x), some (.int (nI 0))] [] [] (rch h y) Q := by
    intro y hy
    obtain ⟨s1, s2, s3⟩ := rch_s (y := y) hb
    obtain ⟨c65, c66, c67, c68, c69, c70, c71, c72, c73, c74, c75, c76, c77, c78, c79, c80, c81, c82⟩ := rch_c (y := y) hb
    have key := Y139_176 (Q := Q) (l1 := some (.int x)) c65 (fun f hf => ?_) 17 0 (fun _ => 0) rfl (fun v hv => absurd hv (Nat.not_lt_zero _))
    · rw [pb_set_id _ c75] at key
      exact key
    · have FF : fr (fun q => q = 75) (rch h y) (pb_set (rch h y) 75 (ci 17 f)) := fr_set rfl (by rw [c75]; rfl)
      have k : ∀ q, q ≠ 75 → (pb_set (rch h y) 75 (ci 17 f)).2 q = (rch h y).2 q := fun q hq => FF.2.2 q hq
      exact hQ _ (by rw [FF.1, s1]) (by rw [fr_sl FF, s2]) (fun q hq => (k q (by omega)).trans (s3 q hq)) ⟨⟨_, (k 65 (by omega)).trans c65, hy, rfl, fun k k1 k2 => by rw [if_neg k1, if_neg k2]⟩, (k 66 (by omega)).trans c66, (k 67 (by omega)).trans c67, (k 68 (by omega)).trans c68, (k 69 (by omega)).trans c69, (k 70 (by omega)).trans c70, (k 71 (by omega)).trans c71, (k 72 (by omega)).trans c72, (k 73 (by omega)).trans c73, (k 74 (by omega)).trans c74, ⟨f, by rw [pb_set_get, if_pos rfl], hf⟩, (k 76 (by omega)).trans c76, (k 77 (by omega)).trans c77, (k 78 (by omega)).trans c78, (k 79 (by omega)).trans c79, (k 80 (by omega)).trans c80, (k 81 (by omega)).trans c81, (k 82 (by omega)).trans c82⟩
  rw [pb_c139]
  simp only [pb_e139, d12, pb_g12, pb_new_get, pb_set_get, pb_new_fst, pb_set_fst, hb, sn_t, sn_n, pb_o_some, Option.toList_none, List.nil_append, true_and, t17, n17, t21, n21, t22, n22, t42, n42, t110, n110, t301, n301, t4000, n4000, t6171, n6171, t20000, n20000, t123420, n123420, not_false_eq_true, if_true, if_false, Nat.reduceAdd, Nat.reduceLeDiff, Nat.reduceEqDiff]
  by_cases c1 : (1 : Int32) ≤ x
  · rw [if_pos c1] at hx
    by_cases c2 : x ≤ 16
    · rw [if_pos c2] at hx
      simp only [c1, c2, if_true]
      exact fin x hx
    · rw [if_neg c2] at hx
      simp only [c1, c2, if_true, if_false]
      exact fin 16 hx
  · rw [if_neg c1] at hx
    simp only [c1, if_false]
    exact fin 1 hx
end CTOR3
