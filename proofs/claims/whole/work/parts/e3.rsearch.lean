/-! The reference's SEARCH: its cells; value, trail, gives -/
def RQs (h : pb_H) (s : Nat → Int32) (V : Nat) (z : SS) : Prop := (s 22 = nI z.1.1 ∧ s 23 = nI z.1.2.1 ∧ s 24 = nI z.2.1.1 ∧ s 25 = nI z.1.2.2.1 ∧ s 26 = nI z.1.2.2.2.1 ∧ s 27 = nI z.1.2.2.2.2 ∧ s 34 = nI z.2.2.1.length) ∧ z.2.2.1.length ≤ 20000 ∧ (∃ pr, h.2 80 = cb 20000 pr ∧ (∀ k, pr k < 256) ∧ ∀ i, i < z.2.2.1.length → pr i = gd z.2.2.1 i) ∧ (∃ f, h.2 75 = ci 17 f ∧ AV V f (asg z.2.1.2.1 z.2.1.1)) ∧ (∃ g, h.2 76 = ci 17 g ∧ ∀ v, 1 ≤ v → v ≤ V → g v = if z.2.1.2.2.2.2 v = true then 1 else 0) ∧ (∃ f1 f2 f3, h.2 77 = ci 17 f1 ∧ h.2 78 = ci 17 f2 ∧ h.2 79 = ci 17 f3 ∧ ∀ i, i < z.2.1.1 → f1 i = lI (z.2.1.2.1 i) ∧ f2 i = nI (z.2.1.2.2.1 i) ∧ f3 i = nI (z.2.1.2.2.2.1 i)) ∧ (∃ t, h.2 81 = ci 17 t) ∧ ∃ d, h.2 82 = ci 110 d
section RSE
variable {h : pb_H} {Q : Option Value → pb_H → Prop} {V : Nat} {s sg : Nat → Int32} {G : Nat → Nat} {z : SS}
theorem RQs_fr {S : Nat → Prop} {h' : pb_H} {s' : Nat → Int32} (F : fr S h h') (hS : ∀ q, S q → q < 75) (hs : ∀ k, 22 ≤ k → k ≤ 34 → s' k = s k) (hR : RQs h s V z) : RQs h' s' V z := by
  obtain ⟨⟨a1, a2, a3, a4, a5, a6, a7⟩, b, ⟨pr, c1, c2⟩, ⟨f, d1, d2⟩, ⟨g, e1, e2⟩, ⟨f1, f2, f3, g1, g2, g3, g4⟩, ⟨t, i1⟩, dd, j1⟩ := hR
  have k : ∀ q, 75 ≤ q → h'.2 q = h.2 q := fun q hq => F.2.2 q (fun w => by have := hS q w; omega)
  exact ⟨⟨(hs 22 (by omega) (by omega)).trans a1, (hs 23 (by omega) (by omega)).trans a2, (hs 24 (by omega) (by omega)).trans a3, (hs 25 (by omega) (by omega)).trans a4, (hs 26 (by omega) (by omega)).trans a5, (hs 27 (by omega) (by omega)).trans a6, (hs 34 (by omega) (by omega)).trans a7⟩, b, ⟨pr, (k 80 (by omega)).trans c1, c2⟩, ⟨f, (k 75 (by omega)).trans d1, d2⟩, ⟨g, (k 76 (by omega)).trans e1, e2⟩, ⟨f1, f2, f3, (k 77 (by omega)).trans g1, (k 78 (by omega)).trans g2, (k 79 (by omega)).trans g3, g4⟩, ⟨t, (k 81 (by omega)).trans i1⟩, dd, (k 82 (by omega)).trans j1⟩
/-- value -/
theorem U220 {x : Int32} (hV : V ≤ 16) (h65 : h.2 65 = rm s) (h3 : s 3 = nI V) (hR : RQs h s V z) : pb_call 220 [.ref 65, .int x] h Q ↔ Q (some (.int (aVal V z x))) h := by
  obtain ⟨_, _, _, ⟨f, d1, d2⟩, _⟩ := hR
  rw [pb_c220]
  unfold aVal
  by_cases ck : 1 ≤ x ∧ x ≤ nI V
  · obtain ⟨j, j1, j2, j3, j4⟩ := i32_1j ck.1 ck.2 (by omega)
    have n1 : ¬ x < 1 := i32_nlt.mpr ck.1
    have n2 : ¬ nI V < x := i32_nlt.mpr ck.2
    have hg := pb_ai_eq (k := 0) (n := 17) (j := j) (f := f) (Or.inl rfl) (by omega) (by omega)
    rw [d2 j j1 j2, ← j3] at hg
    rw [if_pos ck, j4]
    simp only [pb_e220, n1, if_false, h65, pb_gr, pb_o_some, h3, n2, d1, hg]
  · rw [if_neg ck]
    by_cases c1 : x < 1
    · simp only [pb_e220, c1, if_true]
    · have n2 : nI V < x := i32_nle.mp (fun w => ck ⟨i32_nlt.mp c1, w⟩)
      simp only [pb_e220, c1, if_false, h65, pb_gr, pb_o_some, h3, n2, if_true]
/-- trail -/
theorem U221 {x w : Int32} (hV : V ≤ 16) (hts : z.2.1.1 ≤ V) (h65 : h.2 65 = rm s) (hR : RQs h s V z) : pb_call 221 [.ref 65, .int x, .int w] h Q ↔ Q (some (.int (aTrl z x w))) h := by
  obtain ⟨⟨_, _, a3, _⟩, _, _, _, _, ⟨f1, f2, f3, d1, d2, d3, d4⟩, _⟩ := hR
  rw [pb_c221]
  unfold aTrl
  by_cases ck : 0 ≤ x ∧ x < nI z.2.1.1
  · obtain ⟨j, j1, j2, j3⟩ := i32_btw ck.1 (Int32.le_of_lt ck.2) (by omega)
    have j5 : j < z.2.1.1 := by
      have := ck.2
      rw [j2] at this
      exact (nI_ltI (by omega) (by omega)).mp this
    have n1 : ¬ x < 0 := i32_nlt.mpr ck.1
    have n2 : ¬ nI z.2.1.1 ≤ x := i32_nle.mpr ck.2
    have ga := pb_ai_eq (k := 0) (n := 17) (j := j) (f := f1) (Or.inl rfl) (by omega) (by omega)
    have gb := pb_ai_eq (k := 0) (n := 17) (j := j) (f := f2) (Or.inl rfl) (by omega) (by omega)
    have gc := pb_ai_eq (k := 0) (n := 17) (j := j) (f := f3) (Or.inl rfl) (by omega) (by omega)
    rw [(d4 j j5).1, ← j2] at ga
    rw [(d4 j j5).2.1, ← j2] at gb
    rw [(d4 j j5).2.2, ← j2] at gc
    rw [if_pos ck, j3]
    by_cases w0 : w = 0
    · have m1 : ¬ (0 : Int32) < 0 := by decide
      have m2 : (0 : Int32) ≤ 2 := by decide
      simp only [pb_e221, n1, if_false, h65, pb_gr, pb_o_some, a3, n2, w0, m1, m2, if_true, not_true_eq_false, d1, ga]
    · by_cases w1 : w = 1
      · have m1 : ¬ (1 : Int32) < 0 := by decide
        have m2 : (1 : Int32) ≤ 2 := by decide
        have n10 : ¬ (1 : Int32) = 0 := by decide
        simp only [pb_e221, n1, if_false, h65, pb_gr, pb_o_some, a3, n2, w1, m1, m2, if_true, n10, not_false_eq_true, not_true_eq_false, d2, gb]
      · by_cases w2 : w = 2
        · have m1 : ¬ (2 : Int32) < 0 := by decide
          have m2 : (2 : Int32) ≤ 2 := by decide
          have n20 : ¬ (2 : Int32) = 0 := by decide
          have n21 : ¬ (2 : Int32) = 1 := by decide
          simp only [pb_e221, n1, if_false, h65, pb_gr, pb_o_some, a3, n2, w2, m1, m2, if_true, n20, n21, not_false_eq_true, d3, gc]
        · rw [if_neg w0, if_neg w1, if_neg w2]
          by_cases wn : w < 0
          · simp only [pb_e221, n1, if_false, h65, pb_gr, pb_o_some, a3, n2, wn, if_true]
          · have m2 : ¬ w ≤ 2 := fun le => by
              obtain ⟨i, i1, i2, i3⟩ := i32_btw (x := w) (m := 2) (i32_nlt.mp wn) le (by omega)
              have : i = 0 ∨ i = 1 ∨ i = 2 := by omega
              rcases this with e | e | e
              · exact w0 (by rw [i2, e]; rfl)
              · exact w1 (by rw [i2, e]; rfl)
              · exact w2 (by rw [i2, e]; rfl)
            simp only [pb_e221, n1, if_false, h65, pb_gr, pb_o_some, a3, n2, wn, m2]
  · rw [if_neg ck]
    by_cases c1 : x < 0
    · simp only [pb_e221, c1, if_true]
    · have n2 : nI z.2.1.1 ≤ x := i32_nlt.mp (fun w => ck ⟨i32_nlt.mp c1, w⟩)
      simp only [pb_e221, c1, if_false, h65, pb_gr, pb_o_some, a3, n2, if_true]
/-- begin -/
theorem U208 (hV : V ≤ 16) (hX : RX h s G sg) (hR : RQs h s V z)
    (hQ : ∀ h' s', fr (fun q => q = 65 ∨ q = 75 ∨ q = 76) h h' → RX h' s' G sg → RQs h' s' V (rsS 1 z) → kp (fun k => (22 ≤ k ∧ k ≤ 27) ∨ k = 34) s s' → Q (some (.int 1)) h') : pb_call 208 [.ref 65] h Q := by
  obtain ⟨⟨a1, a2, a3, a4, a5, a6, a7⟩, b, ⟨pr, c1, c2, c3⟩, ⟨f, d1, d2⟩, ⟨g, e1, e2⟩, ⟨f1, f2, f3, g1, g2, g3, g4⟩, ⟨t, i1⟩, dd, j1⟩ := hR
  obtain ⟨x1, x2, x3, x4, ⟨W1, y1⟩, ⟨W2, y2⟩, ⟨W3, y3⟩, W4, y4⟩ := hX
  have is65 : pb_is0 (h.2 65) 12 = true := by rw [x1]; rfl
  rw [pb_c208]
  simp only [pb_e208, is65, true_and]
  refine U191 x1 d1 e1 ?_
  intro f' g' hf hg
  have k65 : (pb_set (pb_set (pb_set h 65 (rm (fgt s))) 75 (ci 17 f')) 76 (ci 17 g')).2 65 = rm (fgt s) := by rw [pb_set_get, if_neg (by omega), pb_set_get, if_neg (by omega), pb_set_get, if_pos rfl]
  simp only [Option.toList_none, List.nil_append, pb_e208, k65, pb_gr, pb_o_some, nb1, true_and]
  have F1 : fr (fun q => q = 65 ∨ q = 75 ∨ q = 76) h (pb_set h 65 (rm (fgt s))) := fr_set (Or.inl rfl) (by rw [x1]; rfl)
  have F2 : fr (fun q => q = 65 ∨ q = 75 ∨ q = 76) (pb_set h 65 (rm (fgt s))) (pb_set (pb_set h 65 (rm (fgt s))) 75 (ci 17 f')) := fr_set (Or.inr (Or.inl rfl)) (by rw [pb_set_get, if_neg (by omega), d1]; rfl)
  have F3 : fr (fun q => q = 65 ∨ q = 75 ∨ q = 76) (pb_set (pb_set h 65 (rm (fgt s))) 75 (ci 17 f')) (pb_set (pb_set (pb_set h 65 (rm (fgt s))) 75 (ci 17 f')) 76 (ci 17 g')) := fr_set (Or.inr (Or.inr rfl)) (by rw [pb_set_get, if_neg (by omega), pb_set_get, if_neg (by omega), e1]; rfl)
  have F4 : fr (fun q => q = 65 ∨ q = 75 ∨ q = 76) (pb_set (pb_set (pb_set h 65 (rm (fgt s))) 75 (ci 17 f')) 76 (ci 17 g')) (pb_set (pb_set (pb_set (pb_set h 65 (rm (fgt s))) 75 (ci 17 f')) 76 (ci 17 g')) 65 (rm (upd (fgt s) 22 1))) := fr_set (Or.inl rfl) (by rw [k65]; rfl)
  have FF := fr_trans F1 (fr_trans F2 (fr_trans F3 F4))
  have k : ∀ q, q ≠ 65 → q ≠ 75 → q ≠ 76 → (pb_set (pb_set (pb_set (pb_set h 65 (rm (fgt s))) 75 (ci 17 f')) 76 (ci 17 g')) 65 (rm (upd (fgt s) 22 1))).2 q = h.2 q := fun q q1 q2 q3 => FF.2.2 q (by omega)
  refine hQ _ (upd (fgt s) 22 1) FF ⟨by rw [pb_set_get, if_pos rfl], (k 66 (by omega) (by omega) (by omega)).trans x2, x3, (k 67 (by omega) (by omega) (by omega)).trans x4, ⟨W1, (k 70 (by omega) (by omega) (by omega)).trans y1.1, y1.2⟩, ⟨W2, (k 71 (by omega) (by omega) (by omega)).trans y2.1, y2.2⟩, ⟨W3, (k 72 (by omega) (by omega) (by omega)).trans y3.1, y3.2⟩, W4, (k 73 (by omega) (by omega) (by omega)).trans y4.1, y4.2⟩ ⟨⟨rfl, rfl, rfl, rfl, rfl, rfl, rfl⟩, Nat.zero_le _, ⟨pr, (k 80 (by omega) (by omega) (by omega)).trans c1, c2, fun i hi => absurd hi (Nat.not_lt_zero _)⟩, ⟨f', by rw [pb_set_get, if_neg (by omega), pb_set_get, if_neg (by omega), pb_set_get, if_pos rfl], fun v v1 v2 => ?_⟩, ⟨g', by rw [pb_set_get, if_neg (by omega), pb_set_get, if_pos rfl], fun v v1 v2 => ?_⟩, ⟨f1, f2, f3, (k 77 (by omega) (by omega) (by omega)).trans g1, (k 78 (by omega) (by omega) (by omega)).trans g2, (k 79 (by omega) (by omega) (by omega)).trans g3, fun i hi => absurd hi (Nat.not_lt_zero _)⟩, ⟨t, (k 81 (by omega) (by omega) (by omega)).trans i1⟩, dd, (k 82 (by omega) (by omega) (by omega)).trans j1⟩ ?_
  · rw [hf v (by omega)]; rfl
  · rw [hg v (by omega)]; rfl
  · intro k hk
    unfold fgt upd
    rw [if_neg (by omega), if_neg (by omega), if_neg (by omega), if_neg (by omega), if_neg (by omega), if_neg (by omega), if_neg (by omega)]
end RSE
