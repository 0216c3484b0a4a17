/-! The reference: proof -/
theorem sB_128 : ∀ n, n < 128 → sB n = nI n := by decide
theorem U222 {h : pb_H} {Q : Option Value → pb_H → Prop} {V : Nat} {s : Nat → Int32} {z : SS} {x : Int32} (h65 : h.2 65 = rm s) (hR : RQs h s V z) (hP : lo z.2.2.1) : pb_call 222 [.ref 65, .int x] h Q ↔ Q (some (.int (aPrf z x))) h := by
  obtain ⟨⟨_, _, _, _, _, _, a7⟩, b, ⟨pr, c1, c2, c3⟩, _⟩ := hR
  rw [pb_c222]
  unfold aPrf
  by_cases ck : 0 ≤ x ∧ x < nI z.2.2.1.length
  · obtain ⟨j, j1, j2, j3⟩ := i32_btw ck.1 (Int32.le_of_lt ck.2) (by omega)
    have j5 : j < z.2.2.1.length := by
      have := ck.2
      rw [j2] at this
      exact (nI_ltI (by omega) (by omega)).mp this
    have n1 : ¬ x < 0 := i32_nlt.mpr ck.1
    have n2 : ¬ nI z.2.2.1.length ≤ x := i32_nle.mpr ck.2
    have hg := cb_get (N := 20000) (b := pr) (j := j) (by omega) (by omega)
    rw [← j2, c3 j j5, sB_128 _ (lo_gd hP j)] at hg
    rw [if_pos ck, j3]
    simp only [pb_e222, n1, if_false, h65, pb_gr, pb_o_some, a7, n2, c1, hg]
  · rw [if_neg ck]
    by_cases c1' : x < 0
    · simp only [pb_e222, c1', if_true]
    · have n2 : nI z.2.2.1.length ≤ x := i32_nlt.mp (fun w => ck ⟨i32_nlt.mp c1', w⟩)
      simp only [pb_e222, c1', if_false, h65, pb_gr, pb_o_some, a7, n2, if_true]
