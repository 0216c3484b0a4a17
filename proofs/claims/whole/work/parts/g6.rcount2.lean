/-! The reference's count -/
section RCO
variable {Q : Option Value → pb_H → Prop} {V n p : Nat} {b : Nat → Nat} {z : SS} {s sg ogI : Nat → Int32}
theorem RNx_G {h h' : pb_H} {G G' : Nat → Nat} (hV : V ≤ 16) (hW : RNx h V n b s G sg ogI z) (F : fr rS h h') (X' : RX h' s G' sg) (N : NF (fun k => k = 5441) G sg G' sg) : RNx h' V n b s G' sg ogI z :=
  ⟨RK_up hV hW.1 (RZ_fr hW.1.1 F X' rfl rfl) rfl N (fun i w => by omega), (F.2.2 68 (by omega)).trans hW.2.1, hW.2.2.1, RQs_fr F (fun q w => by omega) (fun _ _ _ => rfl) hW.2.2.2.1, hW.2.2.2.2⟩
theorem U223_107 {h : pb_H} {G : Nat → Nat} {l1 : Option Value} (hV : V ≤ 16) (hW : RNx h V n b s G sg ogI z)
    (hQ : ∀ h' G', fr rS h h' → RNx h' V n b s G' sg ogI z → Q (some (.int (nI (nfl V z.2.2.2.2.1 z.2.2.2.1)))) h') : pb_R 223 107 [some (.ref 65), l1, some (.int (nI 0)), some (.int (nI (0 + 1)))] [] [] h Q := by
  have m3 := hW.1.2.2.1
  have loop : ∀ r k h1 G1, k + r = z.2.2.2.1 → fr rS h h1 → RNx h1 V n b s G1 sg ogI z → pb_R 223 107 [some (.ref 65), l1, some (.int (nI (nfl V z.2.2.2.2.1 k))), some (.int (nI (k + 1)))] [] [] h1 Q := by
    intro r
    induction r with
    | zero =>
      intro k h1 G1 hk F1 W1
      obtain rfl : k = z.2.2.2.1 := by omega
      have c1 : nI z.2.2.2.1 < nI (z.2.2.2.1 + 1) := nI_lt (by omega) (by omega)
      have key := hQ h1 G1 F1 W1
      rw [pb_q223_107]
      simp only [pb_e223, W1.1.1.1.1, pb_gr, pb_o_some, W1.1.2.1, c1, if_true]
      exact key
    | succ r ih =>
      intro k h1 G1 hk F1 W1
      have c1 : ¬ nI z.2.2.2.1 < nI (k + 1) := nI_nlt (by omega) (by omega)
      rw [pb_q223_107]
      suffices key : pb_call 170 [.ref 65, .int (nI (k + 1))] h1 (fun v t => pb_R 223 120 [some (.ref 65), l1, some (.int (nI (nfl V z.2.2.2.2.1 k))), some (.int (nI (k + 1)))] [] (v.toList ++ []) t Q) by
        simp only [pb_e223, W1.1.1.1.1, pb_gr, pb_o_some, W1.1.2.1, c1, if_false, true_and] at key ⊢
        exact key
      refine A170 W1.1.1.1 W1.1.1.2.2.2.2.2 hV (by omega) (W1.1.2.2.2.1 (k + 1) (by omega) (by omega)) (W1.1.2.2.2.2 (k + 1) (by omega) (by omega)) ?_
      intro h2 G2 F2 X2 N2
      have W2 := RNx_G hV W1 F2 X2 N2
      have key := ih (k + 1) h2 G2 (by omega) (fr_trans F1 F2) W2
      constructor
      · intro hb
        have e : nfl V z.2.2.2.2.1 (k + 1) = nfl V z.2.2.2.2.1 k + 1 := by
          show nfl V z.2.2.2.2.1 k + isF V (z.2.2.2.2.1 (k + 1)) = _
          rw [isF_1 hb]
        rw [e] at key
        have n1 : ¬ (1 : Int32) = 0 := by decide
        simp only [Option.toList_some, List.singleton_append, pb_e223, n1, if_false, nI_1]
        exact key
      · intro hb
        have e : nfl V z.2.2.2.2.1 (k + 1) = nfl V z.2.2.2.2.1 k := by
          show nfl V z.2.2.2.2.1 k + isF V (z.2.2.2.2.1 (k + 1)) = _
          rw [isF_0 hb]; rfl
        rw [e] at key
        simp only [Option.toList_some, List.singleton_append, pb_e223, if_true, nI_1]
        exact key
  exact loop z.2.2.2.1 0 h G (by omega) (fr_refl _ _) hW
/-- count -/
theorem U223 {h : pb_H} {G : Nat → Nat} {k : Int32} (hV : V ≤ 16) (hW : RNx h V n b s G sg ogI z) (h5 : s 5 = nI p)
    (hQ : ∀ h' G', fr rS h h' → RNx h' V n b s G' sg ogI z → Q (some (.int (aCnt V p n z k))) h') : pb_call 223 [.ref 65, .int k] h Q := by
  have h65 := hW.1.1.1.1
  obtain ⟨a1, a2, a3, a4, a5, a6, a7⟩ := hW.2.2.2.1.1
  have h4 := hW.1.2.1
  have h7 := hW.1.1.2.2.1
  have i0 : (0 : Int32) = nI 0 := rfl
  have i1 : (1 : Int32) = nI (0 + 1) := rfl
  rw [pb_c223]
  by_cases k9 : k = 9
  · subst k9
    have n0 : ¬ (9 : Int32) = 0 := by decide
    have n1 : ¬ (9 : Int32) = 1 := by decide
    have n2 : ¬ (9 : Int32) = 2 := by decide
    have n3 : ¬ (9 : Int32) = 3 := by decide
    have n4 : ¬ (9 : Int32) = 4 := by decide
    have n5 : ¬ (9 : Int32) = 5 := by decide
    have n6 : ¬ (9 : Int32) = 6 := by decide
    have n7 : ¬ (9 : Int32) = 7 := by decide
    have n8 : ¬ (9 : Int32) = 8 := by decide
    have key : pb_R 223 107 [some (.ref 65), some (.int 9), some (.int (nI 0)), some (.int (nI (0 + 1)))] [] [] h Q := U223_107 hV hW (by
      intro h' G' F' W'
      have := hQ h' G' F' W'
      unfold aCnt at this
      rw [if_neg n0, if_neg n1, if_neg n2, if_neg n3, if_neg n4, if_neg n5, if_neg n6, if_neg n7, if_neg n8, if_pos rfl] at this
      exact this)
    rw [← i0, ← i1] at key
    simp only [pb_e223, pb_q223_3, n0, n1, n2, n3, n4, n5, n6, n7, n8, if_false, if_true]
    exact key
  · have key := hQ h G (fr_refl _ _) hW
    unfold aCnt at key
    rw [← a1, ← a2, ← a3, ← a4, ← a5, ← a6, ← a7, ← h4, ← h5, ← h7] at key
    simp only [pb_e223, pb_q223_3, h65, pb_gr, pb_o_some]
    simp only [k9, if_false] at key ⊢
    by_cases k0 : k = 0
    · simp only [k0, if_true] at key ⊢; exact key
    · by_cases k1 : k = 1
      · simp only [k1, if_true] at key ⊢; simpa using key
      · by_cases k2 : k = 2
        · simp only [k2, if_true] at key ⊢; simpa using key
        · by_cases k3 : k = 3
          · simp only [k3, if_true] at key ⊢; simpa using key
          · by_cases k4 : k = 4
            · simp only [k4, if_true] at key ⊢; simpa using key
            · by_cases k5 : k = 5
              · simp only [k5, if_true] at key ⊢; simpa using key
              · by_cases k6 : k = 6
                · simp only [k6, if_true] at key ⊢; simpa using key
                · by_cases k7 : k = 7
                  · simp only [k7, if_true] at key ⊢; simpa using key
                  · by_cases k8 : k = 8
                    · simp only [k8, if_true] at key ⊢; simpa using key
                    · by_cases k10 : k = 10
                      · simp only [k10, if_true] at key ⊢; simpa using key
                      · simp only [k0, k1, k2, k3, k4, k5, k6, k7, k8, k10, if_false] at key ⊢; exact key
end RCO
