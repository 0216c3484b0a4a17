/-! The reference's look: its entry -/
section LQ4
variable {h : pb_H} {Q : Option Value → pb_H → Prop} {V m ts i : Nat} {s sg t : Nat → Int32} {G : Nat → Nat} {L : List Nat} {T : Nat → Int} {Rs : Nat → Nat} {X : Nat → LN} {f1 f3 : Nat → Int32}
theorem sgI_cases (z : Int) : (0 < z ∧ sgI z = 1) ∨ (z < 0 ∧ sgI z = -1) ∨ (z = 0 ∧ sgI z = 0) := by
  unfold sgI
  by_cases a : 0 < z
  · rw [if_pos a]; exact Or.inl ⟨a, rfl⟩
  · rw [if_neg a]
    by_cases b : z < 0
    · rw [if_pos b]; exact Or.inr (Or.inl ⟨b, rfl⟩)
    · rw [if_neg b]; exact Or.inr (Or.inr ⟨by omega, rfl⟩)
/-- look -/
theorem U215 {K : LN} (hV : V ≤ 16) (hts : ts ≤ V) (hi : i < ts) (hT : ∀ i, i < ts → 1 ≤ (T i).natAbs ∧ (T i).natAbs ≤ V) (hX : RX h s G sg) (h3 : s 3 = nI V) (hW : RW h s L) (hL : L.length ≤ 880000) (h77 : h.2 77 = ci 17 f1) (h79 : h.2 79 = ci 17 f3) (h81 : h.2 81 = ci 17 t) (h82 : ∃ d, h.2 82 = ci 110 d) (hf : ∀ i, i < ts → f1 i = lI (T i)) (hf3 : f3 i = nI (Rs i)) (hm : m ≤ 300) (hRs : Rs i ≤ m) (hRv : Rs i ≠ 0 → (X (Rs i)).2 (T i).natAbs ≠ 0) (hLn : RLX V G sg m X) (hK : RR V G sg 314 K) (fK : ln_fit V K)
    (hQ1 : ∀ h' s' G' sg' t' r, lkR V X T Rs K L i = some r → LQ h s G sg t' h' s' G' sg' r.2 → RR V G' sg' 314 r.1 → Q (some (.int 1)) h')
    (hQ0 : ∀ h' s' G' sg' t' L', lkR V X T Rs K L i = none → LQ h s G sg t' h' s' G' sg' L' → L'.length ≤ L.length + 2000 → (∃ M, L' = L ++ M) → Q (some (.int 0)) h') : pb_call 215 [.ref 65, .int (nI i)] h Q := by
  obtain ⟨b1, b2⟩ := hT i hi
  obtain ⟨g1, g2⟩ := lI_ge b1 (by omega)
  have W0 : LQ h s G sg t h s G sg L := ⟨fr_refl _ _, hX, fun _ _ => rfl, NF_refl _ _ _, hW, h81, h82⟩
  have hg1 := pb_ai_eq (k := 0) (n := 17) (j := i) (f := f1) (Or.inl rfl) (by omega) (by omega)
  rw [hf i hi] at hg1
  have hg3 := pb_ai_eq (k := 0) (n := 17) (j := i) (f := f3) (Or.inl rfl) (by omega) (by omega)
  rw [hf3] at hg3
  have eadd : (5338 : Int32) + nI (T i).natAbs = nI (314 * 17 + (T i).natAbs) := nI_add 5338 (T i).natAbs
  have hs := pb_ai_eq (k := 0) (n := 6171) (j := 314 * 17 + (T i).natAbs) (f := sg) (Or.inl rfl) (by omega) (by omega)
  rw [(hK.2 _ b1 b2).2] at hs
  have skip : ¬ (K.2 (T i).natAbs * T i < 0 ∧ Rs i ≠ 0) → Q (some (.int 1)) h := fun w => by
    refine hQ1 h s G sg t (K, L) ?_ W0 hK
    unfold lkR
    rw [if_neg w]
  have todo : ∀ l2 l4, K.2 (T i).natAbs * T i < 0 → Rs i ≠ 0 → pb_R 215 56 [some (.ref 65), some (.int (nI i)), l2, some (.int (nI (T i).natAbs)), l4, none, none, none, none] [] [] h Q := fun l2 l4 w1 w2 => by
    have hKv : K.2 (T i).natAbs ≠ 0 := fun e => by rw [e, Int.zero_mul] at w1; omega
    refine U215_56 (k := Rs i) hV hts hi hT hX h3 hW hL h77 h79 h81 h82 hf hf3 rfl (by omega) hRs hm hLn hK fK hKv (hRv w2) ?_ ?_
    · intro h' s' G' sg' t' p1 p2 W R
      refine hQ1 h' s' G' sg' t' (_, _) ?_ W R
      unfold lkR
      rw [if_pos ⟨w1, w2⟩, if_pos (by
        rcases p1 with q | q
        · exact Or.inl q
        · exact Or.inr (fitb_1 q)), if_pos (fitb_1 p2)]
      rfl
    · intro h' s' G' sg' t' L' np W hl hx
      refine hQ0 h' s' G' sg' t' L' ?_ W hl hx
      unfold lkR
      rw [if_pos ⟨w1, w2⟩]
      by_cases q1 : (K.2 (T i).natAbs).natAbs = 1 ∨ ln_fit V (ln_tm (rsn V (X (Rs i)) (asg T i) (T i).natAbs) (K.2 (T i).natAbs).natAbs)
      · rw [if_pos (by
          rcases q1 with w | w
          · exact Or.inl w
          · exact Or.inr (fitb_1 w)), if_neg (fitb_0 (fun w => np ⟨q1, w⟩))]
      · rw [if_neg (fun w => by
          rcases w with w | w
          · exact q1 (Or.inl w)
          · exact fitb_0 (fun z => q1 (Or.inr z)) w)]
  have hz0 : nI (Rs i) = 0 ↔ Rs i = 0 := ⟨fun e => nI_inj (by omega) (by omega) (show nI (Rs i) = nI 0 from e), fun e => by rw [e]; rfl⟩
  rw [pb_c215]
  by_cases cz : 0 < T i
  · obtain ⟨q1', q2⟩ := g1 cz
    have q1 : (0 : Int32) ≤ nI (T i).natAbs := by rw [← q2]; exact q1'
    by_cases ck : K.2 (T i).natAbs < 0
    · have sg1 : sgI (K.2 (T i).natAbs) = -1 := by
        rcases sgI_cases (K.2 (T i).natAbs) with w | w | w
        · omega
        · exact w.2
        · omega
      have mneg : K.2 (T i).natAbs * T i < 0 := Int.mul_neg_of_neg_of_pos ck cz
      by_cases cr : Rs i = 0
      · have key := skip (fun w => w.2 cr)
        have e0 := hz0.mpr cr
        rw [sg1] at hs
        simp only [pb_e215, hX.1, pb_gr, pb_o_some, h77, hg1, q1, if_true, q2, hX.2.2.2.1, eadd, hs, not_true_eq_false, if_false, h79, hg3, e0, nb1, true_and]
        exact key
      · have key := todo (some (.int (lI (T i)))) (some (.int 1)) mneg cr
        rw [q2] at key
        have e0 : ¬ nI (Rs i) = 0 := fun e => cr (hz0.mp e)
        rw [sg1] at hs
        suffices key2 : pb_R 215 45 [some (.ref 65), some (.int (nI i)), some (.int (nI (T i).natAbs)), some (.int (nI (T i).natAbs)), some (.int 1), none, none, none, none] [] [] h Q by
          simp only [pb_e215, hX.1, pb_gr, pb_o_some, h79, hg3] at key2
          simp only [pb_e215, hX.1, pb_gr, pb_o_some, h77, hg1, q1, if_true, q2, hX.2.2.2.1, eadd, hs, not_true_eq_false, if_false, h79, hg3]
          exact key2
        simp only [pb_e215, at3206, at3207, Option.toList_some, List.singleton_append] at key
        simp only [pb_e215, hX.1, pb_gr, pb_o_some, h79, hg3, e0, not_false_eq_true, if_true, at3206, at3207, Option.toList_some, List.singleton_append]
        exact key
    · have sg1 : ¬ sgI (K.2 (T i).natAbs) = -1 := by
        rcases sgI_cases (K.2 (T i).natAbs) with w | w | w
        · rw [w.2]; decide
        · omega
        · rw [w.2]; decide
      have key := skip (fun w => by
        have : 0 ≤ K.2 (T i).natAbs * T i := Int.mul_nonneg (by omega) (by omega)
        omega)
      simp only [pb_e215, hX.1, pb_gr, pb_o_some, h77, hg1, q1, if_true, q2, hX.2.2.2.1, eadd, hs, sg1, not_false_eq_true, nb1, true_and]
      exact key
  · obtain ⟨q1, q2, q3⟩ := g2 (by omega)
    have nn1 : - (-1 : Int32) = 1 := by decide
    by_cases ck : 0 < K.2 (T i).natAbs
    · have sg1 : sgI (K.2 (T i).natAbs) = 1 := by
        rcases sgI_cases (K.2 (T i).natAbs) with w | w | w
        · exact w.2
        · omega
        · omega
      have mneg : K.2 (T i).natAbs * T i < 0 := Int.mul_neg_of_pos_of_neg ck (by omega)
      by_cases cr : Rs i = 0
      · have key := skip (fun w => w.2 cr)
        have e0 := hz0.mpr cr
        rw [sg1] at hs
        simp only [pb_e215, hX.1, pb_gr, pb_o_some, h77, hg1, q1, if_false, q2, q3, hX.2.2.2.1, eadd, hs, nn1, not_true_eq_false, h79, hg3, e0, nb1, true_and]
        exact key
      · have key := todo (some (.int (lI (T i)))) (some (.int (-1))) mneg cr
        have e0 : ¬ nI (Rs i) = 0 := fun e => cr (hz0.mp e)
        rw [sg1] at hs
        simp only [pb_e215, at3206, at3207, Option.toList_some, List.singleton_append] at key
        simp only [pb_e215, hX.1, pb_gr, pb_o_some, h77, hg1, q1, if_false, q2, q3, hX.2.2.2.1, eadd, hs, nn1, not_true_eq_false, h79, hg3, e0, not_false_eq_true, if_true, at3206, at3207, Option.toList_some, List.singleton_append]
        exact key
    · have sg1 : ¬ sgI (K.2 (T i).natAbs) = 1 := by
        rcases sgI_cases (K.2 (T i).natAbs) with w | w | w
        · omega
        · rw [w.2]; decide
        · rw [w.2]; decide
      have key := skip (fun w => by
        have : 0 ≤ K.2 (T i).natAbs * T i := Int.mul_nonneg_of_nonpos_of_nonpos (by omega) (by omega)
        omega)
      simp only [pb_e215, hX.1, pb_gr, pb_o_some, h77, hg1, q1, if_false, q2, q3, hX.2.2.2.1, eadd, hs, nn1, sg1, not_false_eq_true, if_true, nb1, true_and]
      exact key
end LQ4
