/-! The reference's make -/
theorem cm3_sg (x y : Nat) : cm3 x y = sgI ((x : Int) - y) := by
  unfold cm3
  by_cases c : x < y
  · rw [if_pos c, sgI_neg (by omega)]
  · rw [if_neg c]
    by_cases e : x = y
    · rw [if_pos e, show (x : Int) - y = 0 by omega]; rfl
    · rw [if_neg e, sgI_pos (by omega)]
section MAK
variable {h : pb_H} {Q : Option Value → pb_H → Prop} {V n : Nat} {b : Nat → Nat} {s sg : Nat → Int32} {G : Nat → Nat}
theorem U188_loop {r ia ib : Nat} {ra rb l2 : Int32} {d : Nat → Int} {K : Nat} (hV : V ≤ 16) (hs3 : s 3 = nI V) (hr : r < 363) (hr1 : r ≠ 316 ∧ r ≠ 317) (hia : (ia = 5372 ∧ ib = 5389 ∧ ra = 316 ∧ rb = 317) ∨ (ia = 5389 ∧ ib = 5372 ∧ ra = 317 ∧ rb = 316)) (hd : ∀ u, u ≤ V → (rv G (ia + u) : Int) - (rv G (ib + u) : Int) = d u ∧ rv G (ia + u) ≤ K * 10 ^ 60 ∧ rv G (ib + u) ≤ K * 10 ^ 60) (hK : K ≤ 20000)
    (hQ : ∀ h' G' sg', fr rS h h' → RX h' s G' sg' → NF (rwS r) G sg G' sg' → RR V G' sg' r (ln_of V d) → Q none h') :
    ∀ j m h' G' sg' l6 l7, m + j = V → fr rS h h' → RX h' s G' sg' → NF (rwS r) G sg G' sg' → rv G' (r * 17) = rv G ia + ngs d m → (∀ u, 1 ≤ u → u ≤ m → rv G' (r * 17 + u) = (d u).natAbs ∧ sg' (r * 17 + u) = sgI (d u)) → pb_R 188 51 [some (.ref 65), some (.int (nI r)), some (.int l2), some (.int ra), some (.int rb), some (.int (nI (m + 1))), l6, l7] [] [] h' Q := by
  have ata : ∀ h (Q : Option Value → pb_H → Prop) v, pb_call 143 [.int ra, .int (nI v)] h Q ↔ Q (some (.int (nI ((ia + v) * 20)))) h := fun h Q v => by
    rcases hia with ⟨e1, _, e2, _⟩ | ⟨e1, _, e2, _⟩
    · rw [e1, e2]; exact at316
    · rw [e1, e2]; exact at317
  have atb : ∀ h (Q : Option Value → pb_H → Prop) v, pb_call 143 [.int rb, .int (nI v)] h Q ↔ Q (some (.int (nI ((ib + v) * 20)))) h := fun h Q v => by
    rcases hia with ⟨_, e1, _, e2⟩ | ⟨_, e1, _, e2⟩
    · rw [e1, e2]; exact at317
    · rw [e1, e2]; exact at316
  have atb0 : ∀ h (Q : Option Value → pb_H → Prop), pb_call 143 [.int rb, .int 0] h Q ↔ Q (some (.int (nI (ib * 20)))) h := fun h Q => by
    rcases hia with ⟨_, e1, _, e2⟩ | ⟨_, e1, _, e2⟩
    · rw [e1, e2]; exact at317z
    · rw [e1, e2]; exact at316z
  have e17 : nI r * nI 17 = nI (r * 17) := pk_mul r 17
  have hiA : ∀ u, u ≤ 16 → ia + u < 5440 ∧ ib + u < 5440 ∧ ¬ rwS r (ia + u) ∧ ¬ rwS r (ib + u) := fun u hu => by
    obtain ⟨q1, q2⟩ := hr1
    rcases hia with ⟨e1, e2, _, _⟩ | ⟨e1, e2, _, _⟩ <;> (rw [e1, e2]; omega)
  have hngs : ∀ m, m ≤ V → ngs d m ≤ m * (K * 10 ^ 60) := fun m hm => ngs_le (fun v v1 v2 => by
    have := hd v (by omega)
    omega)
  intro j
  induction j with
  | zero =>
    intro m h' G' sg' l6 l7 hm F X N hdg hv
    obtain rfl : m = V := by omega
    have c1 : nI m < nI (m + 1) := nI_lt (by omega) (by omega)
    have i0 := hiA 0 (by omega)
    rw [pb_q188_51]
    simp only [pb_e188, X.1, pb_gr, pb_o_some, true_and, hs3, c1, if_true, A143z, atb0, Option.toList_some, List.singleton_append]
    refine A153 X (by omega) (by omega) (by obtain ⟨_, w, _, w2⟩ := i0; intro e; exact w2 (by omega)) ?_
    intro h2 G2 F2 X2 nb hv2
    simp only [Option.toList_none, List.nil_append, pb_e188]
    refine hQ h2 G2 sg' (fr_trans F F2) X2 (NF_trans N (NF_nb (i := r * 17) (by omega) nb)) ⟨?_, fun u u1 u2 => ?_⟩
    · have e1 : rv G' ib = rv G ib := NF_rv N i0.2.2.2
      have e2 := (hd 0 (by omega)).1
      rw [hv2, hdg, e1]
      show _ = (d 0 + (ngs d m : Int)).toNat
      rw [Nat.add_zero, Nat.add_zero] at e2
      omega
    · rw [rv_ne nb (by omega)]
      exact hv u u1 u2
  | succ j ih =>
    intro m h' G' sg' l6 l7 hm F X N hdg hv
    have c1 : ¬ nI V < nI (m + 1) := nI_nlt (by omega) (by omega)
    obtain ⟨i1, i2, i3, i4⟩ := hiA (m + 1) (by omega)
    obtain ⟨d1, d2, d3⟩ := hd (m + 1) (by omega)
    have va : rv G' (ia + (m + 1)) = rv G (ia + (m + 1)) := NF_rv N i3
    have vb : rv G' (ib + (m + 1)) = rv G (ib + (m + 1)) := NF_rv N i4
    have h150 := fun Q : Option Value → pb_H → Prop => A150 (Q := Q) X (show ia + (m + 1) < 6171 by omega) (show ib + (m + 1) < 6171 by omega)
    rw [va, vb] at h150
    have hS := sg_set (sg := sg') (j := r * 17 + (m + 1)) (x := cm3 (rv G (ia + (m + 1))) (rv G (ib + (m + 1)))) (by omega)
    obtain ⟨X2, F2⟩ := RX_sig X (sg' := upd sg' (r * 17 + (m + 1)) (cm3 (rv G (ia + (m + 1))) (rv G (ib + (m + 1)))))
    have hcs := cm3_sg (rv G (ia + (m + 1))) (rv G (ib + (m + 1)))
    rw [d1] at hcs
    obtain ⟨m1, m2, m3, m4⟩ := cm3_pos (m := rv G (ia + (m + 1))) (n := rv G (ib + (m + 1)))
    have hng1 : ngs d (m + 1) = ngs d m + if d (m + 1) < 0 then (d (m + 1)).natAbs else 0 := rfl
    have ni1 : ia + (m + 1) ≠ r * 17 + (m + 1) := fun e => i3 (by omega)
    have ni2 : ib + (m + 1) ≠ r * 17 + (m + 1) := fun e => i4 (by omega)
    have nbound : rv G ia ≤ K * 10 ^ 60 := by have := (hd 0 (by omega)).2.1; exact this
    have hnm := hngs m (by omega)
    rw [pb_q188_51]
    by_cases c : rv G (ib + (m + 1)) ≤ rv G (ia + (m + 1))
    · have k : ¬ cm3 (rv G (ia + (m + 1))) (rv G (ib + (m + 1))) < 0 := Int32.not_lt.mpr (m4.mpr c)
      have k' := m4.mpr c
      simp only [pb_e188, nI17, X.1, X.2.2.2.1, pb_gr, pb_o_some, true_and, hs3, c1, if_false, ata, atb, Option.toList_some, List.singleton_append, h150, A143, e17, nI_add, hS, k, X2.1]
      refine A146 X2 (by omega) (by omega) ni1 ?_
      intro h3 G3 F3 X3 nb3 hv3
      simp only [Option.toList_none, List.nil_append, pb_e188, k, if_false, atb, Option.toList_some, List.singleton_append, X3.1, pb_gr, true_and]
      have vb3 : rv G3 (ib + (m + 1)) = rv G (ib + (m + 1)) := by rw [rv_ne nb3 ni2, vb]
      rw [va] at hv3
      refine A152 X3 (by omega) (by omega) (Ne.symm ni2) (by rw [hv3, vb3]; exact c) ?_
      intro h4 G4 F4 X4 nb4 hv4
      simp only [Option.toList_none, List.nil_append, pb_e188, k', if_true, nI_1]
      refine ih (m + 1) h4 G4 _ _ _ (by omega) (fr_trans F (fr_trans F2 (fr_trans F3 F4))) X4 (NF_trans N (NF_trans (NF_sg (by omega)) (NF_trans (NF_nb (i := r * 17 + (m + 1)) (by omega) nb3) (NF_nb (i := r * 17 + (m + 1)) (by omega) nb4)))) ?_ (fun u u1 u2 => ?_)
      · rw [rv_ne nb4 (by omega), rv_ne nb3 (by omega), hdg, hng1, if_neg (by omega), Nat.add_zero]
      · by_cases e : u = m + 1
        · subst e
          rw [hv4, hv3, vb3, upd_same, hcs]
          exact ⟨by omega, rfl⟩
        · rw [rv_ne nb4 (by omega), rv_ne nb3 (by omega), upd_ne _ _ (by omega)]
          exact hv u u1 (by omega)
    · have k : cm3 (rv G (ia + (m + 1))) (rv G (ib + (m + 1))) < 0 := Int32.not_le.mp (fun e => c (m4.mp e))
      have k' : ¬ 0 ≤ cm3 (rv G (ia + (m + 1))) (rv G (ib + (m + 1))) := fun e => c (m4.mp e)
      simp only [pb_e188, nI17, X.1, X.2.2.2.1, pb_gr, pb_o_some, true_and, hs3, c1, if_false, ata, atb, Option.toList_some, List.singleton_append, h150, A143, e17, nI_add, hS, k, if_true, X2.1]
      refine A146 X2 (by omega) (by omega) ni2 ?_
      intro h3 G3 F3 X3 nb3 hv3
      simp only [Option.toList_none, List.nil_append, pb_e188, k, if_true, ata, Option.toList_some, List.singleton_append, X3.1, pb_gr, true_and]
      have va3 : rv G3 (ia + (m + 1)) = rv G (ia + (m + 1)) := by rw [rv_ne nb3 ni1, va]
      rw [vb] at hv3
      refine A152 X3 (by omega) (by omega) (Ne.symm ni1) (by rw [hv3, va3]; omega) ?_
      intro h4 G4 F4 X4 nb4 hv4
      simp only [Option.toList_none, List.nil_append, pb_e188, k', if_false, A143z, Option.toList_some, List.singleton_append, X4.1, pb_gr, true_and]
      have v0 : rv G4 (r * 17) = rv G ia + ngs d m := by rw [rv_ne nb4 (by omega), rv_ne nb3 (by omega), hdg]
      have vm : rv G4 (r * 17 + (m + 1)) = (d (m + 1)).natAbs := by rw [hv4, hv3, va3]; omega
      refine A151 X4 (by omega) (by omega) (by omega) ?_ ?_
      · rw [v0, vm]
        have f1 : m * (K * 10 ^ 60) ≤ 16 * (20000 * 10 ^ 60) := Nat.mul_le_mul (by omega) (Nat.mul_le_mul_right _ hK)
        have f2 : K * 10 ^ 60 ≤ 20000 * 10 ^ 60 := Nat.mul_le_mul_right _ hK
        have f3 : (d (m + 1)).natAbs ≤ K * 10 ^ 60 := by omega
        have f4 : 20000 * 10 ^ 60 + 16 * (20000 * 10 ^ 60) + 20000 * 10 ^ 60 < 65536 ^ 20 := by decide
        exact Nat.lt_of_le_of_lt (Nat.add_le_add (Nat.add_le_add (Nat.le_trans nbound f2) (Nat.le_trans hnm f1)) (Nat.le_trans f3 f2)) f4
      · intro h5 G5 F5 X5 nb5 hv5
        simp only [Option.toList_none, List.nil_append, pb_e188, nI_1]
        refine ih (m + 1) h5 G5 _ _ _ (by omega) (fr_trans F (fr_trans F2 (fr_trans F3 (fr_trans F4 F5)))) X5 (NF_trans N (NF_trans (NF_sg (by omega)) (NF_trans (NF_nb (i := r * 17 + (m + 1)) (by omega) nb3) (NF_trans (NF_nb (i := r * 17 + (m + 1)) (by omega) nb4) (NF_nb (i := r * 17) (by omega) nb5))))) ?_ (fun u u1 u2 => ?_)
        · rw [hv5, v0, vm, hng1, if_pos (by omega), Nat.add_assoc]
        · by_cases e : u = m + 1
          · subst e
            rw [rv_ne nb5 (by omega), vm, upd_same, hcs]
            exact ⟨rfl, rfl⟩
          · rw [rv_ne nb5 (by omega), rv_ne nb4 (by omega), rv_ne nb3 (by omega), upd_ne _ _ (by omega)]
            exact hv u u1 (by omega)
/-- make -/
theorem U188 {r K : Nat} {least : Bool} {t : Nat → Int} (hV : V ≤ 16) (hX : RX h s G sg) (hs3 : s 3 = nI V) (hr : r < 363) (hr1 : r ≠ 316 ∧ r ≠ 317) (hA : RA V G t K) (hK : K ≤ 20000)
    (hQ : ∀ h' G' sg', fr rS h h' → RX h' s G' sg' → NF (rwS r) G sg G' sg' → RR V G' sg' r (ln_of V (fun u => if least = true then t u else - t u)) → Q none h') : pb_call 188 [.ref 65, .int (nI r), .int (if least = true then 1 else 0)] h Q := by
  have i10 : ¬ (1 : Int32) = 0 := by decide
  rw [pb_c188]
  have hcl : ∀ (ia ib : Nat) (ra rb l2 : Int32) (at0 : ∀ h (Q : Option Value → pb_H → Prop), pb_call 143 [.int ra, .int 0] h Q ↔ Q (some (.int (nI (ia * 20)))) h) (hia : (ia = 5372 ∧ ib = 5389 ∧ ra = 316 ∧ rb = 317) ∨ (ia = 5389 ∧ ib = 5372 ∧ ra = 317 ∧ rb = 316)) (hd : ∀ u, u ≤ V → (rv G (ia + u) : Int) - (rv G (ib + u) : Int) = (if least = true then t u else - t u) ∧ rv G (ia + u) ≤ K * 10 ^ 60 ∧ rv G (ib + u) ≤ K * 10 ^ 60), pb_R 188 29 [some (.ref 65), some (.int (nI r)), some (.int l2), some (.int ra), some (.int rb), none, none, none] [] [] h Q := by
    intro ia ib ra rb l2 at0 hia hd
    simp only [pb_e188, hX.1, pb_gr, true_and]
    refine A161 hX hr ?_
    intro h2 G2 sg2 F2 X2 N2 v2
    have hne : ia ≠ r * 17 ∧ ia < 6171 := by
      obtain ⟨q1, q2⟩ := hr1
      rcases hia with ⟨e1, _⟩ | ⟨e1, _⟩ <;> (rw [e1]; omega)
    have hout : ¬ rwS r ia := by
      obtain ⟨q1, q2⟩ := hr1
      rcases hia with ⟨e1, _⟩ | ⟨e1, _⟩ <;> (rw [e1]; omega)
    simp only [Option.toList_none, List.nil_append, pb_e188, at0, A143z, Option.toList_some, List.singleton_append, X2.1, pb_gr, true_and]
    refine A146 X2 hne.2 (by omega) hne.1 ?_
    intro h3 G3 F3 X3 nb3 hv3
    simp only [Option.toList_none, List.nil_append, pb_e188]
    exact U188_loop (h := h) (G := G) (sg := sg) (ia := ia) (ib := ib) (d := fun u => if least = true then t u else - t u) hV hs3 hr hr1 hia hd hK hQ V 0 h3 G3 sg2 _ _ (by omega) (fr_trans F2 F3) X3 (NF_trans N2 (NF_nb (i := r * 17) (by omega) nb3)) (by rw [hv3, NF_rv N2 hout, show ngs (fun u => if least = true then t u else - t u) 0 = 0 from rfl, Nat.add_zero]) (fun u u1 u2 => by omega)
  cases least
  · have := hcl 5389 5372 317 316 0 (fun h Q => at317z) (Or.inr ⟨rfl, rfl, rfl, rfl⟩) (fun u hu => by
      obtain ⟨a, b, c⟩ := hA u hu
      exact ⟨by rw [if_neg (by decide)]; omega, c, b⟩)
    simp only [pb_e188] at this
    simp only [pb_e188, Bool.false_eq_true, if_false, if_true]
    exact this
  · have := hcl 5372 5389 316 317 1 (fun h Q => at316z) (Or.inl ⟨rfl, rfl, rfl, rfl⟩) (fun u hu => by
      obtain ⟨a, b, c⟩ := hA u hu
      exact ⟨by rw [if_pos rfl]; exact a, b, c⟩)
    simp only [pb_e188] at this
    simp only [pb_e188, if_true, i10, if_false]
    exact this
end MAK
