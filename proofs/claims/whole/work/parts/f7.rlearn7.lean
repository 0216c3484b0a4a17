/-! The reference's learn -/
section RL7
variable {h : pb_H} {Q : Option Value → pb_H → Prop} {V n st lv ch le ac ts m k : Nat} {b : Nat → Nat} {T : Nat → Int} {Lv Rs : Nat → Nat} {l0 : Nat → Bool} {P : List Nat} {X : Nat → LN} {og : Nat → Nat} {s sg ogI : Nat → Int32} {G : Nat → Nat}
/-- up to the loop -/
theorem U216_0 (hV : V ≤ 16) (hT : TV V m X T Lv Rs lv ts) (KK : RK h V n b s G sg m X) (hR : RQs h s V ((st, lv, ch, le, ac), (ts, T, Lv, Rs, l0), P, m, X, og)) (k1 : 1 ≤ k) (k2 : k ≤ m)
    (hQ : ∀ h' s' G' sg' t', LQ h s G sg t' h' s' G' sg' (P ++ [112, 32] ++ dec k) → RR V G' sg' 314 (X k) → pb_R 216 57 [some (.ref 65), some (.int (nI k)), some (.int (nI ts)), some (.int (rdv V (X k) T Lv ts lv)), some (.int 1), none] [] [] h' Q) : pb_call 216 [.ref 65, .int (nI k)] h Q := by
  have e112 : wu (112 : Int32) % 256 = 112 := by decide
  have e32 : wu (32 : Int32) % 256 = 32 := by decide
  have i314 : (314 : Int32) = nI 314 := rfl
  have m300 := KK.2.2.1
  have hlv : lv ≤ ts := TV_lv hT
  have htV := hT.1
  have X0 := KK.1.1
  have h3 : s 3 = nI V := KK.1.2.2.2.2.2
  obtain ⟨⟨a1, a2, a3, a4, a5, a6, a7⟩, bb, ⟨pr, c1, c2, c3⟩, ⟨f, d1, d2⟩, ⟨g, e1, e2⟩, ⟨f1, f2, f3, g1, g2, g3, g4⟩, ⟨tt, i1⟩, dd, j1⟩ := hR
  have a2 : s 23 = nI lv := a2
  have a3 : s 24 = nI ts := a3
  have a7 : s 34 = nI P.length := a7
  have bb : P.length ≤ 20000 := bb
  have is65 : pb_is0 (h.2 65) 12 = true := by rw [X0.1]; rfl
  rw [pb_c216]
  simp only [pb_e216, is65, true_and, i314]
  refine A162 (q := k) (r := 314) X0 (by omega) (by omega) (by omega) ?_
  intro h1 G1 sg1 F1 X1 N1 cp1
  have R1 : RR V G1 sg1 314 (X k) := RR_copy hV cp1 (KK.2.2.2.1 k k1 k2)
  have X2 := (RX_obj X1 (s' := upd s 35 (nI P.length))).1
  have F2 := (RX_obj X1 (s' := upd s 35 (nI P.length))).2
  have W2 : LQ h s G sg tt (pb_set h1 65 (rm (upd s 35 (nI P.length)))) (upd s 35 (nI P.length)) G1 sg1 P := ⟨fr_mono (fun q w => Or.inl w) (fr_trans F1 F2), X2, fun j hj => by unfold upd; rw [if_neg (by omega)], NF_mono (fun i w => Or.inl w) N1, ⟨rfl, by omega, pr, (F2.2.2 80 (by omega)).trans ((F1.2.2 80 (by omega)).trans c1), c2, fun i hi _ => c3 i hi⟩, (F2.2.2 81 (by omega)).trans ((F1.2.2 81 (by omega)).trans i1), dd, (F2.2.2 82 (by omega)).trans ((F1.2.2 82 (by omega)).trans j1)⟩
  simp only [Option.toList_none, List.nil_append, pb_e216, X1.1, pb_gr, pb_o_some, a7, LQ_is W2, true_and]
  refine A209 X2 W2.2.2.2.2.1 e112 (by omega) ?_
  intro h4 s4 F4 X4 B4 q4 p4
  have W4 := LQ_txt W2 F4 X4 B4 q4 p4
  simp only [Option.toList_none, List.nil_append, pb_e216, LQ_is W4, true_and]
  refine A209 X4 B4 e32 (by rw [List.length_append]; show _ + 1 + 1 < _; omega) ?_
  intro h5 s5 F5 X5 B5 q5 p5
  have W5 := LQ_txt W4 F5 X5 B5 q5 p5
  obtain ⟨d5, w5⟩ := W5.2.2.2.2.2.2
  simp only [Option.toList_none, List.nil_append, pb_e216, LQ_is W5, true_and]
  refine A211 X5 B5 w5 (by omega) (by rw [List.length_append, List.length_append]; show _ + 1 + 1 + 80 < _; omega) ?_
  intro h6 s6 G6 dg6 F6 X6 N6 B6 q6 p6
  have W6 := LQ_num W5 F6 X6 N6 (fun i w => Or.inr (Or.inr (by omega))) B6 q6 p6
  have et : P ++ [112] ++ [32] ++ dec k = P ++ [112, 32] ++ dec k := by simp only [List.append_assoc, List.cons_append, List.nil_append]
  rw [et] at W6
  have R6 : RR V G6 sg1 314 (X k) := RR_NF N6 (fun v hv => by omega) R1
  have k23 : s6 23 = nI lv := (W6.2.2.1 23 (by omega)).trans a2
  have k24 : s6 24 = nI ts := (W6.2.2.1 24 (by omega)).trans a3
  have k3 : s6 3 = nI V := (W6.2.2.1 3 (by omega)).trans h3
  by_cases c0 : lv = 0
  · have z0 : nI lv ≤ 0 := by rw [c0]; decide
    have key := hQ h6 s6 G6 sg1 tt W6 R6
    have ev : rdv V (X k) T Lv ts lv = -1 := by unfold rdv; rw [if_neg (by omega)]
    rw [ev] at key
    simp only [Option.toList_none, List.nil_append, pb_e216, X6.1, pb_gr, pb_o_some, k24, k23, z0, if_true]
    exact key
  · have z0 : ¬ nI lv ≤ 0 := nI_nle (by omega) (by omega)
    simp only [Option.toList_none, List.nil_append, pb_e216, X6.1, pb_gr, pb_o_some, k24, k23, z0, if_false, true_and]
    refine U213 hV htV (by omega) hT.2.1 hT.2.2.2.2.1 (fun i hi => by have := hT.2.2.2.1 i hi; omega) X6 k3 k23 k24 ((W6.1.2.2 77 (by omega)).trans g1) ((W6.1.2.2 78 (by omega)).trans g2) W6.2.2.2.2.2.1 (fun i hi => ⟨(g4 i hi).1, (g4 i hi).2.1⟩) R6 (KK.2.2.2.2 k k1 k2) ?_
    intro h7 G7 t7 F7 X7 N7 e7
    have W7 : LQ h s G sg t7 h7 s6 G7 sg1 (P ++ [112, 32] ++ dec k) := by
      obtain ⟨w1, w2, w3, w4, w5', w6, d, w7⟩ := W6
      exact ⟨fr_trans w1 (fr_mono (fun q w => by omega) F7), X7, w3, NF_trans w4 (NF_mono (fun i w => by omega) N7), RW_fr F7 (by omega) rfl w5', e7, d, (F7.2.2 82 (by omega)).trans w7⟩
    have key := hQ h7 s6 G7 sg1 t7 W7 (RR_NF N7 (fun v hv => by omega) R6)
    simp only [Option.toList_some, List.singleton_append, pb_e216]
    exact key
end RL7
