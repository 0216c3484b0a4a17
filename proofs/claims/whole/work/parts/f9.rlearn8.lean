/-! The reference's learn, put together -/
section RL8
variable {h : pb_H} {Q : Option Value → pb_H → Prop} {V n st lv ch le ac ts m k : Nat} {b : Nat → Nat} {T : Nat → Int} {Lv Rs : Nat → Nat} {l0 : Nat → Bool} {P : List Nat} {X : Nat → LN} {og : Nat → Nat} {s sg ogI : Nat → Int32} {G : Nat → Nat}
/-- the origins -/
def OGs (m : Nat) (f : Nat → Int32) (og : Nat → Nat) : Prop := ∀ j, 1 ≤ j → j ≤ m → f j = nI (og j)
theorem OGs_up {f : Nat → Int32} (h : OGs m f og) : OGs (m + 1) (upd f (m + 1) 4) (un og (m + 1) 4) := fun j j1 j2 => by
  unfold upd un
  by_cases e : j = m + 1
  · rw [if_pos e, if_pos e]; rfl
  · rw [if_neg e, if_neg e]; exact h j j1 (by omega)
theorem U216 (hV : V ≤ 16) (hT : TV V m X T Lv Rs lv ts) (KK : RK h V n b s G sg m X) (h68 : h.2 68 = ci 301 ogI) (hO : OGs m ogI og) (hR : RQs h s V ((st, lv, ch, le, ac), (ts, T, Lv, Rs, l0), P, m, X, og)) (hP : lo P) (k1 : 1 ≤ k) (k2 : k ≤ m) (hb : ln_br V (X k) (asg T ts))
    (hQ : ∀ h' s' G' sg' ogI', fr lnF h h' → RK h' V n b s' G' sg' (lrn V k ((st, lv, ch, le, ac), (ts, T, Lv, Rs, l0), P, m, X, og)).2.2.2.1 (lrn V k ((st, lv, ch, le, ac), (ts, T, Lv, Rs, l0), P, m, X, og)).2.2.2.2.1 → h'.2 68 = ci 301 ogI' → OGs (lrn V k ((st, lv, ch, le, ac), (ts, T, Lv, Rs, l0), P, m, X, og)).2.2.2.1 ogI' (lrn V k ((st, lv, ch, le, ac), (ts, T, Lv, Rs, l0), P, m, X, og)).2.2.2.2.2 → RQs h' s' V (acS (lrn V k ((st, lv, ch, le, ac), (ts, T, Lv, Rs, l0), P, m, X, og)) ac) → kp leK s s' → Q none h') : pb_call 216 [.ref 65, .int (nI k)] h Q := by
  have hlv : lv ≤ ts := TV_lv hT
  have htV := hT.1
  have m300 := KK.2.2.1
  have h3 : s 3 = nI V := KK.1.2.2.2.2.2
  have hPl : P.length ≤ 20000 := hR.2.1
  refine U216_0 hV hT KK hR k1 k2 ?_
  intro h1 s1 G1 sg1 t1 W1 R1
  obtain ⟨⟨a1, a2, a3, a4, a5, a6, a7⟩, bb, ⟨pr, c1, c2, c3⟩, ⟨f, d1, d2⟩, ⟨g, e1, e2⟩, ⟨f1, f2, f3, g1, g2, g3, g4⟩, ⟨tt, i1⟩, dd, j1⟩ := id hR
  have a2' : s 23 = nI lv := a2
  have hl1 : lon (60000 - 2000 * ts) (P ++ [112, 32] ++ dec k) := lon_app (m := 20002) (n := 80) (lon_app (m := 20000) (n := 2) ⟨hP, hPl⟩ (lon_2 (by omega) (by omega)) (by omega)) (lon_dec k) (by omega)
  refine U216_57 (Pp := P) (K0 := X k) (P0 := P ++ [112, 32] ++ dec k) hV (by omega) hT m300 h3 a2 a3 g1 g2 g3 g4 KK.2.2.2 ?_ ?_ ts h1 s1 G1 sg1 t1 (X k) _ (Nat.le_refl _) W1 R1 (KK.2.2.2.2 k k1 k2) hl1 (by rw [List.append_assoc]; exact ⟨_, rfl⟩) rfl
  · intro h2 s2 G2 sg2 t2 K L2 nn er W2 R2 fK hl2 hp
    have el : lrn V k ((st, lv, ch, le, ac), (ts, T, Lv, Rs, l0), P, m, X, og) = if m < 300 ∧ (L2 ++ edt m lv).length ≤ 20000 then
        (if lv = 0 then ((3, lv, ch, le + 1, ac + 1), (ts, T, Lv, Rs, l0), L2 ++ edt m lv, m + 1, lput X (m + 1) K, un og (m + 1) 4)
        else ((st, rdy V K T Lv ts lv 0, ch, le + 1, ac + 1), (szl Lv (rdy V K T Lv ts lv 0) ts, T, Lv, Rs, l0), L2 ++ edt m lv, m + 1, lput X (m + 1) K, un og (m + 1) 4))
        else ((4, lv, ch, le, ac + 1), (ts, T, Lv, Rs, l0), P, m, X, og) := by
      unfold lrn
      simp only [er]
    have hrd := rsv_rdy hT ts _ _ _ (Nat.le_refl _) hb er
    refine U216_104 (lv := lv) W2 (by omega) m300 (by omega) a2' KK.2.1 ?_
    intro h4 s4 G4 W4 N4
    have hed := (edt_lon m lv).2
    refine U216_157 hV hT KK h68 hR W4 (by rw [List.length_append]; omega) (pre_trans hp ⟨_, rfl⟩) (RR_NF N4 (fun v hv => by omega) R2) fK (fun w => by
      rcases hrd with q | q
      · exact absurd q w
      · exact q) ?_ ?_ ?_
    · intro h' s' G' sg' hn F K' e6 R' p
      rw [el, if_neg hn] at hQ
      exact hQ h' s' G' sg' ogI F K' e6 hO R' p
    · intro h' s' G' sg' q1 q2 q3 F K' e6 R' p
      rw [el, if_pos ⟨q1, q2⟩, if_pos q3] at hQ
      exact hQ h' s' G' sg' _ F K' e6 (OGs_up hO) R' p
    · intro h' s' G' sg' q1 q2 q3 F K' e6 R' p
      rw [el, if_pos ⟨q1, q2⟩, if_neg q3] at hQ
      exact hQ h' s' G' sg' _ F K' e6 (OGs_up hO) R' p
  · intro h2 s2 G2 sg2 t2 L2 nn er W2 hl2 hp
    have el : lrn V k ((st, lv, ch, le, ac), (ts, T, Lv, Rs, l0), P, m, X, og) = ((4, lv, ch, le, ac + 1), (ts, T, Lv, Rs, l0), P, m, X, og) := by
      unfold lrn
      simp only [er]
    rw [el] at hQ
    refine U216_104 (lv := lv) W2 (by omega) m300 (by omega) a2' KK.2.1 ?_
    intro h4 s4 G4 W4 N4
    have K4 := RK_LQ hV KK W4
    have Q4 := RQs_LQ hR W4 (pre_trans hp ⟨_, rfl⟩)
    have key := U216_182 (Q := Q) (l1 := some (.int (nI k))) (l2 := some (.int nn)) (l3 := some (.int (-1))) (l4 := some (.int 0)) (l5 := none) W4.2.1 Q4 (fun h5 F5 X5 R5 => hQ h5 _ G4 sg2 ogI (fr_trans (fr_mono (fun q w => by omega) W4.1) (fr_mono (fun q w => Or.inl w) F5)) (RK_s K4 X5 (F5.2.2 69 (by omega)) rfl rfl rfl) ((F5.2.2 68 (by omega)).trans ((W4.1.2.2 68 (by omega)).trans h68)) hO R5 (fun j hj => by
      show (if j = 22 then _ else _) = _
      rw [if_neg (by omega)]
      exact W4.2.2.1 j (by omega)))
    simp only [pb_e216, W4.2.1.1, pb_gr, pb_o_some] at key
    simp only [pb_e216, if_true, W4.2.1.1, pb_gr, pb_o_some]
    exact key
end RL8
