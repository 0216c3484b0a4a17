/-! The reference's act -/
section RA2
variable {h : pb_H} {Q : Option Value → pb_H → Prop} {V n st lv ch le ac ts m : Nat} {b : Nat → Nat} {T : Nat → Int} {Lv Rs : Nat → Nat} {l0 : Nat → Bool} {P : List Nat} {X : Nat → LN} {og : Nat → Nat} {s sg ogI : Nat → Int32} {G : Nat → Nat}
/-- nothing to do: a CHOICE, or the end -/
theorem U218_68 {l1 l2 : Option Value} (hV : V ≤ 16) (hT : TV V m X T Lv Rs lv ts) (hq : ∀ w, 1 ≤ w → w ≤ m → quiet V (X w) (asg T ts)) (KK : RK h V n b s G sg m X) (hR : RQs h s V ((st, lv, ch, le, ac), (ts, T, Lv, Rs, l0), P, m, X, og))
    (hQ : ∀ h' s', fr lnF h h' → RK h' V n b s' G sg m X → h'.2 68 = h.2 68 → RQs h' s' V (acS (actS V ((st, lv, ch, le, ac), (ts, T, Lv, Rs, l0), P, m, X, og)) ac) → kp leK s s' → (actS V ((st, lv, ch, le, ac), (ts, T, Lv, Rs, l0), P, m, X, og)).2.2.2 = (m, X, og) → Q none h') : pb_R 218 68 [some (.ref 65), l1, l2] [] [] h Q := by
  have efn : fnq V X (asg T ts) m 1 = none := fnq_no (fun w w1 w2 => hq w w1 (by omega))
  have X0 := KK.1.1
  have h3 : s 3 = nI V := KK.1.2.2.2.2.2
  obtain ⟨⟨a1, a2, a3, a4, a5, a6, a7⟩, bb, cc, ⟨f, d1, d2⟩, ⟨g, e1, e2⟩, rest⟩ := id hR
  have a2 : s 23 = nI lv := a2
  have a4 : s 25 = nI ch := a4
  have htV := hT.1
  have fin : ∀ r v, v + r = V + 1 → 1 ≤ v → (∀ u, 1 ≤ u → u < v → asg T ts u ≠ none) → pb_R 218 70 [some (.ref 65), some (.int (nI v)), l2] [] [] h Q := by
    intro r
    induction r with
    | zero =>
      intro v hv v1 hu
      obtain rfl : v = V + 1 := by omega
      have c1 : nI V < nI (V + 1) := nI_lt (by omega) (by omega)
      have nf : ¬ ts < V := fun w => by
        have hcnt := TV_cnt hT
        obtain ⟨v, v1, v2, v3, v4⟩ := cnt_some (asg T ts) V (by omega)
        exact hu v v1 (by omega) v3
      have eac : actS V ((st, lv, ch, le, ac), (ts, T, Lv, Rs, l0), P, m, X, og) = ((2, lv, ch, le, ac + 1), (ts, T, Lv, Rs, l0), P, m, X, og) := by
        unfold actS
        simp only [efn]
        rw [if_neg nf]
      rw [eac] at hQ
      have X1 := (RX_obj X0 (s' := upd s 22 2))
      have key := hQ _ (upd s 22 2) (fr_mono (fun q w => Or.inl w) X1.2) (RK_s KK X1.1 (X1.2.2.2 69 (by omega)) rfl rfl rfl) (X1.2.2.2 68 (by omega)) (RQs_22 (x := 2) X0 hR) (fun k hk => by
        show (if k = 22 then _ else _) = _
        rw [if_neg (by omega)]) rfl
      rw [pb_q218_70]
      simp only [pb_e218, X0.1, pb_gr, pb_o_some, h3, c1, if_true]
      exact key
    | succ r ih =>
      intro v hv v1 hu
      have c1 : ¬ nI V < nI v := nI_nlt (by omega) (by omega)
      have hg := pb_ai_eq (k := 0) (n := 17) (j := v) (f := f) (Or.inl rfl) (by omega) (by omega)
      rw [d2 v v1 (by omega)] at hg
      rw [pb_q218_70]
      by_cases cn : asg T ts v = none
      · have en : avI (asg T ts v) = -1 := by rw [cn]; rfl
        have ga := pb_ai_eq (k := 0) (n := 17) (j := v) (f := g) (Or.inl rfl) (by omega) (by omega)
        rw [e2 v v1 (by omega)] at ga
        have hga : (if ((st, lv, ch, le, ac), (ts, T, Lv, Rs, l0), P, m, X, og).2.1.2.2.2.2 v = true then (1 : Int32) else 0) = (if l0 v = true then 1 else 0) := rfl
        rw [hga] at ga
        have cf := TV_free hT v1 (by omega) cn
        have elu : lun (asg T ts) V 1 = v := lun_at v1 (by omega) cn (fun w w1 w2 => hu w w1 w2)
        have eac : actS V ((st, lv, ch, le, ac), (ts, T, Lv, Rs, l0), P, m, X, og) = ((st, lv + 1, ch + 1, le, ac + 1), psh (ts, T, Lv, Rs, l0) (vlz (l0 v) v) (lv + 1) 0, P, m, X, og) := by
          unfold actS
          simp only [efn]
          rw [if_pos cf, elu]
          rfl
        rw [eac] at hQ
        have X1 := (RX_obj X0 (s' := upd (upd s 23 (nI (lv + 1))) 25 (nI (ch + 1))))
        have R1 := RQs_ch X0 hR
        have g65 : ∀ x, (pb_set h 65 x).2 65 = x := fun x => by rw [pb_set_get, if_pos rfl]
        have g76 : ∀ x, (pb_set h 65 x).2 76 = ci 17 g := fun x => by rw [pb_set_get, if_neg (by omega), e1]
        have u25 : ∀ x, upd s 23 x 25 = s 25 := fun x => by unfold upd; rw [if_neg (by omega)]
        have i0 : (0 : Int32) = nI 0 := rfl
        suffices key : pb_call 217 [.ref 65, .int (nI v), .int (if l0 v = true then 1 else 0), .int (nI 0)] (pb_set h 65 (rm (upd (upd s 23 (nI (lv + 1))) 25 (nI (ch + 1))))) (fun v_1 t => pb_R 218 120 [some (.ref 65), some (.int (nI v)), l2] [] (v_1.toList ++ []) t Q) by
          simp only [pb_e218, X0.1, pb_gr, pb_o_some, h3, c1, if_false, d1, hg, en, not_true_eq_false, a2, nI_1, g65, u25, a4, pb_set_same, g76, ga, true_and] at key ⊢
          exact key
        refine U217 hV v1 (by omega) (by omega) X1.1 R1 ?_
        intro h2 s2 F2 X2 R2 p2
        have key := hQ h2 s2 (fr_trans (fr_mono (fun q w => Or.inl w) X1.2) (fr_mono (fun q w => by omega) F2)) (RK_s (RK_s KK X1.1 (X1.2.2.2 69 (by omega)) rfl rfl rfl) X2 (F2.2.2 69 (by omega)) (p2 3 (by omega)) (p2 4 (by omega)) (p2 7 (by omega))) ((F2.2.2 68 (by omega)).trans (X1.2.2.2 68 (by omega))) R2 (fun k hk => (p2 k (by omega)).trans (by
          show (if k = 25 then _ else if k = 23 then _ else _) = _
          rw [if_neg (by omega), if_neg (by omega)])) rfl
        simp only [Option.toList_none, List.nil_append, pb_e218]
        exact key
      · have en : ¬ avI (asg T ts v) = -1 := by
          cases e : asg T ts v with
          | none => exact absurd e cn
          | some q => cases q <;> decide
        simp only [pb_e218, X0.1, pb_gr, pb_o_some, h3, c1, if_false, d1, hg, en, not_false_eq_true, if_true, nI_1]
        refine ih (v + 1) (by omega) (by omega) (fun u u1 u2 => ?_)
        by_cases e : u = v
        · rw [e]; exact cn
        · exact hu u u1 (by omega)
  have key := fin V 1 (by omega) (by omega) (fun u u1 u2 => by omega)
  simp only [pb_e218]
  exact key
end RA2
