/-! The reference's act: the whole -/
section RA3
variable {Q : Option Value → pb_H → Prop} {V n st lv ch le ac ts m : Nat} {b : Nat → Nat} {T : Nat → Int} {Lv Rs : Nat → Nat} {l0 : Nat → Bool} {P : List Nat} {X : Nat → LN} {og : Nat → Nat} {s sg ogI : Nat → Int32}
theorem actS_br {k : Nat} {z : SS} (e : fnq V z.2.2.2.2.1 (asg z.2.1.2.1 z.2.1.1) z.2.2.2.1 1 = some k) (hb : ln_br V (z.2.2.2.2.1 k) (asg z.2.1.2.1 z.2.1.1)) : actS V z = lrn V k z := by
  have hb' : brb V (z.2.2.2.2.1 k) (asg z.2.1.2.1 z.2.1.1) = true := by
    unfold brb
    exact @decide_eq_true _ (Classical.propDecidable _) hb
  unfold actS
  simp only [e]
  rw [if_pos hb']
theorem actS_fc {k v : Nat} {z : SS} (e : fnq V z.2.2.2.2.1 (asg z.2.1.2.1 z.2.1.1) z.2.2.2.1 1 = some k) (hb : ¬ ln_br V (z.2.2.2.2.1 k) (asg z.2.1.2.1 z.2.1.1)) (hv : lfv V (z.2.2.2.2.1 k) (asg z.2.1.2.1 z.2.1.1) V 1 = v) : actS V z = ((z.1.1, z.1.2.1, z.1.2.2.1, z.1.2.2.2.1, z.1.2.2.2.2 + 1), psh z.2.1 (vlz (decide (0 < (z.2.2.2.2.1 k).2 v)) v) z.1.2.1 k, z.2.2) := by
  have hb' : ¬ brb V (z.2.2.2.2.1 k) (asg z.2.1.2.1 z.2.1.1) = true := by
    unfold brb
    exact fun w => hb (@of_decide_eq_true _ (Classical.propDecidable _) w)
  unfold actS
  simp only [e]
  rw [if_neg hb', hv, vlz_ltz]
set_option maxRecDepth 100000 in
theorem U218 {h : pb_H} {G : Nat → Nat} (hV : V ≤ 16) (hT : TV V m X T Lv Rs lv ts) (KK : RK h V n b s G sg m X) (h68 : h.2 68 = ci 301 ogI) (hO : OGs m ogI og) (hR : RQs h s V ((st, lv, ch, le, ac), (ts, T, Lv, Rs, l0), P, m, X, og)) (hP : lo P)
    (hQ : ∀ h' s' G' sg' ogI', fr lnF h h' → RK h' V n b s' G' sg' (actS V ((st, lv, ch, le, ac), (ts, T, Lv, Rs, l0), P, m, X, og)).2.2.2.1 (actS V ((st, lv, ch, le, ac), (ts, T, Lv, Rs, l0), P, m, X, og)).2.2.2.2.1 → h'.2 68 = ci 301 ogI' → OGs (actS V ((st, lv, ch, le, ac), (ts, T, Lv, Rs, l0), P, m, X, og)).2.2.2.1 ogI' (actS V ((st, lv, ch, le, ac), (ts, T, Lv, Rs, l0), P, m, X, og)).2.2.2.2.2 → RQs h' s' V (acS (actS V ((st, lv, ch, le, ac), (ts, T, Lv, Rs, l0), P, m, X, og)) ac) → kp leK s s' → Q none h') : pb_call 218 [.ref 65] h Q := by
  have m3 := KK.2.2.1
  have e17 : (17 : Int32) = nI 17 := rfl
  have loop : ∀ r k l2 h1 G1, k + r = m + 1 → 1 ≤ k → fr rS h h1 → RK h1 V n b s G1 sg m X → (∀ w, 1 ≤ w → w < k → quiet V (X w) (asg T ts)) → pb_R 218 2 [some (.ref 65), some (.int (nI k)), l2] [] [] h1 Q := by
    intro r
    induction r with
    | zero =>
      intro k l2 h1 G1 hk k1 F1 K1 hq
      have c1 : nI m < nI k := nI_lt (by omega) (by omega)
      have R1 : RQs h1 s V ((st, lv, ch, le, ac), (ts, T, Lv, Rs, l0), P, m, X, og) := RQs_fr F1 (fun q w => by omega) (fun _ _ _ => rfl) hR
      rw [pb_q218_2]
      suffices key : pb_R 218 68 [some (.ref 65), some (.int (nI k)), l2] [] [] h1 Q by
        simp only [pb_e218, K1.1.1.1, pb_gr, pb_o_some, K1.2.1, c1, if_true] at key ⊢
        exact key
      refine U218_68 hV hT (fun w w1 w2 => hq w w1 (by omega)) K1 R1 ?_
      intro h' s' F' K' e68 R' p' e3
      refine hQ h' s' G1 sg ogI (fr_trans (fr_mono (fun q w => Or.inl w) F1) F') ?_ (e68.trans ((F1.2.2 68 (by omega)).trans h68)) ?_ R' p'
      · rw [e3]; exact K'
      · rw [e3]; exact hO
    | succ r ih =>
      intro k l2 h1 G1 hk k1 F1 K1 hq
      have c1 : ¬ nI m < nI k := nI_nlt (by omega) (by omega)
      have R1 : RQs h1 s V ((st, lv, ch, le, ac), (ts, T, Lv, Rs, l0), P, m, X, og) := RQs_fr F1 (fun q w => by omega) (fun _ _ _ => rfl) hR
      obtain ⟨f, d1, d2⟩ := id R1.2.2.2.1
      have hRR := K1.2.2.2.1 k k1 (by omega)
      have hfit := K1.2.2.2.2 k k1 (by omega)
      rw [pb_q218_2]
      suffices key : pb_call 172 [.ref 65, .int (nI k), .ref 75] h1 (fun v_1 t => pb_R 218 19 [some (.ref 65), some (.int (nI k)), l2] [] (v_1.toList ++ []) t Q) by
        simp only [pb_e218, K1.1.1.1, pb_gr, pb_o_some, K1.2.1, c1, if_false, true_and] at key ⊢
        exact key
      refine A172 (c := 75) K1.1.1 K1.1.2.2.2.2.2 hV (by omega) hRR hfit d1 (by omega) d2 ?_
      intro h2 G2 z F2 X2 N2 hz
      have F12 := fr_trans F1 F2
      have K2 : RK h2 V n b s G2 sg m X := RK_up hV K1 (RZ_fr K1.1 F2 X2 rfl rfl) rfl N2 (fun i w => by omega)
      have R2 : RQs h2 s V ((st, lv, ch, le, ac), (ts, T, Lv, Rs, l0), P, m, X, og) := RQs_fr F2 (fun q w => by omega) (fun _ _ _ => rfl) R1
      simp only [Option.toList_some, List.singleton_append]
      by_cases cb : z = -1
      · have hb := (LSt_br hV hz).mp cb
        have efn : fnq V X (asg T ts) m 1 = some k := fnq_at k1 (by omega) (fun w => w.1 hb) hq
        have eact : actS V ((st, lv, ch, le, ac), (ts, T, Lv, Rs, l0), P, m, X, og) = lrn V k ((st, lv, ch, le, ac), (ts, T, Lv, Rs, l0), P, m, X, og) := actS_br efn hb
        suffices key : pb_call 216 [.ref 65, .int (nI k)] h2 (fun v_1 t => pb_R 218 30 [some (.ref 65), some (.int (nI k)), some (.int (-1))] [] (v_1.toList ++ []) t Q) by
          subst cb
          simp only [pb_e218, X2.1, pb_gr, pb_o_some, not_true_eq_false, if_false, true_and] at key ⊢
          exact key
        refine U216 hV hT K2 ((F12.2.2 68 (by omega)).trans h68) hO R2 hP k1 (by omega) hb ?_
        intro h' s' G' sg' ogI' F' K' o1 o2 R' p'
        rw [← eact] at K' o2 R'
        have key := hQ h' s' G' sg' ogI' (fr_trans (fr_mono (fun q w => Or.inl w) F12) F') K' o1 o2 R' p'
        simp only [Option.toList_none, List.nil_append, pb_e218]
        exact key
      · have nb : ¬ ln_br V (X k) (asg T ts) := fun w => cb ((LSt_br hV hz).mpr w)
        by_cases c0 : z = 0
        · have hqk := (LSt_0 hV hz).mp c0
          have n1 : ¬ (0 : Int32) = -1 := by decide
          have n2 : (0 : Int32) ≤ 0 := by decide
          subst c0
          simp only [pb_e218, cb, not_false_eq_true, if_true, n2, nI_1]
          exact ih (k + 1) _ h2 G2 (by omega) (by omega) F12 K2 (fun w w1 w2 => by
            by_cases e : w = k
            · rw [e]; exact hqk
            · exact hq w w1 (by omega))
        · obtain ⟨v, v1, v2, v3, v4, v5⟩ := LSt_fc hz nb c0
          have efn : fnq V X (asg T ts) m 1 = some k := fnq_at k1 (by omega) (fun w => w.2 v v1 v2 v3) hq
          have elf : lfv V (X k) (asg T ts) V 1 = v := lfv_at v1 (by omega) v3 v4
          have eact : actS V ((st, lv, ch, le, ac), (ts, T, Lv, Rs, l0), P, m, X, og) = _ := actS_fc efn nb elf
          have hsg := (K2.2.2.2.1 k k1 (by omega)).2 v v1 v2
          have gs := pb_ai_eq (k := 0) (n := 6171) (j := k * 17 + v) (f := sg) (Or.inl rfl) (by omega) (by omega)
          have cz : ¬ nI v ≤ 0 := by
            have : (0 : Int32) = nI 0 := rfl
            rw [this]
            exact nI_ge (by omega) (by omega)
          have gs' : pb_ai (ci 6171 sg) (nI (k * 17) + nI v) = some (sg (k * 17 + v)) := by rw [nI_add]; exact gs
          have hts := hT.1
          suffices key : pb_call 217 [.ref 65, .int (nI v), .int (if decide (0 < (X k).2 v) = true then 1 else 0), .int (nI k)] h2 (fun v_1 t => pb_R 218 61 [some (.ref 65), some (.int (nI k)), some (.int (nI v))] [] (v_1.toList ++ []) t Q) by
            rw [v5] at cb ⊢
            rcases sgI_cases ((X k).2 v) with ⟨q1, q2⟩ | ⟨q1, q2⟩ | ⟨q1, q2⟩
            · have gg := gs'
              rw [hsg.2, q2] at gg
              rw [decide_eq_true q1] at key
              simp only [pb_e218, X2.1, X2.2.2.2.1, pb_gr, pb_o_some, cb, not_false_eq_true, if_true, cz, if_false, e17, nI_mul, gg, not_true_eq_false, true_and] at key ⊢
              exact key
            · have gg := gs'
              rw [hsg.2, q2] at gg
              rw [decide_eq_false (by omega)] at key
              have n1 : ¬ (-1 : Int32) = 1 := by decide
              simp only [pb_e218, X2.1, X2.2.2.2.1, pb_gr, pb_o_some, cb, not_false_eq_true, if_true, cz, if_false, e17, nI_mul, gg, n1, Bool.false_eq_true, true_and] at key ⊢
              exact key
            · have gg := gs'
              rw [hsg.2, q2] at gg
              rw [decide_eq_false (by omega)] at key
              have n1 : ¬ (0 : Int32) = 1 := by decide
              simp only [pb_e218, X2.1, X2.2.2.2.1, pb_gr, pb_o_some, cb, not_false_eq_true, if_true, cz, if_false, e17, nI_mul, gg, n1, Bool.false_eq_true, true_and] at key ⊢
              exact key
          refine U217 hV v1 v2 (by omega) X2 R2 ?_
          intro h' s' F' X' R' p'
          rw [eact] at hQ
          have key := hQ h' s' G2 sg ogI (fr_trans (fr_mono (fun q w => Or.inl w) F12) (fr_mono (fun q w => by omega) F')) (RK_s K2 X' (F'.2.2 69 (by omega)) (p' 3 (by omega)) (p' 4 (by omega)) (p' 7 (by omega))) ((F'.2.2 68 (by omega)).trans ((F12.2.2 68 (by omega)).trans h68)) hO R' (fun k hk => p' k (by omega))
          simp only [Option.toList_none, List.nil_append, pb_e218]
          exact key
  have key := loop m 1 none h G (by omega) (by omega) (fr_refl _ _) KK (fun w w1 w2 => by omega)
  rw [pb_c218]
  simp only [pb_e218]
  exact key
end RA3
