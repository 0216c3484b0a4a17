/-! The reference's learn: the switch -/
section RL6
variable {h : pb_H} {Q : Option Value → pb_H → Prop} {V n st lv ch le ac ts m : Nat} {b : Nat → Nat} {T : Nat → Int} {Lv Rs : Nat → Nat} {l0 : Nat → Bool} {P : List Nat} {X : Nat → LN} {og : Nat → Nat} {s sg ogI : Nat → Int32} {G : Nat → Nat}
abbrev leK : Nat → Prop := fun k => lnK k ∨ k = 14 ∨ k = 35
theorem RK_LQ {h' : pb_H} {s' sg' t : Nat → Int32} {G' : Nat → Nat} {L : List Nat} (hV : V ≤ 16) (KK : RK h V n b s G sg m X) (W : LQ h s G sg t h' s' G' sg' L) : RK h' V n b s' G' sg' m X := by
  obtain ⟨w1, w2, w3, w4, _⟩ := W
  obtain ⟨z1, z2, z3, z4, z5, z6⟩ := KK.1
  exact RK_up hV KK ⟨w2, (w1.2.2 69 (by omega)).trans z2, (w3 7 (by omega)).trans z3, z4, z5, (w3 3 (by omega)).trans z6⟩ (w3 4 (by omega)) w4 (fun i w => by omega)
/-- it did FIT -/
theorem U216_157 {h1 : pb_H} {s1 sg1 t : Nat → Int32} {G1 : Nat → Nat} {K : LN} {L : List Nat} {l1 l2 : Option Value} (hV : V ≤ 16) (hT : TV V m X T Lv Rs lv ts) (KK : RK h V n b s G sg m X) (h68 : h.2 68 = ci 301 ogI) (hR : RQs h s V ((st, lv, ch, le, ac), (ts, T, Lv, Rs, l0), P, m, X, og)) (W : LQ h s G sg t h1 s1 G1 sg1 L) (hl : L.length ≤ 70000) (hp : ∃ M, L = P ++ M) (R3 : RR V G1 sg1 314 K) (fK : ln_fit V K) (hr : lv ≠ 0 → rdy V K T Lv ts lv 0 < lv)
    (hQF : ∀ h' s' G' sg', ¬ (m < 300 ∧ L.length ≤ 20000) → fr lnF h h' → RK h' V n b s' G' sg' m X → h'.2 68 = ci 301 ogI → RQs h' s' V ((4, lv, ch, le, ac), (ts, T, Lv, Rs, l0), P, m, X, og) → kp leK s s' → Q none h')
    (hQ0 : ∀ h' s' G' sg', m < 300 → L.length ≤ 20000 → lv = 0 → fr lnF h h' → RK h' V n b s' G' sg' (m + 1) (lput X (m + 1) K) → h'.2 68 = ci 301 (upd ogI (m + 1) 4) → RQs h' s' V ((3, lv, ch, le + 1, ac), (ts, T, Lv, Rs, l0), L, m + 1, lput X (m + 1) K, un og (m + 1) 4) → kp leK s s' → Q none h')
    (hQ1 : ∀ h' s' G' sg', m < 300 → L.length ≤ 20000 → lv ≠ 0 → fr lnF h h' → RK h' V n b s' G' sg' (m + 1) (lput X (m + 1) K) → h'.2 68 = ci 301 (upd ogI (m + 1) 4) → RQs h' s' V ((st, rdy V K T Lv ts lv 0, ch, le + 1, ac), (szl Lv (rdy V K T Lv ts lv 0) ts, T, Lv, Rs, l0), L, m + 1, lput X (m + 1) K, un og (m + 1) 4) → kp leK s s' → Q none h') : pb_R 216 157 [some (.ref 65), l1, l2, some (.int (rdv V K T Lv ts lv)), some (.int 1), none] [] [] h1 Q := by
  have n10 : ¬ (1 : Int32) = 0 := by decide
  have e300 : (300 : Int32) = nI 300 := rfl
  have e20 : (20000 : Int32) = nI 20000 := rfl
  have K1 := RK_LQ hV KK W
  have Q1 := RQs_LQ hR W hp
  have X1 := W.2.1
  have m300 := KK.2.2.1
  have k4 : s1 4 = nI m := K1.2.1
  have k35 : s1 35 = nI L.length := W.2.2.2.2.1.1
  have F1 : fr lnF h h1 := fr_mono (fun q w => by omega) W.1
  have e68 : h1.2 68 = ci 301 ogI := (W.1.2.2 68 (by omega)).trans h68
  have full : ¬ (m < 300 ∧ L.length ≤ 20000) → pb_R 216 182 [some (.ref 65), l1, l2, some (.int (rdv V K T Lv ts lv)), some (.int 1), none] [] [] h1 Q := fun hn => by
    refine U216_182 X1 Q1 ?_
    intro h2 F2 X2 R2
    exact hQF h2 _ G1 sg1 hn (fr_trans F1 (fr_mono (fun q w => Or.inl w) F2)) (RK_s K1 X2 (F2.2.2 69 (by omega)) rfl rfl rfl) ((F2.2.2 68 (by omega)).trans e68) R2 (fun k hk => by
      show (if k = 22 then _ else _) = _
      rw [if_neg (by omega)]
      exact W.2.2.1 k (by omega))
  by_cases cm : m = 300
  · have key := full (by omega)
    have em : nI m = nI 300 := by rw [cm]
    simp only [pb_e216, X1.1, pb_gr, pb_o_some] at key
    simp only [pb_e216, n10, if_false, X1.1, pb_gr, pb_o_some, k4, e300, em, if_true]
    exact key
  · have em : ¬ nI m = nI 300 := fun e => cm (nI_inj (by omega) (by omega) e)
    have kc : nI L.length ≤ nI 20000 ↔ L.length ≤ 20000 := nI_leI (by omega) (by omega)
    by_cases cl : L.length ≤ 20000
    · have key : pb_R 216 188 [some (.ref 65), l1, l2, some (.int (rdv V K T Lv ts lv)), some (.int 1), none] [] [] h1 Q := by
        by_cases c0 : lv = 0
        · have ev : ∃ r, rdv V K T Lv ts lv = r := ⟨_, rfl⟩
          have er : rdv V K T Lv ts lv = nI 4294967295 := by unfold rdv; rw [if_neg (by omega)]; rfl
          rw [er]
          refine U216_188 hV hT K1 (by omega) e68 Q1 W.2.2.2.2.1 cl R3 fK (fun w => absurd c0 w) ?_ (fun h' s' G' sg' w => absurd c0 w)
          intro h' s' G' sg' _ F K' e6 R' p
          exact hQ0 h' s' G' sg' (by omega) cl c0 (fr_trans F1 F) K' e6 R' (fun k hk => (p k (by omega)).trans (W.2.2.1 k (by omega)))
        · have er : rdv V K T Lv ts lv = nI (rdy V K T Lv ts lv 0) := by unfold rdv; rw [if_pos (hr c0)]
          rw [er]
          refine U216_188 hV hT K1 (by omega) e68 Q1 W.2.2.2.2.1 cl R3 fK hr (fun h' s' G' sg' w => absurd w c0) ?_
          intro h' s' G' sg' _ F K' e6 R' p
          exact hQ1 h' s' G' sg' (by omega) cl c0 (fr_trans F1 F) K' e6 R' (fun k hk => (p k (by omega)).trans (W.2.2.1 k (by omega)))
      simp only [pb_e216, LQ_is W, true_and] at key
      simp only [pb_e216, n10, if_false, X1.1, pb_gr, pb_o_some, k4, e300, em, k35, e20, kc.mpr cl, if_true, true_and]
      exact key
    · have nk : ¬ nI L.length ≤ nI 20000 := fun w => cl (kc.mp w)
      have key := full (fun w => cl w.2)
      simp only [pb_e216, X1.1, pb_gr, pb_o_some] at key
      simp only [pb_e216, n10, if_false, X1.1, pb_gr, pb_o_some, k4, e300, em, k35, e20, nk]
      exact key
end RL6
