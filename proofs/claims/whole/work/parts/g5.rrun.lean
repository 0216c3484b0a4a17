/-! The reference's run and count -/
theorem fnq_in {V : Nat} {X : Nat → LN} {A : AS} {k : Nat} : ∀ f v, fnq V X A f v = some k → v ≤ k ∧ k < v + f := by
  intro f
  induction f with
  | zero => intro v e; cases e
  | succ f ih =>
    intro v e
    change (if nqb V (X v) A = true then some v else fnq V X A f (v + 1)) = some k at e
    by_cases q : nqb V (X v) A = true
    · rw [if_pos q] at e
      injection e with e
      subst e
      exact ⟨Nat.le_refl _, by omega⟩
    · rw [if_neg q] at e
      obtain ⟨a, b⟩ := ih (v + 1) e
      exact ⟨by omega, by omega⟩
theorem lo_act {V : Nat} {s : SS} (hV : V ≤ 16) (hf : ∀ k, 1 ≤ k → k ≤ s.2.2.2.1 → ln_fit V (s.2.2.2.2.1 k)) (hP : lo s.2.2.1) : lo (actS V s).2.2.1 := by
  obtain ⟨⟨st, lv, ch, le, ac⟩, ⟨ts, T, Lv, Rs, l0⟩, P, m, X, og⟩ := s
  have hP : lo P := hP
  unfold actS
  cases ef : fnq V X (asg T ts) m 1 with
  | none =>
    simp only [ef]
    by_cases cf : ts < V
    · rw [if_pos cf]; exact hP
    · rw [if_neg cf]; exact hP
  | some k =>
    simp only [ef]
    obtain ⟨k1, k2⟩ := fnq_in m 1 ef
    have fk : ln_fit V (X k) := hf k k1 (show k ≤ m by omega)
    by_cases cb : ln_br V (X k) (asg T ts)
    · rw [if_pos (brb_1 cb)]
      unfold lrn
      simp only
      cases er : rsv V X T Lv Rs lv ts ts (X k) (P ++ [112, 32] ++ dec k) with
      | none => exact hP
      | some r =>
        simp only
        by_cases c1 : m < 300 ∧ (r.2 ++ edt m lv).length ≤ 20000
        · have l1 : lo (P ++ [112, 32] ++ dec k) := lo_app (lo_app hP (lon_2 (by omega) (by omega)).1) (dec_lo k)
          have l2 := (rsv_lon hV ts (P ++ [112, 32] ++ dec k).length (X k) _ ⟨l1, Nat.le_refl _⟩ fk r er).1.1
          have l3 : lo (r.2 ++ edt m lv) := lo_app l2 (edt_lon m lv).1
          rw [if_pos c1]
          by_cases c2 : lv = 0
          · rw [if_pos c2]; exact l3
          · rw [if_neg c2]; exact l3
        · rw [if_neg c1]; exact hP
    · rw [if_neg (brb_0 cb)]; exact hP
theorem act_ac {V : Nat} {s : SS} : (actS V s).1.2.2.2.2 = s.1.2.2.2.2 + 1 := by
  obtain ⟨⟨st, lv, ch, le, ac⟩, ⟨ts, T, Lv, Rs, l0⟩, P, m, X, og⟩ := s
  unfold actS
  cases ef : fnq V X (asg T ts) m 1 with
  | none =>
    simp only [ef]
    by_cases cf : ts < V
    · rw [if_pos cf]
    · rw [if_neg cf]
  | some k =>
    simp only [ef]
    by_cases cb : ln_br V (X k) (asg T ts)
    · rw [if_pos (brb_1 cb)]
      unfold lrn
      simp only
      cases er : rsv V X T Lv Rs lv ts ts (X k) (P ++ [112, 32] ++ dec k) with
      | none => rfl
      | some r =>
        simp only
        by_cases c1 : m < 300 ∧ (r.2 ++ edt m lv).length ≤ 20000
        · rw [if_pos c1]
          by_cases c2 : lv = 0
          · rw [if_pos c2]
          · rw [if_neg c2]
        · rw [if_neg c1]
    · rw [if_neg (brb_0 cb)]
/-- the reference's world -/
def RNx (h : pb_H) (V n : Nat) (b : Nat → Nat) (s : Nat → Int32) (G : Nat → Nat) (sg ogI : Nat → Int32) (z : SS) : Prop := RK h V n b s G sg z.2.2.2.1 z.2.2.2.2.1 ∧ h.2 68 = ci 301 ogI ∧ OGs z.2.2.2.1 ogI z.2.2.2.2.2 ∧ RQs h s V z ∧ lo z.2.2.1 ∧ SV V z ∧ S5 z
section RRUN
variable {Q : Option Value → pb_H → Prop} {V n : Nat} {b : Nat → Nat} {z : SS}
theorem RQs_27 {h : pb_H} {s sg : Nat → Int32} {G : Nat → Nat} {a : Nat} (hX : RX h s G sg) (hR : RQs h s V (acS z a)) : RQs (pb_set h 65 (rm (upd s 27 (nI z.1.2.2.2.2)))) (upd s 27 (nI z.1.2.2.2.2)) V z := by
  obtain ⟨⟨a1, a2, a3, a4, a5, a6, a7⟩, b, ⟨pr, c1, c2⟩, ⟨f, d1, d2⟩, ⟨g, e1, e2⟩, ⟨f1, f2, f3, g1, g2, g3, g4⟩, ⟨tt, i1⟩, dd, j1⟩ := hR
  have k : ∀ q, 75 ≤ q → (pb_set h 65 (rm (upd s 27 (nI z.1.2.2.2.2)))).2 q = h.2 q := fun q hq => by rw [pb_set_get, if_neg (by omega)]
  exact ⟨⟨a1, a2, a3, a4, a5, rfl, a7⟩, b, ⟨pr, (k 80 (by omega)).trans c1, c2⟩, ⟨f, (k 75 (by omega)).trans d1, d2⟩, ⟨g, (k 76 (by omega)).trans e1, e2⟩, ⟨f1, f2, f3, (k 77 (by omega)).trans g1, (k 78 (by omega)).trans g2, (k 79 (by omega)).trans g3, g4⟩, ⟨tt, (k 81 (by omega)).trans i1⟩, dd, (k 82 (by omega)).trans j1⟩
/-- act, then ACTS + 1 -/
theorem U218x {h : pb_H} {s sg ogI : Nat → Int32} {G : Nat → Nat} (hV : V ≤ 16) (hW : RNx h V n b s G sg ogI z)
    (hQ : ∀ h' s' G' sg' ogI', fr lnF h h' → h'.2 65 = rm s' → s' 27 = nI z.1.2.2.2.2 → kp leK s s' → RNx (pb_set h' 65 (rm (upd s' 27 (nI (z.1.2.2.2.2 + 1))))) V n b (upd s' 27 (nI (z.1.2.2.2.2 + 1))) G' sg' ogI' (actS V z) → fr lnF h (pb_set h' 65 (rm (upd s' 27 (nI (z.1.2.2.2.2 + 1))))) → Q none h') : pb_call 218 [.ref 65] h Q := by
  obtain ⟨K, h68, hO, hR, hP, hT, h5⟩ := id hW
  have hl := lo_act hV K.2.2.2.2 hP
  have hT' := SV_act hV hT
  have h5' := S5_act (V := V) h5
  have ea := act_ac (V := V) (s := z)
  obtain ⟨⟨st, lv, ch, le, ac⟩, ⟨ts, T, Lv, Rs, l0⟩, P, m, X, og⟩ := z
  refine U218 hV hT K h68 hO hR hP ?_
  intro h' s' G' sg' ogI' F' K' o1 o2 R' p'
  have X1 := (RX_obj K'.1.1 (s' := upd s' 27 (nI (ac + 1))))
  have R2 := RQs_27 K'.1.1 R'
  rw [ea] at R2
  exact hQ h' s' G' sg' ogI' F' K'.1.1.1 R'.1.2.2.2.2.2.1 p' ⟨RK_s K' X1.1 (X1.2.2.2 69 (by omega)) rfl rfl rfl, (X1.2.2.2 68 (by omega)).trans o1, o2, R2, hl, hT', h5'⟩ (fr_trans F' (fr_mono (fun q w => Or.inl w) X1.2))
abbrev ruK : Nat → Prop := fun k => leK k ∨ k = 27
/-- run -/
theorem U219 {h : pb_H} {s sg ogI : Nat → Int32} {G : Nat → Nat} {k : Int32} (hV : V ≤ 16) (hW : RNx h V n b s G sg ogI z)
    (hQ : ∀ h' s' G' sg' ogI', fr lnF h h' → RNx h' V n b s' G' sg' ogI' (nRun V z k) → kp ruK s s' → Q (some (.int (aRun V z k))) h') : pb_call 219 [.ref 65, .int k] h Q := by
  have h65 := hW.1.1.1.1
  have h22 : s 22 = nI z.1.1 := hW.2.2.2.1.1.1
  have h5 := hW.2.2.2.2.2.2
  have e500 : (500 : Int32) = nI 500 := rfl
  have hst : nI z.1.1 = 0 ↔ z.1.1 = 0 := ⟨fun e => nI_inj (by have : z.1.1 ≤ 4 := h5; omega) (by omega) (show nI z.1.1 = nI 0 from e), fun e => by rw [e]; rfl⟩
  rw [pb_c219]
  by_cases c0 : z.1.1 = 0
  · have := hQ h s G sg ogI (fr_refl _ _) (by unfold nRun; rw [if_pos (Or.inl c0)]; exact hW) (fun _ _ => rfl)
    unfold aRun at this
    rw [if_pos (Or.inl c0)] at this
    simp only [pb_e219, h65, pb_gr, pb_o_some, h22, hst.mpr c0, if_true]
    exact this
  · have n0 : ¬ nI z.1.1 = 0 := fun e => c0 (hst.mp e)
    by_cases c1 : k < 0
    · have := hQ h s G sg ogI (fr_refl _ _) (by unfold nRun; rw [if_pos (Or.inr (Or.inl c1))]; exact hW) (fun _ _ => rfl)
      unfold aRun at this
      rw [if_pos (Or.inr (Or.inl c1))] at this
      simp only [pb_e219, h65, pb_gr, pb_o_some, h22, n0, if_false, c1, if_true]
      exact this
    · by_cases c2 : 500 < k
      · have := hQ h s G sg ogI (fr_refl _ _) (by unfold nRun; rw [if_pos (Or.inr (Or.inr c2))]; exact hW) (fun _ _ => rfl)
        unfold aRun at this
        rw [if_pos (Or.inr (Or.inr c2))] at this
        have n2 : ¬ k ≤ 500 := i32_nle.mpr c2
        simp only [pb_e219, h65, pb_gr, pb_o_some, h22, n0, if_false, c1, n2]
        exact this
      · have n2 : k ≤ 500 := i32_nlt.mp c2
        obtain ⟨j, j1, j2, j3⟩ := i32_btw (m := 500) (i32_nlt.mp c1) (by rw [← e500]; exact n2) (by omega)
        have hno : ¬ (z.1.1 = 0 ∨ k < 0 ∨ 500 < k) := fun w => by
          rcases w with w | w | w
          · exact c0 w
          · exact c1 w
          · exact c2 w
        unfold aRun nRun at hQ
        rw [if_neg hno, if_neg hno, j3] at hQ
        have loop : ∀ r i (z' : SS) h' s' G' sg' ogI', i + r = j → RNx h' V n b s' G' sg' ogI' z' → fr lnF h h' → kp ruK s s' → itZ V r z' = itZ V j z → i + itK V r z' = itK V j z → pb_R 219 22 [some (.ref 65), some (.int (nI j)), some (.int (nI i))] [] [] h' Q := by
          intro r
          induction r with
          | zero =>
            intro i z' h' s' G' sg' ogI' hi W' F' p' e1 e2
            obtain rfl : i = j := by omega
            have k1 : nI i ≤ nI i := (nI_leI (by omega) (by omega)).mpr (Nat.le_refl _)
            have e1' : z' = itZ V i z := e1
            have e2' : i = itK V i z := e2
            rw [e1'] at W'
            have := hQ h' s' G' sg' ogI' F' W' p'
            rw [← e2'] at this
            rw [pb_q219_22]
            simp only [pb_e219, k1, if_true]
            exact this
          | succ r ih =>
            intro i z' h' s' G' sg' ogI' hi W' F' p' e1 e2
            have k1 : ¬ nI j ≤ nI i := nI_ge (by omega) (by omega)
            have h65' := W'.1.1.1.1
            have h22' : s' 22 = nI z'.1.1 := W'.2.2.2.1.1.1
            have h5' := W'.2.2.2.2.2.2
            have hs1 : nI z'.1.1 = 1 ↔ z'.1.1 = 1 := ⟨fun e => nI_inj (by have : z'.1.1 ≤ 4 := h5'; omega) (by omega) (show nI z'.1.1 = nI 1 from e), fun e => by rw [e]; rfl⟩
            change (if z'.1.1 = 1 then itZ V r (actS V z') else z') = itZ V j z at e1
            change i + (if z'.1.1 = 1 then itK V r (actS V z') + 1 else 0) = itK V j z at e2
            rw [pb_q219_22]
            by_cases cs : z'.1.1 = 1
            · rw [if_pos cs] at e1 e2
              suffices key : pb_call 218 [.ref 65] h' (fun v t => pb_R 219 39 [some (.ref 65), some (.int (nI j)), some (.int (nI i))] [] (v.toList ++ []) t Q) by
                simp only [pb_e219, k1, if_false, h65', pb_gr, pb_o_some, h22', hs1.mpr cs, not_true_eq_false, true_and] at key ⊢
                exact key
              refine U218x hV W' ?_
              intro h2 s2 G2 sg2 ogI2 F2 e65 e27 p2 W2 F3
              have key := ih (i + 1) (actS V z') _ _ G2 sg2 ogI2 (by omega) W2 (fr_trans F' F3) (fun q hq => by
                show (if q = 27 then _ else s2 q) = s q
                rw [if_neg (by omega), p2 q (by omega), p' q hq]) e1 (by omega)
              simp only [Option.toList_none, List.nil_append, pb_e219, e65, pb_gr, pb_o_some, e27, nI_1]
              exact key
            · rw [if_neg cs] at e1 e2
              have ns : ¬ nI z'.1.1 = 1 := fun w => cs (hs1.mp w)
              rw [e1] at W'
              have := hQ h' s' G' sg' ogI' F' W' p'
              rw [← e2] at this
              simp only [pb_e219, k1, if_false, h65', pb_gr, pb_o_some, h22', ns, not_false_eq_true, if_true]
              exact this
        have key := loop j 0 z h s G sg ogI (by omega) hW (fr_refl _ _) (fun _ _ => rfl) rfl (by omega)
        rw [j2]
        have nn1 : ¬ nI j < 0 := by rw [← j2]; exact c1
        have nn2 : nI j ≤ 500 := by rw [← j2]; exact n2
        simp only [pb_e219, h65, pb_gr, pb_o_some, h22, n0, if_false, nn1, nn2, if_true]
        exact key
end RRUN
