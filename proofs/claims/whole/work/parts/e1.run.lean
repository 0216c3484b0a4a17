/-! PlaneBench: run, begin, value, trail, proof, count -/
/-- a step keeps the TRAIL's invariant -/
theorem SV_act {V : Nat} (hV : V ≤ 16) {s : SS} (hT0 : SV V s) : SV V (actS V s) := by
  obtain ⟨⟨st, lv, ch, le, ac⟩, ⟨ts, T, Lv, Rs, l0⟩, P, m, X, og⟩ := s
  have hT : TV V m X T Lv Rs lv ts := hT0
  have hX : ∀ K, TV V (m + 1) (lput X (m + 1) K) T Lv Rs lv ts := fun K => TV_X hT (by omega) (fun k k1 k2 => by unfold lput; rw [if_neg (by omega)])
  unfold actS
  cases ef : fnq V X (asg T ts) m 1 with
  | none =>
    simp only [ef]
    by_cases cf : ts < V
    · rw [if_pos cf]
      have hcnt := TV_cnt hT
      obtain ⟨v, v1, v2, v3, v4⟩ := cnt_some (asg T ts) V (by omega)
      have elu : lun (asg T ts) V 1 = v := lun_at v1 (by omega) v3 (fun w w1 w2 => v4 w w1 w2)
      rw [elu]
      have zab : (if l0 v = true then (v : Int) else -(v : Int)).natAbs = v := by
        by_cases c : l0 v = true
        · rw [if_pos c]; rfl
        · rw [if_neg c, Int.natAbs_neg]; rfl
      exact TV_new hT cf (by omega) (by omega) (by rw [zab]; exact v3) (by omega) (Nat.zero_le _) (fun _ => rfl) (fun w => absurd rfl w)
    · rw [if_neg cf]; exact hT
  | some k =>
    simp only [ef]
    have hk : ∀ f v, fnq V X (asg T ts) f v = some k → v ≤ k ∧ k < v + f ∧ ¬ quiet V (X k) (asg T ts) := by
      intro f
      induction f with
      | zero => intro v e; cases e
      | succ f ih =>
        intro v e
        change (if nqb V (X v) (asg T ts) = true then some v else fnq V X (asg T ts) f (v + 1)) = some k at e
        by_cases q : nqb V (X v) (asg T ts) = true
        · rw [if_pos q] at e
          injection e with e
          subst e
          exact ⟨Nat.le_refl _, by omega, nqb_of q⟩
        · rw [if_neg q] at e
          obtain ⟨a, b, c⟩ := ih (v + 1) e
          exact ⟨by omega, by omega, c⟩
    obtain ⟨k1, k2, nq⟩ := hk m 1 ef
    by_cases cb : ln_br V (X k) (asg T ts)
    · rw [if_pos (brb_1 cb)]
      unfold lrn
      simp only
      cases er : rsv V X T Lv Rs lv ts ts (X k) (P ++ [112, 32] ++ dec k) with
      | none => exact hT
      | some r =>
        simp only
        by_cases c1 : m < 300 ∧ (r.2 ++ edt m lv).length ≤ 20000
        · rw [if_pos c1]
          by_cases c2 : lv = 0
          · rw [if_pos c2]; exact hX r.1
          · rw [if_neg c2]
            have hle := rdy_le V r.1 T Lv ts lv 0
            have hle2 : rdy V r.1 T Lv ts lv 0 ≤ lv := by omega
            exact TV_cut (hX r.1) hle2
        · rw [if_neg c1]; exact hT
    · rw [if_neg (brb_0 cb)]
      have hex : ∃ v, 1 ≤ v ∧ v ≤ V ∧ ln_fc V (X k) (asg T ts) v ∧ ∀ u, 1 ≤ u → u < v → ¬ ln_fc V (X k) (asg T ts) u := by
        have main : ∀ n, n ≤ V → (∀ u, 1 ≤ u → u ≤ n → ¬ ln_fc V (X k) (asg T ts) u) ∨ ∃ v, 1 ≤ v ∧ v ≤ n ∧ ln_fc V (X k) (asg T ts) v ∧ ∀ u, 1 ≤ u → u < v → ¬ ln_fc V (X k) (asg T ts) u := by
          intro n
          induction n with
          | zero => intro _; exact Or.inl (fun u u1 u2 => by omega)
          | succ n ihn =>
            intro hn
            rcases ihn (by omega) with w | ⟨v, w1, w2, w3, w4⟩
            · by_cases e : ln_fc V (X k) (asg T ts) (n + 1)
              · exact Or.inr ⟨n + 1, by omega, Nat.le_refl _, e, fun u u1 u2 => w u u1 (by omega)⟩
              · refine Or.inl (fun u u1 u2 => ?_)
                by_cases q : u = n + 1
                · subst q; exact e
                · exact w u u1 (by omega)
            · exact Or.inr ⟨v, w1, by omega, w3, w4⟩
        rcases main V (Nat.le_refl _) with w | w
        · exact absurd ⟨cb, w⟩ nq
        · exact w
      obtain ⟨v, v1, v2, v3, v4⟩ := hex
      have elf : lfv V (X k) (asg T ts) V 1 = v := lfv_at v1 (by omega) v3 (fun w w1 w2 => v4 w w1 w2)
      rw [elf]
      exact TV_new hT (TV_free hT v1 v2 v3.1) (by rw [ltz_abs]; exact v1) (by rw [ltz_abs]; exact v2) (by rw [ltz_abs]; exact v3.1) (Nat.le_refl _) (by omega) (fun e => by omega) (fun _ => ⟨rfl, by rw [ltz_abs]; exact v3, by rw [ltz_abs, ltz_pos v1]⟩)
noncomputable def itZ (V : Nat) : Nat → SS → SS
  | 0, s => s
  | n + 1, s => if s.1.1 = 1 then itZ V n (actS V s) else s
noncomputable def itK (V : Nat) : Nat → SS → Nat
  | 0, _ => 0
  | n + 1, s => if s.1.1 = 1 then itK V n (actS V s) + 1 else 0
theorem SV_it {V : Nat} (hV : V ≤ 16) : ∀ n (s : SS), SV V s → SV V (itZ V n s) := by
  intro n
  induction n with
  | zero => intro s h; exact h
  | succ n ih =>
    intro s h
    show SV V (if s.1.1 = 1 then itZ V n (actS V s) else s)
    by_cases c : s.1.1 = 1
    · rw [if_pos c]; exact ih _ (SV_act hV h)
    · rw [if_neg c]; exact h
theorem itK_le (V : Nat) : ∀ n s, itK V n s ≤ n := by
  intro n
  induction n with
  | zero => intro s; exact Nat.le_refl _
  | succ n ih =>
    intro s
    show (if s.1.1 = 1 then itK V n (actS V s) + 1 else 0) ≤ n + 1
    by_cases c : s.1.1 = 1
    · rw [if_pos c]; have := ih (actS V s); omega
    · rw [if_neg c]; omega
/-- the STATE is one of five -/
def S5 (s : SS) : Prop := s.1.1 ≤ 4
theorem S5_act {V : Nat} {s : SS} (h : S5 s) : S5 (actS V s) := by
  obtain ⟨⟨st, lv, ch, le, ac⟩, ⟨ts, T, Lv, Rs, l0⟩, P, m, X, og⟩ := s
  have h : st ≤ 4 := h
  unfold actS
  cases ef : fnq V X (asg T ts) m 1 with
  | none =>
    simp only [ef]
    by_cases cf : ts < V
    · rw [if_pos cf]; exact h
    · rw [if_neg cf]; show 2 ≤ 4; omega
  | some k =>
    simp only [ef]
    by_cases cb : ln_br V (X k) (asg T ts)
    · rw [if_pos (brb_1 cb)]
      unfold lrn
      simp only
      cases er : rsv V X T Lv Rs lv ts ts (X k) (P ++ [112, 32] ++ dec k) with
      | none => show 4 ≤ 4; omega
      | some r =>
        simp only
        by_cases c1 : m < 300 ∧ (r.2 ++ edt m lv).length ≤ 20000
        · rw [if_pos c1]
          by_cases c2 : lv = 0
          · rw [if_pos c2]; show 3 ≤ 4; omega
          · rw [if_neg c2]; exact h
        · rw [if_neg c1]; show 4 ≤ 4; omega
    · rw [if_neg (brb_0 cb)]; exact h
theorem S5_it {V : Nat} : ∀ n (s : SS), S5 s → S5 (itZ V n s) := by
  intro n
  induction n with
  | zero => intro s h; exact h
  | succ n ih =>
    intro s h
    show S5 (if s.1.1 = 1 then itZ V n (actS V s) else s)
    by_cases c : s.1.1 = 1
    · rw [if_pos c]; exact ih _ (S5_act h)
    · rw [if_neg c]; exact h
noncomputable def aRun (V : Nat) (s : SS) (k : Int32) : Int32 := if s.1.1 = 0 ∨ k < 0 ∨ 500 < k then -1 else nI (itK V k.toNatClampNeg s)
noncomputable def nRun (V : Nat) (s : SS) (k : Int32) : SS := if s.1.1 = 0 ∨ k < 0 ∨ 500 < k then s else itZ V k.toNatClampNeg s
section RUN
variable {h : pb_H} {Q : Option Value → pb_H → Prop} {V c N p : Nat} {F : Nat → Option Nat} {s : SS}
theorem AG_refl : AG V h F c N h F c N := ⟨fg_refl _ _, Or.inl rfl, fun i a _ ha => Or.inl ha, fun i _ hn => hn, Nat.le_refl _, Nat.le_refl _⟩
/-- PlaneBench.run -/
theorem L134 {k : Int32} (hV : V ≤ 16) (h1 : h.2 1 = cpb V) (hC : CW h V p c N F s) (hT : SV V s) (h5 : S5 s)
    (hQ : ∀ h' c' N' F', AG V h F c N h' F' c' N' → CW h' V p c' N' F' (nRun V s k) → Q (some (.int (aRun V s k))) h') : pb_call 134 [.ref 1, .int k] h Q := by
  obtain ⟨pb, tb, fb, lt, h47, hrest⟩ := id hC
  have e500 : (500 : Int32) = nI 500 := rfl
  have hst : nI s.1.1 = 0 ↔ s.1.1 = 0 := ⟨fun e => nI_inj (by have : s.1.1 ≤ 4 := h5; omega) (by omega) (show nI s.1.1 = nI 0 from e), fun e => by rw [e]; rfl⟩
  rw [pb_c134]
  by_cases c0 : s.1.1 = 0
  · have := hQ h c N F AG_refl (by unfold nRun; rw [if_pos (Or.inl c0)]; exact hC)
    unfold aRun at this
    rw [if_pos (Or.inl c0)] at this
    simp only [pb_e134, h1, pb_g11, pb_o_some, h47, pb_g6, hst.mpr c0, if_true]
    exact this
  · have n0 : ¬ nI s.1.1 = 0 := fun e => c0 (hst.mp e)
    by_cases c1 : k < 0
    · have := hQ h c N F AG_refl (by unfold nRun; rw [if_pos (Or.inr (Or.inl c1))]; exact hC)
      unfold aRun at this
      rw [if_pos (Or.inr (Or.inl c1))] at this
      simp only [pb_e134, h1, pb_g11, pb_o_some, h47, pb_g6, n0, if_false, c1, if_true]
      exact this
    · by_cases c2 : 500 < k
      · have := hQ h c N F AG_refl (by unfold nRun; rw [if_pos (Or.inr (Or.inr c2))]; exact hC)
        unfold aRun at this
        rw [if_pos (Or.inr (Or.inr c2))] at this
        have n2 : ¬ k ≤ 500 := i32_nle.mpr c2
        simp only [pb_e134, h1, pb_g11, pb_o_some, h47, pb_g6, n0, if_false, c1, n2]
        exact this
      · have n2 : k ≤ 500 := i32_nlt.mp c2
        obtain ⟨j, j1, j2, j3⟩ := i32_btw (m := 500) (i32_nlt.mp c1) (by rw [← e500]; exact n2) (by omega)
        have hno : ¬ (s.1.1 = 0 ∨ k < 0 ∨ 500 < k) := fun w => by
          rcases w with w | w | w
          · exact c0 w
          · exact c1 w
          · exact c2 w
        unfold aRun nRun at hQ
        rw [if_neg hno, if_neg hno, j3] at hQ
        have loop : ∀ n i (s' : SS) h' c' N' F', i + n = j → CW h' V p c' N' F' s' → SV V s' → S5 s' → h'.2 1 = cpb V → AG V h F c N h' F' c' N' → itZ V n s' = itZ V j s → i + itK V n s' = itK V j s → pb_R 134 25 [some (.ref 1), some (.int (nI j)), some (.int (nI i))] [] [] h' Q := by
          intro n
          induction n with
          | zero =>
            intro i s' h' c' N' F' hi hC' hT' h5' h1' A' e1 e2
            obtain rfl : i = j := by omega
            have k1 : nI i ≤ nI i := (nI_leI (by omega) (by omega)).mpr (Nat.le_refl _)
            have e1' : s' = itZ V i s := e1
            have e2' : i = itK V i s := e2
            rw [e1'] at hC'
            have := hQ h' c' N' F' A' hC'
            rw [← e2'] at this
            rw [pb_q134_25]
            simp only [pb_e134, k1, if_true]
            exact this
          | succ n ih =>
            intro i s' h' c' N' F' hi hC' hT' h5' h1' A' e1 e2
            have k1 : ¬ nI j ≤ nI i := nI_ge (by omega) (by omega)
            obtain ⟨pb', tb', fb', lt', h47', hrest'⟩ := id hC'
            have hs1 : nI s'.1.1 = 1 ↔ s'.1.1 = 1 := ⟨fun e => nI_inj (by have : s'.1.1 ≤ 4 := h5'; omega) (by omega) (show nI s'.1.1 = nI 1 from e), fun e => by rw [e]; rfl⟩
            change (if s'.1.1 = 1 then itZ V n (actS V s') else s') = itZ V j s at e1
            change i + (if s'.1.1 = 1 then itK V n (actS V s') + 1 else 0) = itK V j s at e2
            have is47 : pb_is0 (h'.2 47) 6 = true := by rw [h47']; rfl
            rw [pb_q134_25]
            by_cases cs : s'.1.1 = 1
            · rw [if_pos cs] at e1 e2
              simp only [pb_e134, k1, if_false, h1', pb_g11, pb_o_some, h47', pb_g6, hs1.mpr cs, not_true_eq_false, true_and]
              refine L117 hV hC' hT' ?_
              intro h2 c2 N2 F2 A2 C2
              have h12 : h2.2 1 = cpb V := (A2.1.2 1 (by have := WB_83 hrest'.1.1; omega) (fun w => by
                have hcx := WB_c hrest'.1.1
                rcases w with (w | w | w | w | ⟨i, a, i1, i2, i3⟩) | w
                · omega
                · omega
                · omega
                · omega
                · have := (hrest'.2.1.2.2.2.2.2.1 i a i1 i2).1
                  omega
                · omega)).trans h1'
              simp only [Option.toList_none, List.nil_append, pb_e134, nI_1]
              exact ih (i + 1) _ h2 c2 N2 F2 (by omega) C2 (SV_act hV hT') (S5_act h5') h12 (AG_trans A' A2) e1 (by omega)
            · rw [if_neg cs] at e1 e2
              have ns : ¬ nI s'.1.1 = 1 := fun e => cs (hs1.mp e)
              rw [e1] at hC'
              have := hQ h' c' N' F' A' hC'
              rw [← e2, Nat.add_zero] at this
              simp only [pb_e134, k1, if_false, h1', pb_g11, pb_o_some, h47', pb_g6, ns, not_false_eq_true, if_true]
              exact this
        have key := loop j 0 s h c N F (by omega) hC hT h5 h1 AG_refl rfl (by omega)
        rw [j2] at n2 c1 ⊢
        simp only [pb_e134, h1, pb_g11, pb_o_some, h47, pb_g6, n0, if_false, c1, n2, if_true]
        exact key
end RUN
