/-! The reference's learn: the loop -/
section RLN
variable {h0 h : pb_H} {Q : Option Value → pb_H → Prop} {V m ts lv : Nat} {s0 s sg0 sg t : Nat → Int32} {G0 G : Nat → Nat} {L P0 : List Nat} {T : Nat → Int} {Lv Rs : Nat → Nat} {X : Nat → LN} {f1 f2 f3 : Nat → Int32} {K0 : LN}
theorem LQ_trans {t' : Nat → Int32} {h' : pb_H} {s' sg' : Nat → Int32} {G' : Nat → Nat} {L' : List Nat} (a : LQ h0 s0 G0 sg0 t h s G sg L) (b : LQ h s G sg t' h' s' G' sg' L') : LQ h0 s0 G0 sg0 t' h' s' G' sg' L' := ⟨fr_trans a.1 b.1, b.2.1, kp_trans a.2.2.1 b.2.2.1, NF_trans a.2.2.2.1 b.2.2.2.1, b.2.2.2.2⟩
theorem lkR_pre {K : LN} {i : Nat} {P : List Nat} {r : LN × List Nat} (h : lkR V X T Rs K P i = some r) : ∃ M, r.2 = P ++ M := by
  unfold lkR at h
  by_cases c1 : K.2 (T i).natAbs * T i < 0 ∧ Rs i ≠ 0
  · rw [if_pos c1] at h
    by_cases c2 : (K.2 (T i).natAbs).natAbs = 1 ∨ fitb V (ln_tm (rsn V (X (Rs i)) (asg T i) (T i).natAbs) (K.2 (T i).natAbs).natAbs) = true
    · rw [if_pos c2] at h
      by_cases c3 : fitb V (ln_sum V K (tmx (rsn V (X (Rs i)) (asg T i) (T i).natAbs) (K.2 (T i).natAbs).natAbs)) = true
      · rw [if_pos c3] at h
        injection h with h
        subst h
        simp only [List.append_assoc]
        exact ⟨_, rfl⟩
      · rw [if_neg c3] at h; cases h
    · rw [if_neg c2] at h; cases h
  · rw [if_neg c1] at h
    injection h with h
    subst h
    exact ⟨[], (List.append_nil _).symm⟩
theorem pre_trans {P A B : List Nat} (a : ∃ M, A = P ++ M) (b : ∃ M, B = A ++ M) : ∃ M, B = P ++ M := by
  obtain ⟨M, e⟩ := a
  obtain ⟨N, e2⟩ := b
  rw [e2, e, List.append_assoc]
  exact ⟨_, rfl⟩
/-- READY, or LEVEL 0 -/
noncomputable def rdv (V : Nat) (K : LN) (T : Nat → Int) (Lv : Nat → Nat) (ts lv : Nat) : Int32 := if rdy V K T Lv ts lv 0 < lv then nI (rdy V K T Lv ts lv 0) else -1
theorem rdv_ge {K : LN} (hlv : lv ≤ 16) : 0 ≤ rdv V K T Lv ts lv ↔ rdy V K T Lv ts lv 0 < lv := by
  unfold rdv
  by_cases c : rdy V K T Lv ts lv 0 < lv
  · rw [if_pos c]; exact ⟨fun _ => c, fun _ => nI_pos' (by omega)⟩
  · rw [if_neg c]; exact ⟨fun w => absurd w (by decide), fun w => absurd w c⟩
theorem U216_57 {Pp : List Nat} {l1 : Option Value} (hV : V ≤ 16) (hlv : lv ≤ 16) (hT : TV V m X T Lv Rs lv ts) (hm : m ≤ 300) (h3 : s0 3 = nI V) (h23 : s0 23 = nI lv) (h24 : s0 24 = nI ts) (h77 : h0.2 77 = ci 17 f1) (h78 : h0.2 78 = ci 17 f2) (h79 : h0.2 79 = ci 17 f3) (hf : ∀ i, i < ts → f1 i = lI (T i) ∧ f2 i = nI (Lv i) ∧ f3 i = nI (Rs i)) (hLn : RLX V G0 sg0 m X)
    (hQ1 : ∀ h' s' G' sg' t' K L' n, rsv V X T Lv Rs lv ts ts K0 P0 = some (K, L') → LQ h0 s0 G0 sg0 t' h' s' G' sg' L' → RR V G' sg' 314 K → ln_fit V K → L'.length ≤ 60000 → (∃ M, L' = Pp ++ M) → pb_R 216 104 [some (.ref 65), l1, some (.int n), some (.int (rdv V K T Lv ts lv)), some (.int 1), none] [] [] h' Q)
    (hQ0 : ∀ h' s' G' sg' t' L' n, rsv V X T Lv Rs lv ts ts K0 P0 = none → LQ h0 s0 G0 sg0 t' h' s' G' sg' L' → L'.length ≤ 62000 → (∃ M, L' = Pp ++ M) → pb_R 216 104 [some (.ref 65), l1, some (.int n), some (.int (-1)), some (.int 0), none] [] [] h' Q) :
    ∀ n h' s' G' sg' t' K L', n ≤ ts → LQ h0 s0 G0 sg0 t' h' s' G' sg' L' → RR V G' sg' 314 K → ln_fit V K → lon (60000 - 2000 * n) L' → (∃ M, L' = Pp ++ M) → rsv V X T Lv Rs lv ts ts K0 P0 = rsv V X T Lv Rs lv ts n K L' → pb_R 216 57 [some (.ref 65), l1, some (.int (nI n)), some (.int (rdv V K T Lv ts lv)), some (.int 1), none] [] [] h' Q := by
  have n10 : ¬ (1 : Int32) = 0 := by decide
  have m1 : ¬ (0 : Int32) ≤ -1 := by decide
  have ready : ∀ n h' s' G' sg' t' K L', n ≤ ts → LQ h0 s0 G0 sg0 t' h' s' G' sg' L' → RR V G' sg' 314 K → ln_fit V K → L'.length ≤ 60000 → (∃ M, L' = Pp ++ M) → rsv V X T Lv Rs lv ts ts K0 P0 = some (K, L') → (0 ≤ rdv V K T Lv ts lv ∨ n = 0) → pb_R 216 57 [some (.ref 65), l1, some (.int (nI n)), some (.int (rdv V K T Lv ts lv)), some (.int 1), none] [] [] h' Q := by
    intro n h' s' G' sg' t' K L' hn W R' fK hl hx hr hor
    have key := hQ1 h' s' G' sg' t' K L' (nI n) hr W R' fK hl hx
    simp only [pb_e216, LQ_is W, true_and] at key
    rw [pb_q216_57]
    by_cases c : 0 ≤ rdv V K T Lv ts lv
    · simp only [pb_e216, n10, if_false, c, if_true, LQ_is W, true_and]
      exact key
    · have n0 : n = 0 := by
        rcases hor with w | w
        · exact absurd w c
        · exact w
      have c2 : nI n ≤ 0 := by rw [n0]; decide
      simp only [pb_e216, n10, if_false, c, c2, if_true, LQ_is W, true_and]
      exact key
  intro n
  induction n with
  | zero =>
    intro h' s' G' sg' t' K L' hn W R' fK hl hx hr
    exact ready 0 h' s' G' sg' t' K L' hn W R' fK (by have := hl.2; omega) hx hr (Or.inr rfl)
  | succ n ih =>
    intro h' s' G' sg' t' K L' hn W R' fK hl hx hr
    have htV := hT.1
    by_cases rd : rdy V K T Lv ts lv 0 < lv
    · have e : rsv V X T Lv Rs lv ts (n + 1) K L' = some (K, L') := by
        show (if _ then _ else _) = _
        rw [if_pos rd]
      exact ready (n + 1) h' s' G' sg' t' K L' hn W R' fK (by have := hl.2; omega) hx (hr.trans e) (Or.inl ((rdv_ge hlv).mpr rd))
    · have nr : ¬ 0 ≤ rdv V K T Lv ts lv := fun w => rd ((rdv_ge hlv).mp w)
      have es : rsv V X T Lv Rs lv ts (n + 1) K L' = match lkR V X T Rs K L' n with
          | none => none
          | some r => rsv V X T Lv Rs lv ts n r.1 r.2 := by
        show (if _ then _ else _) = _
        rw [if_neg rd]
        rfl
      have c2 : ¬ nI (n + 1) ≤ 0 := nI_nle (by omega) (by omega)
      have en : nI (n + 1) + -1 = nI n := by rw [sub1]; exact nI_pred n
      have k3 : s' 3 = nI V := (W.2.2.1 3 (by omega)).trans h3
      have k77 : h'.2 77 = ci 17 f1 := (W.1.2.2 77 (by omega)).trans h77
      have k78 : h'.2 78 = ci 17 f2 := (W.1.2.2 78 (by omega)).trans h78
      have k79 : h'.2 79 = ci 17 f3 := (W.1.2.2 79 (by omega)).trans h79
      have hLn' : RLX V G' sg' m X := RLX_NF hV hm W.2.2.2.1 (fun i w => by omega) hLn
      obtain ⟨x1, x2, x3⟩ := hT.2.2.2.2.2.1 n (by omega)
      rw [pb_q216_57]
      simp only [pb_e216, n10, if_false, nr, c2, en, LQ_is W, true_and]
      refine U215 hV htV (show n < ts by omega) hT.2.1 W.2.1 k3 W.2.2.2.2.1 (by have := hl.2; omega) k77 k79 W.2.2.2.2.2.1 W.2.2.2.2.2.2 (fun i hi => (hf i hi).1) (hf n (by omega)).2.2 hm x1 (fun w => (x3 w).1.2.1) hLn' R' fK ?_ ?_
      · intro h2 s2 G2 sg2 t2 r er W2 R2
        obtain ⟨lo2, f2'⟩ := lkR_lon hV hl fK er
        have W3 := LQ_trans W W2
        have hr2 : rsv V X T Lv Rs lv ts ts K0 P0 = rsv V X T Lv Rs lv ts n r.1 r.2 := by rw [hr, es, er]
        have k23 : s2 23 = nI lv := (W3.2.2.1 23 (by omega)).trans h23
        have k24 : s2 24 = nI ts := (W3.2.2.1 24 (by omega)).trans h24
        have k32 : s2 3 = nI V := (W3.2.2.1 3 (by omega)).trans h3
        have hl2 : lon (60000 - 2000 * n) r.2 := lon_mono lo2 (by omega)
        by_cases c0 : lv = 0
        · have z0 : nI lv ≤ 0 := by rw [c0]; decide
          have key := ih h2 s2 G2 sg2 t2 r.1 r.2 (by omega) W3 R2 f2' hl2 (pre_trans hx (lkR_pre er)) hr2
          have ev : rdv V r.1 T Lv ts lv = -1 := by unfold rdv; rw [if_neg (by omega)]
          rw [ev] at key
          simp only [Option.toList_some, List.singleton_append, pb_e216, W2.2.1.1, pb_gr, pb_o_some, k23, z0, if_true]
          exact key
        · have z0 : ¬ nI lv ≤ 0 := nI_nle (by omega) (by omega)
          simp only [Option.toList_some, List.singleton_append, pb_e216, W2.2.1.1, pb_gr, pb_o_some, k23, z0, if_false, n10, true_and]
          refine U213 hV htV hlv hT.2.1 hT.2.2.2.2.1 (fun i hi => by have := hT.2.2.2.1 i hi; omega) W2.2.1 k32 k23 k24 ((W3.1.2.2 77 (by omega)).trans h77) ((W3.1.2.2 78 (by omega)).trans h78) W2.2.2.2.2.2.1 (fun i hi => ⟨(hf i hi).1, (hf i hi).2.1⟩) R2 f2' ?_
          intro h4 G4 t4 F4 X4 N4 e4
          have W4 : LQ h0 s0 G0 sg0 t4 h4 s2 G4 sg2 r.2 := by
            obtain ⟨w1, w2, w3, w4, w5, w6, d, w7⟩ := W3
            exact ⟨fr_trans w1 (fr_mono (fun q w => by omega) F4), X4, w3, NF_trans w4 (NF_mono (fun i w => by omega) N4), RW_fr F4 (by omega) rfl w5, e4, d, (F4.2.2 82 (by omega)).trans w7⟩
          have key := ih h4 s2 G4 sg2 t4 r.1 r.2 (by omega) W4 (RR_NF N4 (fun v hv => by omega) R2) f2' hl2 (pre_trans hx (lkR_pre er)) hr2
          simp only [Option.toList_some, List.singleton_append, pb_e216]
          exact key
      · intro h2 s2 G2 sg2 t2 L2 er W2 hl2 hx2
        have W3 := LQ_trans W W2
        have hr2 : rsv V X T Lv Rs lv ts ts K0 P0 = none := by rw [hr, es, er]
        have k23 : s2 23 = nI lv := (W3.2.2.1 23 (by omega)).trans h23
        have key := hQ0 h2 s2 G2 sg2 t2 L2 (nI n) hr2 W3 (by have := hl.2; omega) (pre_trans hx hx2)
        simp only [pb_e216, LQ_is W2, true_and] at key
        by_cases c0 : lv = 0
        · have z0 : nI lv ≤ 0 := by rw [c0]; decide
          simp only [Option.toList_some, List.singleton_append, pb_e216, W2.2.1.1, pb_gr, pb_o_some, k23, z0, if_true]
          rw [pb_q216_57]
          simp only [pb_e216, if_true, LQ_is W2, true_and]
          exact key
        · have z0 : ¬ nI lv ≤ 0 := nI_nle (by omega) (by omega)
          simp only [Option.toList_some, List.singleton_append, pb_e216, W2.2.1.1, pb_gr, pb_o_some, k23, z0, if_false, if_true]
          rw [pb_q216_57]
          simp only [pb_e216, if_true, LQ_is W2, true_and]
          exact key
end RLN
