/-! The reference: valuesTo, ready, gives -/
/-- a LITERAL's sign and VARIABLE -/
theorem lI_ge {z : Int} (h1 : 1 ≤ z.natAbs) (h2 : z.natAbs ≤ 16) : (0 < z → 0 ≤ lI z ∧ lI z = nI z.natAbs) ∧ (z < 0 → ¬ 0 ≤ lI z ∧ - lI z = nI z.natAbs ∧ 0 - lI z = nI z.natAbs) := by
  obtain ⟨p1, p2, p3⟩ := lI_pos h1 h2
  refine ⟨fun c => ?_, fun c => ?_⟩
  · rw [p2 c]; exact ⟨nI_pos' (by omega), rfl⟩
  · rw [p3 c]
    refine ⟨neg_lt100 z.natAbs (by omega) h1, Int32.neg_neg .., ?_⟩
    rw [Int32.sub_eq_add_neg, Int32.neg_neg, Int32.zero_add]
section RRD
variable {h : pb_H} {Q : Option Value → pb_H → Prop} {V ts j : Nat} {s sg : Nat → Int32} {G : Nat → Nat} {T : Nat → Int} {Lv Rs : Nat → Nat} {t f1 f2 : Nat → Int32}
/-- valuesTo -/
theorem U212 (hV : V ≤ 16) (hts : ts ≤ V) (hj : j ≤ 16) (hT : ∀ i, i < ts → 1 ≤ (T i).natAbs ∧ (T i).natAbs ≤ V) (hL : ∀ a b, a ≤ b → b < ts → Lv a ≤ Lv b) (hl16 : ∀ i, i < ts → Lv i ≤ 16) (h65 : h.2 65 = rm s) (h24 : s 24 = nI ts) (h77 : h.2 77 = ci 17 f1) (h78 : h.2 78 = ci 17 f2) (h81 : h.2 81 = ci 17 t) (hf : ∀ i, i < ts → f1 i = lI (T i) ∧ f2 i = nI (Lv i))
    (hQ : ∀ t', AV V t' (asg T (szl Lv j ts)) → Q none (pb_set h 81 (ci 17 t'))) : pb_call 212 [.ref 65, .int (nI j)] h Q := by
  have k65 : ∀ x, (pb_set h 81 x).2 65 = rm s := fun x => by rw [pb_set_get, if_neg (by omega), h65]
  have k77 : ∀ x, (pb_set h 81 x).2 77 = ci 17 f1 := fun x => by rw [pb_set_get, if_neg (by omega), h77]
  have k78 : ∀ x, (pb_set h 81 x).2 78 = ci 17 f2 := fun x => by rw [pb_set_get, if_neg (by omega), h78]
  have k81 : ∀ x, (pb_set h 81 x).2 81 = x := fun x => by rw [pb_set_get, if_pos rfl]
  have hsz := szl_le (Lv := Lv) j ts
  have loop2 : ∀ r i t' l3, i + r = ts → AV V t' (asg T (min i (szl Lv j ts))) → pb_R 212 23 [some (.ref 65), some (.int (nI j)), some (.int (nI i)), l3] [] [] (pb_set h 81 (ci 17 t')) Q := by
    intro r
    induction r with
    | zero =>
      intro i t' l3 hi hA
      obtain rfl : i = ts := by omega
      have c1 : nI i ≤ nI i := (nI_leI (by omega) (by omega)).mpr (Nat.le_refl _)
      rw [Nat.min_eq_right hsz] at hA
      rw [pb_q212_23]
      simp only [pb_e212, k65, pb_gr, pb_o_some, h24, c1, if_true]
      exact hQ t' hA
    | succ r ih =>
      intro i t' l3 hi hA
      have c1 : ¬ nI ts ≤ nI i := nI_ge (by omega) (by omega)
      have ga := pb_ai_eq (k := 0) (n := 17) (j := i) (f := f2) (Or.inl rfl) (by omega) (by omega)
      have gb := pb_ai_eq (k := 0) (n := 17) (j := i) (f := f1) (Or.inl rfl) (by omega) (by omega)
      rw [(hf i (by omega)).2] at ga
      rw [(hf i (by omega)).1] at gb
      have hin := szl_in (j := j) hL (show i < ts by omega)
      have hl := hl16 i (by omega)
      have kc : nI j < nI (Lv i) ↔ j < Lv i := nI_ltI (by omega) (by omega)
      obtain ⟨b1, b2⟩ := hT i (by omega)
      obtain ⟨g1, g2⟩ := lI_ge b1 (by omega)
      rw [pb_q212_23]
      by_cases cl : Lv i ≤ j
      · have n2 : ¬ nI j < nI (Lv i) := fun w => by have := kc.mp w; omega
        have ilt := hin.mpr cl
        have em : min (i + 1) (szl Lv j ts) = i + 1 := Nat.min_eq_left (by omega)
        have em0 : min i (szl Lv j ts) = i := Nat.min_eq_left (by omega)
        rw [em0] at hA
        have hstep : ∀ x, x = avI (some (decide (0 < T i))) → AV V (upd t' (T i).natAbs x) (asg T (min (i + 1) (szl Lv j ts))) := fun x hx u u1 u2 => by
          rw [em, asg_step]
          show (if u = (T i).natAbs then x else t' u) = avI (if u = (T i).natAbs then _ else _)
          by_cases e : u = (T i).natAbs
          · rw [if_pos e, if_pos e, hx]
          · rw [if_neg e, if_neg e]; exact hA u u1 u2
        by_cases cz : 0 < T i
        · obtain ⟨q1, q2⟩ := g1 cz
          have ss := pb_si_eq (n := 17) (j := (T i).natAbs) (f := t') (x := 1) (by omega) (by omega)
          rw [← q2] at ss
          simp only [pb_e212, k65, pb_gr, pb_o_some, h24, c1, if_false, k78, ga, n2, k77, gb, q1, if_true, k81, ss, pb_set_same, nI_1]
          exact ih (i + 1) _ _ (by omega) (hstep 1 (by rw [decide_eq_true cz]; rfl))
        · obtain ⟨q1, q2, q3⟩ := g2 (by omega)
          have ss := pb_si_eq (n := 17) (j := (T i).natAbs) (f := t') (x := 0) (by omega) (by omega)
          simp only [pb_e212, k65, pb_gr, pb_o_some, h24, c1, if_false, k78, ga, n2, k77, gb, q1, q2, q3, k81, ss, pb_set_same, nI_1]
          exact ih (i + 1) _ _ (by omega) (hstep 0 (by rw [decide_eq_false cz]; rfl))
      · have n2 : nI j < nI (Lv i) := kc.mpr (by omega)
        have em : min (i + 1) (szl Lv j ts) = min i (szl Lv j ts) := by
          have : ¬ i < szl Lv j ts := fun w => cl (hin.mp w)
          omega
        simp only [pb_e212, k65, pb_gr, pb_o_some, h24, c1, if_false, k78, ga, n2, if_true, nI_1]
        exact ih (i + 1) _ _ (by omega) (by rw [em]; exact hA)
  have e17 : (17 : Int32) = nI 17 := rfl
  have loop1 : ∀ r i t', i + r = 17 → (∀ v, v < i → t' v = -1) → pb_R 212 2 [some (.ref 65), some (.int (nI j)), some (.int (nI i)), none] [] [] (pb_set h 81 (ci 17 t')) Q := by
    intro r
    induction r with
    | zero =>
      intro i t' hi ht
      obtain rfl : i = 17 := by omega
      have c1 : nI 17 ≤ nI 17 := (nI_leI (by omega) (by omega)).mpr (Nat.le_refl _)
      have key := loop2 ts 0 t' none (by omega) (fun v v1 v2 => by
        rw [ht v (by omega), Nat.zero_min]; rfl)
      rw [pb_q212_2]
      simp only [pb_e212, e17, c1, if_true]
      exact key
    | succ r ih =>
      intro i t' hi ht
      have c1 : ¬ nI 17 ≤ nI i := nI_ge (by omega) (by omega)
      have ss := pb_si_eq (n := 17) (j := i) (f := t') (x := -1) (by omega) (by omega)
      rw [pb_q212_2]
      simp only [pb_e212, e17, c1, if_false, k65, pb_gr, pb_o_some, k81, ss, pb_set_same, nI_1]
      refine ih (i + 1) _ (by omega) (fun v hv => ?_)
      show (if v = i then -1 else t' v) = -1
      by_cases e : v = i
      · rw [if_pos e]
      · rw [if_neg e]; exact ht v (by omega)
  have key := loop1 17 0 t (by omega) (fun v hv => absurd hv (Nat.not_lt_zero _))
  have es : pb_set h 81 (ci 17 t) = h := pb_set_id h h81
  rw [es] at key
  rw [pb_c212]
  simp only [pb_e212]
  exact key
theorem LSt_0 {V : Nat} {x : LN} {A : AS} {z : Int32} (hV : V ≤ 16) (h : LSt V x A z) : z = 0 ↔ quiet V x A := by
  rcases h with ⟨a, b⟩ | ⟨a, v, v1, v2, v3, v4, v5⟩ | ⟨a, b, d⟩
  · subst b
    exact ⟨fun e => absurd e (by decide), fun q => absurd a q.1⟩
  · subst v5
    constructor
    · intro e
      have := nI_inj (a := v) (b := 0) (by omega) (by omega) e
      omega
    · intro q
      exact absurd v3 (q.2 v v1 v2)
  · subst d
    exact ⟨fun _ => ⟨a, b⟩, fun _ => rfl⟩
abbrev r81 : Nat → Prop := fun q => rS q ∨ q = 81
/-- ready -/
theorem U213 {K : LN} {lv : Nat} (hV : V ≤ 16) (hts : ts ≤ V) (hlv : lv ≤ 16) (hT : ∀ i, i < ts → 1 ≤ (T i).natAbs ∧ (T i).natAbs ≤ V) (hL : ∀ a b, a ≤ b → b < ts → Lv a ≤ Lv b) (hl16 : ∀ i, i < ts → Lv i ≤ 16) (hX : RX h s G sg) (h3 : s 3 = nI V) (h23 : s 23 = nI lv) (h24 : s 24 = nI ts) (h77 : h.2 77 = ci 17 f1) (h78 : h.2 78 = ci 17 f2) (h81 : h.2 81 = ci 17 t) (hf : ∀ i, i < ts → f1 i = lI (T i) ∧ f2 i = nI (Lv i)) (hR : RR V G sg 314 K) (hK : ln_fit V K)
    (hQ : ∀ h' G' t', fr r81 h h' → RX h' s G' sg → NF (fun k => k = 5441) G sg G' sg → h'.2 81 = ci 17 t' → Q (some (.int (if rdy V K T Lv ts lv 0 < lv then nI (rdy V K T Lv ts lv 0) else -1))) h') : pb_call 213 [.ref 65] h Q := by
  have e314 : (314 : Int32) = nI 314 := rfl
  have loop : ∀ f j h' G' t', j + f = lv → fr r81 h h' → RX h' s G' sg → NF (fun k => k = 5441) G sg G' sg → h'.2 81 = ci 17 t' → rdy V K T Lv ts lv 0 = rdy V K T Lv ts f j → pb_R 213 2 [some (.ref 65), some (.int (nI j))] [] [] h' Q := by
    intro f
    induction f with
    | zero =>
      intro j h' G' t' hj F X' N' e81 hr
      obtain rfl : j = lv := by omega
      have c1 : nI j ≤ nI j := (nI_leI (by omega) (by omega)).mpr (Nat.le_refl _)
      have key := hQ h' G' t' F X' N' e81
      have e0 : rdy V K T Lv ts j 0 = j := hr
      rw [e0, if_neg (Nat.lt_irrefl _)] at key
      rw [pb_q213_2]
      simp only [pb_e213, X'.1, pb_gr, pb_o_some, h23, c1, if_true]
      exact key
    | succ f ih =>
      intro j h' G' t' hj F X' N' e81 hr
      have c1 : ¬ nI lv ≤ nI j := nI_ge (by omega) (by omega)
      have is65 : pb_is0 (h'.2 65) 12 = true := by rw [X'.1]; rfl
      rw [pb_q213_2]
      simp only [pb_e213, X'.1, pb_gr, pb_o_some, h23, c1, if_false, true_and]
      refine U212 hV hts (by omega) hT hL hl16 X'.1 h24 ((F.2.2 77 (by omega)).trans h77) ((F.2.2 78 (by omega)).trans h78) e81 hf ?_
      intro t2 hA2
      have F2 : fr (fun q => q = 81) h' (pb_set h' 81 (ci 17 t2)) := fr_set rfl (by rw [e81]; rfl)
      have X2 : RX (pb_set h' 81 (ci 17 t2)) s G' sg := RX_fr F2 (fun q w => by omega) X'
      have g81 : (pb_set h' 81 (ci 17 t2)).2 81 = ci 17 t2 := by rw [pb_set_get, if_pos rfl]
      simp only [Option.toList_none, List.nil_append, pb_e213, X2.1, pb_gr, pb_o_some, true_and, e314]
      refine A172 X2 h3 hV (by omega) (RR_NF N' (fun v hv => by omega) hR) hK g81 (by omega) hA2 ?_
      intro h4 G4 z F4 X4 N4 hz
      have F5 : fr r81 h h4 := fr_trans F (fr_trans (fr_mono (fun q w => Or.inr w) F2) (fr_mono (fun q w => Or.inl w) F4))
      have N5 := NF_trans N' N4
      have e814 : h4.2 81 = ci 17 t2 := (F4.2.2 81 (by omega)).trans g81
      have es : rdy V K T Lv ts (f + 1) j = if nqb V K (asg T (szl Lv j ts)) = true then j else rdy V K T Lv ts f (j + 1) := rfl
      by_cases cq : quiet V K (asg T (szl Lv j ts))
      · have z0 : z = 0 := (LSt_0 hV hz).mpr cq
        subst z0
        rw [es, if_neg (nqb_0 cq)] at hr
        simp only [Option.toList_some, List.singleton_append, pb_e213, if_true, nI_1]
        exact ih (j + 1) h4 G4 t2 (by omega) F5 X4 N5 e814 hr
      · have z0 : ¬ z = 0 := fun e => cq ((LSt_0 hV hz).mp e)
        rw [es, if_pos (nqb_1 cq)] at hr
        have key := hQ h4 G4 t2 F5 X4 N5 e814
        rw [hr, if_pos (by omega)] at key
        simp only [Option.toList_some, List.singleton_append, pb_e213, z0, if_false]
        exact key
  rw [pb_c213]
  simp only [pb_e213]
  exact loop lv 0 h G t (by omega) (fr_refl _ _) hX (NF_refl _ _ _) h81 rfl
end RRD
