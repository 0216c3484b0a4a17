/-! The reference's turn; one FORCED value -/
theorem sgI_neg' (z : Int) : sgI (-z) = - sgI z := by
  rcases Int.lt_trichotomy z 0 with c | c | c
  · rw [sgI_neg c, sgI_pos (by omega)]; rfl
  · subst c; rfl
  · rw [sgI_pos c, sgI_neg (by omega)]
theorem B8_lt : B8 < 65536 ^ 20 := by decide
section RTN
variable {h : pb_H} {Q : Option Value → pb_H → Prop} {V n m : Nat} {s sg : Nat → Int32} {G : Nat → Nat} {X : Nat → LN} {y : LN}
theorem n5423 {v : Nat} : (5423 : Int32) + nI v = nI (5423 + v) := nI_add 5423 v
theorem at319 {h : pb_H} {Q : Option Value → pb_H → Prop} {v : Nat} : pb_call 143 [.int 319, .int (nI v)] h Q ↔ Q (some (.int (nI ((5423 + v) * 20)))) h := A143 (r := 319) (v := v)
theorem at319z {h : pb_H} {Q : Option Value → pb_H → Prop} : pb_call 143 [.int 319, .int 0] h Q ↔ Q (some (.int (nI (5423 * 20)))) h := A143z (r := 319)
theorem at318z {h : pb_H} {Q : Option Value → pb_H → Prop} : pb_call 143 [.int 318, .int 0] h Q ↔ Q (some (.int (nI (5406 * 20)))) h := A143z (r := 318)
theorem U198_loop (hV : V ≤ 16) (hs3 : s 3 = nI V) (hy : ∀ j, j ≤ V → 1 + sm (fun v => (y.2 v).natAbs) j < 4294967296 ^ 8)
    (hE : ∀ h' G' sg' l2, fr rS h h' → RX h' s G' sg' → NF (rwS 319) G sg G' sg' → rv G' 5423 = 1 + sm (fun v => (y.2 v).natAbs) V → (∀ u, 1 ≤ u → u ≤ V → rv G' (5423 + u) = (y.2 u).natAbs ∧ sg' (5423 + u) = sgI (- y.2 u)) → pb_R 198 73 [some (.ref 65), some (.int (nI (5423 * 20))), l2] [] [] h' Q) :
    ∀ r i h' G' sg', i + r = V → fr rS h h' → RX h' s G' sg' → NF (rwS 319) G sg G' sg' → rv G' 5423 = 1 + sm (fun v => (y.2 v).natAbs) i → (∀ u, 1 ≤ u → u ≤ V → rv G' (5423 + u) = (y.2 u).natAbs ∧ sg' (5423 + u) = if u ≤ i then sgI (- y.2 u) else sgI (y.2 u)) → pb_R 198 26 [some (.ref 65), some (.int (nI (5423 * 20))), some (.int (nI (i + 1)))] [] [] h' Q := by
  intro r
  induction r with
  | zero =>
    intro i h' G' sg' hi F X' N d c
    obtain rfl : i = V := by omega
    have c1 : nI i < nI (i + 1) := nI_lt (by omega) (by omega)
    have key := hE h' G' sg' (some (.int (nI (i + 1)))) F X' N d (fun u u1 u2 => by have := c u u1 u2; rw [if_pos u2] at this; exact this)
    simp only [pb_e198, at318z, Option.toList_some, List.singleton_append, X'.1, pb_gr, true_and] at key
    rw [pb_q198_26]
    simp only [pb_e198, X'.1, pb_gr, pb_o_some, hs3, c1, if_true, at318z, Option.toList_some, List.singleton_append, true_and]
    exact key
  | succ r ih =>
    intro i h' G' sg' hi F X' N d c
    have c1 : ¬ nI V < nI (i + 1) := nI_nlt (by omega) (by omega)
    have hgt := sg_get (sg := sg') (j := 5423 + (i + 1)) (by omega)
    have hst := fun x => sg_set (sg := sg') (j := 5423 + (i + 1)) (x := x) (by omega)
    obtain ⟨ci1, ci2⟩ := c (i + 1) (by omega) (by omega)
    rw [if_neg (by omega)] at ci2
    obtain ⟨X3, F3⟩ := RX_sig X' (sg' := upd sg' (5423 + (i + 1)) (- sg' (5423 + (i + 1))))
    rw [pb_q198_26]
    simp only [pb_e198, X'.1, pb_gr, pb_o_some, hs3, c1, if_false, n5423, X'.2.2.2.1, hgt, hst, at319, Option.toList_some, List.singleton_append, X3.1, true_and]
    have hyb := hy (i + 1) (by omega)
    have e1 : sm (fun v => (y.2 v).natAbs) (i + 1) = sm (fun v => (y.2 v).natAbs) i + (y.2 (i + 1)).natAbs := rfl
    have hB := B8_lt
    refine A151 (i := 5423) (j := 5423 + (i + 1)) X3 (by omega) (by omega) (by omega) (by rw [d, ci1]; omega) ?_
    intro h4 G4 F4 X4 nb4 v4
    simp only [Option.toList_none, List.nil_append, pb_e198, nI_1]
    refine ih (i + 1) h4 G4 _ (by omega) (fr_trans F (fr_trans F3 F4)) X4 (NF_trans N (NF_trans (NF_sg (by omega)) (NF_nb (by omega) nb4))) (by rw [v4, d, ci1, e1]; omega) (fun u u1 u2 => ⟨?_, ?_⟩)
    · rw [rv_ne nb4 (by omega)]
      exact (c u u1 u2).1
    · by_cases e : u = i + 1
      · subst e
        rw [upd_same, if_pos (Nat.le_refl _), ci2, sgI_neg']
      · rw [upd_ne _ _ (by omega), (c u u1 u2).2]
        by_cases q : u ≤ i
        · rw [if_pos q, if_pos (by omega)]
        · rw [if_neg q, if_neg (by omega)]
/-- turn -/
theorem U198 (hV : V ≤ 16) (hX : RX h s G sg) (hs3 : s 3 = nI V) (hR : RR V G sg 318 y) (hy : ∀ j, j ≤ V → 1 + sm (fun v => (y.2 v).natAbs) j < 4294967296 ^ 8)
    (hQ : ∀ h' G' sg', fr rS h h' → RX h' s G' sg' → NF (rwS 319) G sg G' sg' → RR V G' sg' 319 (ln_op V y) → Q none h') : pb_call 198 [.ref 65] h Q := by
  rw [pb_c198]
  simp only [pb_e198, hX.1, pb_gr, true_and]
  refine A162 (q := 318) (r := 319) hX (by omega) (by omega) (by omega) ?_
  intro h1 G1 sg1 F1 X1 N1 cp1
  simp only [Option.toList_none, List.nil_append, pb_e198, at319z, Option.toList_some, List.singleton_append, X1.1, pb_gr, true_and]
  refine A145 (i := 5423) (n := 1) X1 (by omega) (by omega) ?_
  intro h2 G2 F2 X2 nb2 v2
  simp only [Option.toList_none, List.nil_append, pb_e198]
  refine U198_loop (h := h) (G := G) (sg := sg) (y := y) hV hs3 hy ?_ V 0 h2 G2 sg1 (by omega) (fr_trans F1 F2) X2 (NF_trans N1 (NF_nb (by omega) nb2)) v2 (fun u u1 u2 => ⟨?_, ?_⟩)
  · intro h3 G3 sg3 l2 F3 X3 N3 d3 c3
    simp only [pb_e198, at318z, Option.toList_some, List.singleton_append, X3.1, pb_gr, true_and]
    refine A153 (i := 5423) (j := 5406) X3 (by omega) (by omega) (by omega) ?_
    intro h4 G4 F4 X4 nb4 v4
    simp only [Option.toList_none, List.nil_append, pb_e198]
    have N4 : NF (rwS 319) G sg G4 sg3 := NF_trans N3 (NF_nb (by omega) nb4)
    refine hQ h4 G4 sg3 (fr_trans F3 F4) X4 N4 ⟨?_, fun u u1 u2 => ⟨?_, ?_⟩⟩
    · show rv G4 5423 = 1 + sm (fun v => (y.2 v).natAbs) V - y.1
      rw [v4, d3, NF_rv N3 (i := 5406) (by omega)]
      have := hR.1
      show _ - rv G (318 * 17) = _
      rw [this]
    · show rv G4 (5423 + u) = Int.natAbs (- y.2 u)
      rw [rv_ne nb4 (by omega), (c3 u u1 u2).1, Int.natAbs_neg]
    · exact (c3 u u1 u2).2
  · rw [rv_ne nb2 (by omega)]
    exact (cp1 u (by omega)).1.trans (hR.2 u u1 u2).1
  · rw [if_neg (by omega)]
    exact (cp1 u (by omega)).2.trans (hR.2 u u1 u2).2
theorem RA_abs {t : Nat → Int} {K u : Nat} (hA : RA V G t K) (hu : u ≤ V) : (t u).natAbs ≤ K * 10 ^ 60 := by
  obtain ⟨a1, a2, a3⟩ := hA u hu
  generalize K * 10 ^ 60 = P at *
  omega
theorem fit_P {t : Nat → Int} {P : Nat} (hV : V ≤ 16) (hP : 1 + 17 * P < 4294967296 ^ 8) (h : ∀ u, u ≤ V → (t u).natAbs ≤ P) : ln_fit V (ln_of V t) ∧ ∀ j, j ≤ V → 1 + sm (fun v => ((ln_of V t).2 v).natAbs) j < 4294967296 ^ 8 := by
  have hn := ngs_16 (s := t) (K := P) hV (fun v _ v2 => h v v2)
  have h0 := h 0 (by omega)
  refine ⟨⟨?_, fun v _ v2 => ?_⟩, fun j hj => ?_⟩
  · show (t 0 + (ngs t V : Int)).toNat < 4294967296 ^ 8
    omega
  · show (t v).natAbs < 4294967296 ^ 8
    have := h v v2
    omega
  · have h3 := sm_bound (g := fun v => ((ln_of V t).2 v).natAbs) (K := P) (m := j) (fun v _ v2 => h v (by omega))
    have h4 : j * P ≤ 16 * P := Nat.mul_le_mul_right _ (by omega)
    omega
theorem fit_of {t : Nat → Int} {K : Nat} (hV : V ≤ 16) (hK : K ≤ 20000) (h : ∀ u, u ≤ V → (t u).natAbs ≤ K * 10 ^ 60) : ln_fit V (ln_of V t) ∧ ∀ j, j ≤ V → 1 + sm (fun v => ((ln_of V t).2 v).natAbs) j < 4294967296 ^ 8 := by
  have h1 : K * 10 ^ 60 ≤ 20000 * 10 ^ 60 := Nat.mul_le_mul_right _ hK
  have hb : 1 + 17 * (20000 * 10 ^ 60) < 4294967296 ^ 8 := by decide
  exact fit_P hV (Nat.lt_of_le_of_lt (Nat.add_le_add_left (Nat.mul_le_mul_left 17 h1) 1) hb) h
/-- values with one that is FORCED -/
def fc1 (x : LN) (A : AS) (v : Nat) : AS := fun u => if u = v then some (decide (0 < x.2 v)) else A u
theorem fc1_sub {x : LN} {A : AS} {v : Nat} (h : ln_fc V x A v) : subA V A (fc1 x A v) := fun u u1 u2 ne => by
  unfold fc1
  rw [if_neg (fun e => by rw [e] at ne; exact ne h.1)]
theorem fc1_in {x : LN} {A B : AS} {v : Nat} (v1 : 1 ≤ v) (v2 : v ≤ V) (h : ln_fc V x A v) (hq : quiet V x B) (hs : subA V A B) : subA V (fc1 x A v) B := fun u u1 u2 ne => by
  unfold fc1 at ne ⊢
  by_cases e : u = v
  · rw [if_pos e, e]
    exact (fc_in hq hs).2 v v1 v2 h
  · rw [if_neg e] at ne ⊢
    exact hs u u1 u2 ne
theorem fc1_AV {x : LN} {A : AS} {v : Nat} {f : Nat → Int32} (hA : AV V f A) : AV V (upd f v (if sgI (x.2 v) = 1 then 1 else 0)) (fc1 x A v) := fun u u1 u2 => by
  unfold fc1
  by_cases e : u = v
  · subst e
    rw [upd_same, if_pos rfl]
    by_cases p : 0 < x.2 u
    · rw [if_pos (sgI_pos p), decide_eq_true p]; rfl
    · rw [if_neg, decide_eq_false p]
      · rfl
      · intro w
        rcases Int.lt_trichotomy (x.2 u) 0 with c | c | c
        · rw [sgI_neg c] at w; exact absurd w (by decide)
        · rw [c, sgI_0] at w; exact absurd w (by decide)
        · exact p c
  · rw [upd_ne _ _ e, if_neg e]
    exact hA u u1 u2
end RTN
