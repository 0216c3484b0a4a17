/-! The reference's rows: meet, sum -/
section ROW3
variable {h : pb_H} {Q : Option Value → pb_H → Prop} {s sg : Nat → Int32} {G : Nat → Nat} {V a b : Nat} {x y : LN}
theorem cm3_pos {m n : Nat} : (0 < cm3 m n ↔ n < m) ∧ (cm3 m n ≤ 0 ↔ m ≤ n) ∧ (cm3 m n = 0 ↔ m = n) ∧ (0 ≤ cm3 m n ↔ n ≤ m) := by
  unfold cm3
  by_cases c : m < n
  · rw [if_pos c]
    refine ⟨⟨fun e => absurd e (by decide), fun e => by omega⟩, ⟨fun _ => by omega, fun _ => by decide⟩, ⟨fun e => absurd e (by decide), fun e => by omega⟩, ⟨fun e => absurd e (by decide), fun e => by omega⟩⟩
  · rw [if_neg c]
    by_cases d : m = n
    · rw [if_pos d]
      refine ⟨⟨fun e => absurd e (by decide), fun e => by omega⟩, ⟨fun _ => by omega, fun _ => by decide⟩, ⟨fun _ => d, fun _ => rfl⟩, ⟨fun _ => by omega, fun _ => by decide⟩⟩
    · rw [if_neg d]
      refine ⟨⟨fun _ => by omega, fun _ => by decide⟩, ⟨fun e => absurd e (by decide), fun e => by omega⟩, ⟨fun e => absurd e (by decide), fun e => by omega⟩, ⟨fun _ => by omega, fun _ => by decide⟩⟩
/-- meet -/
theorem A164 {v j : Nat} {t : Int32} (hX : RX h s G sg) (ha : a < 320) (h1 : 1 ≤ v) (h2 : v ≤ 16) (hj : j < 5440) (hji : j ≠ a * 17 + v) (hjd : j ≠ a * 17)
    (hQ : ∀ h' G' sg', fr rS h h' → RX h' s G' sg' → NF (fun k => k = a * 17 ∨ k = a * 17 + v ∨ k = 5440) G sg G' sg' → rv G' (a * 17) = rv G (a * 17) - min (rv G (a * 17 + v)) (rv G j) → rv G' (a * 17 + v) = (rv G (a * 17 + v) - rv G j) + (rv G j - rv G (a * 17 + v)) → sg' (a * 17 + v) = (if rv G j < rv G (a * 17 + v) then sg (a * 17 + v) else if rv G (a * 17 + v) = rv G j then 0 else t) → sg' (a * 17) = sg (a * 17) → Q none h') : pb_call 164 [.ref 65, .int (nI a), .int (nI v), .int (nI (j * 20)), .int t] h Q := by
  have h150 := fun Q : Option Value → pb_H → Prop => A150 (Q := Q) hX (show a * 17 + v < 6171 by omega) (show j < 6171 by omega)
  obtain ⟨m1, m2, m3, m4⟩ := cm3_pos (m := rv G (a * 17 + v)) (n := rv G j)
  have e17 : ∀ r, nI r * nI 17 = nI (r * 17) := fun r => pk_mul r 17
  rw [pb_c164]
  by_cases c : rv G j < rv G (a * 17 + v)
  · have k : ¬ cm3 (rv G (a * 17 + v)) (rv G j) ≤ 0 := fun e => by have := m2.mp e; omega
    simp only [pb_e164, A143, A143z, Option.toList_some, List.singleton_append, hX.1, pb_gr, true_and, h150, k, if_false]
    refine A153 hX (by omega) (by omega) (by omega) ?_
    intro h3 G3 F3 X3 nb3 hv3
    simp only [Option.toList_none, List.nil_append, pb_e164, X3.1, pb_gr, true_and]
    have r1 : rv G3 (a * 17 + v) = rv G (a * 17 + v) := rv_ne nb3 (by omega)
    have r2 : rv G3 j = rv G j := rv_ne nb3 hjd
    refine A152 X3 (by omega) (by omega) (by omega) (by rw [r1, r2]; omega) ?_
    intro h4 G4 F4 X4 nb4 hv4
    simp only [Option.toList_none, List.nil_append, pb_e164]
    refine hQ h4 G4 sg (fr_trans F3 F4) X4 (NF_trans (NF_nb (i := a * 17) (Or.inl rfl) nb3) (NF_nb (i := a * 17 + v) (Or.inr (Or.inl rfl)) nb4)) ?_ ?_ (by rw [if_pos c]) rfl
    · rw [rv_ne nb4 (by omega), hv3, Nat.min_eq_right (by omega)]
    · rw [hv4, r1, r2]; omega
  · have k : cm3 (rv G (a * 17 + v)) (rv G j) ≤ 0 := m2.mpr (by omega)
    have e320 : ∀ Q : Option Value → pb_H → Prop, ∀ h, pb_call 143 [.int 320, .int 0] h Q ↔ Q (some (.int (nI (5440 * 20)))) h := fun Q h => A143z (r := 320)
    simp only [pb_e164, A143, A143z, Option.toList_some, List.singleton_append, hX.1, pb_gr, true_and, h150, k, if_true]
    refine A153 hX (by omega) (by omega) (by omega) ?_
    intro h3 G3 F3 X3 nb3 hv3
    have r1 : rv G3 (a * 17 + v) = rv G (a * 17 + v) := rv_ne nb3 (by omega)
    have r2 : rv G3 j = rv G j := rv_ne nb3 hjd
    simp only [Option.toList_none, List.nil_append, pb_e164, X3.1, pb_gr, true_and, e320, Option.toList_some, List.singleton_append]
    refine A146 X3 (by omega) (by omega) (by omega) ?_
    intro h4 G4 F4 X4 nb4 hv4
    simp only [Option.toList_none, List.nil_append, pb_e164, X4.1, pb_gr, true_and]
    have r3 : rv G4 (a * 17 + v) = rv G (a * 17 + v) := by rw [rv_ne nb4 (by omega), r1]
    refine A152 X4 (by omega) (by omega) (by omega) (by rw [hv4, r3, r2]; omega) ?_
    intro h5 G5 F5 X5 nb5 hv5
    simp only [Option.toList_none, List.nil_append, pb_e164, X5.1, pb_gr, true_and]
    refine A146 X5 (by omega) (by omega) (by omega) ?_
    intro h6 G6 F6 X6 nb6 hv6
    have hN : NF (fun k => k = a * 17 ∨ k = a * 17 + v ∨ k = 5440) G sg G6 sg := NF_trans (NF_nb (i := a * 17) (Or.inl rfl) nb3) (NF_trans (NF_nb (i := 5440) (Or.inr (Or.inr rfl)) nb4) (NF_trans (NF_nb (i := 5440) (Or.inr (Or.inr rfl)) nb5) (NF_nb (i := a * 17 + v) (Or.inr (Or.inl rfl)) nb6)))
    have hd : rv G6 (a * 17) = rv G (a * 17) - min (rv G (a * 17 + v)) (rv G j) := by
      rw [rv_ne nb6 (by omega), rv_ne nb5 (by omega), rv_ne nb4 (by omega), hv3, Nat.min_eq_left (by omega)]
    have hi6 : rv G6 (a * 17 + v) = (rv G (a * 17 + v) - rv G j) + (rv G j - rv G (a * 17 + v)) := by
      rw [hv6, hv5, hv4, r3, r2]; omega
    by_cases c2 : rv G (a * 17 + v) = rv G j
    · have kk : cm3 (rv G (a * 17 + v)) (rv G j) = 0 := m3.mpr c2
      have hS := sg_set (sg := sg) (j := a * 17 + v) (x := 0) (by omega)
      obtain ⟨X7, F7⟩ := RX_sig X6 (sg' := upd sg (a * 17 + v) 0)
      simp only [Option.toList_none, List.nil_append, pb_e164, nI17, X6.1, X6.2.2.2.1, pb_gr, pb_o_some, true_and, e17, nI_add, kk, not_true_eq_false, if_false, hS]
      exact hQ _ G6 _ (fr_trans F3 (fr_trans F4 (fr_trans F5 (fr_trans F6 F7)))) X7 (NF_trans hN (NF_sg (Or.inr (Or.inl rfl)))) hd hi6 (by rw [upd_same, if_neg c, if_pos c2]) (upd_ne _ _ (by omega))
    · have kk : ¬ cm3 (rv G (a * 17 + v)) (rv G j) = 0 := fun e => c2 (m3.mp e)
      have hS := sg_set (sg := sg) (j := a * 17 + v) (x := t) (by omega)
      obtain ⟨X7, F7⟩ := RX_sig X6 (sg' := upd sg (a * 17 + v) t)
      simp only [Option.toList_none, List.nil_append, pb_e164, nI17, X6.1, X6.2.2.2.1, pb_gr, pb_o_some, true_and, e17, nI_add, kk, not_false_eq_true, if_true, hS]
      exact hQ _ G6 _ (fr_trans F3 (fr_trans F4 (fr_trans F5 (fr_trans F6 F7)))) X7 (NF_trans hN (NF_sg (Or.inr (Or.inl rfl)))) hd hi6 (by rw [upd_same, if_neg c, if_neg c2]) (upd_ne _ _ (by omega))
theorem op_abs {x y : Int} (h : (0 < x ∧ y < 0) ∨ (x < 0 ∧ 0 < y)) : (x.natAbs - y.natAbs) + (y.natAbs - x.natAbs) = (x + y).natAbs := by omega
theorem op_sg {x y : Int} (h : (0 < x ∧ y < 0) ∨ (x < 0 ∧ 0 < y)) : (if y.natAbs < x.natAbs then sgI x else if x.natAbs = y.natAbs then 0 else sgI y) = sgI (x + y) := by
  rcases h with ⟨p1, p2⟩ | ⟨p1, p2⟩
  · by_cases q1 : y.natAbs < x.natAbs
    · rw [if_pos q1, sgI_pos p1, sgI_pos (by omega)]
    · rw [if_neg q1]
      by_cases q2 : x.natAbs = y.natAbs
      · rw [if_pos q2, show x + y = 0 by omega]; rfl
      · rw [if_neg q2, sgI_neg p2, sgI_neg (by omega)]
  · by_cases q1 : y.natAbs < x.natAbs
    · rw [if_pos q1, sgI_neg p1, sgI_neg (by omega)]
    · rw [if_neg q1]
      by_cases q2 : x.natAbs = y.natAbs
      · rw [if_pos q2, show x + y = 0 by omega]; rfl
      · rw [if_neg q2, sgI_pos p2, sgI_pos (by omega)]
theorem sm_sg {x y : Int} (h : (0 < x ∧ 0 < y) ∨ (x < 0 ∧ y < 0)) : sgI x = sgI (x + y) ∧ x.natAbs + y.natAbs = (x + y).natAbs ∧ sgI x = sgI y ∧ ln_mt x y = 0 := by
  refine ⟨?_, by omega, ?_, by unfold ln_mt; rw [if_neg (by omega)]⟩
  · rcases h with ⟨p1, p2⟩ | ⟨p1, p2⟩
    · rw [sgI_pos p1, sgI_pos (by omega)]
    · rw [sgI_neg p1, sgI_neg (by omega)]
  · rcases h with ⟨p1, p2⟩ | ⟨p1, p2⟩
    · rw [sgI_pos p1, sgI_pos p2]
    · rw [sgI_neg p1, sgI_neg p2]
theorem op_sg2 {x y : Int} (h : (0 < x ∧ y < 0) ∨ (x < 0 ∧ 0 < y)) : ¬ sgI x = sgI y ∧ ln_mt x y = min x.natAbs y.natAbs := by
  refine ⟨?_, by unfold ln_mt; rw [if_pos (by omega)]⟩
  rcases h with ⟨p1, p2⟩ | ⟨p1, p2⟩
  · rw [sgI_pos p1, sgI_neg p2]; decide
  · rw [sgI_neg p1, sgI_pos p2]; decide
theorem op_of {x y : Int} (hx : ¬ x = 0) (hy : ¬ y = 0) (h : ¬ ((0 < x ∧ 0 < y) ∨ (x < 0 ∧ y < 0))) : (0 < x ∧ y < 0) ∨ (x < 0 ∧ 0 < y) := by omega
theorem mt_y0 (x : Int) : ln_mt x 0 = 0 := by unfold ln_mt; rw [if_neg (by omega)]
theorem mt_x0 (y : Int) : ln_mt 0 y = 0 := by unfold ln_mt; rw [if_neg (by omega)]
theorem lt_two {m n P : Nat} (hm : m < B8) (hn : n < B8) (hB : B8 + B8 < P) : m + n < P := Nat.lt_trans (Nat.add_lt_add hm hn) hB
def sumx (x y : LN) (m : Nat) : LN := (ln_dg x y m, fun u => if u ≤ m then x.2 u + y.2 u else x.2 u)
theorem ln_dg_le (x y : LN) : ∀ m, ln_dg x y m ≤ x.1 + y.1
  | 0 => Nat.le_refl _
  | m + 1 => Nat.le_trans (Nat.sub_le _ _) (ln_dg_le x y m)
theorem sumx_step {G3 : Nat → Nat} {sg3 : Nat → Int32} {m : Nat} (hR : RR V G sg a (sumx x y m)) (hd : rv G3 (a * 17) = ln_dg x y (m + 1)) (hv : rv G3 (a * 17 + (m + 1)) = (x.2 (m + 1) + y.2 (m + 1)).natAbs) (hs : sg3 (a * 17 + (m + 1)) = sgI (x.2 (m + 1) + y.2 (m + 1))) (ho : ∀ u, 1 ≤ u → u ≤ V → u ≠ m + 1 → rv G3 (a * 17 + u) = rv G (a * 17 + u) ∧ sg3 (a * 17 + u) = sg (a * 17 + u)) : RR V G3 sg3 a (sumx x y (m + 1)) := by
  refine ⟨hd, fun u u1 u2 => ?_⟩
  show _ = Int.natAbs (if u ≤ m + 1 then x.2 u + y.2 u else x.2 u) ∧ _ = sgI (if u ≤ m + 1 then x.2 u + y.2 u else x.2 u)
  by_cases e : u = m + 1
  · subst e; rw [if_pos (by omega)]; exact ⟨hv, hs⟩
  · have h0 : rv G (a * 17 + u) = Int.natAbs (if u ≤ m then x.2 u + y.2 u else x.2 u) ∧ sg (a * 17 + u) = sgI (if u ≤ m then x.2 u + y.2 u else x.2 u) := hR.2 u u1 u2
    rw [(ho u u1 u2 e).1, (ho u u1 u2 e).2]
    by_cases c : u ≤ m
    · rw [if_pos c] at h0; rw [if_pos (by omega)]; exact h0
    · rw [if_neg c] at h0; rw [if_neg (by omega)]; exact h0
/-- sum -/
theorem A165 (hX : RX h s G sg) (hV : s 3 = nI V) (hV16 : V ≤ 16) (ha : a < 320) (hb : b < 320) (hab : a ≠ b) (hRa : RR V G sg a x) (hRb : RR V G sg b y) (hfx : ln_fit V x) (hfy : ln_fit V y)
    (hQ1 : ∀ h' G' sg', fr rS h h' → RX h' s G' sg' → NF (fun k => rwS a k ∨ k = 5440) G sg G' sg' → ln_fit V (ln_sum V x y) → RR V G' sg' a (ln_sum V x y) → Q (some (.int 1)) h')
    (hQ0 : ∀ h' G' sg', fr rS h h' → RX h' s G' sg' → NF (fun k => rwS a k ∨ k = 5440) G sg G' sg' → ¬ ln_fit V (ln_sum V x y) → Q (some (.int 0)) h') : pb_call 165 [.ref 65, .int (nI a), .int (nI b)] h Q := by
  have e17 : ∀ r, nI r * nI 17 = nI (r * 17) := fun r => pk_mul r 17
  have hB : B8 + B8 < 65536 ^ 20 := by decide
  have hx1 := hfx.1
  have hy1 := hfy.1
  have hl : ∀ n m h' G' sg' l4 l5 l6 l7, m + n = V → fr rS h h' → RX h' s G' sg' → NF (fun k => rwS a k ∨ k = 5440) G sg G' sg' → RR V G' sg' a (sumx x y m) → RR V G' sg' b y → pb_R 165 16 [some (.ref 65), some (.int (nI a)), some (.int (nI b)), some (.int (nI (m + 1))), l4, l5, l6, l7] [] [] h' Q := by
    intro n
    induction n with
    | zero =>
      intro m h' G' sg' l4 l5 l6 l7 hm F X N R Rb
      obtain rfl : m = V := by omega
      have c1 : nI m < nI (m + 1) := nI_lt (by omega) (by omega)
      have hR' : RR m G' sg' a (ln_sum m x y) := RR_leq (x := sumx x y m) ⟨rfl, fun u u1 u2 => if_pos u2⟩ R
      have hfit : (∀ v, v ≤ m → rv G' (a * 17 + v) < 65536 ^ 16) ↔ ln_fit m (ln_sum m x y) := by
        rw [pow16]
        constructor
        · intro e
          refine ⟨?_, fun v v1 v2 => ?_⟩
          · rw [← hR'.1]; exact e 0 (by omega)
          · rw [← (hR'.2 v v1 v2).1]; exact e v v2
        · intro e v hv
          by_cases v0 : v = 0
          · subst v0
            show rv G' (a * 17) < B8
            rw [hR'.1]; exact e.1
          · rw [(hR'.2 v (by omega) hv).1]; exact e.2 v (by omega) hv
      rw [pb_q165_16]
      simp only [pb_e165, X.1, pb_gr, pb_o_some, true_and, hV, c1, if_true]
      refine A163 X hV hV16 (by omega) (fun e => ?_) (fun e => ?_)
      · simp only [Option.toList_some, List.singleton_append, pb_e165, nb1, true_and]
        exact hQ1 h' G' sg' F X N (hfit.mp e) hR'
      · simp only [Option.toList_some, List.singleton_append, pb_e165, nb0, true_and]
        exact hQ0 h' G' sg' F X N (fun q => e (hfit.mpr q))
    | succ n ih =>
      intro m h' G' sg' l4 l5 l6 l7 hm F X N R Rb
      have c1 : ¬ nI V < nI (m + 1) := nI_nlt (by omega) (by omega)
      have hga := sg_get (sg := sg') (j := a * 17 + (m + 1)) (by omega)
      have hgb := sg_get (sg := sg') (j := b * 17 + (m + 1)) (by omega)
      have ra : rv G' (a * 17 + (m + 1)) = (x.2 (m + 1)).natAbs ∧ sg' (a * 17 + (m + 1)) = sgI (x.2 (m + 1)) := by
        have := R.2 (m + 1) (by omega) (by omega)
        have e : (sumx x y m).2 (m + 1) = x.2 (m + 1) := if_neg (by omega)
        rw [e] at this; exact this
      have rb := Rb.2 (m + 1) (by omega) (by omega)
      have rd : rv G' (a * 17) = ln_dg x y m := R.1
      have hrb : ∀ G3 sg3, NF (fun k => rwS a k ∨ k = 5440) G' sg' G3 sg3 → RR V G3 sg3 b y := fun G3 sg3 N3 => RR_NF N3 (fun v hv => by omega) Rb
      have i1 : a * 17 + (m + 1) < 6171 := by omega
      have i2 : b * 17 + (m + 1) < 6171 := by omega
      have i3 : b * 17 + (m + 1) ≠ a * 17 + (m + 1) := by omega
      have i4 : rwS a (a * 17 + (m + 1)) := by omega
      have i5 : a * 17 ≠ a * 17 + (m + 1) := by omega
      have i6 : ∀ u, u ≠ m + 1 → a * 17 + u ≠ a * 17 + (m + 1) := fun u hu => by omega
      have i7 : b * 17 + (m + 1) < 5440 := by omega
      have i8 : b * 17 + (m + 1) ≠ a * 17 := by omega
      have i9 : rwS a (a * 17) := by omega
      have i10 : ∀ u, 1 ≤ u → u ≤ V → u ≠ m + 1 → ¬ (a * 17 + u = a * 17 ∨ a * 17 + u = a * 17 + (m + 1) ∨ a * 17 + u = 5440) := fun u u1 u2 u3 => by omega
      have i11 : m + 1 + n = V := by omega
      have i12 : 1 ≤ m + 1 := by omega
      have i13 : m + 1 ≤ 16 := by omega
      have bxy : (x.2 (m + 1)).natAbs + (y.2 (m + 1)).natAbs < 65536 ^ 20 := lt_two (hfx.2 (m + 1) (by omega) (by omega)) (hfy.2 (m + 1) (by omega) (by omega)) hB
      have hdg : ln_dg x y (m + 1) = ln_dg x y m - ln_mt (x.2 (m + 1)) (y.2 (m + 1)) := rfl
      rw [pb_q165_16]
      by_cases y0 : y.2 (m + 1) = 0
      · have s0 : sg' (b * 17 + (m + 1)) = 0 := by rw [rb.2, y0]; rfl
        rw [y0, mt_y0, Nat.sub_zero] at hdg
        simp only [pb_e165, nI17, X.1, X.2.2.2.1, pb_gr, pb_o_some, true_and, hV, c1, if_false, e17, nI_add, hga, hgb, A143, Option.toList_some, List.singleton_append, s0, if_true, nI_1]
        exact ih (m + 1) h' G' sg' _ _ _ _ i11 F X N (sumx_step R (by rw [rd, hdg]) (by rw [ra.1, y0, Int.add_zero]) (by rw [ra.2, y0, Int.add_zero]) (fun u _ _ _ => ⟨rfl, rfl⟩)) Rb
      · have sb0 : ¬ sg' (b * 17 + (m + 1)) = 0 := by rw [rb.2, sgI_eq0]; exact y0
        by_cases x0 : x.2 (m + 1) = 0
        · have sa0 : sg' (a * 17 + (m + 1)) = 0 := by rw [ra.2, x0]; rfl
          rw [x0, mt_x0, Nat.sub_zero] at hdg
          have hS := sg_set (sg := sg') (j := a * 17 + (m + 1)) (x := sg' (b * 17 + (m + 1))) i1
          obtain ⟨X2, F2⟩ := RX_sig X (sg' := upd sg' (a * 17 + (m + 1)) (sg' (b * 17 + (m + 1))))
          simp only [pb_e165, nI17, X.1, X.2.2.2.1, pb_gr, pb_o_some, true_and, hV, c1, if_false, e17, nI_add, hga, hgb, A143, Option.toList_some, List.singleton_append, sb0, sa0, not_true_eq_false, hS, X2.1]
          refine A146 X2 i2 i1 i3 ?_
          intro h3 G3 F3 X3 nb3 hv3
          simp only [Option.toList_none, List.nil_append, pb_e165, nI_1]
          have N3 : NF (fun k => rwS a k ∨ k = 5440) G' sg' G3 (upd sg' (a * 17 + (m + 1)) (sg' (b * 17 + (m + 1)))) := NF_trans (NF_sg (Or.inl i4)) (NF_nb (i := a * 17 + (m + 1)) (Or.inl i4) nb3)
          exact ih (m + 1) h3 G3 _ _ _ _ _ i11 (fr_trans F (fr_trans F2 F3)) X3 (NF_trans N N3) (sumx_step R (by rw [rv_ne nb3 i5, rd, hdg]) (by rw [hv3, rb.1, x0, Int.zero_add]) (by rw [upd_same, rb.2, x0, Int.zero_add]) (fun u _ _ hu => ⟨rv_ne nb3 (i6 u hu), upd_ne _ _ (i6 u hu)⟩)) (hrb _ _ N3)
        · have sa0 : ¬ sg' (a * 17 + (m + 1)) = 0 := by rw [ra.2, sgI_eq0]; exact x0
          by_cases same : (0 < x.2 (m + 1) ∧ 0 < y.2 (m + 1)) ∨ (x.2 (m + 1) < 0 ∧ y.2 (m + 1) < 0)
          · obtain ⟨t1, t2, t3, t4⟩ := sm_sg same
            have hss : sg' (a * 17 + (m + 1)) = sg' (b * 17 + (m + 1)) := by rw [ra.2, rb.2, t3]
            rw [t4, Nat.sub_zero] at hdg
            rw [hss] at hga
            simp only [pb_e165, nI17, X.1, X.2.2.2.1, pb_gr, pb_o_some, true_and, hV, c1, if_false, e17, nI_add, hga, hgb, A143, Option.toList_some, List.singleton_append, sb0, not_false_eq_true, if_true, not_true_eq_false]
            refine A151 X i1 i2 (Ne.symm i3) (by rw [ra.1, rb.1]; exact bxy) ?_
            intro h3 G3 F3 X3 nb3 hv3
            simp only [Option.toList_none, List.nil_append, pb_e165, nI_1]
            have N3 : NF (fun k => rwS a k ∨ k = 5440) G' sg' G3 sg' := NF_nb (i := a * 17 + (m + 1)) (Or.inl i4) nb3
            exact ih (m + 1) h3 G3 _ _ _ _ _ i11 (fr_trans F F3) X3 (NF_trans N N3) (sumx_step R (by rw [rv_ne nb3 i5, rd, hdg]) (by rw [hv3, ra.1, rb.1, t2]) (by rw [ra.2, t1]) (fun u _ _ hu => ⟨rv_ne nb3 (i6 u hu), rfl⟩)) (hrb _ _ N3)
          · have op := op_of x0 y0 same
            obtain ⟨t1, t2⟩ := op_sg2 op
            have hss : ¬ sg' (a * 17 + (m + 1)) = sg' (b * 17 + (m + 1)) := by rw [ra.2, rb.2]; exact t1
            simp only [pb_e165, nI17, X.1, X.2.2.2.1, pb_gr, pb_o_some, true_and, hV, c1, if_false, e17, nI_add, hga, hgb, A143, Option.toList_some, List.singleton_append, sb0, sa0, not_false_eq_true, if_true, hss]
            refine A164 X ha i12 i13 i7 i3 i8 ?_
            intro h3 G3 sg3 F3 X3 N3 hd3 hv3 hs3 hsd
            simp only [Option.toList_none, List.nil_append, pb_e165, nI_1]
            have N3' : NF (fun k => rwS a k ∨ k = 5440) G' sg' G3 sg3 := NF_mono (fun k hk => by
              rcases hk with q | q | q
              · rw [q]; exact Or.inl i9
              · rw [q]; exact Or.inl i4
              · exact Or.inr q) N3
            rw [ra.1, rb.1] at hv3 hs3
            rw [op_abs op] at hv3
            rw [ra.2, rb.2, op_sg op] at hs3
            exact ih (m + 1) h3 G3 _ _ _ _ _ i11 (fr_trans F F3) X3 (NF_trans N N3') (sumx_step R (by rw [hd3, rd, ra.1, rb.1, hdg, t2]) hv3 hs3 (fun u u1 u2 hu => ⟨NF_rv N3 (i10 u u1 u2 hu), (N3 _ (i10 u u1 u2 hu)).2⟩)) (hrb _ _ N3')
  rw [pb_c165]
  simp only [pb_e165, A143z, Option.toList_some, List.singleton_append, hX.1, pb_gr, true_and]
  refine A151 hX (by omega) (by omega) (by omega) (by rw [hRa.1, hRb.1]; exact lt_two hx1 hy1 hB) ?_
  intro h3 G3 F3 X3 nb3 hv3
  simp only [Option.toList_none, List.nil_append, pb_e165]
  have N3 : NF (fun k => rwS a k ∨ k = 5440) G sg G3 sg := NF_nb (i := a * 17) (Or.inl (by omega)) nb3
  refine hl V 0 h3 G3 sg _ _ _ _ (by omega) F3 X3 N3 ⟨by rw [hv3, hRa.1, hRb.1]; rfl, fun u u1 u2 => ?_⟩ (RR_NF N3 (fun v hv => by omega) hRb)
  show _ = Int.natAbs (if u ≤ 0 then _ else x.2 u) ∧ _ = sgI (if u ≤ 0 then _ else x.2 u)
  rw [if_neg (by omega), rv_ne nb3 (by omega)]
  exact hRa.2 u u1 u2
end ROW3
