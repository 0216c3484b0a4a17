/-! The reference's follows -/
section RFL
variable {h : pb_H} {Q : Option Value → pb_H → Prop} {V n m st : Nat} {b : Nat → Nat} {s sg og : Nat → Int32} {G : Nat → Nat} {X : Nat → LN} {y : LN}
abbrev rF : Nat → Prop := fun q => rS q ∨ q = 74
/-- where follows stands -/
def FWR (h : pb_H) (V n : Nat) (b : Nat → Nat) (s : Nat → Int32) (G : Nat → Nat) (sg : Nat → Int32) (m : Nat) (X : Nat → LN) (y : LN) (f : Nat → Int32) : Prop := RK h V n b s G sg m X ∧ RR V G sg 318 y ∧ RR V G sg 319 (ln_op V y) ∧ h.2 74 = ci 17 f
theorem lnx_row {k : Nat} {f : Nat → Int32} (hW : FWR h V n b s G sg m X y f) (hf : ln_fit V (ln_op V y)) (hk : k ≤ m) : RR V G sg (if k = 0 then 319 else k) (lnx V X y k) ∧ ln_fit V (lnx V X y k) := by
  unfold lnx
  by_cases e : k = 0
  · rw [if_pos e, if_pos e]
    exact ⟨hW.2.2.1, hf⟩
  · rw [if_neg e, if_neg e]
    exact ⟨hW.1.2.2.2.1 k (by omega) hk, hW.1.2.2.2.2 k (by omega) hk⟩
theorem U199_108 {A0 : AS} (hV : V ≤ 16) (hf : ln_fit V (ln_op V y)) 
    (hE1 : ∀ h2 G2 f2 l1 l2 l3 l4, fr rF h h2 → FWR h2 V n b s G2 sg m X y f2 → flw V m X y → pb_R 199 145 [some (.ref 65), l1, l2, l3, l4] [] [] h2 Q)
    (hE : ∀ h2 G2 f2 A2 mo l2 l3 l4, fr rF h h2 → FWR h2 V n b s G2 sg m X y f2 → AV V f2 A2 → (∀ B, clo V m X y B → subA V A2 B) → subA V A0 A2 → ((mo = 0 ∧ ∀ k, k ≤ m → quiet V (lnx V X y k) A2) ∨ (mo = 1 ∧ ∃ v, 1 ≤ v ∧ v ≤ V ∧ A0 v = none ∧ A2 v ≠ none)) → pb_R 199 100 [some (.ref 65), some (.int mo), l2, l3, l4] [] [] h2 Q) :
    ∀ r k h' G' f A mo l3 l4, k + r = m + 1 → fr rF h h' → FWR h' V n b s G' sg m X y f → AV V f A → (∀ B, clo V m X y B → subA V A B) → subA V A0 A → ((mo = 0 ∧ ∀ j, j < k → quiet V (lnx V X y j) A) ∨ (mo = 1 ∧ ∃ v, 1 ≤ v ∧ v ≤ V ∧ A0 v = none ∧ A v ≠ none)) → pb_R 199 108 [some (.ref 65), some (.int mo), some (.int (nI k)), l3, l4] [] [] h' Q := by
  intro r
  induction r with
  | zero =>
    intro k h' G' f A mo l3 l4 hk F hW hA hB hs hor
    obtain rfl : k = m + 1 := by omega
    have m300 := hW.1.2.2.1
    have c1 : nI m < nI (m + 1) := nI_lt (by omega) (by omega)
    rw [pb_q199_108]
    simp only [pb_e199, hW.1.1.1.1, pb_gr, pb_o_some, hW.1.2.1, c1, if_true]
    exact hE h' G' f A mo _ l3 l4 F hW hA hB hs (by
      rcases hor with ⟨q1, q3⟩ | q
      · exact Or.inl ⟨q1, fun j hj => q3 j (by omega)⟩
      · exact Or.inr q)
  | succ r ih =>
    intro k h' G' f A mo l3 l4 hk F hW hA hB hs hor
    have m300 := hW.1.2.2.1
    have c1 : ¬ nI m < nI k := nI_nlt (by omega) (by omega)
    obtain ⟨Rk, fk⟩ := lnx_row hW hf (show k ≤ m by omega)
    have hgo : pb_R 199 108 [some (.ref 65), some (.int mo), some (.int (nI k)), l3, l4] [] [] h' Q ↔ pb_R 199 128 [some (.ref 65), some (.int mo), some (.int (nI k)), some (.int (nI (if k = 0 then 319 else k))), l4] [] [] h' Q := by
      rw [pb_q199_108]
      by_cases e : k = 0
      · have c0 : nI k = 0 := by rw [e]; rfl
        have e319 : nI 319 = 319 := rfl
        have c1' : ¬ nI m < 0 := c0 ▸ c1
        rw [if_pos e, c0, e319]
        simp only [pb_e199, hW.1.1.1.1, pb_gr, pb_o_some, hW.1.2.1, c1', if_false, not_true_eq_false]
      · have c0 : ¬ nI k = 0 := nI_ne0 (by omega) (by omega)
        rw [if_neg e]
        simp only [pb_e199, hW.1.1.1.1, pb_gr, pb_o_some, hW.1.2.1, c1, if_false, c0, not_false_eq_true, if_true]
    have hrow : (if k = 0 then 319 else k) < 320 := by split <;> omega
    rw [hgo]
    generalize (if k = 0 then 319 else k) = row at Rk hrow ⊢
    simp only [pb_e199, hW.1.1.1.1, pb_gr, pb_o_some, true_and]
    refine A172 (c := 74) hW.1.1.1 hW.1.1.2.2.2.2.2 hV hrow Rk fk hW.2.2.2 (by omega) hA ?_
    intro h2 G2 z F2 X2 N2 hz
    have Z2 : RZ h2 V n b s G2 sg := RZ_fr hW.1.1 F2 X2 rfl rfl
    have hW2 : FWR h2 V n b s G2 sg m X y f := ⟨RK_up hV hW.1 Z2 rfl N2 (fun i w => by omega), RR_NF N2 (fun v hv => by omega) hW.2.1, RR_NF N2 (fun v hv => by omega) hW.2.2.1, (F2.2.2 74 (by omega)).trans hW.2.2.2⟩
    have FF : fr rF h h2 := fr_trans F (fr_mono (fun q w => Or.inl w) F2)
    rcases hz with ⟨br, ez⟩ | ⟨nb, ⟨v, v1, v2, v3, v4, ez⟩⟩ | ⟨nb, nf, ez⟩
    · subst ez
      have key := hE1 h2 G2 f (some (.int mo)) (some (.int (nI k))) (some (.int (nI row))) (some (.int (-1))) FF hW2 (fun ⟨B, hB'⟩ => (fc_in (hB' k (by omega)) (hB B hB')).1 br)
      simp only [pb_e199, X2.1, pb_gr, true_and] at key
      simp only [Option.toList_some, List.singleton_append, pb_e199, not_true_eq_false, if_false, X2.1, pb_gr, true_and]
      exact key
    · subst ez
      have d1 : ¬ nI v = -1 := fun e => by
        have p := nI_pos' (n := v) (by omega)
        rw [e] at p
        exact absurd p (by decide)
      have d2 : ¬ nI v ≤ 0 := nI_nle (by omega) (by omega)
      have eix : nI row * 17 + nI v = nI (row * 17 + v) := by rw [nI17, nI_mul, nI_add]
      have hgt := sg_get (sg := sg) (j := row * 17 + v) (by omega)
      rw [(Rk.2 v v1 v2).2] at hgt
      have hst := fun x => pb_si_eq (n := 17) (j := v) (f := f) (x := x) (by omega) (by omega)
      have hset : pb_R 199 160 [some (.ref 65), some (.int mo), some (.int (nI k)), some (.int (nI row)), some (.int (nI v))] [] [] h2 Q ↔ pb_R 199 188 [some (.ref 65), some (.int mo), some (.int (nI k)), some (.int (nI row)), some (.int (nI v))] [] [] (pb_set h2 74 (ci 17 (upd f v (if sgI ((lnx V X y k).2 v) = 1 then 1 else 0)))) Q := by
        by_cases e : sgI ((lnx V X y k).2 v) = 1
        · rw [if_pos e]
          simp only [pb_e199, X2.1, pb_gr, pb_o_some, eix, X2.2.2.2.1, hgt, e, not_true_eq_false, if_false, hW2.2.2.2, hst]
        · rw [if_neg e]
          simp only [pb_e199, X2.1, pb_gr, pb_o_some, eix, X2.2.2.2.1, hgt, e, not_false_eq_true, if_true, hW2.2.2.2, hst]
      suffices key : pb_R 199 160 [some (.ref 65), some (.int mo), some (.int (nI k)), some (.int (nI row)), some (.int (nI v))] [] [] h2 Q by
        simp only [pb_e199, X2.1, pb_gr, pb_o_some, eix, X2.2.2.2.1, hgt] at key
        simp only [Option.toList_some, List.singleton_append, pb_e199, d1, not_false_eq_true, if_true, d2, if_false, X2.1, pb_gr, pb_o_some, eix, X2.2.2.2.1, hgt]
        exact key
      rw [hset]
      have G3 : fr (fun q => q = 74) h2 (pb_set h2 74 (ci 17 (upd f v (if sgI ((lnx V X y k).2 v) = 1 then 1 else 0)))) := fr_set rfl (by rw [hW2.2.2.2]; rfl)
      have X3 : RX (pb_set h2 74 (ci 17 (upd f v (if sgI ((lnx V X y k).2 v) = 1 then 1 else 0)))) s G2 sg := by
        obtain ⟨b1, b2, b3, b4, ⟨W0, c0, d0⟩, ⟨W1, c1, d1⟩, ⟨W2, c2, d2⟩, ⟨W3, c3, d3⟩⟩ := X2
        exact ⟨(G3.2.2 65 (by omega)).trans b1, (G3.2.2 66 (by omega)).trans b2, b3, (G3.2.2 67 (by omega)).trans b4, ⟨W0, (G3.2.2 70 (by omega)).trans c0, d0⟩, ⟨W1, (G3.2.2 71 (by omega)).trans c1, d1⟩, ⟨W2, (G3.2.2 72 (by omega)).trans c2, d2⟩, ⟨W3, (G3.2.2 73 (by omega)).trans c3, d3⟩⟩
      have hW3 : FWR (pb_set h2 74 (ci 17 (upd f v (if sgI ((lnx V X y k).2 v) = 1 then 1 else 0)))) V n b s G2 sg m X y (upd f v (if sgI ((lnx V X y k).2 v) = 1 then 1 else 0)) := ⟨⟨⟨X3, (G3.2.2 69 (by omega)).trans Z2.2.1, Z2.2.2⟩, hW2.1.2⟩, hW2.2.1, hW2.2.2.1, by rw [pb_set_get, if_pos rfl]⟩
      simp only [pb_e199, nI_1]
      refine ih (k + 1) _ G2 _ (fc1 (lnx V X y k) A v) 1 _ _ (by omega) (fr_trans FF (fr_mono (fun q w => Or.inr w) G3)) hW3 (fc1_AV hA) (fun B hB' => fc1_in v1 v2 v3 (hB' k (by omega)) (hB B hB')) (fun u u1 u2 ne => ?_) (Or.inr ⟨rfl, v, v1, v2, ?_, ?_⟩)
      · have e1 := hs u u1 u2 ne
        rw [← e1]
        exact fc1_sub v3 u u1 u2 (by rw [e1]; exact ne)
      · apply Classical.byContradiction
        intro ne
        have := hs v v1 v2 ne
        rw [v3.1] at this
        exact ne this.symm
      · unfold fc1
        rw [if_pos rfl]
        exact fun e => by cases e
    · subst ez
      have d1 : ¬ (0 : Int32) = -1 := by decide
      have d2 : (0 : Int32) ≤ 0 := by decide
      simp only [Option.toList_some, List.singleton_append, pb_e199, d1, not_false_eq_true, if_true, d2, nI_1]
      refine ih (k + 1) h2 G2 f A mo _ _ (by omega) FF hW2 hA hB hs ?_
      rcases hor with ⟨q1, q3⟩ | q
      · refine Or.inl ⟨q1, fun j hj => ?_⟩
        by_cases e : j = k
        · subst e; exact ⟨nb, nf⟩
        · exact q3 j (by omega)
      · exact Or.inr q
theorem U199_100 (hV : V ≤ 16) (hf : ln_fit V (ln_op V y)) 
    (hE1 : ∀ h2 G2 f2 l1 l2 l3 l4, fr rF h h2 → FWR h2 V n b s G2 sg m X y f2 → flw V m X y → pb_R 199 145 [some (.ref 65), l1, l2, l3, l4] [] [] h2 Q)
    (hE0 : ∀ h2 G2 f2 l1 l2 l3 l4, fr rF h h2 → FWR h2 V n b s G2 sg m X y f2 → ¬ flw V m X y → pb_R 199 199 [some (.ref 65), l1, l2, l3, l4] [] [] h2 Q) :
    ∀ c h' G' f A l2 l3 l4, cnt A V + 1 ≤ c → fr rF h h' → FWR h' V n b s G' sg m X y f → AV V f A → (∀ B, clo V m X y B → subA V A B) → pb_R 199 100 [some (.ref 65), some (.int 1), l2, l3, l4] [] [] h' Q := by
  intro c
  induction c with
  | zero =>
    intro h' G' f A l2 l3 l4 hc
    omega
  | succ c ih =>
    intro h' G' f A l2 l3 l4 hc F hW hA hB
    have i10 : ¬ (1 : Int32) = 0 := by decide
    rw [pb_q199_100]
    simp only [pb_e199, i10, if_false]
    have i0 : (some (Value.int 0) : Option Value) = some (.int (nI 0)) := rfl
    refine U199_108 (A0 := A) hV hf hE1 ?_ (m + 1) 0 h' G' f A 0 l3 l4 (by omega) F hW hA hB (subA_refl V A) (Or.inl ⟨rfl, fun j hj => by omega⟩)
    intro h2 G2 f2 A2 mo l2' l3' l4' F2 hW2 hA2 hB2 hs2 hor
    rcases hor with ⟨q1, q3⟩ | ⟨q1, v, v1, v2, v3, v4⟩
    · subst q1
      have key := hE0 h2 G2 f2 (some (.int 0)) l2' l3' l4' F2 hW2 (fun w => w ⟨A2, q3⟩)
      simp only [pb_e199, hW2.1.1.1.1, pb_gr, pb_o_some] at key
      rw [pb_q199_100]
      simp only [pb_e199, if_true, hW2.1.1.1.1, pb_gr, pb_o_some]
      exact key
    · subst q1
      have := cnt_lt hs2 v1 v2 v3 v4
      exact ih h2 G2 f2 A2 l2' l3' l4' (by omega) F2 hW2 hA2 hB2
theorem U199_79 {f0 : Nat → Int32} (h65 : h.2 65 = rm s) (h74 : h.2 74 = ci 17 f0)
    (hE : ∀ f, (∀ v, v < 17 → f v = -1) → pb_R 199 100 [some (.ref 65), some (.int 1), none, none, none] [] [] (pb_set h 74 (ci 17 f)) Q) : pb_R 199 79 [some (.ref 65), some (.int 0), none, none, none] [] [] h Q := by
  have hl : ∀ r i f, i + r = 17 → (∀ v, v < i → f v = -1) → pb_R 199 79 [some (.ref 65), some (.int (nI i)), none, none, none] [] [] (pb_set h 74 (ci 17 f)) Q := by
    intro r
    induction r with
    | zero =>
      intro i f hi hf
      obtain rfl : i = 17 := by omega
      have c1 : (17 : Int32) ≤ nI 17 := by decide
      rw [pb_q199_79]
      simp only [pb_e199, c1, if_true]
      exact hE f hf
    | succ r ih =>
      intro i f hi hf
      have c1 : ¬ (17 : Int32) ≤ nI i := nI_ge (b := 17) (by omega) (by omega)
      have g65 : (pb_set h 74 (ci 17 f)).2 65 = rm s := by rw [pb_set_get, if_neg (by omega), h65]
      have g74 : (pb_set h 74 (ci 17 f)).2 74 = ci 17 f := by rw [pb_set_get, if_pos rfl]
      have s1 : pb_si (ci 17 f) (nI i) (-1) = some (ci 17 (upd f i (-1))) := pb_si_eq (by omega) (by omega)
      rw [pb_q199_79]
      simp only [pb_e199, c1, if_false, g65, pb_gr, pb_o_some, g74, s1, pb_set_same, nI_1]
      refine ih (i + 1) _ (by omega) (fun v hv => ?_)
      by_cases e : v = i
      · subst e; exact upd_same _ _ _
      · rw [upd_ne _ _ e]; exact hf v (by omega)
  have h0 := hl 17 0 f0 (by omega) (fun v hv => by omega)
  rw [pb_set_id h h74] at h0
  exact h0
end RFL
