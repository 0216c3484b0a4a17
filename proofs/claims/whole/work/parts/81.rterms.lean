/-! The reference's terms, bound -/
section RC3
variable {h : pb_H} {Q : Option Value → pb_H → Prop} {V n st : Nat} {b : Nat → Nat} {s sg : Nat → Int32} {G : Nat → Nat}
abbrev abR : Nat → Prop := fun i => (5372 ≤ i ∧ i < 5406) ∨ (5440 ≤ i ∧ i < 5457)
/-- the marks + and -, at the loop's head -/
theorem U187_14 (hZ : RZ h V n b s G sg) (hS : RSt b n st s) {l1 : Option Value} : pb_R 187 14 [some (.ref 65), l1] [] [] h Q ↔ if bTm (tkk b n st) then pb_R 187 48 [some (.ref 65), l1] [] [] h Q else Q (some (.int 1)) h := by
  have hb := hZ.2.2.2.2.1
  have k1 : s 15 = 1 ↔ kR (tkk b n st) = 1 := kR_eq hS (m := 1) (by omega)
  have k2 : s 15 = 2 ↔ kR (tkk b n st) = 2 := kR_eq hS (m := 2) (by omega)
  rw [kR_1] at k1
  rw [kR_2] at k2
  have m43 : ∀ Q : Option Value → pb_H → Prop, pb_call 178 [.ref 65, .int 43] h Q ↔ Q (some (.int (if tkk b n st = 43 then 1 else 0))) h := fun Q => R178 (k := 43) hZ.1.1 hS (by unfold sow; omega) hb
  have m45 : ∀ Q : Option Value → pb_H → Prop, pb_call 178 [.ref 65, .int 45] h Q ↔ Q (some (.int (if tkk b n st = 45 then 1 else 0))) h := fun Q => R178 (k := 45) hZ.1.1 hS (by unfold sow; omega) hb
  have i10 : ¬ (1 : Int32) = 0 := by decide
  rw [pb_q187_14]
  by_cases c1 : tkk b n st = 48
  · have q := k1.mpr c1
    rw [if_pos (Or.inr (Or.inl c1))]
    simp only [pb_e187, hZ.1.1, pb_gr, pb_o_some, true_and, q, if_true]
  · have q : ¬ s 15 = 1 := fun e => c1 (k1.mp e)
    by_cases c2 : tkk b n st = 120
    · have q2 := k2.mpr c2
      rw [if_pos (Or.inl c2)]
      have q' : ¬ (2 : Int32) = 1 := by decide
      simp only [pb_e187, hZ.1.1, pb_gr, pb_o_some, true_and, q2, q', if_false, if_true]
    · have q2 : ¬ s 15 = 2 := fun e => c2 (k2.mp e)
      by_cases c3 : tkk b n st = 43
      · have m43' : ∀ Q : Option Value → pb_H → Prop, pb_call 178 [.ref 65, .int 43] h Q ↔ Q (some (.int 1)) h := fun Q => by rw [m43, if_pos c3]
        rw [if_pos (Or.inr (Or.inr (Or.inl c3)))]
        simp only [pb_e187, hZ.1.1, pb_gr, pb_o_some, true_and, q, q2, if_false, m43', Option.toList_some, List.singleton_append, i10, not_false_eq_true, if_true]
      · have m43' : ∀ Q : Option Value → pb_H → Prop, pb_call 178 [.ref 65, .int 43] h Q ↔ Q (some (.int 0)) h := fun Q => by rw [m43, if_neg c3]
        by_cases c4 : tkk b n st = 45
        · have m45' : ∀ Q : Option Value → pb_H → Prop, pb_call 178 [.ref 65, .int 45] h Q ↔ Q (some (.int 1)) h := fun Q => by rw [m45, if_pos c4]
          rw [if_pos (Or.inr (Or.inr (Or.inr c4)))]
          simp only [pb_e187, hZ.1.1, pb_gr, pb_o_some, true_and, q, q2, if_false, m43', Option.toList_some, List.singleton_append, not_true_eq_false, m45', i10]
        · have m45' : ∀ Q : Option Value → pb_H → Prop, pb_call 178 [.ref 65, .int 45] h Q ↔ Q (some (.int 0)) h := fun Q => by rw [m45, if_neg c4]
          rw [if_neg (by unfold bTm; omega)]
          simp only [pb_e187, hZ.1.1, pb_gr, pb_o_some, true_and, q, q2, if_false, m43', Option.toList_some, List.singleton_append, not_true_eq_false, m45', if_true, nb1]
/-- behind the FACTOR: the LITERAL -/
theorem U187_79 {mn : Bool} {N : Nat} {l1 : Option Value} {t : Nat → Int} {K : Nat} (hZ : RZ h V n b s G sg) (hS : RSt b n st s) (hV : V ≤ 16) (hA : RA V G t K) (hK : K ≤ 19000) (hN : rv G 5442 = N) (hN2 : N ≤ 10 ^ 60) (h19 : s 19 = if mn = true then 1 else 0)
    (hQ1 : ∀ h' s' G' st2 t' l1', sLit b n V st (if mn = true then - (N : Int) else N) t = .inr (st2, t') → fr rS h h' → RZ h' V n b s' G' sg → RSt b n st2 s' → kp tkS s s' → NF abS G sg G' sg → RA V G' t' (K + 2) → s' 19 = 0 → pb_R 187 14 [some (.ref 65), l1'] [] [] h' Q)
    (hQ0 : ∀ h' s' e, sLit b n V st (if mn = true then - (N : Int) else N) t = .inl e → fr rS h h' → RZ h' V n b s' G sg → kp ftS s s' → FR s' e → s' 19 = 0 → Q (some (.int 0)) h') : pb_R 187 79 [some (.ref 65), l1] [] [] h Q := by
  have hg : ∀ c, (pb_set h 65 c).2 65 = c := fun c => by rw [pb_set_get, if_pos rfl]
  have i10 : ¬ (1 : Int32) = 0 := by decide
  obtain ⟨Z1, F1⟩ := RZ_obj hZ (s' := upd s 19 0) (upd_ne _ _ (by omega)) (upd_ne _ _ (by omega))
  have S1 : RSt b n st (upd s 19 0) := RSt_kp hS (upd_ne _ _ (by omega)) (upd_ne _ _ (by omega)) (upd_ne _ _ (by omega)) (upd_ne _ _ (by omega))
  have K1 : kp tkS s (upd s 19 0) := kp_upd (by omega)
  have z19 : upd s 19 0 19 = 0 := upd_same _ _ _
  have s1' : pb_R 187 79 [some (.ref 65), l1] [] [] h Q ↔ pb_R 187 97 [some (.ref 65), some (.int (if mn = true then -1 else 1))] [] [] (pb_set h 65 (rm (upd s 19 0))) Q := by
    cases mn
    · rw [if_neg (by decide)] at h19
      simp only [pb_e187, hZ.1.1, pb_gr, pb_o_some, true_and, h19, if_true, Bool.false_eq_true, if_false]
    · rw [if_pos rfl] at h19
      simp only [pb_e187, hZ.1.1, pb_gr, pb_o_some, true_and, h19, i10, if_false, if_true]
  rw [s1']
  generalize upd s 19 0 = s1 at *
  have k2 : s1 15 = 2 ↔ kR (tkk b n st) = 2 := kR_eq S1 (m := 2) (by omega)
  rw [kR_2] at k2
  have h183 := fun (f p : Int32) (Q : Option Value → pb_H → Prop) => R183 (Q := Q) (f := f) (p := p) Z1.1.1
  by_cases c1 : tkk b n st = 120
  · have q := k2.mpr c1
    have hwl := tkw_lt c1
    have h179 := fun Q : Option Value → pb_H → Prop => R179 (Q := Q) (RZ_RT Z1) S1 c1
    have h180 := fun Q : Option Value → pb_H → Prop => R180 (Q := Q) (v := tkw b n st) (V := V) (x := if b st = 120 then nI (tkw b n st) else - nI (tkw b n st)) Z1.1.1 Z1.2.2.2.2.2 (by by_cases e : b st = 120; exact Or.inl (if_pos e); exact Or.inr (if_neg e)) (by omega) hV
    by_cases c2 : 1 ≤ tkw b n st ∧ tkw b n st ≤ V
    · have h180' : ∀ Q : Option Value → pb_H → Prop, pb_call 180 [.ref 65, .int (if b st = 120 then nI (tkw b n st) else - nI (tkw b n st))] (pb_set h 65 (rm s1)) Q ↔ Q (some (.int 1)) (pb_set h 65 (rm s1)) := fun Q => by rw [h180, if_pos c2]
      simp only [pb_e187, hg, pb_gr, pb_o_some, true_and, q, if_true, h179, Option.toList_some, List.singleton_append, h180', i10, not_false_eq_true]
      have hd : (if b st = 120 then nI (tkw b n st) else - nI (tkw b n st)) = if decide (b st = 120) = true then nI (tkw b n st) else - nI (tkw b n st) := by
        by_cases e : b st = 120
        · rw [if_pos e, if_pos (by simpa using e)]
        · rw [if_neg e, if_neg (by simpa using e)]
      rw [hd]
      refine U185 (pos := decide (b st = 120)) (mn := mn) Z1.1 hA hK hV c2.1 c2.2 hN hN2 ?_
      intro h3 G3 F3 X3 N3 A3
      have Z3 := RZ_fr Z1 F3 X3 rfl rfl
      simp only [Option.toList_none, List.nil_append, pb_e187, X3.1, pb_gr, true_and]
      refine Z177 Z3 S1 (by omega) ?_
      intro h4 s4 F4 Z4 S4 K4
      simp only [Option.toList_none, List.nil_append, pb_e187]
      refine hQ1 h4 s4 G3 _ _ _ ?_ (fr_trans F1 (fr_trans F3 F4)) Z4 S4 (kp_trans K1 (kp_mono (fun k q => by omega) K4)) N3 A3 (by rw [K4 19 (by omega), z19])
      unfold sLit
      rw [if_pos c1, if_pos c2]
      have : addt t (tkw b n st) (b st = 120) (if mn = true then - (N : Int) else N) = addt t (tkw b n st) (decide (b st = 120) = true) (if mn = true then - (N : Int) else N) := by
        unfold addt
        funext u
        by_cases e : b st = 120 <;> simp [e]
      rw [this]
    · have h180' : ∀ Q : Option Value → pb_H → Prop, pb_call 180 [.ref 65, .int (if b st = 120 then nI (tkw b n st) else - nI (tkw b n st))] (pb_set h 65 (rm s1)) Q ↔ Q (some (.int 0)) (pb_set h 65 (rm s1)) := fun Q => by rw [h180, if_neg c2]
      have hL : sLit b n V st (if mn = true then - (N : Int) else N) t = .inl (2, st) := by unfold sLit; rw [if_pos c1, if_neg c2]
      obtain ⟨Z3, F3⟩ := RZ_obj hZ (s' := upd (upd s1 8 2) 9 (nI st)) (by rw [upd_ne _ _ (by omega), upd_ne _ _ (by omega), K1 7 (by omega)]) (by rw [upd_ne _ _ (by omega), upd_ne _ _ (by omega), K1 3 (by omega)])
      simp only [pb_e187, hg, pb_gr, pb_o_some, true_and, q, if_true, h179, Option.toList_some, List.singleton_append, h180', not_true_eq_false, if_false, S1.1, h183, pb_set_same, nb0]
      exact hQ0 _ _ _ hL F3 Z3 (kp_trans (kp_mono (fun k q => by omega) K1) (kp_trans (kp_upd (by omega)) (kp_upd (by omega)))) ⟨by rw [upd_ne _ _ (by omega), upd_same]; rfl, by rw [upd_same]⟩ (by rw [upd_ne _ _ (by omega), upd_ne _ _ (by omega), z19])
  · have q : ¬ s1 15 = 2 := fun e => c1 (k2.mp e)
    have hL : sLit b n V st (if mn = true then - (N : Int) else N) t = .inl (1, st) := by unfold sLit; rw [if_neg c1]
    obtain ⟨Z3, F3⟩ := RZ_obj hZ (s' := upd (upd s1 8 1) 9 (nI st)) (by rw [upd_ne _ _ (by omega), upd_ne _ _ (by omega), K1 7 (by omega)]) (by rw [upd_ne _ _ (by omega), upd_ne _ _ (by omega), K1 3 (by omega)])
    simp only [pb_e187, hg, pb_gr, pb_o_some, true_and, q, if_false, S1.1, h183, pb_set_same, Option.toList_some, List.singleton_append, nb0]
    exact hQ0 _ _ _ hL F3 Z3 (kp_trans (kp_mono (fun k q => by omega) K1) (kp_trans (kp_upd (by omega)) (kp_upd (by omega)))) ⟨by rw [upd_ne _ _ (by omega), upd_same]; rfl, by rw [upd_same]⟩ (by rw [upd_ne _ _ (by omega), upd_ne _ _ (by omega), z19])
end RC3
