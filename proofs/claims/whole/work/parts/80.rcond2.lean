/-! The reference's signed, terms, bound -/
theorem kR_lt (k : Nat) : kR k < 5 := by unfold kR; split <;> (try split) <;> (try split) <;> (try split) <;> omega
section RC2
variable {h : pb_H} {Q : Option Value → pb_H → Prop} {V n st : Nat} {b : Nat → Nat} {s sg : Nat → Int32} {G : Nat → Nat}
theorem kR_eq (hS : RSt b n st s) {m : Nat} (hm : m < 5) : s 15 = nI m ↔ kR (tkk b n st) = m := by
  rw [hS.2.1]
  exact nI_eq (by have := kR_lt (tkk b n st); omega) (by omega)
theorem kR_1 {k : Nat} : kR k = 1 ↔ k = 48 := by
  unfold kR
  by_cases c0 : k = 0
  · rw [if_pos c0]; omega
  · rw [if_neg c0]
    by_cases c1 : k = 48
    · rw [if_pos c1]; omega
    · rw [if_neg c1]
      by_cases c2 : k = 120
      · rw [if_pos c2]; omega
      · rw [if_neg c2]
        by_cases c3 : k = 1
        · rw [if_pos c3]; omega
        · rw [if_neg c3]; omega
theorem kR_2 {k : Nat} : kR k = 2 ↔ k = 120 := by
  unfold kR
  by_cases c0 : k = 0
  · rw [if_pos c0]; omega
  · rw [if_neg c0]
    by_cases c1 : k = 48
    · rw [if_pos c1]; omega
    · rw [if_neg c1]
      by_cases c2 : k = 120
      · rw [if_pos c2]; omega
      · rw [if_neg c2]
        by_cases c3 : k = 1
        · rw [if_pos c3]; omega
        · rw [if_neg c3]; omega
theorem kR_3 {k : Nat} : kR k = 3 ↔ k ≠ 0 ∧ k ≠ 48 ∧ k ≠ 120 ∧ k ≠ 1 := by
  unfold kR
  by_cases c0 : k = 0
  · rw [if_pos c0]; omega
  · rw [if_neg c0]
    by_cases c1 : k = 48
    · rw [if_pos c1]; omega
    · rw [if_neg c1]
      by_cases c2 : k = 120
      · rw [if_pos c2]; omega
      · rw [if_neg c2]
        by_cases c3 : k = 1
        · rw [if_pos c3]; omega
        · rw [if_neg c3]; omega
theorem RSt_kp {s' : Nat → Int32} (hS : RSt b n st s) (h15 : s' 15 = s 15) (h16 : s' 16 = s 16) (h17 : s' 17 = s 17) (h18 : s' 18 = s 18) : RSt b n st s' := by
  obtain ⟨a, c, d, e, f⟩ := hS
  exact ⟨by rw [h16, a], by rw [h15, c], fun q => by rw [h18, d q], fun q => by rw [h17, e q], f⟩
/-- signed: behind the sign -/
theorem U186_22 {st1 : Nat} (hZ : RZ h V n b s G sg) (hS : RSt b n st1 s)
    (hQ1 : ∀ h' s' G', tkk b n st1 = 48 → fr rS h h' → RZ h' V n b s' G' sg → RSt b n (nxt b n st1) s' → kp (fun k => 15 ≤ k ∧ k ≤ 18) s s' → NB 5442 G G' → rv G' 5442 = tkn b n st1 → Q (some (.int 1)) h')
    (hQ0 : ∀ h' s', tkk b n st1 ≠ 48 → fr rS h h' → RZ h' V n b s' G sg → kp ftS s s' → FR s' (1, st1) → s' 19 = 0 → Q (some (.int 0)) h') : pb_R 186 22 [some (.ref 65)] [] [] h Q := by
  have k1 : s 15 = 1 ↔ kR (tkk b n st1) = 1 := kR_eq hS (m := 1) (by omega)
  rw [kR_1] at k1
  by_cases c48 : tkk b n st1 = 48
  · have q := k1.mpr c48
    have s17 := hS.2.2.2.1 (by omega)
    simp only [pb_e186, hZ.1.1, pb_gr, pb_o_some, true_and, q, if_true, hS.1, s17, at320, Option.toList_some, List.singleton_append]
    refine A181 hZ.1 (RZ_RT hZ) c48 (by omega) ?_
    intro h2 G2 F2 X2 T2 nb2 hv2
    have Z2 := RZ_fr hZ F2 X2 rfl rfl
    simp only [Option.toList_none, List.nil_append, pb_e186, X2.1, pb_gr, true_and]
    refine Z177 Z2 hS (by omega) ?_
    intro h3 s3 F3 Z3 S3 K3
    simp only [Option.toList_none, List.nil_append, pb_e186, nb1, true_and]
    exact hQ1 h3 s3 G2 c48 (fr_trans F2 F3) Z3 S3 K3 nb2 hv2
  · have q : ¬ s 15 = 1 := fun e => c48 (k1.mp e)
    obtain ⟨Z2, F2⟩ := RZ_obj hZ (s' := upd s 19 0) (upd_ne _ _ (by omega)) (upd_ne _ _ (by omega))
    have hg : ∀ c, (pb_set h 65 c).2 65 = c := fun c => by rw [pb_set_get, if_pos rfl]
    have h183 := fun (p : Int32) (Q : Option Value → pb_H → Prop) => R183 (Q := Q) (h := pb_set h 65 (rm (upd s 19 0))) (f := 1) (p := p) (hg _)
    have u16 : upd s 19 0 16 = nI st1 := by rw [upd_ne _ _ (by omega), hS.1]
    obtain ⟨Z3, F3⟩ := RZ_obj hZ (s' := upd (upd (upd s 19 0) 8 1) 9 (nI st1)) (by rw [upd_ne _ _ (by omega), upd_ne _ _ (by omega), upd_ne _ _ (by omega)]) (by rw [upd_ne _ _ (by omega), upd_ne _ _ (by omega), upd_ne _ _ (by omega)])
    simp only [pb_e186, hZ.1.1, pb_gr, pb_o_some, true_and, q, if_false, hg, u16, h183, pb_set_same, Option.toList_some, List.singleton_append, nb0]
    exact hQ0 _ _ c48 F3 Z3 (kp_trans (kp_trans (kp_upd (by omega)) (kp_upd (by omega))) (kp_upd (by omega))) ⟨by rw [upd_ne _ _ (by omega), upd_same]; rfl, by rw [upd_same]⟩ (by rw [upd_ne _ _ (by omega), upd_ne _ _ (by omega), upd_same])
/-- signed -/
theorem U186 (hZ : RZ h V n b s G sg) (hS : RSt b n st s) (h120 : tkk b n st ≠ 120) (h3 : tkk b n st = 48 ∨ tkk b n st = 43 ∨ tkk b n st = 45)
    (hQ1 : ∀ h' s' G' st1 (N : Nat), sFac b n st = .inr (st1, if tkk b n st = 45 then - (N : Int) else N) → fr rS h h' → RZ h' V n b s' G' sg → RSt b n st1 s' → kp tkS s s' → NB 5442 G G' → rv G' 5442 = N → N ≤ 10 ^ 60 → s' 19 = (if tkk b n st = 45 then 1 else 0) → Q (some (.int 1)) h')
    (hQ0 : ∀ h' s' e, sFac b n st = .inl e → fr rS h h' → RZ h' V n b s' G sg → kp ftS s s' → FR s' e → s' 19 = 0 → Q (some (.int 0)) h') : pb_call 186 [.ref 65] h Q := by
  have hb := hZ.2.2.2.2.1
  have h178 := fun Q : Option Value → pb_H → Prop => R178 (Q := Q) (k := 45) hZ.1.1 hS (by unfold sow; omega) hb
  have h178' : ∀ Q : Option Value → pb_H → Prop, pb_call 178 [.ref 65, .int 45] h Q ↔ Q (some (.int (if tkk b n st = 45 then 1 else 0))) h := h178
  have hg : ∀ c, (pb_set h 65 c).2 65 = c := fun c => by rw [pb_set_get, if_pos rfl]
  rw [pb_c186]
  have hpf : pb_pf (rm s) 12 19 (.int (if tkk b n st = 45 then 1 else 0)) = some (rm (upd s 19 (if tkk b n st = 45 then 1 else 0))) := by
    by_cases c : tkk b n st = 45
    · rw [if_pos c]; simp only [pb_gr]
    · rw [if_neg c]; simp only [pb_gr]
  obtain ⟨Z1, F1⟩ := RZ_obj hZ (s' := upd s 19 (if tkk b n st = 45 then 1 else 0)) (upd_ne _ _ (by omega)) (upd_ne _ _ (by omega))
  have S1 : RSt b n st (upd s 19 (if tkk b n st = 45 then 1 else 0)) := RSt_kp hS (upd_ne _ _ (by omega)) (upd_ne _ _ (by omega)) (upd_ne _ _ (by omega)) (upd_ne _ _ (by omega))
  have K1 : kp tkS s (upd s 19 (if tkk b n st = 45 then 1 else 0)) := kp_upd (by omega)
  have k3 : upd s 19 (if tkk b n st = 45 then 1 else 0) 15 = 3 ↔ kR (tkk b n st) = 3 := kR_eq S1 (m := 3) (by omega)
  rw [kR_3] at k3
  generalize hs1 : upd s 19 (if tkk b n st = 45 then 1 else 0) = s1 at *
  have h19 : s1 19 = if tkk b n st = 45 then 1 else 0 := by rw [← hs1, upd_same]
  by_cases c48 : tkk b n st = 48
  · have q : ¬ s1 15 = 3 := fun e => (k3.mp e).2.1 c48
    have hg1 : (if tkk b n st = 45 ∨ tkk b n st = 43 then nxt b n st else st) = st := if_neg (by omega)
    have s1' : pb_R 186 0 [some (.ref 65)] [] [] h Q ↔ pb_R 186 22 [some (.ref 65)] [] [] (pb_set h 65 (rm s1)) Q := by
      simp only [pb_e186, hZ.1.1, pb_gr, true_and, h178', Option.toList_some, List.singleton_append, hpf, pb_o_some, hg, q, not_false_eq_true, if_true]
    rw [s1']
    refine U186_22 Z1 S1 ?_ ?_
    · intro h4 s4 G4 e48 F4 Z4 S4 K4 nb4 hv4
      refine hQ1 h4 s4 G4 (nxt b n st) (tkn b n st) ?_ (fr_trans F1 F4) Z4 S4 (kp_trans K1 (kp_mono (fun k q => by omega) K4)) nb4 hv4 (Nat.le_of_lt (tkn_lt e48)) (by rw [K4 19 (by omega), h19])
      unfold sFac
      rw [if_neg h120, hg1, if_pos e48]
    · intro h4 s4 e48 F4 Z4 K4 ft z19
      exact absurd c48 e48
  · have q : s1 15 = 3 := k3.mpr ⟨by omega, c48, h120, by omega⟩
    have hg1 : (if tkk b n st = 45 ∨ tkk b n st = 43 then nxt b n st else st) = nxt b n st := if_pos (by omega)
    simp only [pb_e186, hZ.1.1, pb_gr, true_and, h178', Option.toList_some, List.singleton_append, hpf, pb_o_some, hg, q, not_true_eq_false, if_false]
    refine Z177 Z1 S1 (by omega) ?_
    intro h2 s2 F2 Z2 S2 K2
    suffices key : pb_R 186 22 [some (.ref 65)] [] [] h2 Q by
      simp only [pb_e186, Z2.1.1, pb_gr, pb_o_some] at key
      simp only [Option.toList_none, List.nil_append, pb_e186, Z2.1.1, pb_gr, pb_o_some]
      exact key
    have K2' : kp tkS s1 s2 := kp_mono (fun k q => by omega) K2
    refine U186_22 Z2 S2 ?_ ?_
    · intro h4 s4 G4 e48 F4 Z4 S4 K4 nb4 hv4
      refine hQ1 h4 s4 G4 (nxt b n (nxt b n st)) (tkn b n (nxt b n st)) ?_ (fr_trans F1 (fr_trans F2 F4)) Z4 S4 (kp_trans K1 (kp_trans K2' (kp_mono (fun k q => by omega) K4))) nb4 hv4 (Nat.le_of_lt (tkn_lt e48)) (by rw [K4 19 (by omega), K2 19 (by omega), h19])
      unfold sFac
      rw [if_neg h120, hg1, if_pos e48]
    · intro h4 s4 e48 F4 Z4 K4 ft z19
      refine hQ0 h4 s4 (1, nxt b n st) ?_ (fr_trans F1 (fr_trans F2 F4)) Z4 (kp_trans (kp_mono (fun k q => by omega) K1) (kp_trans (kp_mono (fun k q => by omega) K2) K4)) ft z19
      unfold sFac
      rw [if_neg h120, hg1, if_neg e48]
end RC2
