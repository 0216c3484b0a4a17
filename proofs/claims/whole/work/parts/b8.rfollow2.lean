/-! The reference's follows, step -/
abbrev rG : Nat → Prop := fun q => rS q ∨ q = 68 ∨ q = 74
abbrev stS : Nat → Prop := fun k => (14 ≤ k ∧ k ≤ 20) ∨ k = 8 ∨ k = 9 ∨ k = 4
abbrev stG : Nat → Prop := fun k => (14 ≤ k ∧ k ≤ 20) ∨ k = 4
theorem stG_S {s s' : Nat → Int32} (h : kp stG s s') : kp stS s s' := kp_mono (fun k w => by omega) h
section RF2
variable {h : pb_H} {Q : Option Value → pb_H → Prop} {V n m st : Nat} {b : Nat → Nat} {s sg og f0 : Nat → Int32} {G : Nat → Nat} {X : Nat → LN}
/-- follows -/
theorem U199 (hV : V ≤ 16) (K : RK h V n b s G sg m X) (h68 : h.2 68 = ci 301 og) (h74 : h.2 74 = ci 17 f0) (h19 : s 19 = 0) (hT : RSt b n st s) (hk : tkk b n st = 117)
    (hQ1 : ∀ h' s' G' sg' f' st' y, sU b n V m X st = .inr (st', y) → fr rG h h' → RK h' V n b s' G' sg' (m + 1) (lput X (m + 1) y) → h'.2 68 = ci 301 (upd og (m + 1) 3) → h'.2 74 = ci 17 f' → RSt b n st' s' → s' 19 = 0 → kp stG s s' → Q (some (.int 1)) h')
    (hQ0 : ∀ h' s' G' sg' f' e, sU b n V m X st = .inl e → fr rG h h' → RK h' V n b s' G' sg' m X → h'.2 68 = ci 301 og → h'.2 74 = ci 17 f' → kp stS s s' → FR s' e → Q (some (.int 0)) h') : pb_call 199 [.ref 65] h Q := by
  have hsn := hT.2.2.2.2
  have hb := K.1.2.2.2.2.1
  have hn4 := K.1.2.2.2.1
  have i10 : ¬ (1 : Int32) = 0 := by decide
  have toG : ∀ {h1 : pb_H}, fr rS h h1 → fr rG h h1 := fun F => fr_mono (fun q w => Or.inl w) F
  have k68 : ∀ {h1 : pb_H}, fr rS h h1 → h1.2 68 = ci 301 og := fun F => (F.2.2 68 (by omega)).trans h68
  have k74 : ∀ {h1 : pb_H}, fr rS h h1 → h1.2 74 = ci 17 f0 := fun F => (F.2.2 74 (by omega)).trans h74
  rw [pb_c199]
  simp only [pb_e199, K.1.1.1, pb_gr, true_and]
  refine Z177 K.1 hT (by omega) ?_
  intro h1 s1 F1 Z1 T1 k1
  have K1 := RK_up hV K Z1 (k1 4 (by omega)) (NF_refl (fun _ => False) _ _) (fun i w => w.elim)
  have kp1 : kp stG s s1 := kp_mono (fun k w => by omega) k1
  have hC := sCnd_ref (b := b) (n := n) (V := V) (st := nxt b n st) (any := false)
  simp only [Option.toList_none, List.nil_append, pb_e199, Z1.1.1, pb_gr, true_and]
  refine U187 hV Z1 T1 ((k1 19 (by omega)).trans h19) ?_ ?_
  · intro h2 s2 G2 sg2 st2 t2 hT2 F2 Z2 T2 k2 N2 A2 y19
    rw [hT2] at hC
    simp only at hC
    have K2 := RK_up hV K1 Z2 (k2 4 (by omega)) N2 (fun i w => by omega)
    have kp2 : kp stG s s2 := kp_trans kp1 (kp_mono (fun k w => by omega) k2)
    have FF2 := fr_trans F1 F2
    have h183 := fun (f q : Int32) (Q : Option Value → pb_H → Prop) => R183 (Q := Q) (f := f) (p := q) Z2.1.1
    by_cases c62 : tkk b n st2 = 62
    · have cr : sRl false (tkk b n st2) := Or.inl c62
      rw [if_pos cr] at hC
      have q : ∀ Q : Option Value → pb_H → Prop, pb_call 178 [.ref 65, .int 62] h2 Q ↔ Q (some (.int 1)) h2 := h178_1 (k := 62) Z2.1.1 T2 (Or.inl rfl) hb c62
      simp only [Option.toList_some, List.singleton_append, pb_e199, i10, not_false_eq_true, if_true, Z2.1.1, pb_gr, true_and, q]
      refine Z177 Z2 T2 (by omega) ?_
      intro h3 s3 F3 Z3 T3 k3
      have K3 := RK_up hV K2 Z3 (k3 4 (by omega)) (NF_refl (fun _ => False) _ _) (fun i w => w.elim)
      have kp3 : kp stG s s3 := kp_trans kp2 (kp_mono (fun k w => by omega) k3)
      have FF3 := fr_trans FF2 F3
      simp only [Option.toList_none, List.nil_append, pb_e199, Z3.1.1, pb_gr, true_and]
      refine U189 hV Z3 T3 A2 (by omega) ?_ ?_
      · intro h4 s4 G4 st4 t4 hBd F4 Z4 T4 k4 N4 A4 x19
        rw [hBd] at hC
        simp only at hC
        have K4 := RK_up hV K3 Z4 (k4 4 (by omega)) N4 (fun i w => by omega)
        have kp4 : kp stG s s4 := kp_trans kp3 (kp_mono (fun k w => by omega) k4)
        have FF4 := fr_trans FF3 F4
        have spU : sU b n V m X st = (if m < 300 then (if flwb V m X (ln_of V t4) = true then .inr (st4, ln_of V t4) else .inl (6, st4)) else .inl (5, st4)) := by
          unfold sU
          rw [hC]
        have m300 := K.2.2.1
        have km : nI m = 300 ↔ m = 300 := nI_eq (b := 300) (by omega) (by omega)
        by_cases cm : m < 300
        · rw [if_pos cm] at spU
          have nm : ¬ nI m = 300 := fun e => by have := km.mp e; omega
          simp only [Option.toList_some, List.singleton_append, pb_e199, i10, not_false_eq_true, if_true, Z4.1.1, pb_gr, pb_o_some, K4.2.1, nm, true_and]
          refine U188t (r := 318) hV Z4.1 Z4.2.2.2.2.2 (by omega) (by omega) A4 (by omega) ?_
          intro h5 G5 sg5 F5 X5 N5 R5
          obtain ⟨fo, so⟩ := fit_of (V := V) (t := t4) (K := 2 * (n + 1) + 1) hV (by omega) (fun u hu => RA_abs A4 hu)
          have Z5 := RZ_fr Z4 F5 X5 rfl rfl
          have K5 := RK_up hV K4 Z5 rfl N5 (fun i w => by omega)
          simp only [Option.toList_none, List.nil_append, pb_e199, X5.1, pb_gr, true_and]
          refine U198 hV X5 Z4.2.2.2.2.2 R5 so ?_
          intro h6 G6 sg6 F6 X6 N6 R6
          have Z6 := RZ_fr Z5 F6 X6 rfl rfl
          have K6 := RK_up hV K5 Z6 rfl N6 (fun i w => by omega)
          have R56 := RR_NF N6 (fun v hv => by omega) R5
          have FF6 := fr_trans FF4 (fr_trans F5 F6)
          have fop : ln_fit V (ln_op V (ln_of V t4)) := by
            refine ⟨?_, fun v v1 v2 => ?_⟩
            · show 1 + sm (fun v => ((ln_of V t4).2 v).natAbs) V - (ln_of V t4).1 < 4294967296 ^ 8
              have := so V (Nat.le_refl _)
              omega
            · show Int.natAbs (- (ln_of V t4).2 v) < B8
              rw [Int.natAbs_neg]
              exact fo.2 v v1 v2
          simp only [Option.toList_none, List.nil_append, pb_e199]
          refine U199_79 X6.1 (k74 FF6) ?_
          intro f hf
          have G7 : fr (fun q => q = 74) h6 (pb_set h6 74 (ci 17 f)) := fr_set rfl (by rw [k74 FF6]; rfl)
          have X7 : RX (pb_set h6 74 (ci 17 f)) s4 G6 sg6 := by
            obtain ⟨b1, b2, b3, b4, ⟨W0, c0, d0⟩, ⟨W1, c1, d1⟩, ⟨W2, c2, d2⟩, ⟨W3, c3, d3⟩⟩ := X6
            exact ⟨(G7.2.2 65 (by omega)).trans b1, (G7.2.2 66 (by omega)).trans b2, b3, (G7.2.2 67 (by omega)).trans b4, ⟨W0, (G7.2.2 70 (by omega)).trans c0, d0⟩, ⟨W1, (G7.2.2 71 (by omega)).trans c1, d1⟩, ⟨W2, (G7.2.2 72 (by omega)).trans c2, d2⟩, ⟨W3, (G7.2.2 73 (by omega)).trans c3, d3⟩⟩
          have hW7 : FWR (pb_set h6 74 (ci 17 f)) V n b s4 G6 sg6 m X (ln_of V t4) f := ⟨⟨⟨X7, (G7.2.2 69 (by omega)).trans Z6.2.1, Z6.2.2⟩, K6.2⟩, R56, R6, by rw [pb_set_get, if_pos rfl]⟩
          have FF7 : fr rG h (pb_set h6 74 (ci 17 f)) := fr_trans (toG FF6) (fr_mono (fun q w => Or.inr (Or.inr w)) G7)
          have e68 : (pb_set h6 74 (ci 17 f)).2 68 = ci 301 og := (G7.2.2 68 (by omega)).trans (k68 FF6)
          refine U199_100 (h := pb_set h6 74 (ci 17 f)) hV fop ?_ ?_ (cnt (fun _ => none) V + 1) _ G6 f (fun _ => none) none none none (Nat.le_refl _) (fr_refl _ _) hW7 (fun v v1 v2 => hf v (by omega)) (fun B _ v _ _ ne => absurd rfl ne)
          · intro h8 G8 f8 l1 l2 l3 l4 F8 hW8 hfl
            rw [if_pos (flwb_1 hfl)] at spU
            have e688 : h8.2 68 = ci 301 og := (F8.2.2 68 (by omega)).trans e68
            simp only [pb_e199, hW8.1.1.1.1, pb_gr, true_and]
            refine U196 (r := 318) (o := 3) hV hW8.1 cm (by omega) (by omega) hW8.2.1 fo e688 ?_
            intro h9 s9 G9 sg9 F9 K9 e689 k9 N9
            simp only [Option.toList_none, List.nil_append, pb_e199, nb1, true_and]
            exact hQ1 h9 s9 G9 sg9 f8 st4 _ spU (fr_trans FF7 (fr_trans (fr_mono (fun q w => by omega) F8) (fr_mono (fun q w => by omega) F9))) K9 e689 ((F9.2.2 74 (by omega)).trans hW8.2.2.2) (RSt_kp T4 (k9 15 (by omega)) (k9 16 (by omega)) (k9 17 (by omega)) (k9 18 (by omega))) ((k9 19 (by omega)).trans x19) (kp_trans kp4 (kp_mono (fun k w => by omega) k9))
          · intro h8 G8 f8 l1 l2 l3 l4 F8 hW8 hfl
            rw [if_neg (flwb_0 hfl)] at spU
            have e688 : h8.2 68 = ci 301 og := (F8.2.2 68 (by omega)).trans e68
            have h183' := fun (f q : Int32) (Q : Option Value → pb_H → Prop) => R183 (Q := Q) (f := f) (p := q) hW8.1.1.1.1
            obtain ⟨K9, F9⟩ := RK_ft (f := 6) (p := nI st4) hV hW8.1
            simp only [pb_e199, hW8.1.1.1.1, pb_gr, pb_o_some, T4.1, true_and, h183', Option.toList_some, List.singleton_append, nb0]
            exact hQ0 _ _ G8 sg6 f8 _ spU (fr_trans FF7 (fr_trans (fr_mono (fun q w => by omega) F8) (fr_mono (fun q w => Or.inl w) F9))) K9 ((F9.2.2 68 (by omega)).trans e688) ((F9.2.2 74 (by omega)).trans hW8.2.2.2) (kp_trans (stG_S kp4) (kp_trans (kp_upd (by omega)) (kp_upd (by omega)))) ⟨by rw [upd_ne _ _ (by omega), upd_same]; rfl, by rw [upd_same]⟩
        · rw [if_neg cm] at spU
          have nm : nI m = 300 := km.mpr (by omega)
          have h183' := fun (f q : Int32) (Q : Option Value → pb_H → Prop) => R183 (Q := Q) (f := f) (p := q) Z4.1.1
          obtain ⟨K9, F9⟩ := RK_ft (f := 5) (p := nI st4) hV K4
          simp only [Option.toList_some, List.singleton_append, pb_e199, i10, not_false_eq_true, if_true, Z4.1.1, pb_gr, pb_o_some, K4.2.1, nm, not_true_eq_false, if_false, T4.1, true_and, h183', nb0]
          exact hQ0 _ _ G4 sg2 f0 _ spU (toG (fr_trans FF4 F9)) K9 (k68 (fr_trans FF4 F9)) (k74 (fr_trans FF4 F9)) (kp_trans (stG_S kp4) (kp_trans (kp_upd (by omega)) (kp_upd (by omega)))) ⟨by rw [upd_ne _ _ (by omega), upd_same]; rfl, by rw [upd_same]⟩
      · intro h4 s4 G4 e hBd F4 Z4 k4 N4 ft _
        rw [hBd] at hC
        simp only at hC
        have spU : sU b n V m X st = .inl e := by
          unfold sU
          rw [hC]
        have K4 := RK_up hV K3 Z4 (k4 4 (by omega)) N4 (fun i w => by omega)
        simp only [Option.toList_some, List.singleton_append, pb_e199, not_true_eq_false, if_false, nb0, true_and]
        exact hQ0 h4 s4 G4 sg2 f0 e spU (toG (fr_trans FF3 F4)) K4 (k68 (fr_trans FF3 F4)) (k74 (fr_trans FF3 F4)) (kp_trans (stG_S kp3) (kp_mono (fun k w => by omega) k4)) ft
    · have cr : ¬ sRl false (tkk b n st2) := fun w => by
        rcases w with e | e
        · exact c62 e
        · exact absurd e.1 (by decide)
      rw [if_neg cr] at hC
      have q : ∀ Q : Option Value → pb_H → Prop, pb_call 178 [.ref 65, .int 62] h2 Q ↔ Q (some (.int 0)) h2 := h178_0 (k := 62) Z2.1.1 T2 (Or.inl rfl) hb c62
      have spU : sU b n V m X st = .inl (1, st2) := by
        unfold sU
        rw [hC]
      obtain ⟨K9, F9⟩ := RK_ft (f := 1) (p := nI st2) hV K2
      simp only [Option.toList_some, List.singleton_append, pb_e199, i10, not_false_eq_true, if_true, Z2.1.1, pb_gr, true_and, q, not_true_eq_false, if_false, pb_o_some, T2.1, h183, nb0]
      exact hQ0 _ _ G2 sg2 f0 _ spU (toG (fr_trans FF2 F9)) K9 (k68 (fr_trans FF2 F9)) (k74 (fr_trans FF2 F9)) (kp_trans (stG_S kp2) (kp_trans (kp_upd (by omega)) (kp_upd (by omega)))) ⟨by rw [upd_ne _ _ (by omega), upd_same]; rfl, by rw [upd_same]⟩
  · intro h2 s2 G2 sg2 e hT2 F2 Z2 k2 N2 ft y19
    rw [hT2] at hC
    have spU : sU b n V m X st = .inl e := by
      unfold sU
      rw [hC]
    have K2 := RK_up hV K1 Z2 (k2 4 (by omega)) N2 (fun i w => by omega)
    simp only [Option.toList_some, List.singleton_append, pb_e199, not_true_eq_false, if_false, nb0, true_and]
    exact hQ0 h2 s2 G2 sg2 f0 e spU (toG (fr_trans F1 F2)) K2 (k68 (fr_trans F1 F2)) (k74 (fr_trans F1 F2)) (kp_trans (stG_S kp1) (kp_mono (fun k w => by omega) k2)) ft
/-- step -/
theorem U200 (hV : V ≤ 16) {ogN : Nat → Nat} (K : RK h V n b s G sg m X) (h68 : h.2 68 = ci 301 og) (h74 : h.2 74 = ci 17 f0) (h19 : s 19 = 0) (hT : RSt b n st s)
    (hQ1 : ∀ h' s' G' sg' f' og' st' m' X' ogN', sStp b n V st m X ogN = .inr (st', m', X', ogN') → fr rG h h' → RK h' V n b s' G' sg' m' X' → h'.2 68 = ci 301 og' → ((∀ k, 1 ≤ k → k ≤ m → og k = nI (ogN k)) → ∀ k, 1 ≤ k → k ≤ m' → og' k = nI (ogN' k)) → h'.2 74 = ci 17 f' → RSt b n st' s' → s' 19 = 0 → kp stG s s' → Q (some (.int 1)) h')
    (hQ0 : ∀ h' s' G' sg' f' e, sStp b n V st m X ogN = .inl e → fr rG h h' → RK h' V n b s' G' sg' m X → h'.2 68 = ci 301 og → h'.2 74 = ci 17 f' → kp stS s s' → FR s' e → Q (some (.int 0)) h') : pb_call 200 [.ref 65] h Q := by
  have hsn := hT.2.2.2.2
  have hb := K.1.2.2.2.2.1
  have i10 : ¬ (1 : Int32) = 0 := by decide
  have toG : ∀ {h1 : pb_H}, fr rS h h1 → fr rG h h1 := fun F => fr_mono (fun q w => Or.inl w) F
  have k68 : ∀ {h1 : pb_H}, fr rS h h1 → h1.2 68 = ci 301 og := fun F => (F.2.2 68 (by omega)).trans h68
  have k74 : ∀ {h1 : pb_H}, fr rS h h1 → h1.2 74 = ci 17 f0 := fun F => (F.2.2 74 (by omega)).trans h74
  have ogs : ∀ o : Nat, (∀ k, 1 ≤ k → k ≤ m → og k = nI (ogN k)) → ∀ k, 1 ≤ k → k ≤ m + 1 → upd og (m + 1) (nI o) k = nI (un ogN (m + 1) o k) := fun o ho k k1 k2 => by
    by_cases e : k = m + 1
    · subst e; rw [upd_same, un_same]
    · rw [upd_ne _ _ e, un_ne _ e]; exact ho k k1 (by omega)
  rw [pb_c200]
  by_cases c1 : tkk b n st = 112
  · have q : ∀ Q : Option Value → pb_H → Prop, pb_call 178 [.ref 65, .int 112] h Q ↔ Q (some (.int 1)) h := h178_1 (k := 112) K.1.1.1 hT (Or.inr (Or.inr (by unfold sow; omega))) hb c1
    simp only [pb_e200, K.1.1.1, pb_gr, true_and, q, Option.toList_some, List.singleton_append, i10, if_false]
    refine U197 hV K h68 hT c1 ?_ ?_
    · intro h' s' G' sg' st' y sp F' K' e68 T' k'
      have he : sStp b n V st m X ogN = .inr (st', m + 1, lput X (m + 1) y, un ogN (m + 1) 2) := by
        unfold sStp
        rw [if_pos c1, sp]
      simp only [Option.toList_some, List.singleton_append, pb_e200, nb1, true_and]
      exact hQ1 h' s' G' sg' f0 _ st' _ _ _ he (fr_mono (fun q w => by omega) F') K' e68 (ogs 2) ((F'.2.2 74 (by omega)).trans h74) T' ((k' 19 (by omega)).trans h19) (kp_mono (fun k w => by omega) k')
    · intro h' s' G' sg' e sp F' K' k' ft
      have he : sStp b n V st m X ogN = .inl e := by
        unfold sStp
        rw [if_pos c1, sp]
      simp only [Option.toList_some, List.singleton_append, pb_e200, nb0, true_and]
      exact hQ0 h' s' G' sg' f0 e he (toG F') K' (k68 F') (k74 F') (kp_mono (fun k w => by omega) k') ft
  · have q : ∀ Q : Option Value → pb_H → Prop, pb_call 178 [.ref 65, .int 112] h Q ↔ Q (some (.int 0)) h := h178_0 (k := 112) K.1.1.1 hT (Or.inr (Or.inr (by unfold sow; omega))) hb c1
    by_cases c2 : tkk b n st = 117
    · have q2 : ∀ Q : Option Value → pb_H → Prop, pb_call 178 [.ref 65, .int 117] h Q ↔ Q (some (.int 1)) h := h178_1 (k := 117) K.1.1.1 hT (Or.inr (Or.inr (by unfold sow; omega))) hb c2
      simp only [pb_e200, K.1.1.1, pb_gr, true_and, q, q2, Option.toList_some, List.singleton_append, i10, if_true, if_false]
      refine U199 hV K h68 h74 h19 hT c2 ?_ ?_
      · intro h' s' G' sg' f' st' y sp F' K' e68 e74 T' x19 k'
        have he : sStp b n V st m X ogN = .inr (st', m + 1, lput X (m + 1) y, un ogN (m + 1) 3) := by
          unfold sStp
          rw [if_neg c1, if_pos c2, sp]
        simp only [Option.toList_some, List.singleton_append, pb_e200, nb1, true_and]
        exact hQ1 h' s' G' sg' f' _ st' _ _ _ he F' K' e68 (ogs 3) e74 T' x19 k'
      · intro h' s' G' sg' f' e sp F' K' e68 e74 k' ft
        have he : sStp b n V st m X ogN = .inl e := by
          unfold sStp
          rw [if_neg c1, if_pos c2, sp]
        simp only [Option.toList_some, List.singleton_append, pb_e200, nb0, true_and]
        exact hQ0 h' s' G' sg' f' e he F' K' e68 e74 k' ft
    · have q2 : ∀ Q : Option Value → pb_H → Prop, pb_call 178 [.ref 65, .int 117] h Q ↔ Q (some (.int 0)) h := h178_0 (k := 117) K.1.1.1 hT (Or.inr (Or.inr (by unfold sow; omega))) hb c2
      have bad : ∀ (H : pb_H) (s' : Nat → Int32) (G' : Nat → Nat) (f q : Nat) (e : Int32), RK H V n b s' G' sg m X → fr rS h H → kp stG s s' → e = nI f → sStp b n V st m X ogN = .inl (f, q) → Q (some (.int 0)) (pb_set H 65 (rm (upd (upd s' 8 e) 9 (nI q)))) := by
        intro H s' G' f q e K' F' kp' he sp
        obtain ⟨K2, F2⟩ := RK_ft (f := e) (p := nI q) hV K'
        exact hQ0 _ _ G' sg f0 _ sp (toG (fr_trans F' F2)) K2 (k68 (fr_trans F' F2)) (k74 (fr_trans F' F2)) (kp_trans (stG_S kp') (kp_trans (kp_upd (by omega)) (kp_upd (by omega)))) ⟨by rw [upd_ne _ _ (by omega), upd_same]; exact he, by rw [upd_same]⟩
      have h183 := fun (f q : Int32) (Q : Option Value → pb_H → Prop) => R183 (Q := Q) (f := f) (p := q) K.1.1.1
      by_cases c3 : tkk b n st = 99
      · have q3 : ∀ Q : Option Value → pb_H → Prop, pb_call 178 [.ref 65, .int 99] h Q ↔ Q (some (.int 1)) h := h178_1 (k := 99) K.1.1.1 hT (Or.inr (Or.inr (by unfold sow; omega))) hb c3
        have hC : ∀ r, sC b n V m X st = r → sStp b n V st m X ogN = (match r with | .inl e => .inl e | .inr q => .inr (q, m, X, ogN)) := fun r hr => by
          unfold sStp
          rw [if_neg c1, if_neg c2, if_pos c3, hr]
          rfl
        simp only [pb_e200, K.1.1.1, pb_gr, true_and, q, q2, q3, Option.toList_some, List.singleton_append, i10, not_false_eq_true, if_true]
        refine Z177 K.1 hT (by omega) ?_
        intro h1 s1 F1 Z1 T1 k1
        have K1 := RK_up hV K Z1 (k1 4 (by omega)) (NF_refl (fun _ => False) _ _) (fun i w => w.elim)
        have kp1 : kp stG s s1 := kp_mono (fun k w => by omega) k1
        have h1831 := fun (f q : Int32) (Q : Option Value → pb_H → Prop) => R183 (Q := Q) (f := f) (p := q) Z1.1.1
        have kk1 : s1 15 = 1 ↔ tkk b n (nxt b n st) = 48 := (kR_eq T1 (m := 1) (by omega)).trans kR_1
        by_cases d1 : tkk b n (nxt b n st) = 48
        · have e17 := T1.2.2.2.1 (by omega)
          have h182 := fun Q : Option Value → pb_H → Prop => R182 (Q := Q) (st := nxt b n st) (RZ_RT Z1) d1 K1.2.1 K1.2.2.1
          have m300 := K.2.2.1
          by_cases cm : 1 ≤ tkn b n (nxt b n st) ∧ tkn b n (nxt b n st) ≤ m
          · rw [if_pos cm.2] at h182
            have c0 : ¬ nI (tkn b n (nxt b n st)) = 0 := nI_ne0 (by omega) (by omega)
            simp only [Option.toList_none, List.nil_append, pb_e200, Z1.1.1, pb_gr, pb_o_some, kk1.mpr d1, if_true, T1.1, e17, true_and, h182, Option.toList_some, List.singleton_append, c0, not_false_eq_true]
            refine Z177 Z1 T1 (by omega) ?_
            intro h2 s2 F2 Z2 T2 k2
            have K2 := RK_up hV K1 Z2 (k2 4 (by omega)) (NF_refl (fun _ => False) _ _) (fun i w => w.elim)
            have kp2 : kp stG s s2 := kp_trans kp1 (kp_mono (fun k w => by omega) k2)
            have FF2 := fr_trans F1 F2
            by_cases d2 : tkk b n (nxt b n (nxt b n st)) = 59
            · have q4 : ∀ Q : Option Value → pb_H → Prop, pb_call 178 [.ref 65, .int 59] h2 Q ↔ Q (some (.int 1)) h2 := h178_1 (k := 59) Z2.1.1 T2 (Or.inr (Or.inr (by unfold sow; omega))) hb d2
              simp only [Option.toList_none, List.nil_append, pb_e200, Z2.1.1, pb_gr, true_and, q4, Option.toList_some, List.singleton_append, i10, not_false_eq_true, if_true]
              refine A170 Z2.1 Z2.2.2.2.2.2 hV (by omega) (K2.2.2.2.1 _ cm.1 cm.2) (K2.2.2.2.2 _ cm.1 cm.2) ?_
              intro h3 G3 F3 X3 N3
              have Z3 := RZ_fr Z2 F3 X3 rfl rfl
              have K3 := RK_up hV K2 Z3 rfl N3 (fun i w => by omega)
              have FF3 := fr_trans FF2 F3
              refine ⟨fun br => ?_, fun nb => ?_⟩
              · have sp : sC b n V m X st = .inr (nxt b n (nxt b n st)) := by
                  unfold sC
                  rw [if_pos d1, if_pos cm, if_pos d2, if_pos (isF_1 br)]
                simp only [Option.toList_some, List.singleton_append, pb_e200, i10, not_false_eq_true, if_true, nb1, true_and]
                exact hQ1 h3 s2 G3 sg f0 og _ m X ogN (hC _ sp) (toG FF3) K3 (k68 FF3) (fun w => w) (k74 FF3) T2 ((k2 19 (by omega)).trans ((k1 19 (by omega)).trans h19)) kp2
              · have sp : sC b n V m X st = .inl (6, nxt b n (nxt b n st)) := by
                  unfold sC
                  rw [if_pos d1, if_pos cm, if_pos d2, if_neg (by rw [isF_0 nb]; omega)]
                have h1833 := fun (f q : Int32) (Q : Option Value → pb_H → Prop) => R183 (Q := Q) (f := f) (p := q) X3.1
                simp only [Option.toList_some, List.singleton_append, pb_e200, not_true_eq_false, if_false, X3.1, pb_gr, pb_o_some, T2.1, true_and, h1833, if_true, nb0]
                exact bad h3 s2 G3 6 _ 6 K3 FF3 kp2 rfl (hC _ sp)
            · have q4 : ∀ Q : Option Value → pb_H → Prop, pb_call 178 [.ref 65, .int 59] h2 Q ↔ Q (some (.int 0)) h2 := h178_0 (k := 59) Z2.1.1 T2 (Or.inr (Or.inr (by unfold sow; omega))) hb d2
              have sp : sC b n V m X st = .inl (1, nxt b n (nxt b n st)) := by
                unfold sC
                rw [if_pos d1, if_pos cm, if_neg d2]
              have h1832 := fun (f q : Int32) (Q : Option Value → pb_H → Prop) => R183 (Q := Q) (f := f) (p := q) Z2.1.1
              simp only [Option.toList_none, List.nil_append, pb_e200, Z2.1.1, pb_gr, true_and, q4, Option.toList_some, List.singleton_append, not_true_eq_false, if_false, pb_o_some, T2.1, h1832, nb0]
              exact bad h2 s2 G 1 _ 1 K2 FF2 kp2 rfl (hC _ sp)
          · have sp : sC b n V m X st = .inl (2, nxt b n st) := by
              unfold sC
              rw [if_pos d1, if_neg cm]
            have c0 : nI (if tkn b n (nxt b n st) ≤ m then tkn b n (nxt b n st) else 0) = 0 := by
              by_cases c : tkn b n (nxt b n st) ≤ m
              · rw [if_pos c, show tkn b n (nxt b n st) = 0 by omega]; rfl
              · rw [if_neg c]; rfl
            simp only [Option.toList_none, List.nil_append, pb_e200, Z1.1.1, pb_gr, pb_o_some, kk1.mpr d1, if_true, T1.1, e17, true_and, h182, Option.toList_some, List.singleton_append, c0, not_true_eq_false, if_false, h1831, nb0]
            exact bad h1 s1 G 2 _ 2 K1 F1 kp1 rfl (hC _ sp)
        · have n1 : ¬ s1 15 = 1 := fun e => d1 (kk1.mp e)
          have sp : sC b n V m X st = .inl (1, nxt b n st) := by
            unfold sC
            rw [if_neg d1]
          simp only [Option.toList_none, List.nil_append, pb_e200, Z1.1.1, pb_gr, pb_o_some, n1, if_false, T1.1, true_and, h1831, Option.toList_some, List.singleton_append, nb0]
          exact bad h1 s1 G 1 _ 1 K1 F1 kp1 rfl (hC _ sp)
      · have q3 : ∀ Q : Option Value → pb_H → Prop, pb_call 178 [.ref 65, .int 99] h Q ↔ Q (some (.int 0)) h := h178_0 (k := 99) K.1.1.1 hT (Or.inr (Or.inr (by unfold sow; omega))) hb c3
        have he : sStp b n V st m X ogN = .inl (1, st) := by
          unfold sStp
          rw [if_neg c1, if_neg c2, if_neg c3]
        simp only [pb_e200, K.1.1.1, pb_gr, true_and, q, q2, q3, Option.toList_some, List.singleton_append, not_true_eq_false, if_true, if_false, pb_o_some, hT.1, h183, nb0]
        exact bad h s G 1 _ 1 K (fr_refl _ _) (kp_refl _ _) rfl he
end RF2
