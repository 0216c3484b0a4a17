/-! The reference's add, pile, turn -/
section RPI
variable {h : pb_H} {Q : Option Value → pb_H → Prop} {V n m hg st : Nat} {b : Nat → Nat} {s sg og : Nat → Int32} {G : Nat → Nat} {X S : Nat → LN}
/-- add -/
theorem U196 {r : Nat} {o : Int32} {y : LN} (hV : V ≤ 16) (K : RK h V n b s G sg m X) (hm : m < 300) (r1 : 301 ≤ r) (r2 : r < 363) (hR : RR V G sg r y) (ft : ln_fit V y) (h68 : h.2 68 = ci 301 og)
    (hQ : ∀ h' s' G' sg', fr rO h h' → RK h' V n b s' G' sg' (m + 1) (lput X (m + 1) y) → h'.2 68 = ci 301 (upd og (m + 1) o) → kp (fun k => k = 4) s s' → NF (rwS (m + 1)) G sg G' sg' → Q none h') : pb_call 196 [.ref 65, .int (nI r), .int o] h Q := by
  have hg65 : ∀ c, (pb_set h 65 c).2 65 = c := fun c => by rw [pb_set_get, if_pos rfl]
  obtain ⟨X1, F1⟩ := RX_obj K.1.1 (s' := upd s 4 (nI (m + 1)))
  have u4 : upd s 4 (nI (m + 1)) 4 = nI (m + 1) := upd_same _ _ _
  rw [pb_c196]
  simp only [pb_e196, K.1.1.1, pb_gr, pb_o_some, K.2.1, nI_1, hg65, u4, true_and]
  refine A162 X1 (by omega) (by omega) (by omega) ?_
  intro h2 G2 sg2 F2 X2 N2 cp2
  have FF := fr_trans F1 F2
  have h682 : h2.2 68 = ci 301 og := (FF.2.2 68 (by omega)).trans h68
  have hs := pb_si_eq (n := 301) (j := m + 1) (f := og) (x := o) (by omega) (by omega)
  have Z2 := RZ_fr K.1 FF X2 (by rw [upd_ne _ _ (by omega)]) (by rw [upd_ne _ _ (by omega)])
  have G3 : fr (fun q => q = 68) h2 (pb_set h2 68 (ci 301 (upd og (m + 1) o))) := fr_set rfl (by rw [h682]; rfl)
  have X3 : RX (pb_set h2 68 (ci 301 (upd og (m + 1) o))) (upd s 4 (nI (m + 1))) G2 sg2 := by
    obtain ⟨b1, b2, b3, b4, ⟨W0, c0, d0⟩, ⟨W1, c1, d1⟩, ⟨W2, c2, d2⟩, ⟨W3, c3, d3⟩⟩ := X2
    exact ⟨(G3.2.2 65 (by omega)).trans b1, (G3.2.2 66 (by omega)).trans b2, b3, (G3.2.2 67 (by omega)).trans b4, ⟨W0, (G3.2.2 70 (by omega)).trans c0, d0⟩, ⟨W1, (G3.2.2 71 (by omega)).trans c1, d1⟩, ⟨W2, (G3.2.2 72 (by omega)).trans c2, d2⟩, ⟨W3, (G3.2.2 73 (by omega)).trans c3, d3⟩⟩
  simp only [Option.toList_none, List.nil_append, pb_e196, X2.1, pb_gr, pb_o_some, u4, h682, hs]
  refine hQ _ (upd s 4 (nI (m + 1))) G2 sg2 (fr_trans (fr_mono (fun q w => Or.inl w) FF) (fr_mono (fun q w => Or.inr w) G3)) ⟨⟨X3, (G3.2.2 69 (by omega)).trans Z2.2.1, Z2.2.2⟩, u4, by omega, fun k k1 k2 => ?_, fun k k1 k2 => ?_⟩ (by rw [pb_set_get, if_pos rfl]) (kp_upd rfl) N2
  · unfold lput
    by_cases e : k = m + 1
    · subst e
      rw [if_pos rfl]
      exact RR_copy hV cp2 hR
    · rw [if_neg e]
      exact RR_NF N2 (fun v hv => by omega) (K.2.2.2.1 k k1 (by omega))
  · unfold lput
    by_cases e : k = m + 1
    · rw [if_pos e]; exact ft
    · rw [if_neg e]
      exact K.2.2.2.2 k k1 (by omega)
theorem U197_loop (hV : V ≤ 16) : ∀ f st hg S h' s' G' sg' l1, st ≤ n → n + 1 ≤ f + st → fr rS h h' → RK h' V n b s' G' sg' m X → s' 20 = nI hg → hg ≤ 12 → RSK V G' sg' hg S → RSt b n st s' → kp itG s s' →
    (∀ h2 s2 G2 sg2 st2 hg2 S2 l2, iAll b n V m X f st hg S = .inr (st2, hg2, S2) → fr rS h h2 → RK h2 V n b s2 G2 sg2 m X → s2 20 = nI hg2 → hg2 ≤ 12 → RSK V G2 sg2 hg2 S2 → RSt b n st2 s2 → kp itG s s2 → pb_R 197 62 [some (.ref 65), l2] [] [] h2 Q) →
    (∀ h2 s2 G2 sg2 e, iAll b n V m X f st hg S = .inl e → fr rS h h2 → RK h2 V n b s2 G2 sg2 m X → kp itS s s2 → FR s2 e → Q (some (.int 0)) h2) →
    pb_R 197 9 [some (.ref 65), l1] [] [] h' Q := by
  intro f
  induction f with
  | zero =>
    intro st hg S h' s' G' sg' l1 h1 h2
    omega
  | succ f ih =>
    intro st hg S h' s' G' sg' l1 hsn hf F K h20 h12 hS hT kk hE hQ0
    have hb := K.1.2.2.2.2.1
    have i10 : ¬ (1 : Int32) = 0 := by decide
    rw [pb_q197_9]
    by_cases c59 : tkk b n st = 59
    · have q : ∀ Q : Option Value → pb_H → Prop, pb_call 178 [.ref 65, .int 59] h' Q ↔ Q (some (.int 1)) h' := h178_1 (k := 59) K.1.1.1 hT (Or.inr (Or.inr (by unfold sow; omega))) hb c59
      have sp : iAll b n V m X (f + 1) st hg S = .inr (st, hg, S) := by
        show (if _ then _ else _) = _
        rw [if_pos c59]
      have key := hE h' s' G' sg' st hg S l1 sp F K h20 h12 hS hT kk
      simp only [pb_e197, K.1.1.1, pb_gr, pb_o_some] at key
      simp only [pb_e197, K.1.1.1, pb_gr, true_and, q, Option.toList_some, List.singleton_append, i10, not_false_eq_true, if_true, pb_o_some]
      simp only [true_and] at key
      exact key
    · have q : ∀ Q : Option Value → pb_H → Prop, pb_call 178 [.ref 65, .int 59] h' Q ↔ Q (some (.int 0)) h' := h178_0 (k := 59) K.1.1.1 hT (Or.inr (Or.inr (by unfold sow; omega))) hb c59
      obtain ⟨sp0, sp1⟩ := iAll_step (b := b) (n := n) (V := V) (m := m) (X := X) (st := st) (hg := hg) (S := S) (f := f) c59
      have bad : ∀ h2 s2 G2 sg2 e, iOne b n V m X st hg S = .inl e → fr rS h' h2 → RK h2 V n b s2 G2 sg2 m X → kp itS s' s2 → FR s2 e → Q (some (.int 0)) h2 := by
        intro h2 s2 G2 sg2 e he F2 K2 k2 ft
        exact hQ0 h2 s2 G2 sg2 e (sp0 e he) (fr_trans F F2) K2 (kp_trans (itG_S kk) k2) ft
      have good : ∀ h2 s2 G2 sg2 st2 hg2 S2 l2, iOne b n V m X st hg S = .inr (st2, hg2, S2) → fr rS h' h2 → RK h2 V n b s2 G2 sg2 m X → s2 20 = nI hg2 → hg2 ≤ 12 → RSK V G2 sg2 hg2 S2 → RSt b n st2 s2 → kp itG s' s2 → pb_R 197 9 [some (.ref 65), l2] [] [] h2 Q := by
        intro h2 s2 G2 sg2 st2 hg2 S2 l2 he F2 K2 h202 h122 S2' T2 k2
        obtain ⟨w1, w2⟩ := iOne_le hsn he
        refine ih st2 hg2 S2 h2 s2 G2 sg2 l2 w2 (by omega) (fr_trans F F2) K2 h202 h122 S2' T2 (kp_trans kk k2) ?_ ?_
        · intro h8 s8 G8 sg8 st8 hg8 S8 l8 hh
          exact hE h8 s8 G8 sg8 st8 hg8 S8 l8 (by rw [sp1 _ he]; exact hh)
        · intro h8 s8 G8 sg8 e hh
          exact hQ0 h8 s8 G8 sg8 e (by rw [sp1 _ he]; exact hh)
      have k1 : s' 15 = 1 ↔ tkk b n st = 48 := (kR_eq hT (m := 1) (by omega)).trans kR_1
      have k2 : s' 15 = 2 ↔ tkk b n st = 120 := (kR_eq hT (m := 2) (by omega)).trans kR_2
      by_cases c1 : tkk b n st = 48
      · have e1 : iOne b n V m X st hg S = iNum b n V m X st hg S := by unfold iOne; rw [if_pos c1]
        simp only [pb_e197, K.1.1.1, pb_gr, true_and, q, Option.toList_some, List.singleton_append, not_true_eq_false, if_false, pb_o_some, k1.mpr c1]
        refine U193 hV K h20 h12 hS hT c1 ?_ ?_
        · intro h2 s2 G2 sg2 st2 hg2 S2 he a b' c' d e f' g' _
          simp only [Option.toList_some, List.singleton_append, pb_e197, i10, not_false_eq_true, if_true]
          exact good h2 s2 G2 sg2 st2 hg2 S2 _ (e1.trans he) a b' c' d e f' g'
        · intro h2 s2 G2 sg2 e he a b' c' _ ft
          simp only [Option.toList_some, List.singleton_append, pb_e197, not_true_eq_false, if_false, nb0, true_and]
          exact bad h2 s2 G2 sg2 e (e1.trans he) a b' c' ft
      · have n1 : ¬ s' 15 = 1 := fun e => c1 (k1.mp e)
        by_cases c2 : tkk b n st = 120
        · have e1 : iOne b n V m X st hg S = iLet b n V st hg S := by unfold iOne; rw [if_neg c1, if_pos c2]
          have n21 : ¬ (2 : Int32) = 1 := by decide
          simp only [pb_e197, K.1.1.1, pb_gr, true_and, q, Option.toList_some, List.singleton_append, not_true_eq_false, if_false, pb_o_some, k2.mpr c2, n21, not_false_eq_true, if_true]
          refine U194 hV K h20 h12 hS hT c2 ?_ ?_
          · intro h2 s2 G2 sg2 st2 hg2 S2 he a b' c' d e f' g' _
            simp only [Option.toList_some, List.singleton_append, pb_e197, i10, not_false_eq_true, if_true]
            exact good h2 s2 G2 sg2 st2 hg2 S2 _ (e1.trans he) a b' c' d e f' g'
          · intro h2 s2 G2 sg2 e he a b' c' _ ft
            simp only [Option.toList_some, List.singleton_append, pb_e197, not_true_eq_false, if_false, nb0, true_and]
            exact bad h2 s2 G2 sg2 e (e1.trans he) a b' c' ft
        · have n2 : ¬ s' 15 = 2 := fun e => c2 (k2.mp e)
          have e1 : iOne b n V m X st hg S = iSgn b n V st hg S := by unfold iOne; rw [if_neg c1, if_neg c2]
          simp only [pb_e197, K.1.1.1, pb_gr, true_and, q, Option.toList_some, List.singleton_append, not_true_eq_false, if_false, pb_o_some, n1, n2, not_false_eq_true, if_true]
          refine U195 hV K h20 h12 hS hT ?_ ?_
          · intro h2 s2 G2 sg2 st2 hg2 S2 he a b' c' d e f' g' _
            simp only [Option.toList_some, List.singleton_append, pb_e197, i10, not_false_eq_true, if_true]
            exact good h2 s2 G2 sg2 st2 hg2 S2 _ (e1.trans he) a b' c' d e f' g'
          · intro h2 s2 G2 sg2 e he a b' c' _ ft
            simp only [Option.toList_some, List.singleton_append, pb_e197, not_true_eq_false, if_false, nb0, true_and]
            exact bad h2 s2 G2 sg2 e (e1.trans he) a b' c' ft
abbrev it4 : Nat → Prop := fun k => itG k ∨ k = 4
/-- pile -/
theorem U197 (hV : V ≤ 16) (K : RK h V n b s G sg m X) (h68 : h.2 68 = ci 301 og) (hT : RSt b n st s) (hk : tkk b n st = 112)
    (hQ1 : ∀ h' s' G' sg' st' y, sP b n V m X st = .inr (st', y) → fr rO h h' → RK h' V n b s' G' sg' (m + 1) (lput X (m + 1) y) → h'.2 68 = ci 301 (upd og (m + 1) 2) → RSt b n st' s' → kp it4 s s' → Q (some (.int 1)) h')
    (hQ0 : ∀ h' s' G' sg' e, sP b n V m X st = .inl e → fr rS h h' → RK h' V n b s' G' sg' m X → kp itS s s' → FR s' e → Q (some (.int 0)) h') : pb_call 197 [.ref 65] h Q := by
  have hsn := hT.2.2.2.2
  have hg65 : ∀ c, (pb_set h 65 c).2 65 = c := fun c => by rw [pb_set_get, if_pos rfl]
  obtain ⟨Z1, F1⟩ := RZ_obj K.1 (s' := upd s 20 0) (by rw [upd_ne _ _ (by omega)]) (by rw [upd_ne _ _ (by omega)])
  have K1 := RK_up hV K Z1 (by rw [upd_ne _ _ (by omega)]) (NF_refl (fun _ => False) _ _) (fun i w => w.elim)
  have T1 : RSt b n st (upd s 20 0) := RSt_kp hT (by rw [upd_ne _ _ (by omega)]) (by rw [upd_ne _ _ (by omega)]) (by rw [upd_ne _ _ (by omega)]) (by rw [upd_ne _ _ (by omega)])
  rw [pb_c197]
  simp only [pb_e197, K.1.1.1, pb_gr, pb_o_some, hg65, true_and]
  refine Z177 Z1 T1 (by omega) ?_
  intro h2 s2 F2 Z2 T2 k2
  have K2 := RK_up hV K1 Z2 (k2 4 (by omega)) (NF_refl (fun _ => False) _ _) (fun i w => w.elim)
  obtain ⟨q1, _⟩ := nxt_le (b := b) hsn (by omega : tkk b n st ≠ 1)
  have kp2 : kp itG s s2 := kp_trans (kp_upd (Or.inr rfl)) (kp_mono (fun k w => Or.inl (by omega)) k2)
  simp only [Option.toList_none, List.nil_append, pb_e197]
  refine U197_loop (h := h) (s := s) hV (n + 1) (nxt b n st) 0 X00 h2 s2 G sg _ q1 (by omega) (fr_trans F1 F2) K2 ((k2 20 (by omega)).trans (upd_same _ _ _)) (by omega) (fun i hi => by omega) T2 kp2 ?_ ?_
  · intro h3 s3 G3 sg3 st3 hg3 S3 l3 sp F3 K3 h203 h123 S3' T3 kp3
    have spP : sP b n V m X st = (if hg3 = 1 then (if m < 300 then .inr (st3, S3 0) else .inl (5, st3)) else .inl (4, st3)) := by
      unfold sP
      rw [sp]
    have m300 := K.2.2.1
    have k1 : nI hg3 = 1 ↔ hg3 = 1 := nI_eq (b := 1) (by omega) (by omega)
    have km : nI m = 300 ↔ m = 300 := nI_eq (b := 300) (by omega) (by omega)
    have h183 := fun (f q : Int32) (Q : Option Value → pb_H → Prop) => R183 (Q := Q) (f := f) (p := q) K3.1.1.1
    have bad : ∀ (f : Nat) (e : Int32), e = nI f → sP b n V m X st = .inl (f, st3) → Q (some (.int 0)) (pb_set h3 65 (rm (upd (upd s3 8 e) 9 (nI st3)))) := by
      intro f e he sp'
      obtain ⟨K4, F4⟩ := RK_ft (f := e) (p := nI st3) hV K3
      exact hQ0 _ _ G3 sg3 _ sp' (fr_trans F3 F4) K4 (kp_trans (itG_S kp3) (kp_trans (kp_upd (Or.inr (Or.inl rfl))) (kp_upd (Or.inr (Or.inr (Or.inl rfl)))))) ⟨by rw [upd_ne _ _ (by omega), upd_same]; exact he, by rw [upd_same]⟩
    by_cases c1 : hg3 = 1
    · rw [if_pos c1] at spP
      by_cases cm : m < 300
      · rw [if_pos cm] at spP
        have nm : ¬ nI m = 300 := fun e => by have := km.mp e; omega
        obtain ⟨R0, f0⟩ := S3' 0 (by omega)
        simp only [pb_e197, K3.1.1.1, pb_gr, pb_o_some, h203, k1.mpr c1, if_true, K3.2.1, nm, not_false_eq_true, true_and]
        refine U196 (r := 301) (o := 2) hV K3 cm (by omega) (by omega) R0 f0 ((F3.2.2 68 (by omega)).trans h68) ?_
        intro h4 s4 G4 sg4 F4 K4 e68 k4 N4
        simp only [Option.toList_none, List.nil_append, pb_e197, nb1, true_and]
        exact hQ1 h4 s4 G4 sg4 st3 _ spP (fr_trans (fr_mono (fun q w => Or.inl w) F3) F4) K4 e68 (RSt_kp T3 (k4 15 (by omega)) (k4 16 (by omega)) (k4 17 (by omega)) (k4 18 (by omega))) (kp_trans (kp_mono (fun k w => Or.inl w) kp3) (kp_mono (fun k w => Or.inr w) k4))
      · rw [if_neg cm] at spP
        have nm : nI m = 300 := km.mpr (by omega)
        simp only [pb_e197, K3.1.1.1, pb_gr, pb_o_some, h203, k1.mpr c1, if_true, K3.2.1, nm, not_true_eq_false, if_false, T3.1, true_and, h183, Option.toList_some, List.singleton_append, nb0]
        exact bad 5 5 rfl spP
    · rw [if_neg c1] at spP
      have n1 : ¬ nI hg3 = 1 := fun e => c1 (k1.mp e)
      simp only [pb_e197, K3.1.1.1, pb_gr, pb_o_some, h203, n1, if_false, T3.1, true_and, h183, Option.toList_some, List.singleton_append, nb0]
      exact bad 4 4 rfl spP
  · intro h3 s3 G3 sg3 e sp F3 K3 kp3 ft
    have spP : sP b n V m X st = .inl e := by
      unfold sP
      rw [sp]
    exact hQ0 h3 s3 G3 sg3 e spP F3 K3 kp3 ft
end RPI
