/-! The reference's ITEMS: lettered, signs -/
set_option maxRecDepth 100000 in
theorem neg_lt100 : ∀ v, v < 100 → 1 ≤ v → ¬ (0 : Int32) ≤ - nI v := by decide
section RI2
variable {h : pb_H} {Q : Option Value → pb_H → Prop} {V n m hg st : Nat} {b : Nat → Nat} {s sg : Nat → Int32} {G : Nat → Nat} {X S : Nat → LN}
theorem RR_lit {G1 G2 : Nat → Nat} {sg1 : Nat → Int32} {r v : Nat} {z : Int} (hV : V ≤ 16) (h1 : 1 ≤ v) (h2 : v ≤ V) (hz : z = 1 ∨ z = -1) (c : ∀ u, u < 17 → rv G1 (r * 17 + u) = 0 ∧ sg1 (r * 17 + u) = 0) (N : NB (r * 17 + v) G1 G2) (e : rv G2 (r * 17 + v) = 1) : RR V G2 (upd sg1 (r * 17 + v) (sgI z)) r (ln_lit v z) := by
  refine ⟨?_, fun u u1 u2 => ⟨?_, ?_⟩⟩
  · rw [rv_ne N (by omega)]
    exact (c 0 (by omega)).1
  · show rv G2 (r * 17 + u) = Int.natAbs (if u = v then z else 0)
    by_cases q : u = v
    · subst q
      rw [if_pos rfl, e]
      rcases hz with w | w <;> subst w <;> rfl
    · rw [if_neg q, rv_ne N (by omega), (c u (by omega)).1]
      rfl
  · show upd sg1 (r * 17 + v) (sgI z) (r * 17 + u) = sgI (if u = v then z else 0)
    by_cases q : u = v
    · subst q
      rw [if_pos rfl, upd_same]
    · rw [if_neg q, upd_ne _ _ (by omega), (c u (by omega)).2]
      rfl
/-- lettered -/
theorem U194 (hV : V ≤ 16) (K : RK h V n b s G sg m X) (h20 : s 20 = nI hg) (h12 : hg ≤ 12) (hS : RSK V G sg hg S) (hT : RSt b n st s) (hk : tkk b n st = 120)
    (hQ1 : ∀ h' s' G' sg' st' hg' S', iLet b n V st hg S = .inr (st', hg', S') → fr rS h h' → RK h' V n b s' G' sg' m X → s' 20 = nI hg' → hg' ≤ 12 → RSK V G' sg' hg' S' → RSt b n st' s' → kp itG s s' → NF hiS G sg G' sg' → Q (some (.int 1)) h')
    (hQ0 : ∀ h' s' G' sg' e, iLet b n V st hg S = .inl e → fr rS h h' → RK h' V n b s' G' sg' m X → kp itS s s' → NF hiS G sg G' sg' → FR s' e → Q (some (.int 0)) h') : pb_call 194 [.ref 65] h Q := by
  have hb := K.1.2.2.2.2.1
  have i10 : ¬ (1 : Int32) = 0 := by decide
  have hlt := tkw_lt hk
  have h179 := fun Q : Option Value → pb_H → Prop => R179 (Q := Q) (RZ_RT K.1) hT hk
  have bad : ∀ (H : pb_H) (s' : Nat → Int32) (f q : Nat) (e e2 : Int32), RK H V n b s' G sg m X → fr rS h H → kp itG s s' → e = nI f → e2 = nI q → iLet b n V st hg S = .inl (f, q) → Q (some (.int 0)) (pb_set H 65 (rm (upd (upd s' 8 e) 9 e2))) := by
    intro H s' f q e e2 K' F' kp' he hq sp
    obtain ⟨K2, F2⟩ := RK_ft (f := e) (p := e2) hV K'
    exact hQ0 _ _ G sg _ sp (fr_trans F' F2) K2 (kp_trans (itG_S kp') (kp_trans (kp_upd (Or.inr (Or.inl rfl))) (kp_upd (Or.inr (Or.inr (Or.inl rfl)))))) (NF_refl _ _ _) ⟨by rw [upd_ne _ _ (by omega), upd_same]; exact he, by rw [upd_same]; exact hq⟩
  have hx : (if b st = 120 then nI (tkw b n st) else - nI (tkw b n st)) = nI (tkw b n st) ∨ (if b st = 120 then nI (tkw b n st) else - nI (tkw b n st)) = - nI (tkw b n st) := by
    split
    · exact Or.inl rfl
    · exact Or.inr rfl
  have h180 := fun Q : Option Value → pb_H → Prop => R180 (Q := Q) K.1.1.1 K.1.2.2.2.2.2 hx (by omega) hV
  have h183 := fun (f q : Int32) (Q : Option Value → pb_H → Prop) => R183 (Q := Q) (f := f) (p := q) K.1.1.1
  rw [pb_c194]
  by_cases cv : 1 ≤ tkw b n st ∧ tkw b n st ≤ V
  · rw [if_pos cv] at h180
    -- the VARIABLE's number, whatever its sign
    have habs : pb_R 194 25 [some (.ref 65), some (.int (if b st = 120 then nI (tkw b n st) else - nI (tkw b n st))), some (.int (nI st)), none, none] [] [] h Q ↔ pb_R 194 36 [some (.ref 65), some (.int (if b st = 120 then nI (tkw b n st) else - nI (tkw b n st))), some (.int (nI st)), some (.int (nI (tkw b n st))), none] [] [] h Q := by
      by_cases cb : b st = 120
      · rw [if_pos cb]
        have k : 0 ≤ nI (tkw b n st) := nI_pos' (by omega)
        simp only [pb_e194, k, if_true]
      · rw [if_neg cb]
        have k := neg_lt100 (tkw b n st) hlt cv.1
        simp only [pb_e194, k, if_false, Int32.neg_neg]
    suffices key : pb_R 194 25 [some (.ref 65), some (.int (if b st = 120 then nI (tkw b n st) else - nI (tkw b n st))), some (.int (nI st)), none, none] [] [] h Q by
      simp only [pb_e194, K.1.1.1, pb_gr, true_and] at key
      simp only [pb_e194, K.1.1.1, pb_gr, true_and, h179, Option.toList_some, List.singleton_append, pb_o_some, hT.1, h180, i10, not_false_eq_true, if_true]
      exact key
    rw [habs]
    simp only [pb_e194, K.1.1.1, pb_gr, true_and]
    refine Z177 K.1 hT (by omega) ?_
    intro h1 s1 F1 Z1 T1 k1
    have K1 : RK h1 V n b s1 G sg m X := RK_up hV K Z1 (k1 4 (by omega)) (NF_refl (fun _ => False) _ _) (fun i w => w.elim)
    have h201 : s1 20 = nI hg := (k1 20 (by omega)).trans h20
    have kp1 : kp itG s s1 := kp_mono (fun k w => Or.inl (by omega)) k1
    have h183 := fun (f q : Int32) (Q : Option Value → pb_H → Prop) => R183 (Q := Q) (f := f) (p := q) Z1.1.1
    by_cases cw : tkk b n (nxt b n st) = 119
    · have sp : iLet b n V st hg S = (if hg = 0 then .inl (4, nxt b n st) else .inr (nxt b n (nxt b n st), hg, lput S (hg - 1) (ln_wo (S (hg - 1)) (tkw b n st)))) := by
        unfold iLet
        rw [if_pos cv, if_pos cw]
      have q : ∀ Q : Option Value → pb_H → Prop, pb_call 178 [.ref 65, .int 119] h1 Q ↔ Q (some (.int 1)) h1 := h178_1 (k := 119) Z1.1.1 T1 (Or.inr (Or.inr (by unfold sow; omega))) hb cw
      by_cases hz : hg = 0
      · rw [if_pos hz] at sp
        have c0 : nI hg = 0 := by rw [hz]; rfl
        simp only [Option.toList_none, List.nil_append, pb_e194, Z1.1.1, pb_gr, true_and, q, Option.toList_some, List.singleton_append, i10, if_false, pb_o_some, h201, c0, not_true_eq_false, T1.1, h183, nb0]
        exact bad h1 s1 4 _ 4 _ K1 F1 kp1 rfl rfl sp
      · rw [if_neg hz] at sp
        have c0 : ¬ nI hg = 0 := nI_ne0 (by omega) (by omega)
        obtain ⟨j, rfl⟩ : ∃ j, hg = j + 1 := ⟨hg - 1, by omega⟩
        rw [Nat.add_sub_cancel] at sp
        have e301 : (301 : Int32) + nI (j + 1) - 1 = nI (301 + j) := by rw [n301]; exact nI_pred (301 + j)
        obtain ⟨Rj, fj⟩ := hS j (by omega)
        simp only [Option.toList_none, List.nil_append, pb_e194, Z1.1.1, pb_gr, true_and, q, Option.toList_some, List.singleton_append, i10, if_false, pb_o_some, h201, c0, not_false_eq_true, if_true, e301]
        refine A169 Z1.1 (by omega) hV Rj cv.1 cv.2 ?_
        intro h2 G2 sg2 F2 X2 N2 R2
        have Z2 : RZ h2 V n b s1 G2 sg2 := RZ_fr Z1 F2 X2 rfl rfl
        have K2 : RK h2 V n b s1 G2 sg2 m X := RK_up hV K1 Z2 rfl N2 (fun i w => by omega)
        have S2 := RSK_put (j := j) hV (by omega) (by omega) N2 (fun i w => Or.inl w) R2 (fit_wo fj) hS
        simp only [Option.toList_none, List.nil_append, pb_e194, X2.1, pb_gr, true_and]
        refine Z177 Z2 T1 (by omega) ?_
        intro h3 s3 F3 Z3 T3 k3
        simp only [Option.toList_none, List.nil_append, pb_e194, nb1, true_and]
        exact hQ1 h3 s3 G2 sg2 _ (j + 1) _ sp (fr_trans F1 (fr_trans F2 F3)) (RK_up hV K2 Z3 (k3 4 (by omega)) (NF_refl (fun _ => False) _ _) (fun i w => w.elim)) ((k3 20 (by omega)).trans h201) h12 S2 T3 (kp_trans kp1 (kp_mono (fun k w => Or.inl (by omega)) k3)) (NF_mono (fun i w => by omega) N2)
    · have sp : iLet b n V st hg S = (if hg < 12 then .inr (nxt b n st, hg + 1, lput S hg (ln_lit (tkw b n st) (if b st = 120 then 1 else -1))) else .inl (4, st)) := by
        unfold iLet
        rw [if_pos cv, if_neg cw]
      have q : ∀ Q : Option Value → pb_H → Prop, pb_call 178 [.ref 65, .int 119] h1 Q ↔ Q (some (.int 0)) h1 := h178_0 (k := 119) Z1.1.1 T1 (Or.inr (Or.inr (by unfold sow; omega))) hb cw
      have k12 : nI hg = 12 ↔ hg = 12 := nI_eq (b := 12) (by omega) (by omega)
      by_cases c12 : hg < 12
      · rw [if_pos c12] at sp
        have n12 : ¬ nI hg = 12 := fun e => by have := k12.mp e; omega
        simp only [Option.toList_none, List.nil_append, pb_e194, Z1.1.1, pb_gr, true_and, q, Option.toList_some, List.singleton_append, if_true, pb_o_some, h201, n12, not_false_eq_true, n301]
        refine A161 Z1.1 (by omega) ?_
        intro h2 G2 sg2 F2 X2 N2 cl2
        have eix : nI (301 + hg) * 17 + nI (tkw b n st) = nI ((301 + hg) * 17 + tkw b n st) := by rw [nI17, nI_mul, nI_add]
        have hset := fun x => sg_set (sg := sg2) (j := (301 + hg) * 17 + tkw b n st) (x := x) (by omega)
        have hsgn : pb_R 194 119 [some (.ref 65), some (.int (if b st = 120 then nI (tkw b n st) else - nI (tkw b n st))), some (.int (nI st)), some (.int (nI (tkw b n st))), some (.int (nI (301 + hg)))] [] [] h2 Q ↔ pb_R 194 140 [some (.ref 65), some (.int (if b st = 120 then nI (tkw b n st) else - nI (tkw b n st))), some (.int (nI st)), some (.int (nI (tkw b n st))), some (.int (nI (301 + hg)))] [] [] (pb_set h2 67 (ci 6171 (upd sg2 ((301 + hg) * 17 + tkw b n st) (sgI (if b st = 120 then 1 else -1))))) Q := by
          by_cases cb : b st = 120
          · rw [if_pos cb, if_pos cb]
            have k : 0 ≤ nI (tkw b n st) := nI_pos' (by omega)
            have e1 : sgI 1 = 1 := by decide
            simp only [pb_e194, X2.1, pb_gr, pb_o_some, eix, k, if_true, X2.2.2.2.1, hset, e1]
          · rw [if_neg cb, if_neg cb]
            have k := neg_lt100 (tkw b n st) hlt cv.1
            have e1 : sgI (-1) = -1 := by decide
            simp only [pb_e194, X2.1, pb_gr, pb_o_some, eix, k, if_false, X2.2.2.2.1, hset, e1]
        suffices key : pb_R 194 119 [some (.ref 65), some (.int (if b st = 120 then nI (tkw b n st) else - nI (tkw b n st))), some (.int (nI st)), some (.int (nI (tkw b n st))), some (.int (nI (301 + hg)))] [] [] h2 Q by
          simp only [pb_e194, X2.1, pb_gr, pb_o_some, eix] at key
          simp only [Option.toList_none, List.nil_append, pb_e194, X2.1, pb_gr, pb_o_some, eix]
          exact key
        rw [hsgn]
        obtain ⟨X3, F3⟩ := RX_sig X2 (sg' := upd sg2 ((301 + hg) * 17 + tkw b n st) (sgI (if b st = 120 then 1 else -1)))
        simp only [pb_e194, A143, Option.toList_some, List.singleton_append, X3.1, pb_gr, true_and]
        refine A145 (i := (301 + hg) * 17 + tkw b n st) (n := 1) X3 (by omega) (by omega) ?_
        intro h4 G4 F4 X4 nb4 v4
        have R4 : RR V G4 (upd sg2 ((301 + hg) * 17 + tkw b n st) (sgI (if b st = 120 then 1 else -1))) (301 + hg) (ln_lit (tkw b n st) (if b st = 120 then 1 else -1)) := RR_lit hV cv.1 cv.2 (by
          split
          · exact Or.inl rfl
          · exact Or.inr rfl) cl2 nb4 v4
        have N4 : NF (rwS (301 + hg)) G sg G4 (upd sg2 ((301 + hg) * 17 + tkw b n st) (sgI (if b st = 120 then 1 else -1))) := NF_trans N2 (NF_trans (NF_sg (by omega)) (NF_nb (by omega) nb4))
        obtain ⟨X5, F5⟩ := RX_obj X4 (s' := upd s1 20 (nI (hg + 1)))
        have FF := fr_trans F2 (fr_trans F3 (fr_trans F4 F5))
        have Z5 := RZ_fr Z1 FF X5 (by rw [upd_ne _ _ (by omega)]) (by rw [upd_ne _ _ (by omega)])
        have K5 := RK_up hV K1 Z5 (by rw [upd_ne _ _ (by omega)]) N4 (fun i w => by omega)
        simp only [Option.toList_none, List.nil_append, pb_e194, X4.1, pb_gr, pb_o_some, h201, nI_1, nb1, true_and]
        exact hQ1 _ _ G4 _ _ _ _ sp (fr_trans F1 FF) K5 (upd_same _ _ _) (by omega) (RSK_put (j := hg) hV (Nat.le_refl _) c12 N4 (fun i w => Or.inl w) R4 (fit_lit (by
          split
          · exact Or.inl rfl
          · exact Or.inr rfl)) hS) (RSt_kp T1 (by rw [upd_ne _ _ (by omega)]) (by rw [upd_ne _ _ (by omega)]) (by rw [upd_ne _ _ (by omega)]) (by rw [upd_ne _ _ (by omega)])) (kp_trans kp1 (kp_upd (Or.inr rfl))) (NF_mono (fun i w => by omega) N4)
      · rw [if_neg c12] at sp
        have n12 : nI hg = 12 := k12.mpr (by omega)
        simp only [Option.toList_none, List.nil_append, pb_e194, Z1.1.1, pb_gr, true_and, q, Option.toList_some, List.singleton_append, if_true, pb_o_some, h201, n12, not_true_eq_false, if_false, h183, nb0]
        exact bad h1 s1 4 st 4 _ K1 F1 kp1 rfl rfl sp
  · rw [if_neg cv] at h180
    have sp : iLet b n V st hg S = .inl (2, st) := by
      unfold iLet
      rw [if_neg cv]
    simp only [pb_e194, K.1.1.1, pb_gr, true_and, h179, Option.toList_some, List.singleton_append, pb_o_some, hT.1, h180, not_true_eq_false, if_false, h183, nb0]
    exact bad h s 2 st 2 _ K (fr_refl _ _) (kp_refl _ _) rfl rfl sp
/-- signs -/
theorem U195 (hV : V ≤ 16) (K : RK h V n b s G sg m X) (h20 : s 20 = nI hg) (h12 : hg ≤ 12) (hS : RSK V G sg hg S) (hT : RSt b n st s)
    (hQ1 : ∀ h' s' G' sg' st' hg' S', iSgn b n V st hg S = .inr (st', hg', S') → fr rS h h' → RK h' V n b s' G' sg' m X → s' 20 = nI hg' → hg' ≤ 12 → RSK V G' sg' hg' S' → RSt b n st' s' → kp itG s s' → NF hiS G sg G' sg' → Q (some (.int 1)) h')
    (hQ0 : ∀ h' s' G' sg' e, iSgn b n V st hg S = .inl e → fr rS h h' → RK h' V n b s' G' sg' m X → kp itS s s' → NF hiS G sg G' sg' → FR s' e → Q (some (.int 0)) h') : pb_call 195 [.ref 65] h Q := by
  have hb := K.1.2.2.2.2.1
  have i10 : ¬ (1 : Int32) = 0 := by decide
  have h183 := fun (f q : Int32) (Q : Option Value → pb_H → Prop) => R183 (Q := Q) (f := f) (p := q) K.1.1.1
  have bad : ∀ (H : pb_H) (G' : Nat → Nat) (sg' : Nat → Int32) (f q : Nat) (e e2 : Int32), RK H V n b s G' sg' m X → fr rS h H → NF hiS G sg G' sg' → e = nI f → e2 = nI q → iSgn b n V st hg S = .inl (f, q) → Q (some (.int 0)) (pb_set H 65 (rm (upd (upd s 8 e) 9 e2))) := by
    intro H G' sg' f q e e2 K' F' N' he hq sp
    obtain ⟨K2, F2⟩ := RK_ft (f := e) (p := e2) hV K'
    exact hQ0 _ _ G' sg' _ sp (fr_trans F' F2) K2 (kp_trans (kp_upd (Or.inr (Or.inl rfl))) (kp_upd (Or.inr (Or.inr (Or.inl rfl))))) N' ⟨by rw [upd_ne _ _ (by omega), upd_same]; exact he, by rw [upd_same]; exact hq⟩
  rw [pb_c195]
  by_cases c1 : tkk b n st = 43
  · have sp : iSgn b n V st hg S = (if hg < 2 then .inl (4, st)
      else if fitb V (ln_sum V (S (hg - 2)) (S (hg - 1))) = true then .inr (nxt b n st, hg - 1, lput S (hg - 2) (ln_sum V (S (hg - 2)) (S (hg - 1)))) else .inl (5, st)) := by
      unfold iSgn
      rw [if_pos c1]
    have q : ∀ Q : Option Value → pb_H → Prop, pb_call 178 [.ref 65, .int 43] h Q ↔ Q (some (.int 1)) h := h178_1 (k := 43) K.1.1.1 hT (Or.inr (Or.inr (by unfold sow; omega))) hb c1
    by_cases c2 : hg < 2
    · rw [if_pos c2] at sp
      have k2 : ¬ (2 : Int32) ≤ nI hg := nI_ge (b := 2) c2 (by omega)
      simp only [pb_e195, K.1.1.1, pb_gr, true_and, q, Option.toList_some, List.singleton_append, i10, not_false_eq_true, if_true, if_false, pb_o_some, h20, k2, hT.1, h183, nb0]
      exact bad h G sg 4 st 4 _ K (fr_refl _ _) (NF_refl _ _ _) rfl rfl sp
    · rw [if_neg c2] at sp
      have k2 : (2 : Int32) ≤ nI hg := nI_le (a := 2) (by omega) (by omega)
      obtain ⟨j, rfl⟩ : ∃ j, hg = j + 2 := ⟨hg - 2, by omega⟩
      rw [show j + 2 - 2 = j by omega, show j + 2 - 1 = j + 1 by omega] at sp
      have e1 : (301 : Int32) + nI (j + 2) - 1 = nI (301 + (j + 1)) := by rw [n301]; exact nI_pred (301 + (j + 1))
      have e2 : (301 : Int32) + nI (j + 2) - 2 = nI (301 + j) := by
        rw [n301]
        have := nI_sub' (a := 301 + (j + 2)) (b := 2) (by omega)
        rw [show 301 + (j + 2) - 2 = 301 + j by omega] at this
        exact this
      have e3 : nI (j + 2) - 1 = nI (j + 1) := nI_pred (j + 1)
      obtain ⟨Ra, fa⟩ := hS j (by omega)
      obtain ⟨Rb, fb⟩ := hS (j + 1) (by omega)
      simp only [pb_e195, K.1.1.1, pb_gr, true_and, q, Option.toList_some, List.singleton_append, i10, not_false_eq_true, if_true, if_false, pb_o_some, h20, k2, e1, e2]
      refine A165 K.1.1 K.1.2.2.2.2.2 hV (by omega) (by omega) (by omega) Ra Rb fa fb ?_ ?_
      · intro h2 G2 sg2 F2 X2 N2 ft R2
        rw [if_pos (fitb_1 ft)] at sp
        obtain ⟨X3, F3⟩ := RX_obj X2 (s' := upd s 20 (nI (j + 1)))
        have Z3 := RZ_fr K.1 (fr_trans F2 F3) X3 (by rw [upd_ne _ _ (by omega)]) (by rw [upd_ne _ _ (by omega)])
        have K3 := RK_up hV K Z3 (by rw [upd_ne _ _ (by omega)]) N2 (fun i w => by omega)
        have T3 : RSt b n st (upd s 20 (nI (j + 1))) := RSt_kp hT (by rw [upd_ne _ _ (by omega)]) (by rw [upd_ne _ _ (by omega)]) (by rw [upd_ne _ _ (by omega)]) (by rw [upd_ne _ _ (by omega)])
        have S3 := RSK_put (j := j) hV (by omega) (by omega) N2 (fun i w => by omega) R2 ft hS
        simp only [Option.toList_some, List.singleton_append, pb_e195, i10, not_false_eq_true, if_true, X2.1, pb_gr, pb_o_some, h20, e3, X3.1, true_and]
        refine Z177 Z3 T3 (by omega) ?_
        intro h4 s4 F4 Z4 T4 k4
        simp only [Option.toList_none, List.nil_append, pb_e195, nb1, true_and]
        exact hQ1 h4 s4 G2 sg2 _ (j + 1) _ sp (fr_trans F2 (fr_trans F3 F4)) (RK_up hV K3 Z4 (k4 4 (by omega)) (NF_refl (fun _ => False) _ _) (fun i w => w.elim)) ((k4 20 (by omega)).trans (upd_same _ _ _)) (by omega) S3 T4 (kp_trans (kp_upd (Or.inr rfl)) (kp_mono (fun k w => Or.inl (by omega)) k4)) (NF_mono (fun i w => by omega) N2)
      · intro h2 G2 sg2 F2 X2 N2 nf
        rw [if_neg (fitb_0 nf)] at sp
        have Z2 := RZ_fr K.1 F2 X2 rfl rfl
        have K2 := RK_up hV K Z2 rfl N2 (fun i w => by omega)
        have h183' := fun (f q : Int32) (Q : Option Value → pb_H → Prop) => R183 (Q := Q) (f := f) (p := q) X2.1
        simp only [Option.toList_some, List.singleton_append, pb_e195, not_true_eq_false, if_false, X2.1, pb_gr, pb_o_some, hT.1, true_and, h183', nb0]
        exact bad h2 G2 sg2 5 st 5 _ K2 F2 (NF_mono (fun i w => by omega) N2) rfl rfl sp
  · have q : ∀ Q : Option Value → pb_H → Prop, pb_call 178 [.ref 65, .int 43] h Q ↔ Q (some (.int 0)) h := h178_0 (k := 43) K.1.1.1 hT (Or.inr (Or.inr (by unfold sow; omega))) hb c1
    by_cases c2 : tkk b n st = 115
    · have sp : iSgn b n V st hg S = (if hg = 0 then .inl (4, st) else .inr (nxt b n st, hg, lput S (hg - 1) (ln_cut (S (hg - 1))))) := by
        unfold iSgn
        rw [if_neg c1, if_pos c2]
      have q2 : ∀ Q : Option Value → pb_H → Prop, pb_call 178 [.ref 65, .int 115] h Q ↔ Q (some (.int 1)) h := h178_1 (k := 115) K.1.1.1 hT (Or.inr (Or.inr (by unfold sow; omega))) hb c2
      by_cases hz : hg = 0
      · rw [if_pos hz] at sp
        have k1 : ¬ (1 : Int32) ≤ nI hg := nI_ge (b := 1) (by omega) (by omega)
        simp only [pb_e195, K.1.1.1, pb_gr, true_and, q, q2, Option.toList_some, List.singleton_append, i10, not_true_eq_false, not_false_eq_true, if_true, if_false, pb_o_some, h20, k1, hT.1, h183, nb0]
        exact bad h G sg 4 st 4 _ K (fr_refl _ _) (NF_refl _ _ _) rfl rfl sp
      · rw [if_neg hz] at sp
        have k1 : (1 : Int32) ≤ nI hg := nI_le (a := 1) (by omega) (by omega)
        obtain ⟨j, rfl⟩ : ∃ j, hg = j + 1 := ⟨hg - 1, by omega⟩
        rw [Nat.add_sub_cancel] at sp
        have e1 : (301 : Int32) + nI (j + 1) - 1 = nI (301 + j) := by rw [n301]; exact nI_pred (301 + j)
        obtain ⟨Ra, fa⟩ := hS j (by omega)
        simp only [pb_e195, K.1.1.1, pb_gr, true_and, q, q2, Option.toList_some, List.singleton_append, i10, not_true_eq_false, not_false_eq_true, if_true, if_false, pb_o_some, h20, k1, e1]
        refine A168 K.1.1 K.1.2.2.2.2.2 hV (by omega) Ra ?_
        intro h2 G2 sg2 F2 X2 N2 R2
        have Z2 := RZ_fr K.1 F2 X2 rfl rfl
        have K2 := RK_up hV K Z2 rfl N2 (fun i w => by omega)
        have S2 := RSK_put (j := j) hV (by omega) (by omega) N2 (fun i w => Or.inl w) R2 (fit_cut fa) hS
        simp only [Option.toList_none, List.nil_append, pb_e195, X2.1, pb_gr, true_and]
        refine Z177 Z2 hT (by omega) ?_
        intro h4 s4 F4 Z4 T4 k4
        simp only [Option.toList_none, List.nil_append, pb_e195, nb1, true_and]
        exact hQ1 h4 s4 G2 sg2 _ (j + 1) _ sp (fr_trans F2 F4) (RK_up hV K2 Z4 (k4 4 (by omega)) (NF_refl (fun _ => False) _ _) (fun i w => w.elim)) ((k4 20 (by omega)).trans h20) h12 S2 T4 (kp_mono (fun k w => Or.inl (by omega)) k4) (NF_mono (fun i w => by omega) N2)
    · have sp : iSgn b n V st hg S = .inl (1, st) := by
        unfold iSgn
        rw [if_neg c1, if_neg c2]
      have q2 : ∀ Q : Option Value → pb_H → Prop, pb_call 178 [.ref 65, .int 115] h Q ↔ Q (some (.int 0)) h := h178_0 (k := 115) K.1.1.1 hT (Or.inr (Or.inr (by unfold sow; omega))) hb c2
      simp only [pb_e195, K.1.1.1, pb_gr, true_and, q, q2, Option.toList_some, List.singleton_append, not_true_eq_false, if_false, pb_o_some, hT.1, h183, nb0]
      exact bad h G sg 1 st 1 _ K (fr_refl _ _) (NF_refl _ _ _) rfl rfl sp
end RI2
