/-! Checker.takeItems -/
/-- a p at st: where its ; stands, the LINE -/
noncomputable def sP (b : Nat → Nat) (n V m : Nat) (X : Nat → LN) (st : Nat) : Sum FL (Nat × LN) :=
  match iAll b n V m X (n + 1) (nxt b n st) 0 X00 with
  | .inl e => .inl e
  | .inr r => if r.2.1 = 1 then (if m < 300 then .inr (r.1, r.2.2 0) else .inl (5, r.1)) else .inl (4, r.1)
section PI2
variable {h : pb_H} {Q : Option Value → pb_H → Prop} {V c N n m p hg st : Nat} {b : Nat → Nat} {s : Nat → Int32} {F : Nat → Option Nat} {X S : Nat → LN} {og : Nat → Nat}
theorem iAll_step {f : Nat} (hk : tkk b n st ≠ 59) : (∀ e, iOne b n V m X st hg S = .inl e → iAll b n V m X (f + 1) st hg S = .inl e) ∧ (∀ r, iOne b n V m X st hg S = .inr r → iAll b n V m X (f + 1) st hg S = iAll b n V m X f r.1 r.2.1 r.2.2) := by
  refine ⟨fun e he => ?_, fun r hr => ?_⟩
  · show (if _ then _ else _) = _
    rw [if_neg hk, he]
  · show (if _ then _ else _) = _
    rw [if_neg hk, hr]
theorem L74_loop (hV : V ≤ 16) : ∀ f i st hg S h' s', f + i = n + 1 → i ≤ st → fr kS h h' → KB h' V c N n b s' m p F X og → h'.2 13 = cck hg → hg ≤ 12 → ST h' V hg S → TS b n st s' → KF s s' →
    (∀ h2 s2 st2 hg2 S2 l2, iAll b n V m X f st hg S = .inr (st2, hg2, S2) → tkk b n st2 = 59 → fr kS h h2 → KB h2 V c N n b s2 m p F X og → h2.2 13 = cck hg2 → hg2 ≤ 12 → ST h2 V hg2 S2 → TS b n st2 s2 → KF s s2 → pb_R 74 139 [some (.ref 13), some (.int 1), l2] [] [] h2 Q) →
    (∀ h2 s2 hg2 e, iAll b n V m X f st hg S = .inl e → fr kS h h2 → KB h2 V c N n b s2 m p F X og → h2.2 13 = cck hg2 → FT s2 e → Q (some (.int 0)) h2) →
    pb_R 74 16 [some (.ref 13), some (.int 1), some (.int (nI i))] [] [] h' Q := by
  intro f
  induction f with
  | zero =>
    intro i st hg S h' s' hf hi G K h13 h12 hS hT
    have := hT.2.2.2.2
    omega
  | succ f ih =>
    intro i st hg S h' s' hf hi G K h13 h12 hS hT KK hE hQ0
    have hsn := hT.2.2.2.2
    have hb := (KB_TX K).2.2.2.2.2
    have hn : n ≤ 4000 := Nat.le_trans (KB_TX K).2.2.1 (KB_TX K).2.2.2.1
    have s1 := (KB_TX K).2.2.2.2.1
    have h5 := KB_5 K
    have i10 : ¬ (1 : Int32) = 0 := by decide
    have kl : ¬ nI n < nI i := nI_nlt (by omega) (by omega)
    have kk := fun m hm => kd_eq hT hb (m := m) hm
    have k59 : s' 2 = 59 ↔ tkk b n st = 59 := kk 59 (by omega)
    by_cases c59 : tkk b n st = 59
    · have sp : iAll b n V m X (f + 1) st hg S = .inr (st, hg, S) := by
        show (if _ then _ else _) = _
        rw [if_pos c59]
      have key := hE h' s' st hg S (some (.int (nI i))) sp c59 G K h13 h12 hS hT KK
      simp only [pb_e74, i10, if_false, h13, pb_g1, pb_o_some, h5, pb_gx] at key
      rw [pb_q74_16]
      simp only [pb_e74, i10, if_false, h13, pb_g1, pb_o_some, h5, pb_gx, s1, kl, k59.mpr c59, if_true]
      exact key
    · have n59 : ¬ s' 2 = 59 := fun e => c59 (k59.mp e)
      obtain ⟨sp0, sp1⟩ := iAll_step (b := b) (n := n) (V := V) (m := m) (X := X) (st := st) (hg := hg) (S := S) (f := f) c59
      have bad : ∀ h2 s2 hg2 e, iOne b n V m X st hg S = .inl e → fr kS h' h2 → KB h2 V c N n b s2 m p F X og → h2.2 13 = cck hg2 → FT s2 e → pb_R 74 16 [some (.ref 13), some (.int 0), some (.int (nI (i + 1)))] [] [] h2 Q := by
        intro h2 s2 hg2 e he G2 K2 h132 ft
        rw [pb_q74_16]
        simp only [pb_e74, if_true, nb0, true_and]
        exact hQ0 h2 s2 hg2 e (sp0 e he) (fr_trans G G2) K2 h132 ft
      have good : ∀ h2 s2 st2 hg2 S2, iOne b n V m X st hg S = .inr (st2, hg2, S2) → fr kS h' h2 → KB h2 V c N n b s2 m p F X og → h2.2 13 = cck hg2 → hg2 ≤ 12 → ST h2 V hg2 S2 → TS b n st2 s2 → KF s' s2 → pb_R 74 16 [some (.ref 13), some (.int 1), some (.int (nI (i + 1)))] [] [] h2 Q := by
        intro h2 s2 st2 hg2 S2 he G2 K2 h132 h122 S2' T2 K2'
        obtain ⟨w1, w2⟩ := iOne_le hsn he
        refine ih (i + 1) st2 hg2 S2 h2 s2 (by omega) (by omega) (fr_trans G G2) K2 h132 h122 S2' T2 (KF_tr KK K2') ?_ ?_
        · intro h8 s8 st8 hg8 S8 l8 hh
          exact hE h8 s8 st8 hg8 S8 l8 (by rw [sp1 _ he]; exact hh)
        · intro h8 s8 hg8 e hh
          exact hQ0 h8 s8 hg8 e (by rw [sp1 _ he]; exact hh)
      have k48 : s' 2 = 48 ↔ tkk b n st = 48 := kk 48 (by omega)
      have k120 : s' 2 = 120 ↔ tkk b n st = 120 := kk 120 (by omega)
      have k43 : s' 2 = 43 ↔ tkk b n st = 43 := kk 43 (by omega)
      have k115 : s' 2 = 115 ↔ tkk b n st = 115 := kk 115 (by omega)
      rw [pb_q74_16]
      by_cases c1 : tkk b n st = 48
      · have e1 : iOne b n V m X st hg S = iNum b n V m X st hg S := by unfold iOne; rw [if_pos c1]
        have q := k48.mpr c1
        have a1 : ¬ (48 : Int32) = 59 := by decide
        have a2 : ¬ (48 : Int32) = 43 := by decide
        simp only [pb_e74, i10, if_false, h13, pb_g1, pb_o_some, h5, pb_gx, s1, kl, q, a1, a2, if_true, true_and]
        refine L49 hV K h13 h12 hS hT c1 ?_ ?_
        · intro h2 s2 st2 hg2 S2 he a b' c' d e f' g'
          simp only [Option.toList_some, List.singleton_append, pb_e74, nI_1]
          exact good h2 s2 st2 hg2 S2 (e1.trans he) a b' c' d e f' g'
        · intro h2 s2 hg2 e he a b' c' d
          simp only [Option.toList_some, List.singleton_append, pb_e74, nI_1]
          exact bad h2 s2 hg2 e (e1.trans he) a b' c' d
      · by_cases c2 : tkk b n st = 120
        · have e1 : iOne b n V m X st hg S = iLet b n V st hg S := by unfold iOne; rw [if_neg c1, if_pos c2]
          have q := k120.mpr c2
          have a1 : ¬ (120 : Int32) = 59 := by decide
          have a2 : ¬ (120 : Int32) = 43 := by decide
          have a3 : ¬ (120 : Int32) = 48 := by decide
          have a4 : ¬ (120 : Int32) = 115 := by decide
          simp only [pb_e74, i10, if_false, h13, pb_g1, pb_o_some, h5, pb_gx, s1, kl, q, a1, a2, a3, a4, if_true, true_and]
          refine L58 hV K h13 h12 hS hT c2 ?_ ?_
          · intro h2 s2 st2 hg2 S2 he a b' c' d e f' g'
            simp only [Option.toList_some, List.singleton_append, pb_e74, nI_1]
            exact good h2 s2 st2 hg2 S2 (e1.trans he) a b' c' d e f' g'
          · intro h2 s2 hg2 e he a b' c' d
            simp only [Option.toList_some, List.singleton_append, pb_e74, nI_1]
            exact bad h2 s2 hg2 e (e1.trans he) a b' c' d
        · have e1 : iOne b n V m X st hg S = iSgn b n V st hg S := by unfold iOne; rw [if_neg c1, if_neg c2]
          by_cases c3 : tkk b n st = 43
          · have q := k43.mpr c3
            have a1 : ¬ (43 : Int32) = 59 := by decide
            simp only [pb_e74, i10, if_false, h13, pb_g1, pb_o_some, h5, pb_gx, s1, kl, q, a1, if_true, true_and]
            refine L65 hV K h13 h12 hS hT c3 ?_ ?_
            · intro h2 s2 st2 hg2 S2 he a b' c' d e f' g'
              simp only [Option.toList_some, List.singleton_append, pb_e74, nI_1]
              exact good h2 s2 st2 hg2 S2 (e1.trans he) a b' c' d e f' g'
            · intro h2 s2 hg2 e he a b' c' d
              simp only [Option.toList_some, List.singleton_append, pb_e74, nI_1]
              exact bad h2 s2 hg2 e (e1.trans he) a b' c' d
          · by_cases c4 : tkk b n st = 115
            · have q := k115.mpr c4
              have a1 : ¬ (115 : Int32) = 59 := by decide
              have a2 : ¬ (115 : Int32) = 43 := by decide
              have a3 : ¬ (115 : Int32) = 48 := by decide
              simp only [pb_e74, i10, if_false, h13, pb_g1, pb_o_some, h5, pb_gx, s1, kl, q, a1, a2, a3, if_true, true_and]
              refine L67 hV K h13 h12 hS hT c4 ?_ ?_
              · intro h2 s2 st2 hg2 S2 he a b' c' d e f' g'
                simp only [Option.toList_some, List.singleton_append, pb_e74, nI_1]
                exact good h2 s2 st2 hg2 S2 (e1.trans he) a b' c' d e f' g'
              · intro h2 s2 hg2 e he a b' c' d
                simp only [Option.toList_some, List.singleton_append, pb_e74, nI_1]
                exact bad h2 s2 hg2 e (e1.trans he) a b' c' d
            · have sp : iOne b n V m X st hg S = .inl (1, st) := by rw [e1]; unfold iSgn; rw [if_neg c3, if_neg c4]
              have q1 : ¬ s' 2 = 48 := fun e => c1 (k48.mp e)
              have q2 : ¬ s' 2 = 120 := fun e => c2 (k120.mp e)
              have q3 : ¬ s' 2 = 43 := fun e => c3 (k43.mp e)
              have q4 : ¬ s' 2 = 115 := fun e => c4 (k115.mp e)
              have h29 := fun (f : Int32) (Q : Option Value → pb_H → Prop) => m29 (Q := Q) (f := f) h5
              simp only [pb_e74, i10, if_false, h13, pb_g1, pb_o_some, h5, pb_gx, s1, kl, n59, q1, q2, q3, q4, true_and, h29, Option.toList_some, List.singleton_append, nI_1]
              exact bad _ _ hg _ sp (fr_mono (fun b w => Or.inl w) (fr_5 K rfl)) (KB_s K (by rw [upd_ne _ _ (by omega), upd_ne _ _ (by omega)])) (by rw [pb_set_get, if_neg (by omega), h13]) ⟨by rw [upd_ne _ _ (by omega), upd_same]; rfl, by rw [upd_same, hT.1]⟩
theorem kS_ch {q : Nat} (w : kS q) : chS F q := by
  rcases w with w | w
  · exact Or.inl (by omega)
  · exact Or.inr (Or.inl w)
/-- Checker.takeItems -/
theorem L74 (hV : V ≤ 16) (K : KB h V c N n b s m p F X og) (hcl : c < h.1) (h83 : 83 ≤ h.1) (h13 : h.2 13 = cck hg) (hT : TS b n st s) (hk : tkk b n st = 112)
    (hQ1 : ∀ h' s' st' y F' hg', sP b n V m X st = .inr (st', y) → tkk b n st' = 59 → CHX V h F h' F' → KB h' V c N n b s' (m + 1) p F' (lput X (m + 1) y) (un og (m + 1) 2) → h'.2 13 = cck hg' → TS b n st' s' → KF s s' → Q (some (.int 1)) h')
    (hQ0 : ∀ h' s' hg' e, sP b n V m X st = .inl e → CHX V h F h' F → KB h' V c N n b s' m p F X og → h'.2 13 = cck hg' → FT s' e → Q (some (.int 0)) h') : pb_call 74 [.ref 13] h Q := by
  have hsn := hT.2.2.2.2
  have h5 := KB_5 K
  rw [pb_c74]
  simp only [pb_e74, h13, pb_g1, pb_o_some, h5, pb_gx, true_and]
  refine T23 (KB_TX K) hT (by omega) ?_
  intro s1 T1 TS1 k7 k8
  have K1 := KB_s (s' := s1) K (by rw [T1.2.2.2.2.1, (KB_TX K).2.2.2.2.1])
  have G1 := fr_5 (x := cx (.ref c) s1) K rfl
  have h131 : (pb_set h 5 (cx (.ref c) s1)).2 13 = cck hg := (G1.2.2 13 (by omega)).trans h13
  simp only [Option.toList_none, List.nil_append, pb_e74, h131, pb_g1, pb_o_some]
  generalize pb_set h 5 (cx (.ref c) s1) = H1 at K1 G1 h131 T1 ⊢
  have G2 : fr (fun b => b = 13) H1 (pb_set H1 13 (cck 0)) := fr_set rfl (by rw [h131]; rfl)
  have K2 : KB (pb_set H1 13 (cck 0)) V c N n b s1 m p F X og := KB_fr G2 (fun b w => by omega) (CKs_fr G2 (fun b w => by omega) K1.2.2.1) K1
  have FF : fr kS h (pb_set H1 13 (cck 0)) := fr_trans (fr_mono (fun b w => Or.inl w) G1) (fr_mono (fun b w => by omega) G2)
  have i10 : ¬ (1 : Int32) = 0 := by decide
  refine L74_loop (h := h) (s := s) hV (n + 1) 0 (nxt b n st) 0 X00 _ s1 (by omega) (by omega) FF K2 (by rw [pb_set_get, if_pos rfl]; rfl) (by omega) (fun i hi => by omega) TS1 ⟨k7, k8⟩ ?_ ?_
  · intro h2 s2 st2 hg2 S2 l2 sp c59 F2 K3 h132 h122 S3 T3 KF3
    have hlt2 : hg2 < 2 ^ 31 := by omega
    have spP : sP b n V m X st = (if hg2 = 1 then (if m < 300 then .inr (st2, S2 0) else .inl (5, st2)) else .inl (4, st2)) := by
      unfold sP
      rw [sp]
    have k1 : nI hg2 = 1 ↔ hg2 = 1 := nI_eq (b := 1) hlt2 (by omega)
    by_cases c1 : hg2 = 1
    · rw [if_pos c1] at spP
      have q := k1.mpr c1
      subst c1
      obtain ⟨so, LL⟩ := S3 0 (by omega)
      simp only [pb_e74, i10, if_false, h132, pb_g1, pb_o_some, q, if_true, true_and]
      refine L73 (o := 2) hV K3 (by rw [F2.1]; exact hcl) (by rw [F2.1]; exact h83) h132 LL T3 ?_ ?_
      · intro h4 F4 m3 C4 K4 h134
        rw [if_pos m3] at spP
        simp only [Option.toList_some, List.singleton_append, pb_e74, i10, if_false, nb1, true_and]
        exact hQ1 h4 s2 st2 (S2 0) F4 1 spP c59 (CHX_trans (CHX_fr F2 (fun b w => kS_ch w)) C4) K4 h134 T3 KF3
      · intro h4 s4 m3 F4 K4 h134 ft
        rw [if_neg m3] at spP
        simp only [Option.toList_some, List.singleton_append, pb_e74, if_true, nb0, true_and]
        exact hQ0 h4 s4 1 _ spP (CHX_fr (fr_trans F2 F4) (fun b w => kS_ch w)) K4 h134 ft
    · rw [if_neg c1] at spP
      have q : ¬ nI hg2 = 1 := fun e => c1 (k1.mp e)
      have h29 := fun (f : Int32) (Q : Option Value → pb_H → Prop) => m29 (Q := Q) (f := f) (KB_5 K3)
      simp only [pb_e74, i10, if_false, h132, pb_g1, pb_o_some, q, KB_5 K3, pb_gx, true_and, h29, Option.toList_some, List.singleton_append, nb0]
      exact hQ0 _ _ hg2 _ spP (CHX_fr (fr_trans F2 (fr_mono (fun b w => Or.inl w) (fr_5 K3 rfl))) (fun b w => kS_ch w)) (KB_s K3 (by rw [upd_ne _ _ (by omega), upd_ne _ _ (by omega)])) (by rw [pb_set_get, if_neg (by omega), h132]) ⟨by rw [upd_ne _ _ (by omega), upd_same]; rfl, by rw [upd_same, T3.1]⟩
  · intro h2 s2 hg2 e sp F2 K3 h132 ft
    have spP : sP b n V m X st = .inl e := by
      unfold sP
      rw [sp]
    exact hQ0 h2 s2 hg2 e spP (CHX_fr F2 (fun b w => kS_ch w)) K3 h132 ft
end PI2
