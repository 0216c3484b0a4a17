/-! Checker: weakenUppermost, takeLiteral, addUppermost, cutUppermost -/
section IT2
variable {h : pb_H} {Q : Option Value → pb_H → Prop} {V c N n m p hg st : Nat} {b : Nat → Nat} {s : Nat → Int32} {F : Nat → Option Nat} {X S : Nat → LN} {og : Nat → Nat}
theorem LA_is {a : Nat} {so : Int32} {x : LN} (L : LA h V a so x) : pb_is0 (h.2 a) 4 = true := by
  obtain ⟨_, _, _, _, _, _, _, q1, _⟩ := L
  rw [q1]; rfl
theorem LG_is {a : Nat} (L : LG h V a) : pb_is0 (h.2 a) 4 = true := by
  obtain ⟨_, _, _, _, _, _, _, _, q1, _⟩ := L
  rw [q1]; rfl
/-- the rest of CKs where only the LINE at j changed -/
theorem CKs_line {T : Nat → Prop} {h' : pb_H} {j : Nat} (hj : j < 12) (G : fr T h h') (hT : ∀ b, T b → lc (23 + 2 * j) b ∨ b = 13) (L : LG h' V (23 + 2 * j)) (hC : CKs h V) : CKs h' V := by
  refine CKs_top (j := j) hj G (fun b w => by have := hT b w; omega) (DG_fr G (fun b w w2 => by have := hT b w2; omega) hC.2.1) ?_ ?_ L hC
  · obtain ⟨g, e⟩ := hC.2.2.1
    exact ⟨g, (G.2.2 19 (fun w => by have := hT _ w; omega)).trans e⟩
  · obtain ⟨g, e⟩ := hC.2.2.2.1
    exact ⟨g, (G.2.2 20 (fun w => by have := hT _ w; omega)).trans e⟩
/-- Checker.weakenUppermost -/
theorem L56 {st1 v : Nat} (hV : V ≤ 16) (K : KB h V c N n b s m p F X og) (h13 : h.2 13 = cck hg) (h12 : hg ≤ 12) (hS : ST h V hg S) (hT : TS b n st1 s) (hk : tkk b n st1 = 119) (v1 : 1 ≤ v) (v2 : v ≤ V)
    (hQ1 : ∀ h' s' S', hg ≠ 0 → S' = lput S (hg - 1) (ln_wo (S (hg - 1)) v) → fr kS h h' → KB h' V c N n b s' m p F X og → h'.2 13 = cck hg → ST h' V hg S' → TS b n (nxt b n st1) s' → KF s s' → Q (some (.int 1)) h')
    (hQ0 : ∀ h' s', hg = 0 → fr kS h h' → KB h' V c N n b s' m p F X og → h'.2 13 = cck hg → FT s' (4, st1) → Q (some (.int 0)) h') : pb_call 56 [.ref 13, .int (nI v)] h Q := by
  have h5 := KB_5 K
  have h29 := fun (f : Int32) (Q : Option Value → pb_H → Prop) => m29 (Q := Q) (f := f) h5
  rw [pb_c56]
  by_cases hz : hg = 0
  · subst hz
    have h28 := fun Q : Option Value → pb_H → Prop => m28_0 (Q := Q) h13
    simp only [pb_e56, h13, pb_g1, true_and, h28, Option.toList_some, List.singleton_append, pb_o_some, h5, pb_gx, h29, nb0]
    exact hQ0 _ _ rfl (fr_mono (fun b w => Or.inl w) (fr_5 K rfl)) (KB_s K (by rw [upd_ne _ _ (by omega), upd_ne _ _ (by omega)])) (by rw [pb_set_get, if_neg (by omega), h13]) ⟨by rw [upd_ne _ _ (by omega), upd_same]; rfl, by rw [upd_same, hT.1]⟩
  · obtain ⟨j, rfl⟩ : ∃ j, hg = j + 1 := ⟨hg - 1, by omega⟩
    have h28 : ∀ Q : Option Value → pb_H → Prop, pb_call 28 [.ref 13] h Q ↔ Q (some (.ref (23 + 2 * j))) h := fun Q => m28_1 h13 K.2.2.1 (by omega) h12
    obtain ⟨so, LL⟩ := hS j (by omega)
    simp only [pb_e56, h13, pb_g1, true_and, h28, Option.toList_some, List.singleton_append, pb_o_some, LA_is LL]
    refine L55 hV LL v1 v2 ?_
    intro h2 G L2
    have K2 := KB_fr G (fun b w => by omega) (CKs_line (j := j) (by omega) G (fun b w => Or.inl w) (LA_LG L2) K.2.2.1) K
    have h132 : h2.2 13 = cck (j + 1) := (G.2.2 13 (by omega)).trans h13
    have S2 := ST_top (j := j) (by omega) G (fun b w => Or.inl w) L2 hS
    simp only [Option.toList_none, List.nil_append, pb_e56, h132, pb_g1, pb_o_some, KB_5 K2, pb_gx, true_and]
    refine T23 (KB_TX K2) hT (by omega) ?_
    intro s' T' S' k7 k8
    have K3 := KB_s (s' := s') K2 (by rw [T'.2.2.2.2.1, (KB_TX K2).2.2.2.2.1])
    simp only [Option.toList_none, List.nil_append, pb_e56, nb1, true_and]
    exact hQ1 _ s' _ (by omega) rfl (fr_trans (fr_mono (fun b w => by omega) G) (fr_mono (fun b w => Or.inl w) (fr_5 K2 rfl))) K3 (by rw [pb_set_get, if_neg (by omega), h132]) (ST_fr (fr_5 K2 rfl) h12 (fun b w => by omega) S2) S' ⟨k7, k8⟩
/-- Checker.takeLiteral -/
theorem L58 (hV : V ≤ 16) (K : KB h V c N n b s m p F X og) (h13 : h.2 13 = cck hg) (h12 : hg ≤ 12) (hS : ST h V hg S) (hT : TS b n st s) (hk : tkk b n st = 120)
    (hQ1 : ∀ h' s' st' hg' S', iLet b n V st hg S = .inr (st', hg', S') → fr kS h h' → KB h' V c N n b s' m p F X og → h'.2 13 = cck hg' → hg' ≤ 12 → ST h' V hg' S' → TS b n st' s' → KF s s' → Q (some (.int 1)) h')
    (hQ0 : ∀ h' s' hg' e, iLet b n V st hg S = .inl e → fr kS h h' → KB h' V c N n b s' m p F X og → h'.2 13 = cck hg' → FT s' e → Q (some (.int 0)) h') : pb_call 58 [.ref 13] h Q := by
  have hb := (KB_TX K).2.2.2.2.2
  have h5 := KB_5 K
  obtain ⟨e5, e6⟩ := hT.2.2.2.1 hk
  have hlt := tkw_lt hk
  obtain ⟨u1, _⟩ := K.2.2.2
  have i10 : ¬ (1 : Int32) = 0 := by decide
  have h29 := fun (f : Int32) (Q : Option Value → pb_H → Prop) => m29 (Q := Q) (f := f) h5
  rw [pb_c58]
  by_cases cv : 1 ≤ tkw b n st ∧ tkw b n st ≤ V
  · have h50 : ∀ Q : Option Value → pb_H → Prop, pb_call 50 [.ref 5, .int (nI V)] h Q ↔ Q (some (.int 1)) h := fun Q => by rw [m50 h5 e5 (by omega) (by omega), if_pos cv]
    simp only [pb_e58, h13, pb_g1, pb_o_some, h5, pb_gx, hT.1, e5, e6, u1, pb_g7, true_and, h50, Option.toList_some, List.singleton_append, i10, not_false_eq_true, if_true]
    refine T23 (KB_TX K) hT (by omega) ?_
    intro s2 T2 TS2 k7 k8
    have K2 := KB_s (s' := s2) K (by rw [T2.2.2.2.2.1, (KB_TX K).2.2.2.2.1])
    have G2 := fr_5 (x := cx (.ref c) s2) K rfl
    have h132 : (pb_set h 5 (cx (.ref c) s2)).2 13 = cck hg := (G2.2.2 13 (by omega)).trans h13
    have S2 := ST_fr G2 h12 (fun b w => by omega) hS
    have FF : fr kS h (pb_set h 5 (cx (.ref c) s2)) := fr_mono (fun b w => Or.inl w) G2
    generalize pb_set h 5 (cx (.ref c) s2) = H2 at K2 G2 h132 S2 FF T2 ⊢
    have k119 : s2 2 = 119 ↔ tkk b n (nxt b n st) = 119 := kd_eq TS2 hb (m := 119) (by omega)
    by_cases cw : tkk b n (nxt b n st) = 119
    · have sp : iLet b n V st hg S = (if hg = 0 then .inl (4, nxt b n st) else .inr (nxt b n (nxt b n st), hg, lput S (hg - 1) (ln_wo (S (hg - 1)) (tkw b n st)))) := by
        unfold iLet
        rw [if_pos cv, if_pos cw]
      simp only [Option.toList_none, List.nil_append, pb_e58, h132, pb_g1, pb_o_some, KB_5 K2, pb_gx, k119.mpr cw, not_true_eq_false, if_false, true_and]
      refine L56 hV K2 h132 h12 S2 TS2 cw cv.1 cv.2 ?_ ?_
      · intro h' s' S' hz eS F' K' a c' d e
        rw [if_neg hz] at sp
        simp only [Option.toList_some, List.singleton_append, pb_e58, nb1, true_and]
        exact hQ1 h' s' _ hg _ sp (fr_trans FF F') K' a h12 (eS ▸ c') d (KF_tr ⟨k7, k8⟩ e)
      · intro h' s' hz F' K' a ft
        rw [if_pos hz] at sp
        simp only [Option.toList_some, List.singleton_append, pb_e58, nb0, true_and]
        exact hQ0 h' s' hg _ sp (fr_trans FF F') K' a ft
    · have q : ¬ s2 2 = 119 := fun e => cw (k119.mp e)
      have sp : iLet b n V st hg S = (if hg < 12 then .inr (nxt b n st, hg + 1, lput S hg (ln_lit (tkw b n st) (if b st = 120 then 1 else -1))) else .inl (4, st)) := by
        unfold iLet
        rw [if_pos cv, if_neg cw]
      by_cases c12 : hg < 12
      · rw [if_pos c12] at sp
        have h47 := fun Q : Option Value → pb_H → Prop => m47_1 (Q := Q) h132 K2.2.2.1 c12
        have G3 : fr (fun b => b = 13) H2 (pb_set H2 13 (cck (hg + 1))) := fr_set rfl (by rw [h132]; rfl)
        have LG3 : LG (pb_set H2 13 (cck (hg + 1))) V (23 + 2 * hg) := LG_fr G3 (by omega) (by omega) (K2.2.2.1.2.2.2.2.2 hg c12)
        simp only [Option.toList_none, List.nil_append, pb_e58, h132, pb_g1, pb_o_some, KB_5 K2, pb_gx, q, not_false_eq_true, if_true, true_and, h47, Option.toList_some, List.singleton_append, LG_is LG3]
        refine L57 (s := if b st = 120 then 1 else -1) hV LG3 cv.1 cv.2 (by
          by_cases cb : b st = 120
          · rw [if_pos cb, if_pos cb]; exact Or.inl ⟨rfl, rfl⟩
          · rw [if_neg cb, if_neg cb]; exact Or.inr ⟨rfl, rfl⟩) ?_
        intro h4 so4 G4 L4
        have G : fr (fun b => lc (23 + 2 * hg) b ∨ b = 13) H2 h4 := fr_trans (fr_mono (fun b w => Or.inr w) G3) (fr_mono (fun b w => Or.inl w) G4)
        have C4 : CKs h4 V := CKs_line (j := hg) c12 G (fun b w => w) (LA_LG L4) K2.2.2.1
        simp only [Option.toList_none, List.nil_append, pb_e58, nb1, true_and]
        exact hQ1 h4 s2 _ _ _ sp (fr_trans FF (fr_mono (fun b w => by omega) G)) (KB_fr G (fun b w => by omega) C4 K2) ((G4.2.2 13 (by omega)).trans (by rw [pb_set_get, if_pos rfl])) (by omega) (ST_top (j := hg) (Nat.le_refl _) G (fun b w => by omega) L4 S2) TS2 ⟨k7, k8⟩
      · rw [if_neg c12] at sp
        obtain rfl : hg = 12 := by omega
        have h47 := fun Q : Option Value → pb_H → Prop => m47_0 (Q := Q) h132 K2.2.2.1
        have h27 := fun (f q : Int32) (Q : Option Value → pb_H → Prop) => m27 (Q := Q) (f := f) (p := q) (KB_5 K2)
        simp only [Option.toList_none, List.nil_append, pb_e58, h132, pb_g1, pb_o_some, KB_5 K2, pb_gx, q, not_false_eq_true, if_true, true_and, h47, Option.toList_some, List.singleton_append, h27, nb0]
        exact hQ0 _ _ 12 _ sp (fr_trans FF (fr_mono (fun b w => Or.inl w) (fr_5 K2 rfl))) (KB_s K2 (by rw [upd_ne _ _ (by omega), upd_ne _ _ (by omega)])) (by rw [pb_set_get, if_neg (by omega), h132]) ⟨by rw [upd_ne _ _ (by omega), upd_same]; rfl, by rw [upd_same]⟩
  · have h50 : ∀ Q : Option Value → pb_H → Prop, pb_call 50 [.ref 5, .int (nI V)] h Q ↔ Q (some (.int 0)) h := fun Q => by rw [m50 h5 e5 (by omega) (by omega), if_neg cv]
    have sp : iLet b n V st hg S = .inl (2, st) := by
      unfold iLet
      rw [if_neg cv]
    simp only [pb_e58, h13, pb_g1, pb_o_some, h5, pb_gx, hT.1, e5, e6, u1, pb_g7, true_and, h50, Option.toList_some, List.singleton_append, not_true_eq_false, if_false, h29, nb0]
    exact hQ0 _ _ hg _ sp (fr_mono (fun b w => Or.inl w) (fr_5 K rfl)) (KB_s K (by rw [upd_ne _ _ (by omega), upd_ne _ _ (by omega)])) (by rw [pb_set_get, if_neg (by omega), h13]) ⟨by rw [upd_ne _ _ (by omega), upd_same]; rfl, by rw [upd_same]⟩
/-- Checker.addUppermost -/
theorem L65 (hV : V ≤ 16) (K : KB h V c N n b s m p F X og) (h13 : h.2 13 = cck hg) (h12 : hg ≤ 12) (hS : ST h V hg S) (hT : TS b n st s) (hk : tkk b n st = 43)
    (hQ1 : ∀ h' s' st' hg' S', iSgn b n V st hg S = .inr (st', hg', S') → fr kS h h' → KB h' V c N n b s' m p F X og → h'.2 13 = cck hg' → hg' ≤ 12 → ST h' V hg' S' → TS b n st' s' → KF s s' → Q (some (.int 1)) h')
    (hQ0 : ∀ h' s' hg' e, iSgn b n V st hg S = .inl e → fr kS h h' → KB h' V c N n b s' m p F X og → h'.2 13 = cck hg' → FT s' e → Q (some (.int 0)) h') : pb_call 65 [.ref 13] h Q := by
  have h5 := KB_5 K
  have h29 := fun (f : Int32) (Q : Option Value → pb_H → Prop) => m29 (Q := Q) (f := f) h5
  have sp : iSgn b n V st hg S = (if hg < 2 then .inl (4, st)
    else if fitb V (ln_sum V (S (hg - 2)) (S (hg - 1))) = true then .inr (nxt b n st, hg - 1, lput S (hg - 2) (ln_sum V (S (hg - 2)) (S (hg - 1)))) else .inl (5, st)) := by
    unfold iSgn
    rw [if_pos hk]
  have bad : hg < 2 → Q (some (.int 0)) (pb_set h 5 (cx (.ref c) (upd (upd s 7 4) 8 (s 3)))) := fun w => by
    rw [if_pos w] at sp
    exact hQ0 _ _ hg _ sp (fr_mono (fun b w => Or.inl w) (fr_5 K rfl)) (KB_s K (by rw [upd_ne _ _ (by omega), upd_ne _ _ (by omega)])) (by rw [pb_set_get, if_neg (by omega), h13]) ⟨by rw [upd_ne _ _ (by omega), upd_same]; rfl, by rw [upd_same, hT.1]⟩
  rw [pb_c65]
  by_cases hz : hg = 0
  · subst hz
    have h28 := fun Q : Option Value → pb_H → Prop => m28_0 (Q := Q) h13
    simp only [pb_e65, h13, pb_g1, true_and, h28, Option.toList_some, List.singleton_append, pb_o_some, h5, pb_gx, h29, nb0]
    exact bad (by omega)
  · have h28 : ∀ Q : Option Value → pb_H → Prop, pb_call 28 [.ref 13] h Q ↔ Q (some (.ref (23 + 2 * (hg - 1)))) h := fun Q => m28_1 h13 K.2.2.1 (by omega) h12
    by_cases c2 : hg < 2
    · have k2 : ¬ (2 : Int32) ≤ nI hg := nI_ge (b := 2) c2 (by omega)
      simp only [pb_e65, h13, pb_g1, true_and, h28, Option.toList_some, List.singleton_append, pb_o_some, k2, if_false, h5, pb_gx, h29, nb0]
      exact bad c2
    · rw [if_neg c2] at sp
      obtain ⟨j, rfl⟩ : ∃ j, hg = j + 2 := ⟨hg - 2, by omega⟩
      rw [show j + 2 - 2 = j by omega, show j + 2 - 1 = j + 1 by omega] at sp
      rw [show j + 2 - 1 = j + 1 by omega] at h28
      have k2 : (2 : Int32) ≤ nI (j + 2) := nI_le (a := 2) (by omega) (by omega)
      have e1 : nI (j + 2) - 1 = nI (j + 1) := nI_pred (j + 1)
      have e2 : nI (j + 1) - 1 = nI j := nI_pred j
      obtain ⟨⟨f, a1, a2⟩, _⟩ := id K.2.2.1
      have g13 : ∀ x, (pb_set h 13 x).2 13 = x := fun x => by rw [pb_set_get, if_pos rfl]
      have g14 : ∀ x, (pb_set h 13 x).2 14 = co 12 f := fun x => by rw [pb_set_get, if_neg (by omega), a1]
      have hg' := co_get (f := f) (n := 12) (j := j) (by omega) (by omega)
      rw [a2 j (by omega)] at hg'
      have hrf : va_rf (some (23 + 2 * j)) = .ref (23 + 2 * j) := rfl
      have G3 : fr (fun b => b = 13) h (pb_set h 13 (cck (j + 1))) := fr_set rfl (by rw [h13]; rfl)
      obtain ⟨so1, L1⟩ := hS j (by omega)
      obtain ⟨so2, L2⟩ := hS (j + 1) (by omega)
      have L1' := LA_fr G3 (by omega) (by omega) L1
      have L2' := LA_fr G3 (by omega) (by omega) L2
      simp only [pb_e65, h13, pb_g1, true_and, h28, Option.toList_some, List.singleton_append, pb_o_some, k2, if_true, e1, g13, g14, e2, hg', hrf, LA_is L1']
      have i10 : ¬ (1 : Int32) = 0 := by decide
      have fin : ∀ h4, fr (lc (23 + 2 * j)) (pb_set h 13 (cck (j + 1))) h4 → LG h4 V (23 + 2 * j) → fr (fun b => lc (23 + 2 * j) b ∨ b = 13) h h4 ∧ KB h4 V c N n b s m p F X og ∧ h4.2 13 = cck (j + 1) := fun h4 G4 L4 => by
        have G : fr (fun b => lc (23 + 2 * j) b ∨ b = 13) h h4 := fr_trans (fr_mono (fun b w => Or.inr w) G3) (fr_mono (fun b w => Or.inl w) G4)
        exact ⟨G, KB_fr G (fun b w => by omega) (CKs_line (j := j) (by omega) G (fun b w => w) L4 K.2.2.1) K, (G4.2.2 13 (by omega)).trans (g13 _)⟩
      refine L64 hV (by omega) L1' L2' ?_ ?_
      · intro h4 G4 ft L4
        rw [if_pos (fitb_1 ft)] at sp
        obtain ⟨G, K4, h134⟩ := fin h4 G4 (LA_LG L4)
        have S4 := ST_top (j := j) (by omega) G (fun b w => by omega) L4 hS
        simp only [Option.toList_some, List.singleton_append, pb_e65, i10, not_false_eq_true, if_true, h134, pb_g1, pb_o_some, KB_5 K4, pb_gx, true_and]
        refine T23 (KB_TX K4) hT (by omega) ?_
        intro s' T' S' k7 k8
        have K5 := KB_s (s' := s') K4 (by rw [T'.2.2.2.2.1, (KB_TX K4).2.2.2.2.1])
        simp only [Option.toList_none, List.nil_append, pb_e65, nb1, true_and]
        exact hQ1 _ s' _ (j + 1) _ sp (fr_trans (fr_mono (fun b w => by omega) G) (fr_mono (fun b w => Or.inl w) (fr_5 K4 rfl))) K5 (by rw [pb_set_get, if_neg (by omega), h134]) (by omega) (ST_fr (fr_5 K4 rfl) (by omega) (fun b w => by omega) S4) S' ⟨k7, k8⟩
      · intro h4 G4 nf L4
        rw [if_neg (fitb_0 nf)] at sp
        obtain ⟨G, K4, h134⟩ := fin h4 G4 L4
        have h29' := fun (f : Int32) (Q : Option Value → pb_H → Prop) => m29 (Q := Q) (f := f) (KB_5 K4)
        simp only [Option.toList_some, List.singleton_append, pb_e65, not_true_eq_false, if_false, h134, pb_g1, pb_o_some, KB_5 K4, pb_gx, true_and, h29', nb0]
        exact hQ0 _ _ (j + 1) _ sp (fr_trans (fr_mono (fun b w => by omega) G) (fr_mono (fun b w => Or.inl w) (fr_5 K4 rfl))) (KB_s K4 (by rw [upd_ne _ _ (by omega), upd_ne _ _ (by omega)])) (by rw [pb_set_get, if_neg (by omega), h134]) ⟨by rw [upd_ne _ _ (by omega), upd_same]; rfl, by rw [upd_same, hT.1]⟩
/-- Checker.cutUppermost -/
theorem L67 (hV : V ≤ 16) (K : KB h V c N n b s m p F X og) (h13 : h.2 13 = cck hg) (h12 : hg ≤ 12) (hS : ST h V hg S) (hT : TS b n st s) (hk : tkk b n st = 115)
    (hQ1 : ∀ h' s' st' hg' S', iSgn b n V st hg S = .inr (st', hg', S') → fr kS h h' → KB h' V c N n b s' m p F X og → h'.2 13 = cck hg' → hg' ≤ 12 → ST h' V hg' S' → TS b n st' s' → KF s s' → Q (some (.int 1)) h')
    (hQ0 : ∀ h' s' hg' e, iSgn b n V st hg S = .inl e → fr kS h h' → KB h' V c N n b s' m p F X og → h'.2 13 = cck hg' → FT s' e → Q (some (.int 0)) h') : pb_call 67 [.ref 13] h Q := by
  have h5 := KB_5 K
  have h29 := fun (f : Int32) (Q : Option Value → pb_H → Prop) => m29 (Q := Q) (f := f) h5
  have sp : iSgn b n V st hg S = (if hg = 0 then .inl (4, st) else .inr (nxt b n st, hg, lput S (hg - 1) (ln_cut (S (hg - 1))))) := by
    unfold iSgn
    rw [if_neg (by omega), if_pos hk]
  rw [pb_c67]
  by_cases hz : hg = 0
  · rw [if_pos hz] at sp
    subst hz
    have h28 := fun Q : Option Value → pb_H → Prop => m28_0 (Q := Q) h13
    simp only [pb_e67, h13, pb_g1, true_and, h28, Option.toList_some, List.singleton_append, pb_o_some, h5, pb_gx, h29, nb0]
    exact hQ0 _ _ 0 _ sp (fr_mono (fun b w => Or.inl w) (fr_5 K rfl)) (KB_s K (by rw [upd_ne _ _ (by omega), upd_ne _ _ (by omega)])) (by rw [pb_set_get, if_neg (by omega), h13]) ⟨by rw [upd_ne _ _ (by omega), upd_same]; rfl, by rw [upd_same, hT.1]⟩
  · rw [if_neg hz] at sp
    obtain ⟨j, rfl⟩ : ∃ j, hg = j + 1 := ⟨hg - 1, by omega⟩
    rw [Nat.add_sub_cancel] at sp
    have h28 : ∀ Q : Option Value → pb_H → Prop, pb_call 28 [.ref 13] h Q ↔ Q (some (.ref (23 + 2 * j))) h := fun Q => m28_1 h13 K.2.2.1 (by omega) h12
    obtain ⟨so, LL⟩ := hS j (by omega)
    simp only [pb_e67, h13, pb_g1, true_and, h28, Option.toList_some, List.singleton_append, pb_o_some, LA_is LL]
    refine L66 hV LL ?_
    intro h2 G L2
    have K2 := KB_fr G (fun b w => by omega) (CKs_line (j := j) (by omega) G (fun b w => Or.inl w) (LA_LG L2) K.2.2.1) K
    have h132 : h2.2 13 = cck (j + 1) := (G.2.2 13 (by omega)).trans h13
    have S2 := ST_top (j := j) (by omega) G (fun b w => Or.inl w) L2 hS
    simp only [Option.toList_none, List.nil_append, pb_e67, h132, pb_g1, pb_o_some, KB_5 K2, pb_gx, true_and]
    refine T23 (KB_TX K2) hT (by omega) ?_
    intro s' T' S' k7 k8
    have K3 := KB_s (s' := s') K2 (by rw [T'.2.2.2.2.1, (KB_TX K2).2.2.2.2.1])
    simp only [Option.toList_none, List.nil_append, pb_e67, nb1, true_and]
    exact hQ1 _ s' _ (j + 1) _ sp (fr_trans (fr_mono (fun b w => by omega) G) (fr_mono (fun b w => Or.inl w) (fr_5 K2 rfl))) K3 (by rw [pb_set_get, if_neg (by omega), h132]) h12 (ST_fr (fr_5 K2 rfl) h12 (fun b w => by omega) S2) S' ⟨k7, k8⟩
end IT2
