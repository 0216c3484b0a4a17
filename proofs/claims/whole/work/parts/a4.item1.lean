/-! Checker: uppermost, raise, scaleUppermost, takeNumber -/
abbrev kS : Nat → Prop := fun b => b = 5 ∨ (13 ≤ b ∧ b ≤ 46)
section IT1
variable {h : pb_H} {Q : Option Value → pb_H → Prop} {V c N n m p hg st : Nat} {b : Nat → Nat} {s : Nat → Int32} {F : Nat → Option Nat} {X S : Nat → LN} {og : Nat → Nat}
theorem m28_1 (h13 : h.2 13 = cck hg) (hC : CKs h V) (h1 : 1 ≤ hg) (h12 : hg ≤ 12) : pb_call 28 [.ref 13] h Q ↔ Q (some (.ref (23 + 2 * (hg - 1)))) h := by
  obtain ⟨⟨f, a1, a2⟩, _⟩ := hC
  have c1 : ¬ nI hg < 1 := nI_nlt (b := 1) h1 (by omega)
  have c2 : nI hg ≤ Int32.ofNat 12 := nI_le (b := 12) h12 (by omega)
  have e1 : nI hg - 1 = nI (hg - 1) := by
    have := nI_pred (hg - 1)
    rw [Nat.sub_add_cancel h1] at this
    exact this
  have hg' := co_get (f := f) (n := 12) (j := hg - 1) (by omega) (by omega)
  rw [a2 (hg - 1) (by omega)] at hg'
  have hrf : va_rf (some (23 + 2 * (hg - 1))) = .ref (23 + 2 * (hg - 1)) := rfl
  rw [pb_c28]
  simp only [pb_e28, h13, pb_g1, pb_o_some, c1, if_false, a1, co_len, c2, if_true, e1, hg', hrf]
theorem m28_0 (h13 : h.2 13 = cck 0) : pb_call 28 [.ref 13] h Q ↔ Q (some .null) h := by
  have c1 : nI 0 < 1 := by decide
  rw [pb_c28]
  simp only [pb_e28, h13, pb_g1, pb_o_some, c1, if_true]
theorem m47_1 (h13 : h.2 13 = cck hg) (hC : CKs h V) (h12 : hg < 12) : pb_call 47 [.ref 13] h Q ↔ Q (some (.ref (23 + 2 * hg))) (pb_set h 13 (cck (hg + 1))) := by
  obtain ⟨⟨f, a1, a2⟩, _⟩ := hC
  have c2 : nI hg < Int32.ofNat 12 := nI_lt (b := 12) h12 (by omega)
  have g13 : ∀ x, (pb_set h 13 x).2 13 = x := fun x => by rw [pb_set_get, if_pos rfl]
  have g14 : ∀ x, (pb_set h 13 x).2 14 = co 12 f := fun x => by rw [pb_set_get, if_neg (by omega), a1]
  have e1 : nI (hg + 1) - 1 = nI hg := nI_pred hg
  have hg' := co_get (f := f) (n := 12) (j := hg) (by omega) (by omega)
  rw [a2 hg (by omega)] at hg'
  have hrf : va_rf (some (23 + 2 * hg)) = .ref (23 + 2 * hg) := rfl
  rw [pb_c47]
  simp only [pb_e47, h13, pb_g1, pb_o_some, a1, co_len, c2, if_true, nI_1, g13, g14, e1, hg', hrf]
theorem m47_0 (h13 : h.2 13 = cck 12) (hC : CKs h V) : pb_call 47 [.ref 13] h Q ↔ Q (some .null) h := by
  obtain ⟨⟨f, a1, a2⟩, _⟩ := hC
  have c2 : ¬ nI 12 < Int32.ofNat 12 := nI_nlt (b := 12) (Nat.le_refl _) (by omega)
  rw [pb_c47]
  simp only [pb_e47, h13, pb_g1, pb_o_some, a1, co_len, c2, if_false]
/-- Checker.scaleUppermost -/
theorem L44 {st1 : Nat} {g : Nat → Int32} (hV : V ≤ 16) (K : KB h V c N n b s m p F X og) (h13 : h.2 13 = cck hg) (h12 : hg ≤ 12) (hS : ST h V hg S) (hT : TS b n st1 s) (e1 : st1 = nxt b n st) (hk : tkk b n st1 = 42 ∨ tkk b n st1 = 100) (h19 : h.2 19 = ci 8 g) (hN : wv g 0 8 = tkn b n st)
    (hQ1 : ∀ h' s' st' hg' S', iNum b n V m X st hg S = .inr (st', hg', S') → fr kS h h' → KB h' V c N n b s' m p F X og → h'.2 13 = cck hg' → hg' ≤ 12 → ST h' V hg' S' → TS b n st' s' → KF s s' → Q (some (.int 1)) h')
    (hQ0 : ∀ h' s' hg' e, iNum b n V m X st hg S = .inl e → fr kS h h' → KB h' V c N n b s' m p F X og → h'.2 13 = cck hg' → FT s' e → Q (some (.int 0)) h') : pb_call 44 [.ref 13, .int (nI st)] h Q := by
  have hb := (KB_TX K).2.2.2.2.2
  have h4 : ∀ Q : Option Value → pb_H → Prop, pb_call 4 [.ref 19, .int 0] h Q ↔ Q (some (.int (nI (wd g 0 8)))) h := fun Q => m4 (i := 0) h19 (by omega) (by omega)
  have h5 := KB_5 K
  have sp : iNum b n V m X st hg S = (if tkn b n st = 0 then .inl (3, st)
    else if hg = 0 then .inl (4, st1)
    else if tkk b n st1 = 100 then .inr (nxt b n st1, hg, lput S (hg - 1) (ln_dv (S (hg - 1)) (tkn b n st)))
    else if fitb V (ln_tm (S (hg - 1)) (tkn b n st)) = true then .inr (nxt b n st1, hg, lput S (hg - 1) (ln_tm (S (hg - 1)) (tkn b n st)))
    else .inl (5, st1)) := by
    unfold iNum
    rw [← e1, if_pos hk]
  have h27 := fun (f q : Int32) (Q : Option Value → pb_H → Prop) => m27 (Q := Q) (f := f) (p := q) h5
  have h29 := fun (f : Int32) (Q : Option Value → pb_H → Prop) => m29 (Q := Q) (f := f) h5
  have z4 := wd_le g 0 8
  rw [pb_c44]
  by_cases z : tkn b n st = 0
  · rw [if_pos z] at sp
    have c0 : nI (wd g 0 8) = 0 := by rw [wd_zero.mpr (by omega)]; rfl
    simp only [pb_e44, h13, pb_g1, pb_o_some, h4, Option.toList_some, List.singleton_append, c0, not_true_eq_false, if_false, h5, pb_gx, true_and, h27, nb0]
    exact hQ0 _ _ hg _ sp (fr_mono (fun b w => Or.inl w) (fr_5 K rfl)) (KB_s K (by rw [upd_ne _ _ (by omega), upd_ne _ _ (by omega)])) (by rw [pb_set_get, if_neg (by omega), h13]) ⟨by rw [upd_ne _ _ (by omega), upd_same]; rfl, by rw [upd_same]⟩
  · rw [if_neg z] at sp
    have c0 : ¬ nI (wd g 0 8) = 0 := nI_ne0 (by
      have : wd g 0 8 ≠ 0 := fun e => z (by have := wd_zero.mp e; omega)
      omega) (by omega)
    by_cases hz : hg = 0
    · rw [if_pos hz] at sp
      subst hz
      have h28 := fun Q : Option Value → pb_H → Prop => m28_0 (Q := Q) h13
      simp only [pb_e44, h13, pb_g1, pb_o_some, h4, Option.toList_some, List.singleton_append, c0, not_false_eq_true, if_true, true_and, h28, h5, pb_gx, h29, nb0]
      exact hQ0 _ _ 0 _ sp (fr_mono (fun b w => Or.inl w) (fr_5 K rfl)) (KB_s K (by rw [upd_ne _ _ (by omega), upd_ne _ _ (by omega)])) (by rw [pb_set_get, if_neg (by omega), h13]) ⟨by rw [upd_ne _ _ (by omega), upd_same]; rfl, by rw [upd_same, hT.1]⟩
    · rw [if_neg hz] at sp
      obtain ⟨j, rfl⟩ : ∃ j, hg = j + 1 := ⟨hg - 1, by omega⟩
      simp only [Nat.add_sub_cancel] at sp
      have h28 : ∀ Q : Option Value → pb_H → Prop, pb_call 28 [.ref 13] h Q ↔ Q (some (.ref (23 + 2 * j))) h := fun Q => m28_1 h13 K.2.2.1 (by omega) h12
      obtain ⟨so, LL⟩ := hS j (by omega)
      have tail : ∀ h2 x l2, fr kS h h2 → KB h2 V c N n b s m p F X og → h2.2 13 = cck (j + 1) → ST h2 V (j + 1) (lput S j x) → iNum b n V m X st (j + 1) S = .inr (nxt b n st1, j + 1, lput S j x) → pb_R 44 97 [some (.ref 13), some (.int (nI st)), l2] [] [] h2 Q := by
        intro h2 x l2 F2 K2 h132 S2 sp2
        simp only [pb_e44, h132, pb_g1, pb_o_some, KB_5 K2, pb_gx, true_and]
        refine T23 (KB_TX K2) hT (by omega) ?_
        intro s' T' S' k7 k8
        have K3 := KB_s (s' := s') K2 (by rw [T'.2.2.2.2.1, (KB_TX K2).2.2.2.2.1])
        simp only [Option.toList_none, List.nil_append, pb_e44, nb1, true_and]
        exact hQ1 _ s' _ (j + 1) _ sp2 (fr_trans F2 (fr_mono (fun b w => Or.inl w) (fr_5 K2 rfl))) K3 (by rw [pb_set_get, if_neg (by omega), h132]) h12 (ST_fr (fr_5 K2 rfl) h12 (fun b w => by omega) S2) S' ⟨k7, k8⟩
      have i4 : (pb_is0 (h.2 (23 + 2 * j)) 4 = true) := by
        obtain ⟨_, _, _, _, _, _, _, q1, _⟩ := LL
        rw [q1]; rfl
      have k100 : s 2 = 100 ↔ tkk b n st1 = 100 := kd_eq hT hb (m := 100) (by omega)
      by_cases cd : tkk b n st1 = 100
      · rw [if_pos cd] at sp
        have q := k100.mpr cd
        obtain ⟨w0, sh0, f0, l0, q0, dd1, _⟩ := id K.2.2.1.2.1
        simp only [pb_e44, h13, pb_g1, pb_o_some, h4, Option.toList_some, List.singleton_append, c0, not_false_eq_true, if_true, true_and, h28, h5, pb_gx, q, not_true_eq_false, if_false, dd1, pb_g3]
        refine L31 K.2.2.1.2.1 h19 (by omega) (by omega) (by omega) (by omega) ?_
        intro h1 G1 D1
        have h131 : h1.2 13 = cck (j + 1) := (G1.2.2 13 (by omega)).trans h13
        have L1 : LA h1 V (23 + 2 * j) so (S j) := LA_fr G1 (by omega) (by omega) LL
        have i41 : pb_is0 (h1.2 (23 + 2 * j)) 4 = true := by
          obtain ⟨_, _, _, _, _, _, _, q1, _⟩ := L1
          rw [q1]; rfl
        simp only [Option.toList_none, List.nil_append, pb_e44, h131, pb_g1, pb_o_some, i41, true_and]
        refine L40 hV L1 D1 (by omega) ?_
        intro h2 G2 L2 D2
        have G : fr (fun b => lc (23 + 2 * j) b ∨ (15 ≤ b ∧ b ≤ 18)) h h2 := fr_trans (fr_mono (fun b w => by omega) G1) (fr_mono (fun b w => by omega) G2)
        have C2 : CKs h2 V := CKs_top (j := j) (by omega) G (fun b w => by omega) (DV_DG D2) ⟨g, (G.2.2 19 (by omega)).trans h19⟩ (by
          obtain ⟨q1, e20⟩ := K.2.2.1.2.2.2.1
          exact ⟨q1, (G.2.2 20 (by omega)).trans e20⟩) (LA_LG L2) K.2.2.1
        rw [hN] at L2
        have key := tail h2 (ln_dv (S j) (tkn b n st)) (some (.ref (23 + 2 * j))) (fr_mono (fun b w => by omega) G) (KB_fr G (fun b w => by omega) C2 K) ((G.2.2 13 (by omega)).trans h13) (ST_top (j := j) (by omega) G (fun b w => by omega) L2 hS) sp
        simp only [pb_e44, (G.2.2 13 (by omega)).trans h13, pb_g1, pb_o_some] at key
        simp only [Option.toList_none, List.nil_append, pb_e44, (G.2.2 13 (by omega)).trans h13, pb_g1, pb_o_some]
        exact key
      · rw [if_neg cd] at sp
        have q : ¬ s 2 = 100 := fun e => cd (k100.mp e)
        obtain ⟨q20, e20⟩ := K.2.2.1.2.2.2.1
        simp only [pb_e44, h13, pb_g1, pb_o_some, h4, Option.toList_some, List.singleton_append, c0, not_false_eq_true, if_true, true_and, h28, h5, pb_gx, q, i4]
        refine L43 hV LL (by omega) (by omega) (by omega) (by omega) (by omega) h19 e20 (by omega) (by omega) (by omega) ?_
        intro h2 q' G e20'
        have C2 : LG h2 V (23 + 2 * j) → CKs h2 V := fun L => CKs_top (j := j) (by omega) G (fun b w => by omega) (DG_fr G (fun b w => by omega) K.2.2.1.2.1) ⟨g, (G.2.2 19 (by omega)).trans h19⟩ ⟨q', e20'⟩ L K.2.2.1
        have h132 : h2.2 13 = cck (j + 1) := (G.2.2 13 (by omega)).trans h13
        have i10 : ¬ (1 : Int32) = 0 := by decide
        rw [hN]
        refine ⟨fun ⟨ft, L2⟩ => ?_, fun ⟨nf, L2⟩ => ?_⟩
        · rw [if_pos (fitb_1 ft)] at sp
          have key := tail h2 (ln_tm (S j) (tkn b n st)) (some (.ref (23 + 2 * j))) (fr_mono (fun b w => by omega) G) (KB_fr G (fun b w => by omega) (C2 (LA_LG L2)) K) h132 (ST_top (j := j) (by omega) G (fun b w => by omega) L2 hS) sp
          simp only [pb_e44, h132, pb_g1, pb_o_some] at key
          simp only [Option.toList_some, List.singleton_append, pb_e44, i10, not_false_eq_true, if_true, h132, pb_g1, pb_o_some]
          exact key
        · rw [if_neg (fitb_0 nf)] at sp
          have K2 := KB_fr G (fun b w => by omega) (C2 L2) K
          have h29' := fun (f : Int32) (Q : Option Value → pb_H → Prop) => m29 (Q := Q) (f := f) (KB_5 K2)
          simp only [Option.toList_some, List.singleton_append, pb_e44, not_true_eq_false, if_false, h132, pb_g1, pb_o_some, KB_5 K2, pb_gx, true_and, h29', nb0]
          exact hQ0 _ _ (j + 1) _ sp (fr_trans (fr_mono (fun b w => by omega) G) (fr_mono (fun b w => Or.inl w) (fr_5 K2 rfl))) (KB_s K2 (by rw [upd_ne _ _ (by omega), upd_ne _ _ (by omega)])) (by rw [pb_set_get, if_neg (by omega), h132]) ⟨by rw [upd_ne _ _ (by omega), upd_same]; rfl, by rw [upd_same, hT.1]⟩
/-- Checker.takeNumber -/
theorem L49 (hV : V ≤ 16) (K : KB h V c N n b s m p F X og) (h13 : h.2 13 = cck hg) (h12 : hg ≤ 12) (hS : ST h V hg S) (hT : TS b n st s) (hk : tkk b n st = 48)
    (hQ1 : ∀ h' s' st' hg' S', iNum b n V m X st hg S = .inr (st', hg', S') → fr kS h h' → KB h' V c N n b s' m p F X og → h'.2 13 = cck hg' → hg' ≤ 12 → ST h' V hg' S' → TS b n st' s' → KF s s' → Q (some (.int 1)) h')
    (hQ0 : ∀ h' s' hg' e, iNum b n V m X st hg S = .inl e → fr kS h h' → KB h' V c N n b s' m p F X og → h'.2 13 = cck hg' → FT s' e → Q (some (.int 0)) h') : pb_call 49 [.ref 13] h Q := by
  have hb := (KB_TX K).2.2.2.2.2
  have h5 := KB_5 K
  obtain ⟨g0, e19⟩ := K.2.2.1.2.2.1
  have hc19 : (19 : Nat) ≠ c := by have := K.2.1; omega
  rw [pb_c49]
  simp only [pb_e49, h13, pb_g1, pb_o_some, h5, pb_gx, hT.1, true_and]
  refine L26 (KB_TX K) hT hk e19 rfl hc19 ?_
  intro g hN
  have G1 : fr (fun b => b = 19) h (pb_set h 19 (ci 8 g)) := fr_set rfl (by rw [e19]; rfl)
  have C1 : CKs (pb_set h 19 (ci 8 g)) V := by
    obtain ⟨⟨f, a1, a2⟩, a3, _, ⟨q, a5⟩, a6, a7⟩ := K.2.2.1
    exact ⟨⟨f, (G1.2.2 14 (by omega)).trans a1, a2⟩, DG_fr G1 (fun x hx => by omega) a3, ⟨g, by rw [pb_set_get, if_pos rfl]⟩, ⟨q, (G1.2.2 20 (by omega)).trans a5⟩, LG_fr G1 (by omega) (by omega) a6, fun i hi => LG_fr G1 (by omega) (by omega) (a7 i hi)⟩
  have K1 := KB_fr G1 (fun b w => by omega) C1 K
  have h131 : (pb_set h 19 (ci 8 g)).2 13 = cck hg := (G1.2.2 13 (by omega)).trans h13
  have e191 : (pb_set h 19 (ci 8 g)).2 19 = ci 8 g := by rw [pb_set_get, if_pos rfl]
  have S1 := ST_fr G1 h12 (fun b w => by omega) hS
  generalize pb_set h 19 (ci 8 g) = H1 at G1 C1 K1 h131 e191 S1 ⊢
  simp only [Option.toList_none, List.nil_append, pb_e49, h131, pb_g1, pb_o_some, KB_5 K1, pb_gx, true_and]
  refine T23 (KB_TX K1) hT (by omega) ?_
  intro s2 T2 TS2 k7 k8
  have K2 := KB_s (s' := s2) K1 (by rw [T2.2.2.2.2.1, (KB_TX K1).2.2.2.2.1])
  have G2 := fr_5 (x := cx (.ref c) s2) K1 rfl
  have h132 : (pb_set H1 5 (cx (.ref c) s2)).2 13 = cck hg := (G2.2.2 13 (by omega)).trans h131
  have e192 : (pb_set H1 5 (cx (.ref c) s2)).2 19 = ci 8 g := (G2.2.2 19 (by omega)).trans e191
  have S2 := ST_fr G2 h12 (fun b w => by omega) S1
  have FF : fr kS h (pb_set H1 5 (cx (.ref c) s2)) := fr_trans (fr_mono (fun b w => by omega) G1) (fr_mono (fun b w => by omega) G2)
  generalize pb_set H1 5 (cx (.ref c) s2) = H2 at K2 G2 h132 e192 S2 FF T2 ⊢
  have k42 : s2 2 = 42 ↔ tkk b n (nxt b n st) = 42 := kd_eq TS2 hb (m := 42) (by omega)
  have k100 : s2 2 = 100 ↔ tkk b n (nxt b n st) = 100 := kd_eq TS2 hb (m := 100) (by omega)
  by_cases ck : tkk b n (nxt b n st) = 42 ∨ tkk b n (nxt b n st) = 100
  · have hgo : pb_R 49 26 [some (.ref 13), some (.int (nI st)), none, none] [] [] H2 Q ↔ pb_R 49 50 [some (.ref 13), some (.int (nI st)), none, none] [] [] H2 Q := by
      by_cases c1 : tkk b n (nxt b n st) = 42
      · simp only [pb_e49, h132, pb_g1, pb_o_some, KB_5 K2, pb_gx, k42.mpr c1, if_true]
      · have c2 : tkk b n (nxt b n st) = 100 := by omega
        have n42 : ¬ (100 : Int32) = 42 := by decide
        simp only [pb_e49, h132, pb_g1, pb_o_some, KB_5 K2, pb_gx, k100.mpr c2, n42, if_false, not_true_eq_false]
    suffices key : pb_R 49 26 [some (.ref 13), some (.int (nI st)), none, none] [] [] H2 Q by
      simp only [pb_e49, h132, pb_g1, pb_o_some] at key
      simp only [Option.toList_none, List.nil_append, pb_e49, h132, pb_g1, pb_o_some]
      exact key
    rw [hgo]
    simp only [pb_e49, h132, pb_g1, true_and]
    refine L44 (st := st) hV K2 h132 h12 S2 TS2 rfl ck e192 hN ?_ ?_
    · intro h' s' st' hg' S' sp F' K' a b' c' d e
      simp only [Option.toList_some, List.singleton_append, pb_e49, nb1, true_and]
      exact hQ1 h' s' st' hg' S' sp (fr_trans FF F') K' a b' c' d (KF_tr ⟨k7, k8⟩ e)
    · intro h' s' hg' e sp F' K' a ft
      simp only [Option.toList_some, List.singleton_append, pb_e49, nb0, true_and]
      exact hQ0 h' s' hg' e sp (fr_trans FF F') K' a ft
  · have n1 : ¬ s2 2 = 42 := fun e => ck (Or.inl (k42.mp e))
    have n2 : ¬ s2 2 = 100 := fun e => ck (Or.inr (k100.mp e))
    have sp : iNum b n V m X st hg S = (if 1 ≤ tkn b n st ∧ tkn b n st ≤ m then (if hg < 12 then .inr (nxt b n st, hg + 1, lput S hg (X (tkn b n st))) else .inl (4, st)) else .inl (2, st)) := by
      unfold iNum
      rw [if_neg ck]
    have h45 := fun Q : Option Value → pb_H → Prop => m45 (Q := Q) e192 (by omega) (by omega)
    obtain ⟨u1, u2, u3, u4, u5, u6, u7⟩ := K2.2.2.2
    have h27 := fun (f q : Int32) (Q : Option Value → pb_H → Prop) => m27 (Q := Q) (f := f) (p := q) (KB_5 K2)
    have hsm := small_val (f := g)
    rw [hN] at hsm
    by_cases cm : 1 ≤ tkn b n st ∧ tkn b n st ≤ m
    · rw [if_pos cm] at sp
      obtain ⟨a, ea, La⟩ := u5 (tkn b n st) cm.1 cm.2
      have h46 := fun Q : Option Value → pb_H → Prop => m46_in (Q := Q) u1 u3 u4 cm.1 cm.2 ea
      have a83 := (u6 (tkn b n st - 1) a (by omega) ea).1
      by_cases c12 : hg < 12
      · rw [if_pos c12] at sp
        have h47 := fun Q : Option Value → pb_H → Prop => m47_1 (Q := Q) h132 K2.2.2.1 c12
        have G3 : fr (fun b => b = 13) H2 (pb_set H2 13 (cck (hg + 1))) := fr_set rfl (by rw [h132]; rfl)
        have i4 : pb_is0 ((pb_set H2 13 (cck (hg + 1))).2 (23 + 2 * hg)) 4 = true := by
          obtain ⟨_, _, _, _, _, _, _, _, q1, _⟩ := K2.2.2.1.2.2.2.2.2 hg c12
          rw [pb_set_get, if_neg (by omega), q1]; rfl
        simp only [Option.toList_none, List.nil_append, pb_e49, h132, pb_g1, pb_o_some, KB_5 K2, pb_gx, n1, n2, if_false, not_false_eq_true, if_true, h45, Option.toList_some, List.singleton_append, hsm.1 (by omega), u1, pb_g7, true_and, h46, h47, i4]
        refine L48 hV (by omega) (LG_fr G3 (by omega) (by omega) (K2.2.2.1.2.2.2.2.2 hg c12)) (LA_fr G3 (by omega) (by omega) La) ?_
        intro h4 so4 G4 L4
        have G : fr (fun b => lc (23 + 2 * hg) b ∨ b = 13) H2 h4 := fr_trans (fr_mono (fun b w => by omega) G3) (fr_mono (fun b w => by omega) G4)
        have C4 : CKs h4 V := CKs_top (j := hg) c12 G (fun b w => by omega) (DG_fr G (fun b w => by omega) K2.2.2.1.2.1) ⟨g, (G.2.2 19 (by omega)).trans e192⟩ (by
          obtain ⟨q1, e20⟩ := K2.2.2.1.2.2.2.1
          exact ⟨q1, (G.2.2 20 (by omega)).trans e20⟩) (LA_LG L4) K2.2.2.1
        simp only [Option.toList_none, List.nil_append, pb_e49, nb1, true_and]
        exact hQ1 h4 s2 _ _ _ sp (fr_trans FF (fr_mono (fun b w => by omega) G)) (KB_fr G (fun b w => by omega) C4 K2) ((G4.2.2 13 (by omega)).trans (by rw [pb_set_get, if_pos rfl])) (by omega) (ST_top (j := hg) (Nat.le_refl _) G (fun b w => by omega) L4 S2) TS2 ⟨k7, k8⟩
      · rw [if_neg c12] at sp
        obtain rfl : hg = 12 := by omega
        have h47 := fun Q : Option Value → pb_H → Prop => m47_0 (Q := Q) h132 K2.2.2.1
        simp only [Option.toList_none, List.nil_append, pb_e49, h132, pb_g1, pb_o_some, KB_5 K2, pb_gx, n1, n2, if_false, not_false_eq_true, if_true, h45, Option.toList_some, List.singleton_append, hsm.1 (by omega), u1, pb_g7, true_and, h46, h47, h27, nb0]
        exact hQ0 _ _ 12 _ sp (fr_trans FF (fr_mono (fun b w => Or.inl w) (fr_5 K2 rfl))) (KB_s K2 (by rw [upd_ne _ _ (by omega), upd_ne _ _ (by omega)])) (by rw [pb_set_get, if_neg (by omega), h132]) ⟨by rw [upd_ne _ _ (by omega), upd_same]; rfl, by rw [upd_same]⟩
    · rw [if_neg cm] at sp
      have hout : (if 1 < wd g 0 8 ∨ g 0 < 0 then -1 else g 0) < 1 ∨ nI m < (if 1 < wd g 0 8 ∨ g 0 < 0 then -1 else g 0) := by
        by_cases cb : tkn b n st < 2147483648
        · rw [hsm.1 cb]
          by_cases c0 : tkn b n st < 1
          · left
            exact nI_lt (b := 1) c0 (by omega)
          · right
            exact nI_lt (by omega) (by omega)
        · rw [hsm.2 cb]
          left
          decide
      have h46 := fun Q : Option Value → pb_H → Prop => m46_no (Q := Q) u1 hout
      simp only [Option.toList_none, List.nil_append, pb_e49, h132, pb_g1, pb_o_some, KB_5 K2, pb_gx, n1, n2, if_false, not_false_eq_true, if_true, h45, Option.toList_some, List.singleton_append, u1, pb_g7, true_and, h46, h27, nb0]
      exact hQ0 _ _ hg _ sp (fr_trans FF (fr_mono (fun b w => Or.inl w) (fr_5 K2 rfl))) (KB_s K2 (by rw [upd_ne _ _ (by omega), upd_ne _ _ (by omega)])) (by rw [pb_set_get, if_neg (by omega), h132]) ⟨by rw [upd_ne _ _ (by omega), upd_same]; rfl, by rw [upd_same]⟩
end IT1
