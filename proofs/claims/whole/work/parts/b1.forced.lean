/-! Checker: takeForced, takeClaim -/
section FRC
variable {h : pb_H} {Q : Option Value → pb_H → Prop} {V c N n m p hg st : Nat} {b : Nat → Nat} {s : Nat → Int32} {F : Nat → Option Nat} {X S : Nat → LN} {og : Nat → Nat}
theorem cS_ch {q : Nat} (w : cS q) : chS F q := Or.inl (by omega)
theorem L81f {a d : Nat} {g : Nat → Int32} {t : Nat → Int} (hV : V ≤ 16) (hG : LG h V a) (hc : h.2 d = ci ((V + 1) * 8) g) (hca : d ≠ a + 1) (hT : ∀ u, u ≤ V → TC g (u * 8) (t u)) (ht : ∀ u, u ≤ V → (t u).natAbs < 10 ^ 64) (hQ : ∀ h' so', fr (lc a) h h' → LA h' V a so' (ln_of V t) → Q none h') : pb_call 81 [.ref a, .ref d, .int 0] h Q := L81 (tn := false) hV hG hc hca hT ht hQ
/-- Checker.takeForced -/
theorem L84 (hV : V ≤ 16) (K : KB h V c N n b s m p F X og) (hcl : c < h.1) (h83 : 83 ≤ h.1) (h13 : h.2 13 = cck hg) (hT : TS b n st s) (hk : tkk b n st = 117)
    (hQ1 : ∀ h' s' st' y F' hg', sU b n V m X st = .inr (st', y) → tkk b n st' = 59 → CHX V h F h' F' → KB h' V c N n b s' (m + 1) p F' (lput X (m + 1) y) (un og (m + 1) 3) → h'.2 13 = cck hg' → TS b n st' s' → KF s s' → Q (some (.int 1)) h')
    (hQ0 : ∀ h' s' hg' e, sU b n V m X st = .inl e → CHX V h F h' F → KB h' V c N n b s' m p F X og → h'.2 13 = cck hg' → FT s' e → Q (some (.int 0)) h') : pb_call 84 [.ref 13] h Q := by
  have hsn := hT.2.2.2.2
  have h5 := KB_5 K
  have i10 : ¬ (1 : Int32) = 0 := by decide
  rw [pb_c84]
  simp only [pb_e84, h13, pb_g1, pb_o_some, h5, pb_gx, true_and]
  refine T23 (KB_TX K) hT (by omega) ?_
  intro s1 T1 TS1 k7 k8
  have K1 := KB_s (s' := s1) K (by rw [T1.2.2.2.2.1, (KB_TX K).2.2.2.2.1])
  have G1 := fr_5 (x := cx (.ref c) s1) K rfl
  have h131 : (pb_set h 5 (cx (.ref c) s1)).2 13 = cck hg := (G1.2.2 13 (by omega)).trans h13
  generalize pb_set h 5 (cx (.ref c) s1) = H1 at K1 G1 h131 T1 ⊢
  have K1' := K1
  obtain ⟨⟨fs, g, rel, C1⟩, kq2, kq3, kq4⟩ := K1'
  simp only [Option.toList_none, List.nil_append, pb_e84, h131, pb_g1, pb_o_some, C1.2.1, pb_g2, true_and]
  refine L80 (any := false) hV C1 TS1 ?_ ?_
  · intro h2 s2 f2 g2 st2 k t hC2 F2 C2 S2 K2 T2 B2
    have h132 : h2.2 13 = cck hg := (F2.2.2 13 (by omega)).trans h131
    have KB2 : KB h2 V c N n b s2 m p F X og := ⟨⟨f2, g2, nI k, C2⟩, kq2, CKs_fr F2 (fun b w => by omega) kq3, SHL_fr F2 (fun b w => by omega) kq4⟩
    have FF : fr (fun q => q = 5 ∨ cS q) h h2 := fr_trans (fr_mono (fun b w => Or.inl w) G1) (fr_mono (fun b w => Or.inr w) F2)
    obtain ⟨q1, q2⟩ := nxt_le (b := b) hsn (by omega : tkk b n st ≠ 1)
    have hle := sCnd_le q1 hC2
    have spU : sU b n V m X st = (if m < 300 then (if flwb V m X (ln_of V t) = true then .inr (st2, ln_of V t) else .inl (6, st2)) else .inl (5, st2)) := by
      unfold sU
      rw [hC2]
    obtain ⟨⟨f, a1, a2⟩, _⟩ := id KB2.2.2.1
    have hg0 : pb_aa (co 12 f) 0 = some (some 23) := by
      have := co_get (f := f) (n := 12) (j := 0) (by omega) (by omega)
      rw [a2 0 (by omega)] at this
      exact this
    have hrf : va_rf (some 23) = .ref 23 := rfl
    have LG23 : LG h2 V 23 := KB2.2.2.1.2.2.2.2.2 0 (by omega)
    simp only [Option.toList_some, List.singleton_append, pb_e84, i10, not_false_eq_true, if_true, h132, pb_g1, pb_o_some, a1, hg0, hrf, C2.2.1, pb_g2, LG_is LG23, true_and]
    refine L81f hV LG23 C2.2.2.2.1 (by omega) T2 (fun u _ => Bd_64 B2 (by omega) u) ?_
    intro h3 so3 G3 L3
    have KB3 : KB h3 V c N n b s2 m p F X og := KB_fr G3 (fun b w => by omega) (CKs_line (j := 0) (by omega) G3 (fun b w => Or.inl w) (LA_LG L3) KB2.2.2.1) KB2
    have h133 : h3.2 13 = cck hg := (G3.2.2 13 (by omega)).trans h132
    have C3 : CHX V h F h3 F := CHX_trans (CHX_fr FF (fun q w => by
      rcases w with w | w
      · exact Or.inl (by omega)
      · exact cS_ch w)) (CHX_fr G3 (fun q w => Or.inr (Or.inl (by omega))))
    have hle3 : h.1 ≤ h3.1 := C3.1.1
    obtain ⟨u1, ⟨r, u2⟩, u3, u4, u5, u6, u7⟩ := id KB3.2.2.2
    obtain ⟨⟨f3, a31, a32⟩, _⟩ := id KB3.2.2.1
    have hg03 : pb_aa (co 12 f3) 0 = some (some 23) := by
      have := co_get (f := f3) (n := 12) (j := 0) (by omega) (by omega)
      rw [a32 0 (by omega)] at this
      exact this
    have fin : ∀ h4, CHX V h F h4 F → KB h4 V c N n b s2 m p F X og → h4.2 13 = cck hg → LA h4 V 23 so3 (ln_of V t) → (m < 300 → flw V m X (ln_of V t)) → pb_call 73 [.ref 13, .int 3] h4 (fun v t_1 => pb_R 84 75 [some (.ref 13)] [] (v.toList ++ []) t_1 Q) := by
      intro h4 C4 K4 h134 L4 hfl
      have hle4 : h.1 ≤ h4.1 := C4.1.1
      refine L73 (o := 3) hV K4 (by omega) (by omega) h134 L4 S2 ?_ ?_
      · intro h5' F5 m3 C5 K5 h135
        rw [if_pos m3, if_pos (flwb_1 (hfl m3))] at spU
        simp only [Option.toList_some, List.singleton_append, pb_e84, nb1, true_and]
        exact hQ1 h5' s2 st2 _ F5 hg spU hle.2.2.1 (CHX_trans C4 C5) K5 h135 S2 (KF_tr ⟨k7, k8⟩ K2)
      · intro h5' s5 m3 F5 K5 h135 ft
        rw [if_neg m3] at spU
        simp only [Option.toList_some, List.singleton_append, pb_e84, nb0, true_and]
        exact hQ0 h5' s5 hg _ spU (CHX_trans C4 (CHX_fr F5 (fun b w => kS_ch w))) K5 h135 ft
    by_cases cm : m < 300
    · have h68 : ∀ Q : Option Value → pb_H → Prop, pb_call 68 [.ref 2] h3 Q ↔ Q (some (.int 0)) h3 := fun Q => by rw [m68 u1 u4, if_pos cm]
      rw [if_pos cm] at spU
      simp only [Option.toList_none, List.nil_append, pb_e84, h133, pb_g1, pb_o_some, u1, pb_g7, true_and, h68, Option.toList_some, List.singleton_append, not_true_eq_false, if_false, a31, hg03, hrf]
      refine L83 hV KB3 h133 L3 (of_sm hV B2) ?_ ?_
      · intro h4 fl C4 K4 h134 L4
        simp only [Option.toList_some, List.singleton_append, pb_e84, i10, not_false_eq_true, if_true, h134, pb_g1, true_and]
        exact fin h4 (CHX_trans C3 C4) K4 h134 L4 (fun _ => fl)
      · intro h4 fl C4 K4 h134 L4
        rw [if_neg (flwb_0 fl)] at spU
        have h29 := fun (f : Int32) (Q : Option Value → pb_H → Prop) => m29 (Q := Q) (f := f) (KB_5 K4)
        simp only [Option.toList_some, List.singleton_append, pb_e84, not_true_eq_false, if_false, h134, pb_g1, pb_o_some, KB_5 K4, pb_gx, true_and, h29, nb0]
        exact hQ0 _ _ hg _ spU (CHX_trans C3 (CHX_trans C4 (CHX_fr (fr_5 K4 rfl) (fun b w => Or.inl (by omega))))) (KB_s K4 (by rw [upd_ne _ _ (by omega), upd_ne _ _ (by omega)])) (by rw [pb_set_get, if_neg (by omega), h134]) ⟨by rw [upd_ne _ _ (by omega), upd_same]; rfl, by rw [upd_same, S2.1]⟩
    · have h68 : ∀ Q : Option Value → pb_H → Prop, pb_call 68 [.ref 2] h3 Q ↔ Q (some (.int 1)) h3 := fun Q => by rw [m68 u1 u4, if_neg cm]
      simp only [Option.toList_none, List.nil_append, pb_e84, h133, pb_g1, pb_o_some, u1, pb_g7, true_and, h68, Option.toList_some, List.singleton_append, i10, not_false_eq_true, if_true]
      exact fin h3 C3 KB3 h133 L3 (fun w => absurd w cm)
  · intro h2 s2 f2 g2 rel2 e hC2 F2 C2 ft
    have h132 : h2.2 13 = cck hg := (F2.2.2 13 (by omega)).trans h131
    have KB2 : KB h2 V c N n b s2 m p F X og := ⟨⟨f2, g2, rel2, C2⟩, kq2, CKs_fr F2 (fun b w => by omega) kq3, SHL_fr F2 (fun b w => by omega) kq4⟩
    have spU : sU b n V m X st = .inl e := by
      unfold sU
      rw [hC2]
    simp only [Option.toList_some, List.singleton_append, pb_e84, not_true_eq_false, if_false, nb0, true_and]
    exact hQ0 h2 s2 hg e spU (CHX_trans (CHX_fr G1 (fun b w => Or.inl (by omega))) (CHX_fr F2 (fun b w => cS_ch w))) KB2 h132 ft
/-- Checker.takeClaim -/
theorem L86 (hV : V ≤ 16) (K : KB h V c N n b s m p F X og) (h13 : h.2 13 = cck hg) (hT : TS b n st s) (hk : tkk b n st = 99)
    (hQ1 : ∀ h' s' st', sC b n V m X st = .inr st' → CHX V h F h' F → KB h' V c N n b s' m p F X og → h'.2 13 = cck hg → TS b n st' s' → KF s s' → Q (some (.int 1)) h')
    (hQ0 : ∀ h' s' e, sC b n V m X st = .inl e → CHX V h F h' F → KB h' V c N n b s' m p F X og → h'.2 13 = cck hg → FT s' e → Q (some (.int 0)) h') : pb_call 86 [.ref 13] h Q := by
  have hsn := hT.2.2.2.2
  have hb := (KB_TX K).2.2.2.2.2
  have h5 := KB_5 K
  have i10 : ¬ (1 : Int32) = 0 := by decide
  have bad : ∀ (H : pb_H) (s' : Nat → Int32) (f q : Nat) (e : Int32), KB H V c N n b s' m p F X og → CHX V h F H F → H.2 13 = cck hg → e = nI f → s' 3 = nI q → sC b n V m X st = .inl (f, q) → Q (some (.int 0)) (pb_set H 5 (cx (.ref c) (upd (upd s' 7 e) 8 (s' 3)))) := by
    intro H s' f q e K' C' h13' he hq sp
    exact hQ0 _ _ _ sp (CHX_trans C' (CHX_fr (fr_5 K' rfl) (fun b w => Or.inl (by omega)))) (KB_s K' (by rw [upd_ne _ _ (by omega), upd_ne _ _ (by omega)])) (by rw [pb_set_get, if_neg (by omega), h13']) ⟨by rw [upd_ne _ _ (by omega), upd_same]; exact he, by rw [upd_same]; exact hq⟩
  rw [pb_c86]
  simp only [pb_e86, h13, pb_g1, pb_o_some, h5, pb_gx, true_and]
  refine T23 (KB_TX K) hT (by omega) ?_
  intro s1 T1 TS1 k7 k8
  have K1 := KB_s (s' := s1) K (by rw [T1.2.2.2.2.1, (KB_TX K).2.2.2.2.1])
  have G1 := fr_5 (x := cx (.ref c) s1) K rfl
  have h131 : (pb_set h 5 (cx (.ref c) s1)).2 13 = cck hg := (G1.2.2 13 (by omega)).trans h13
  generalize pb_set h 5 (cx (.ref c) s1) = H1 at K1 G1 h131 T1 ⊢
  have C1 : CHX V h F H1 F := CHX_fr G1 (fun b w => Or.inl (by omega))
  have k48 : s1 2 = 48 ↔ tkk b n (nxt b n st) = 48 := kd_eq TS1 hb (m := 48) (by omega)
  by_cases d1 : tkk b n (nxt b n st) = 48
  · have h76 := m76_1 (KB_5 K1) (k48.mpr d1)
    obtain ⟨g0, e19⟩ := K1.2.2.1.2.2.1
    have hc19 : (19 : Nat) ≠ c := by have := K1.2.1; omega
    simp only [Option.toList_none, List.nil_append, pb_e86, h131, pb_g1, pb_o_some, KB_5 K1, pb_gx, true_and, h76, Option.toList_some, List.singleton_append, i10, not_false_eq_true, if_true]
    refine L26 (KB_TX K1) TS1 d1 e19 rfl hc19 ?_
    intro g hN
    have G2 : fr (fun b => b = 19) H1 (pb_set H1 19 (ci 8 g)) := fr_set rfl (by rw [e19]; rfl)
    have CK2 : CKs (pb_set H1 19 (ci 8 g)) V := by
      obtain ⟨⟨f, a1, a2⟩, a3, _, ⟨q, a5⟩, a6, a7⟩ := K1.2.2.1
      exact ⟨⟨f, (G2.2.2 14 (by omega)).trans a1, a2⟩, DG_fr G2 (fun x hx => by omega) a3, ⟨g, by rw [pb_set_get, if_pos rfl]⟩, ⟨q, (G2.2.2 20 (by omega)).trans a5⟩, LG_fr G2 (by omega) (by omega) a6, fun i hi => LG_fr G2 (by omega) (by omega) (a7 i hi)⟩
    have K2 := KB_fr G2 (fun b w => by omega) CK2 K1
    have h132 : (pb_set H1 19 (ci 8 g)).2 13 = cck hg := (G2.2.2 13 (by omega)).trans h131
    have e192 : (pb_set H1 19 (ci 8 g)).2 19 = ci 8 g := by rw [pb_set_get, if_pos rfl]
    have C2 : CHX V h F (pb_set H1 19 (ci 8 g)) F := CHX_trans C1 (CHX_fr G2 (fun b w => Or.inr (Or.inl (by omega))))
    generalize pb_set H1 19 (ci 8 g) = H2 at G2 K2 h132 e192 C2 CK2 ⊢
    have h45 := fun Q : Option Value → pb_H → Prop => m45 (Q := Q) e192 (by omega) (by omega)
    obtain ⟨u1, ⟨r, u2⟩, u3, u4, u5, u6, u7⟩ := id K2.2.2.2
    have hsm := small_val (f := g)
    rw [hN] at hsm
    by_cases cm : 1 ≤ tkn b n (nxt b n st) ∧ tkn b n (nxt b n st) ≤ m
    · obtain ⟨a, ea, La⟩ := u5 (tkn b n (nxt b n st)) cm.1 cm.2
      have h46 := fun Q : Option Value → pb_H → Prop => m46_in (Q := Q) u1 u3 u4 cm.1 cm.2 ea
      have a83 := (u6 (tkn b n (nxt b n st) - 1) a (by omega) ea).1
      simp only [Option.toList_none, List.nil_append, pb_e86, h132, pb_g1, pb_o_some, h45, Option.toList_some, List.singleton_append, hsm.1 (by omega), u1, pb_g7, true_and, h46, KB_5 K2, pb_gx]
      refine T23 (KB_TX K2) TS1 (by omega) ?_
      intro s3 T3 TS3 l7 l8
      have K3 := KB_s (s' := s3) K2 (by rw [T3.2.2.2.2.1, (KB_TX K2).2.2.2.2.1])
      have G3 := fr_5 (x := cx (.ref c) s3) K2 rfl
      have h133 : (pb_set H2 5 (cx (.ref c) s3)).2 13 = cck hg := (G3.2.2 13 (by omega)).trans h132
      have C3 : CHX V h F (pb_set H2 5 (cx (.ref c) s3)) F := CHX_trans C2 (CHX_fr G3 (fun b w => Or.inl (by omega)))
      have La3 := LA_fr G3 (by omega) (by omega) La
      generalize pb_set H2 5 (cx (.ref c) s3) = H3 at K3 G3 h133 C3 La3 T3 ⊢
      have k59 : s3 2 = 59 ↔ tkk b n (nxt b n (nxt b n st)) = 59 := kd_eq TS3 hb (m := 59) (by omega)
      by_cases d2 : tkk b n (nxt b n (nxt b n st)) = 59
      · have h76' := m76_1 (KB_5 K3) (k59.mpr d2)
        obtain ⟨v1, ⟨r3, v2⟩, v3, v4, v5, v6, v7⟩ := id K3.2.2.2
        simp only [Option.toList_none, List.nil_append, pb_e86, h133, pb_g1, pb_o_some, KB_5 K3, pb_gx, true_and, h76', Option.toList_some, List.singleton_append, i10, not_false_eq_true, if_true, v1, pb_g7, LA_is La3]
        refine L85 hV La3 v2 (by omega) (by omega) (by omega) ?_
        intro h4 r4 G4 L4 e34
        obtain ⟨K4, C4, _⟩ := KB_look K3 cm.1 cm.2 ea G4 L4 e34
        have h134 : h4.2 13 = cck hg := (G4.2.2 13 (by omega)).trans h133
        refine ⟨fun br => ?_, fun nb => ?_⟩
        · have sp : sC b n V m X st = .inr (nxt b n (nxt b n st)) := by
            unfold sC
            rw [if_pos d1, if_pos cm, if_pos d2, if_pos (isF_1 br)]
          simp only [Option.toList_some, List.singleton_append, pb_e86, i10, not_false_eq_true, if_true, nb1, true_and]
          exact hQ1 h4 s3 _ sp (CHX_trans C3 C4) K4 h134 TS3 (KF_tr ⟨k7, k8⟩ ⟨l7, l8⟩)
        · have sp : sC b n V m X st = .inl (6, nxt b n (nxt b n st)) := by
            unfold sC
            rw [if_pos d1, if_pos cm, if_pos d2, if_neg (by rw [isF_0 nb]; omega)]
          have h29 := fun (f : Int32) (Q : Option Value → pb_H → Prop) => m29 (Q := Q) (f := f) (KB_5 K4)
          simp only [Option.toList_some, List.singleton_append, pb_e86, not_true_eq_false, if_false, h134, pb_g1, pb_o_some, KB_5 K4, pb_gx, true_and, h29, if_true, nb0]
          exact bad h4 s3 6 _ 6 K4 (CHX_trans C3 C4) h134 rfl TS3.1 sp
      · have sp : sC b n V m X st = .inl (1, nxt b n (nxt b n st)) := by
          unfold sC
          rw [if_pos d1, if_pos cm, if_neg d2]
        have h76' := m76_0 (KB_5 K3) (fun e => d2 (k59.mp e))
        simp only [Option.toList_none, List.nil_append, pb_e86, h133, pb_g1, pb_o_some, KB_5 K3, pb_gx, true_and, h76', Option.toList_some, List.singleton_append, not_true_eq_false, if_false, nb0]
        exact bad H3 s3 1 _ 1 K3 C3 h133 rfl TS3.1 sp
    · have sp : sC b n V m X st = .inl (2, nxt b n st) := by
        unfold sC
        rw [if_pos d1, if_neg cm]
      have hout : (if 1 < wd g 0 8 ∨ g 0 < 0 then -1 else g 0) < 1 ∨ nI m < (if 1 < wd g 0 8 ∨ g 0 < 0 then -1 else g 0) := by
        by_cases cb : tkn b n (nxt b n st) < 2147483648
        · rw [hsm.1 cb]
          by_cases c0 : tkn b n (nxt b n st) < 1
          · left
            exact nI_lt (b := 1) c0 (by omega)
          · right
            exact nI_lt (by omega) (by omega)
        · rw [hsm.2 cb]
          left
          decide
      have h46 := fun Q : Option Value → pb_H → Prop => m46_no (Q := Q) u1 hout
      have h29 := fun (f : Int32) (Q : Option Value → pb_H → Prop) => m29 (Q := Q) (f := f) (KB_5 K2)
      simp only [Option.toList_none, List.nil_append, pb_e86, h132, pb_g1, pb_o_some, h45, Option.toList_some, List.singleton_append, u1, pb_g7, true_and, h46, KB_5 K2, pb_gx, h29, nb0]
      exact bad H2 s1 2 _ 2 K2 C2 h132 rfl TS1.1 sp
  · have sp : sC b n V m X st = .inl (1, nxt b n st) := by
      unfold sC
      rw [if_neg d1]
    have h76 := m76_0 (KB_5 K1) (fun e => d1 (k48.mp e))
    simp only [Option.toList_none, List.nil_append, pb_e86, h131, pb_g1, pb_o_some, KB_5 K1, pb_gx, true_and, h76, Option.toList_some, List.singleton_append, not_true_eq_false, if_false, nb0]
    exact bad H1 s1 1 _ 1 K1 C1 h131 rfl TS1.1 sp
end FRC
