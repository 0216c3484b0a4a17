/-! Search.act: the loop -/
section AC3
variable {h : pb_H} {Q : Option Value → pb_H → Prop} {V c N p st lv ch le ac ts m : Nat} {T : Nat → Int} {Lv Rs : Nat → Nat} {l0 : Nat → Bool} {P : List Nat} {X : Nat → LN} {og : Nat → Nat} {F : Nat → Option Nat} {pb tb fb lt : Int32}
/-- nothing to do: a CHOICE, or the end -/
theorem L117_124 {l1 l2 l3 l4 : Option Value} (hV : V ≤ 16) (hT : TV V m X T Lv Rs lv ts) (hq : ∀ w, 1 ≤ w → w ≤ m → quiet V (X w) (asg T ts)) (hR : SRx h V c N P) (hS : SHL h V m p F X og) (hC : CT h V ts T Lv Rs tb fb lt) (hA : AB V (asg T ts) tb fb) (hl : ∀ v, 1 ≤ v → v ≤ V → bt lt v = l0 v) (h47 : h.2 47 = csr (nI st) (nI lv) (nI ch) (nI le) (nI (ac + 1)) pb)
    (hQ : ∀ h', AG V h F c N h' F c N → CW h' V p c N F (actS V ((st, lv, ch, le, ac), (ts, T, Lv, Rs, l0), P, m, X, og)) → Q none h') : pb_R 117 124 [some (.ref 47), l1, l2, l3, l4] [] [] h Q := by
  have efn : fnq V X (asg T ts) m 1 = none := fnq_no (fun w w1 w2 => hq w w1 (by omega))
  have hcx := WB_c hR.1
  obtain ⟨r8, w8⟩ := hR.1.2.2.2.2.2.2.2
  have hlv : lv ≤ ts := TV_lv hT
  have htV := hT.1
  have aS47 : ∀ q, q = 47 → aS F q := fun q w => Or.inr (Or.inr (Or.inr (Or.inl (by omega))))
  have aS4 : ∀ q, tS4 q → aS F q := fun q w => Or.inr (Or.inr (Or.inr (Or.inl (by omega))))
  by_cases cf : ts < V
  · have h114 : ∀ Q : Option Value → pb_H → Prop, pb_call 114 [.ref 57] h Q ↔ Q (some (.int 0)) h := fun Q => by rw [m114 hC, if_pos cf]
    have hcnt := TV_cnt hT
    obtain ⟨v, v1, v2, v3, v4⟩ := cnt_some (asg T ts) V (by omega)
    have elu : lun (asg T ts) V 1 = v := lun_at v1 (by omega) v3 (fun w w1 w2 => v4 w w1 w2)
    have eac : actS V ((st, lv, ch, le, ac), (ts, T, Lv, Rs, l0), P, m, X, og) = ((st, lv + 1, ch + 1, le, ac + 1), psh (ts, T, Lv, Rs, l0) (if l0 v = true then (v : Int) else -(v : Int)) (lv + 1) 0, P, m, X, og) := by
      unfold actS
      simp only [efn]
      rw [if_pos cf, elu]
    have g47 : ∀ x, (pb_set h 47 x).2 47 = x := fun x => by rw [pb_set_get, if_pos rfl]
    have F1 : fr (fun q => q = 47) h (pb_set h 47 (csr (nI st) (nI (lv + 1)) (nI (ch + 1)) (nI le) (nI (ac + 1)) pb)) := fr_set rfl (by rw [h47]; rfl)
    have C1 := CT_fr F1 (fun q w => by omega) hC
    have h116 := fun Q : Option Value → pb_H → Prop => L116 (Q := Q) C1 hA v1 v2 v3 v4
    rw [hl v v1 v2] at h116
    simp only [pb_e117, h47, pb_g6, pb_o_some, hC.1, pb_g9, true_and, h114, Option.toList_some, List.singleton_append, if_true, nI_1, g47, pb_set_same, C1.1, h116]
    have zab : (if l0 v = true then (v : Int) else -(v : Int)).natAbs = v := by
      by_cases c : l0 v = true
      · rw [if_pos c]; rfl
      · rw [if_neg c, Int.natAbs_neg]; rfl
    refine L115 (k := 0) (l := lv + 1) C1 cf (by omega) (by omega) (by omega) hA (by rw [zab]; exact v3) ?_
    intro h2 tb2 fb2 lt2 F2 C2 A2 l2'
    simp only [Option.toList_none, List.nil_append, pb_e117]
    refine hQ h2 (AG_trans (AG_fr F1 aS47) (AG_fr F2 aS4)) ?_
    rw [eac]
    refine ⟨pb, tb2, fb2, lt2, (F2.2.2 47 (by omega)).trans (g47 _), SRx_fg (SRx_fg hR (fg_fr F1) (fun q w => by omega) ⟨r8, (F1.2.2 3 (by omega)).trans w8⟩) (fg_fr F2) (fun q w => by omega) ⟨r8, (F2.2.2 3 (by omega)).trans ((F1.2.2 3 (by omega)).trans w8)⟩, SHL_fr F2 (fun b w => by omega) (SHL_fr F1 (fun b w => by omega) hS), C2, A2, fun u u1 u2 => ?_⟩
    rw [l2' u u1]
    show _ = (if u = _ then _ else l0 u)
    rw [hl u u1 u2]
  · have h114 : ∀ Q : Option Value → pb_H → Prop, pb_call 114 [.ref 57] h Q ↔ Q (some (.int 1)) h := fun Q => by rw [m114 hC, if_neg cf]
    have n10 : ¬ (1 : Int32) = 0 := by decide
    have eac : actS V ((st, lv, ch, le, ac), (ts, T, Lv, Rs, l0), P, m, X, og) = ((2, lv, ch, le, ac + 1), (ts, T, Lv, Rs, l0), P, m, X, og) := by
      unfold actS
      simp only [efn]
      rw [if_neg cf]
    have F1 : fr (fun q => q = 47) h (pb_set h 47 (csr 2 (nI lv) (nI ch) (nI le) (nI (ac + 1)) pb)) := fr_set rfl (by rw [h47]; rfl)
    simp only [pb_e117, h47, pb_g6, pb_o_some, hC.1, pb_g9, true_and, h114, Option.toList_some, List.singleton_append, n10, if_false]
    refine hQ _ (AG_fr F1 aS47) ?_
    rw [eac]
    exact ⟨pb, tb, fb, lt, by rw [pb_set_get, if_pos rfl]; rfl, SRx_fg hR (fg_fr F1) (fun q w => by omega) ⟨r8, (F1.2.2 3 (by omega)).trans w8⟩, SHL_fr F1 (fun b w => by omega) hS, CT_fr F1 (fun q w => by omega) hC, hA, hl⟩
/-- a BROKEN LINE -/
theorem L117_71 {k a : Nat} {l3 l4 : Option Value} (hV : V ≤ 16) (hT : TV V m X T Lv Rs lv ts) (k1 : 1 ≤ k) (k2 : k ≤ m) (ea : F (k - 1) = some a) (hq : ∀ w, 1 ≤ w → w < k → quiet V (X w) (asg T ts)) (hb : ln_br V (X k) (asg T ts)) (hR : SRx h V c N P) (hS : SHL h V m p F X og) (hC : CT h V ts T Lv Rs tb fb lt) (hA : AB V (asg T ts) tb fb) (hl : ∀ v, 1 ≤ v → v ≤ V → bt lt v = l0 v) (h47 : h.2 47 = csr (nI st) (nI lv) (nI ch) (nI le) (nI (ac + 1)) pb)
    (hQ : ∀ h' c' N' F', AG V h F c N h' F' c' N' → CW h' V p c' N' F' (actS V ((st, lv, ch, le, ac), (ts, T, Lv, Rs, l0), P, m, X, og)) → Q none h') : pb_R 117 71 [some (.ref 47), some (.int (nI k)), some (.ref a), l3, l4] [] [] h Q := by
  have nq : ¬ quiet V (X k) (asg T ts) := fun w => w.1 hb
  have efn : fnq V X (asg T ts) m 1 = some k := fnq_at k1 (by omega) nq (fun w w1 w2 => hq w w1 w2)
  have eac : actS V ((st, lv, ch, le, ac), (ts, T, Lv, Rs, l0), P, m, X, og) = lrn V k ((st, lv, ch, le, ac), (ts, T, Lv, Rs, l0), P, m, X, og) := by
    unfold actS
    simp only [efn]
    rw [if_pos (brb_1 hb)]
  rw [eac] at hQ
  have hlv : lv ≤ ts := TV_lv hT
  have htV := hT.1
  have is47 : pb_is0 (h.2 47) 6 = true := by rw [h47]; rfl
  have F1 : fr (fun q => q = 47) h (pb_set h 47 (csr (nI st) (nI lv) (nI ch) (nI le) (nI (ac + 1)) (nI P.length))) := fr_set rfl (by rw [h47]; rfl)
  have A1 : AG V h F c N (pb_set h 47 (csr (nI st) (nI lv) (nI ch) (nI le) (nI (ac + 1)) (nI P.length))) F c N := AG_fr F1 (fun q w => Or.inr (Or.inr (Or.inr (Or.inl (by omega)))))
  have S1 := SHL_fr F1 (fun b w => by omega) hS
  have C1 := CT_fr F1 (fun q w => by omega) hC
  have g47 : (pb_set h 47 (csr (nI st) (nI lv) (nI ch) (nI le) (nI (ac + 1)) (nI P.length))).2 47 = csr (nI st) (nI lv) (nI ch) (nI le) (nI (ac + 1)) (nI P.length) := by rw [pb_set_get, if_pos rfl]
  simp only [pb_e117, is47, true_and]
  refine L108 hV hR.1 hR.2.1 hS hC hT h47 k1 k2 ea hb hR.2.2.1 hR.2.2.2 ?_ ?_
  · intro h2 c2 N2 K L2 so er W2 K2 R2 hrd
    have k47 : h2.2 47 = csr (nI st) (nI lv) (nI ch) (nI le) (nI (ac + 1)) (nI P.length) := (WB_low W2 (by omega) (by omega)).trans g47
    have is47b : pb_is0 (h2.2 47) 6 = true := by rw [k47]; rfl
    simp only [Option.toList_some, List.singleton_append, pb_e117, is47b, true_and]
    have el : lrn V k ((st, lv, ch, le, ac), (ts, T, Lv, Rs, l0), P, m, X, og) = if m < 300 ∧ (L2 ++ edt m lv).length ≤ 20000 then
        (if lv = 0 then ((3, lv, ch, le + 1, ac + 1), (ts, T, Lv, Rs, l0), L2 ++ edt m lv, m + 1, lput X (m + 1) K, un og (m + 1) 4)
        else ((st, rdy V K T Lv ts lv 0, ch, le + 1, ac + 1), (szl Lv (rdy V K T Lv ts lv 0) ts, T, Lv, Rs, l0), L2 ++ edt m lv, m + 1, lput X (m + 1) K, un og (m + 1) 4))
        else ((4, lv, ch, le, ac + 1), (ts, T, Lv, Rs, l0), P, m, X, og) := by
      unfold lrn
      simp only [er]
    refine L111_1 hV W2 hR.2.1 (by omega) K2 R2 S1 C1 hT.2.2.1 g47 hrd ?_ ?_ ?_
    · intro h3 c3 N3 hn A3 R3 S3 C3 e3
      simp only [Option.toList_none, List.nil_append, pb_e117]
      refine hQ h3 c3 N3 F (AG_trans A1 A3) ?_
      rw [el, if_neg hn]
      exact ⟨_, tb, fb, lt, e3, R3, S3, C3, hA, hl⟩
    · intro h3 c3 N3 F3 hm hlen hz A3 R3 S3 C3 e3
      simp only [Option.toList_none, List.nil_append, pb_e117]
      refine hQ h3 c3 N3 F3 (AG_trans A1 A3) ?_
      rw [el, if_pos ⟨hm, hlen⟩, if_pos hz]
      rw [nI_1] at e3
      exact ⟨_, tb, fb, lt, e3, R3, S3, C3, hA, hl⟩
    · intro h3 c3 N3 F3 hm hlen hz A3 R3 S3 C3 e3
      simp only [Option.toList_none, List.nil_append, pb_e117]
      refine hQ h3 c3 N3 F3 (AG_trans A1 A3) ?_
      rw [el, if_pos ⟨hm, hlen⟩, if_neg hz]
      rw [nI_1] at e3
      have hsz := szl_le (Lv := Lv) (rdy V K T Lv ts lv 0) ts
      have hab : AB V (asg T (szl Lv (rdy V K T Lv ts lv 0) ts)) (tbs T (szl Lv (rdy V K T Lv ts lv 0) ts)) (fbs T (szl Lv (rdy V K T Lv ts lv 0) ts)) := tbs_AB (fun k hk => ⟨(hT.2.1 k (by omega)).1, by have := (hT.2.1 k (by omega)).2; omega⟩) (fun a b a1 b1 => hT.2.2.1 a b a1 (by omega))
      exact ⟨_, _, _, lt, e3, R3, S3, C3, hab, hl⟩
  · intro h2 c2 N2 L2 er W2 K2 R2
    have k47 : h2.2 47 = csr (nI st) (nI lv) (nI ch) (nI le) (nI (ac + 1)) (nI P.length) := (WB_low W2 (by omega) (by omega)).trans g47
    have is47b : pb_is0 (h2.2 47) 6 = true := by rw [k47]; rfl
    simp only [Option.toList_some, List.singleton_append, pb_e117, is47b, true_and]
    have el : lrn V k ((st, lv, ch, le, ac), (ts, T, Lv, Rs, l0), P, m, X, og) = ((4, lv, ch, le, ac + 1), (ts, T, Lv, Rs, l0), P, m, X, og) := by
      unfold lrn
      simp only [er]
    refine L111_0 W2 hR.2.1 (by omega) K2 R2 S1 C1 g47 ?_
    intro h3 c3 N3 A3 R3 S3 C3 e3
    simp only [Option.toList_none, List.nil_append, pb_e117]
    refine hQ h3 c3 N3 F (AG_trans A1 A3) ?_
    rw [el]
    exact ⟨_, tb, fb, lt, e3, R3, S3, C3, hA, hl⟩
/-- Search.act -/
theorem L117 (hV : V ≤ 16) {s : SS} (hC0 : CW h V p c N F s) (hT0 : SV V s)
    (hQ : ∀ h' c' N' F', AG V h F c N h' F' c' N' → CW h' V p c' N' F' (actS V s) → Q none h') : pb_call 117 [.ref 47] h Q := by
  obtain ⟨⟨st, lv, ch, le, ac⟩, ⟨ts, T, Lv, Rs, l0⟩, P, m, X, og⟩ := s
  obtain ⟨pb, tb, fb, lt, h47, hR, hS, hC, hA, hl⟩ := hC0
  have h47 : h.2 47 = csr (nI st) (nI lv) (nI ch) (nI le) (nI ac) pb := h47
  have hT : TV V m X T Lv Rs lv ts := hT0
  have hR : SRx h V c N P := hR
  have hS : SHL h V m p F X og := hS
  have hC : CT h V ts T Lv Rs tb fb lt := hC
  have hA : AB V (asg T ts) tb fb := hA
  have hl : ∀ v, 1 ≤ v → v ≤ V → bt lt v = l0 v := hl
  have hlv : lv ≤ ts := TV_lv hT
  have htV := hT.1
  have m300 := hS.2.2.2.1
  have loop : ∀ r k h' l2 l3 l4, k + r = m + 1 → 1 ≤ k → AG V h F c N h' F c N → SRx h' V c N P → SHL h' V m p F X og → CT h' V ts T Lv Rs tb fb lt → h'.2 47 = csr (nI st) (nI lv) (nI ch) (nI le) (nI (ac + 1)) pb → (∀ w, 1 ≤ w → w < k → quiet V (X w) (asg T ts)) → pb_R 117 12 [some (.ref 47), some (.int (nI k)), l2, l3, l4] [] [] h' Q := by
    intro r
    induction r with
    | zero =>
      intro k h' l2 l3 l4 hk k1 A R S C e47 hq
      obtain rfl : k = m + 1 := by omega
      have c1 : nI m < nI (m + 1) := nI_lt (by omega) (by omega)
      have key := L117_124 (Q := Q) (l1 := some (.int (nI (m + 1)))) (l2 := l2) (l3 := l3) (l4 := l4) hV hT (fun w w1 w2 => hq w w1 (by omega)) R S C hA hl e47 (fun h2 A2 W2 => hQ h2 c N F (AG_trans A A2) W2)
      simp only [pb_e117, e47, pb_g6, pb_o_some] at key
      rw [pb_q117_12]
      simp only [pb_e117, e47, pb_g6, pb_o_some, S.1, pb_g7, c1, if_true]
      exact key
    | succ r ih =>
      intro k h' l2 l3 l4 hk k1 A R S C e47 hq
      have c1 : ¬ nI m < nI k := nI_nlt (by omega) (by omega)
      obtain ⟨u1, ⟨r3, u2⟩, u3, u4, u5, u6, u7⟩ := id S
      obtain ⟨a, ea, La⟩ := u5 k k1 (by omega)
      have h46 : ∀ Q : Option Value → pb_H → Prop, pb_call 46 [.ref 2, .int (nI k)] h' Q ↔ Q (some (.ref a)) h' := fun Q => m46_in u1 u3 u4 k1 (by omega) ea
      have a83 := (u6 (k - 1) a (by omega) ea).1
      rw [pb_q117_12]
      simp only [pb_e117, e47, pb_g6, pb_o_some, u1, pb_g7, c1, if_false, true_and, h46, Option.toList_some, List.singleton_append, C.1, pb_g9, LA_is La]
      refine L71 hV La hA u2 (by omega) (by omega) (by omega) ?_
      intro h2 z r2 G2 L2 e32 hz
      obtain ⟨A2, R2, S2, C2, e472⟩ := CW_look R S C k1 (by omega) ea G2 L2 e32
      rw [e47] at e472
      have AA := AG_trans A A2
      by_cases cb : ln_br V (X k) (asg T ts)
      · have hz1 := (LK_br hV hz).mpr cb
        subst hz1
        have key := L117_71 (Q := Q) (l3 := some (.int (-1))) (l4 := l4) hV hT k1 (by omega) ea hq cb R2 S2 C2 hA hl e472 (fun h3 c3 N3 F3 A3 W3 => hQ h3 c3 N3 F3 (AG_trans AA A3) W3)
        simp only [pb_e117] at key
        simp only [Option.toList_some, List.singleton_append, pb_e117, not_true_eq_false, if_false]
        exact key
      · have hz1 : ¬ z = -1 := fun e => cb ((LK_br hV hz).mp e)
        by_cases cz : z = 0
        · have hqk := (LK_0 hV hz).mp cz
          subst cz
          simp only [Option.toList_some, List.singleton_append, pb_e117, hz1, not_false_eq_true, if_true, nI_1]
          refine ih (k + 1) h2 _ _ _ (by omega) (by omega) AA R2 S2 C2 e472 (fun w w1 w2 => ?_)
          by_cases e : w = k
          · subst e; exact hqk
          · exact hq w w1 (by omega)
        · have nq : ¬ quiet V (X k) (asg T ts) := fun w => cz ((LK_0 hV hz).mpr w)
          have hz2 : ∀ v, 1 ≤ v → (bt z v = true ↔ v ≤ V ∧ ln_fc V (X k) (asg T ts) v) := by
            rcases hz with w | w
            · exact absurd w.1 cb
            · exact w.2
          have hex : ∃ v, 1 ≤ v ∧ v ≤ V ∧ bt z v = true ∧ ∀ u, 1 ≤ u → u < v → bt z u = false := by
            have main : ∀ n, n ≤ V → (∀ u, 1 ≤ u → u ≤ n → bt z u = false) ∨ ∃ v, 1 ≤ v ∧ v ≤ n ∧ bt z v = true ∧ ∀ u, 1 ≤ u → u < v → bt z u = false := by
              intro n
              induction n with
              | zero => intro _; exact Or.inl (fun u u1 u2 => by omega)
              | succ n ihn =>
                intro hn
                rcases ihn (by omega) with w | ⟨v, w1, w2, w3, w4⟩
                · cases e : bt z (n + 1)
                  · refine Or.inl (fun u u1 u2 => ?_)
                    by_cases q : u = n + 1
                    · subst q; exact e
                    · exact w u u1 (by omega)
                  · exact Or.inr ⟨n + 1, by omega, Nat.le_refl _, e, fun u u1 u2 => w u u1 (by omega)⟩
                · exact Or.inr ⟨v, w1, by omega, w3, w4⟩
            rcases main V (Nat.le_refl _) with w | w
            · exfalso
              apply cz
              refine zero_bits.mpr (fun v v1 => ?_)
              cases e : bt z v
              · rfl
              · have := w v v1 ((hz2 v v1).mp e).1
                rw [e] at this
                exact this
            · exact w
          obtain ⟨v, v1, v2, v3, v4⟩ := hex
          have hfc := ((hz2 v v1).mp v3).2
          have hlow : ∀ w, 1 ≤ w → w < v → ¬ ln_fc V (X k) (asg T ts) w := fun w w1 w2 q => by
            have := (hz2 w w1).mpr ⟨by omega, q⟩
            rw [v4 w w1 w2] at this
            cases this
          have elf : lfv V (X k) (asg T ts) V 1 = v := lfv_at v1 (by omega) hfc hlow
          have efn : fnq V X (asg T ts) m 1 = some k := fnq_at k1 (by omega) nq (fun w w1 w2 => hq w w1 w2)
          have eac : actS V ((st, lv, ch, le, ac), (ts, T, Lv, Rs, l0), P, m, X, og) = ((st, lv, ch, le, ac + 1), psh (ts, T, Lv, Rs, l0) (ltz (X k) v) lv k, P, m, X, og) := by
            unfold actS
            simp only [efn]
            rw [if_neg (brb_0 cb), elf]
          have h113 : ∀ Q : Option Value → pb_H → Prop, pb_call 113 [.int z] h2 Q ↔ Q (some (.int (nI v))) h2 := fun Q => m113 v1 (by omega) v3 v4
          obtain ⟨f, pl, nl, wi, ca, cf, co, d1, d2, d3, d4⟩ := id L2
          have h60 := fun Q : Option Value → pb_H → Prop => m60 (Q := Q) (v := v) d1 v1 (by omega)
          have eml := mul_ltz d3 hV v1 v2 hfc.2.1
          have hcx := WB_c R2.1
          have tsV := TV_free hT v1 v2 hfc.1
          simp only [Option.toList_some, List.singleton_append, pb_e117, hz1, not_false_eq_true, if_true, cz, if_false, h113, e472, pb_g6, pb_o_some, LA_is L2, true_and, h60, eml, C2.1, pb_g9]
          refine L115 C2 tsV (by rw [ltz_abs]; exact v1) (by rw [ltz_abs]; exact v2) (by omega) hA (by rw [ltz_abs]; exact hfc.1) ?_
          intro h3 tb3 fb3 lt3 F3 C3 A3 l3'
          simp only [Option.toList_none, List.nil_append, pb_e117]
          refine hQ h3 c N F (AG_trans AA (AG_fr F3 (fun q w => Or.inr (Or.inr (Or.inr (Or.inl (by omega))))))) ?_
          rw [eac]
          refine ⟨pb, tb3, fb3, lt3, (F3.2.2 47 (by omega)).trans e472, SRx_fg R2 (fg_fr F3) (fun q w => by omega) ⟨r2, (F3.2.2 3 (by omega)).trans e32⟩, SHL_fr F3 (fun b w => by omega) S2, C3, A3, fun u u1 u2 => ?_⟩
          rw [l3' u u1]
          show _ = (if u = _ then _ else l0 u)
          rw [hl u u1 u2]
  have F1 : fr (fun q => q = 47) h (pb_set h 47 (csr (nI st) (nI lv) (nI ch) (nI le) (nI (ac + 1)) pb)) := fr_set rfl (by rw [h47]; rfl)
  have hcx := WB_c hR.1
  obtain ⟨r8, w8⟩ := hR.1.2.2.2.2.2.2.2
  have key := loop m 1 _ none none none (by omega) (by omega) (AG_fr F1 (fun q w => Or.inr (Or.inr (Or.inr (Or.inl (by omega)))))) (SRx_fg hR (fg_fr F1) (fun q w => by omega) ⟨r8, (F1.2.2 3 (by omega)).trans w8⟩) (SHL_fr F1 (fun b w => by omega) hS) (CT_fr F1 (fun q w => by omega) hC) (by rw [pb_set_get, if_pos rfl]) (fun w w1 w2 => by omega)
  rw [pb_c117]
  simp only [pb_e117, h47, pb_g6, pb_o_some, nI_1]
  exact key
end AC3
