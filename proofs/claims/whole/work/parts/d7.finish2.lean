/-! Search.finish, with a new LINE -/
section FN2
variable {h h' h0 : pb_H} {Q : Option Value → pb_H → Prop} {V c N c0 N0 m p ts lv : Nat} {P L L0 : List Nat} {T : Nat → Int} {Lv Rs : Nat → Nat} {tb fb lt : Int32} {st ch le ac pb : Int32} {F : Nat → Option Nat} {X : Nat → LN} {og : Nat → Nat}
theorem CT_fg {S : Nat → Prop} (G : fg S h h') (h83 : 83 ≤ h.1) (hS : ∀ q, tS4 q → ¬ S q) (C : CT h V ts T Lv Rs tb fb lt) : CT h' V ts T Lv Rs tb fb lt := by
  obtain ⟨c1, c2, c3, ⟨f1, f2, f3, d1, d2, d3, d4⟩, c5⟩ := C
  exact ⟨(G.2 57 (by omega) (hS _ (by omega))).trans c1, c2, c3, ⟨f1, f2, f3, (G.2 58 (by omega) (hS _ (by omega))).trans d1, (G.2 59 (by omega) (hS _ (by omega))).trans d2, (G.2 60 (by omega) (hS _ (by omega))).trans d3, d4⟩, c5⟩
theorem cb_line {a : Nat} (hc : ∃ M b, h.2 c = cb M b) (hL : LG h V a) : a ≠ c ∧ a + 1 ≠ c := by
  obtain ⟨M, b, k4⟩ := hc
  obtain ⟨f, p, n, wi, so, ca, cf, co, e1, e2⟩ := hL
  refine ⟨fun e => ?_, fun e => ?_⟩
  · rw [e, k4] at e1; exact cb_inr e1
  · rw [e, k4] at e2
    unfold cb at e2
    injection e2 with e2
    injection e2 with e2 _
    exact absurd e2 (by decide)
theorem L111_79 {s l so : Int32} {K : LN} {l1 : Option Value} (hV : V ≤ 16) (R : SRx h V c N P) (hL : LA h V 61 so K) (hS : SHL h V m p F X og) (hm : m < 300) (hC : CT h V ts T Lv Rs tb fb lt) (h47 : h.2 47 = csr s l ch le ac pb)
    (hQ : ∀ h' F', AG V h F c N h' F' c N → SRx h' V c N P → SHL h' V (m + 1) p F' (lput X (m + 1) K) (un og (m + 1) 4) → CT h' V ts T Lv Rs tb fb lt → h'.2 47 = csr s l ch (le + 1) ac pb → Q none h') : pb_R 111 79 [some (.ref 47), l1] [] [] h Q := by
  obtain ⟨u1, ⟨r, u2⟩, u3, u4, u5, u6, u7⟩ := id hS
  have h83 := WB_83 R.1
  have hcb := WB_cb R.1
  have hc := WB_c R.1
  have i4 : (4 : Int32) = nI 4 := rfl
  simp only [pb_e111, h47, pb_g6, pb_o_some, u1, pb_g7, true_and]
  rw [i4]
  refine L72 hV u1 u2 u3 hm (fun a ha => u6 m a hm ha) h83 (by omega) hL ?_
  intro h2 F2 a r2 G2 k2 k3 k4 hF ha hor lk LA2 e1 e2
  obtain ⟨S2, X2⟩ := SHL_add hm hS G2 k2 k3 k4 hF ha hor lk LA2 e1 e2
  have nS : ∀ q, adS F m q → q = 2 ∨ q = 3 ∨ q = 4 ∨ (83 ≤ q ∧ q ≠ c) := fun q w => by
    rcases w with w | w | w | ⟨b, b1, b2⟩
    · exact Or.inl w
    · exact Or.inr (Or.inl w)
    · exact Or.inr (Or.inr (Or.inl w))
    · have := u6 m b hm b1
      obtain ⟨n1, n2⟩ := cb_line hcb.2 this.2.2
      have := this.1
      rcases b2 with b2 | b2
      · exact Or.inr (Or.inr (Or.inr ⟨by omega, by omega⟩))
      · exact Or.inr (Or.inr (Or.inr ⟨by omega, by omega⟩))
  have k47 : h2.2 47 = csr s l ch le ac pb := (G2.2 47 (by omega) (fun w => by have t := nS _ w; clear w; omega)).trans h47
  have R2 : SRx h2 V c N P := SRx_fg R G2 (fun q w => by have t := nS q w; clear w; omega) ⟨r2, k3⟩
  have C2 : CT h2 V ts T Lv Rs tb fb lt := CT_fg G2 h83 (fun q w z => by have t := nS q z; clear z; omega) hC
  have g47 : ∀ x, (pb_set h2 47 x).2 47 = x := fun x => by rw [pb_set_get, if_pos rfl]
  have F3 : fr (fun q => q = 47) h2 (pb_set h2 47 (csr s l ch (le + 1) ac pb)) := fr_set rfl (by rw [k47]; rfl)
  simp only [Option.toList_none, List.nil_append, pb_e111, k47, pb_g6, pb_o_some]
  refine hQ _ F2 (AG_trans (AG_add hm G2 X2.2) (AG_fr F3 (fun q w => Or.inr (Or.inr (Or.inr (Or.inl (by omega))))))) (SRx_fg R2 (fg_fr F3) (fun q w => by omega) ⟨r2, (F3.2.2 _ (by omega)).trans k3⟩) (SHL_fr F3 (fun b w => by omega) S2) (CT_fr F3 (fun q w => by omega) C2) (g47 _)
/-- Search.finish, when it did FIT -/
theorem L111_1 {K : LN} {so : Int32} (hV : V ≤ 16) (W : WB V c0 N0 h0 L0 h c N L) (hl : L0.length ≤ 20000) (hlv : lv ≤ 16) (h61 : LA h V 61 so K) (h63 : LG h V 63) (hS : SHL h0 V m p F X og) (hC : CT h0 V ts T Lv Rs tb fb lt) (hd : ∀ a b, a < b → b < ts → (T a).natAbs ≠ (T b).natAbs) (h47 : h0.2 47 = csr st (nI lv) ch le ac (nI L0.length)) (hr : lv = 0 ∨ rdy V K T Lv ts lv 0 < lv)
    (hQF : ∀ h' c' N', ¬ (m < 300 ∧ (L ++ edt m lv).length ≤ 20000) → AG V h0 F c0 N0 h' F c' N' → SRx h' V c' N' L0 → SHL h' V m p F X og → CT h' V ts T Lv Rs tb fb lt → h'.2 47 = csr 4 (nI lv) ch le ac (nI L0.length) → Q none h')
    (hQ0 : ∀ h' c' N' F', m < 300 → (L ++ edt m lv).length ≤ 20000 → lv = 0 → AG V h0 F c0 N0 h' F' c' N' → SRx h' V c' N' (L ++ edt m lv) → SHL h' V (m + 1) p F' (lput X (m + 1) K) (un og (m + 1) 4) → CT h' V ts T Lv Rs tb fb lt → h'.2 47 = csr 3 (nI lv) ch (le + 1) ac (nI L0.length) → Q none h')
    (hQ1 : ∀ h' c' N' F', m < 300 → (L ++ edt m lv).length ≤ 20000 → lv ≠ 0 → AG V h0 F c0 N0 h' F' c' N' → SRx h' V c' N' (L ++ edt m lv) → SHL h' V (m + 1) p F' (lput X (m + 1) K) (un og (m + 1) 4) → CT h' V (szl Lv (rdy V K T Lv ts lv 0) ts) T Lv Rs (tbs T (szl Lv (rdy V K T Lv ts lv 0) ts)) (fbs T (szl Lv (rdy V K T Lv ts lv 0) ts)) lt → h'.2 47 = csr st (nI (rdy V K T Lv ts lv 0)) ch (le + 1) ac (nI L0.length) → Q none h') : pb_call 111 [.ref 47, .int 1] h Q := by
  have k47 : h.2 47 = csr st (nI lv) ch le ac (nI L0.length) := (WB_low W (by omega) (by omega)).trans h47
  have is47 : pb_is0 (h.2 47) 6 = true := by rw [k47]; rfl
  have n10 : ¬ (1 : Int32) = 0 := by decide
  have m300 := hS.2.2.2.1
  rw [pb_c111]
  simp only [pb_e111, is47, true_and]
  refine L109 W hS.1 hS.2.2.2.1 h47 hlv ?_
  intro h1 c1 N1 W1 P1
  have K1 := LA_kpl P1 (by omega) (by omega) (by omega) h61
  have R1 := LG_kpl P1 (by omega) (by omega) (by omega) h63
  have k47b : h1.2 47 = csr st (nI lv) ch le ac (nI L0.length) := (WB_low W1 (by omega) (by omega)).trans h47
  have k2b : h1.2 2 = csh V m p (nfl V X m) := (WB_low W1 (by omega) (by omega)).trans hS.1
  have h68 := fun Q : Option Value → pb_H → Prop => m68 (Q := Q) k2b m300
  have full := fun hn => L111_28 (Q := Q) (l1 := some (.int 1)) W1 hl (LA_LG K1) R1 hS hC h47 (fun h' => hQF h' c1 N1 hn)
  simp only [pb_e111, k47b, pb_g6, pb_o_some] at full
  obtain ⟨sz, ov, b, ⟨b1, _⟩, r1, r2, r3⟩ := id W1.2.2.1
  by_cases cm : m < 300
  · have e68 : (if m < 300 then (0 : Int32) else 1) = 0 := if_pos cm
    by_cases cl : (L ++ edt m lv).length ≤ 20000
    · have ov0 : ov = 0 := by
        rcases r3 with q | q
        · exact q.1
        · omega
      subst ov0
      have Rx := SRx_of W1 cl (LA_LG K1) R1
      have S1 := SHL_WB W1 hS
      have C1 := CT_low W1 hC
      by_cases c0' : lv = 0
      · subst c0'
        have i0 : nI 0 = 0 := rfl
        have F2 : fr (fun q => q = 47) h1 (pb_set h1 47 (csr 3 (nI 0) ch le ac (nI L0.length))) := fr_set rfl (by rw [k47b]; rfl)
        obtain ⟨r8, w8⟩ := W1.2.2.2.2.2.2.2
        have key := L111_79 (Q := Q) (l1 := some (.int 1)) hV (SRx_fg Rx (fg_fr F2) (fun q w => by have := WB_c W1; omega) ⟨r8, (F2.2.2 _ (by omega)).trans w8⟩) (LA_fr F2 (by omega) (by omega) K1) (SHL_fr F2 (fun b w => by omega) S1) cm (CT_fr F2 (fun q w => by omega) C1) (by rw [pb_set_get, if_pos rfl]) (fun h' F' A => hQ0 h' c1 N1 F' cm cl rfl (AG_trans (AG_SG W1.1) (AG_trans (AG_fr F2 (fun q w => Or.inr (Or.inr (Or.inr (Or.inl (by omega)))))) A)))
        have g47 : ∀ x, (pb_set h1 47 x).2 47 = x := fun x => by rw [pb_set_get, if_pos rfl]
        simp only [pb_e111, g47, pb_g6, pb_o_some] at key
        simp only [Option.toList_none, List.nil_append, pb_e111, n10, if_false, k47b, pb_g6, pb_o_some, k2b, pb_g7, true_and, h68, e68, Option.toList_some, List.singleton_append, not_true_eq_false, b1, pb_g0, if_true, i0, g47]
        exact key
      · have nz : ¬ nI lv = 0 := fun e => c0' (nI_inj (by omega) (by omega) (show nI lv = nI 0 from e))
        have hr2 : rdy V K T Lv ts lv 0 < lv := by
          rcases hr with e | e
          · exact absurd e c0'
          · exact e
        have is47b : pb_is0 (h1.2 47) 6 = true := by rw [k47b]; rfl
        suffices key : pb_R 111 60 [some (.ref 47), some (.int 1)] [] [] h1 Q by
          simp only [pb_e111, k47b, pb_g6, pb_o_some] at key
          simp only [Option.toList_none, List.nil_append, pb_e111, n10, if_false, k47b, pb_g6, pb_o_some, k2b, pb_g7, true_and, h68, e68, Option.toList_some, List.singleton_append, not_true_eq_false, b1, pb_g0, if_true, nz, not_false_eq_true]
          exact key.2
        simp only [pb_e111, is47b, true_and]
        refine L102 hV W1 hS.1 hC hd h47 hlv K1 ?_
        intro h2 F2 W2 K2
        have R2 := LG_fr F2 (by omega) (by omega) R1
        have k47c : h2.2 47 = csr st (nI lv) ch le ac (nI L0.length) := (WB_low W2 (by omega) (by omega)).trans h47
        have g47 : ∀ x, (pb_set h2 47 x).2 47 = x := fun x => by rw [pb_set_get, if_pos rfl]
        have Rx2 := SRx_of W2 cl (LA_LG K2) R2
        have S2 := SHL_WB W2 hS
        have C2 := CT_low W2 hC
        have hc2 := WB_c W2
        rw [if_pos hr2]
        have F3 : fr (fun q => q = 47) h2 (pb_set h2 47 (csr st (nI (rdy V K T Lv ts lv 0)) ch le ac (nI L0.length))) := fr_set rfl (by rw [k47c]; rfl)
        obtain ⟨r8, w8⟩ := W2.2.2.2.2.2.2.2
        have Rx3 := SRx_fg Rx2 (fg_fr F3) (fun q w => by omega) ⟨r8, (F3.2.2 _ (by omega)).trans w8⟩
        have C3 := CT_fr F3 (fun q w => by omega) C2
        simp only [Option.toList_some, List.singleton_append, pb_e111, k47c, pb_g6, pb_o_some, g47, C3.1, pb_g9, true_and]
        refine L110 C3 (by omega) ?_
        intro h4 F4 C4
        have Rx4 := SRx_fg Rx3 (fg_fr F4) (fun q w => by omega) ⟨r8, (F4.2.2 _ (by omega)).trans ((F3.2.2 _ (by omega)).trans w8)⟩
        have k47d : h4.2 47 = csr st (nI (rdy V K T Lv ts lv 0)) ch le ac (nI L0.length) := (F4.2.2 _ (by omega)).trans (g47 _)
        have S4 := SHL_fr F4 (fun b w => by omega) (SHL_fr F3 (fun b w => by omega) S2)
        have key := L111_79 (Q := Q) (l1 := some (.int 1)) hV Rx4 (LA_fr F4 (by omega) (by omega) (LA_fr F3 (by omega) (by omega) K2)) S4 cm C4 k47d (fun h' F' A => hQ1 h' c1 N1 F' cm cl c0' (AG_trans (AG_SG W2.1) (AG_trans (AG_fr F3 (fun q w => Or.inr (Or.inr (Or.inr (Or.inl (by omega)))))) (AG_trans (AG_fr F4 (fun q w => Or.inr (Or.inr (Or.inr (Or.inl (by omega)))))) A))))
        simp only [pb_e111, k47d, pb_g6, pb_o_some] at key
        simp only [Option.toList_none, List.nil_append, pb_e111, k47d, pb_g6, pb_o_some]
        exact key
    · have ov1 : ¬ ov = 0 := by
        intro e
        rcases r3 with q | q
        · obtain ⟨_, b2, b3, b4, _⟩ := (id W1.2.2.1).choose_spec.choose_spec.choose_spec.1
          have := q.2.1
          obtain ⟨sz', ov', bb, ⟨x1, x2, x3, x4, _⟩, y1, y2, y3⟩ := W1.2.2.1
          rw [b1] at x1
          have xs : nI sz = nI sz' := by injection x1 with x1; injection x1 with _ x1; injection x1 with _ x1; injection x1 with _ x1; injection x1 with x1 _; injection x1
          rcases y3 with z | z
          · omega
          · have xo : ov = ov' := by injection x1 with x1; injection x1 with _ x1; injection x1 with _ x1; injection x1 with _ x1; injection x1 with _ x1; injection x1 with x1 _; injection x1
            rw [e, z.1] at xo
            exact absurd xo (by decide)
        · rw [q.1] at e; exact absurd e (by decide)
      have key := full (fun w => cl w.2)
      simp only [Option.toList_none, List.nil_append, pb_e111, n10, if_false, k47b, pb_g6, pb_o_some, k2b, pb_g7, true_and, h68, e68, Option.toList_some, List.singleton_append, not_true_eq_false, b1, pb_g0, ov1]
      exact key.2
  · have e68 : (if m < 300 then (0 : Int32) else 1) = 1 := if_neg cm
    have key := full (fun w => cm w.1)
    simp only [Option.toList_none, List.nil_append, pb_e111, n10, if_false, k47b, pb_g6, pb_o_some, k2b, pb_g7, true_and, h68, e68, Option.toList_some, List.singleton_append, not_false_eq_true, if_true]
    exact key
end FN2
