/-! Checker.follows -/
section FL2
variable {h : pb_H} {Q : Option Value → pb_H → Prop} {V c N n m p hg st : Nat} {b : Nat → Nat} {s : Nat → Int32} {F : Nat → Option Nat} {X S : Nat → LN} {og : Nat → Nat}
theorem SHL_look {h' : pb_H} {k a : Nat} {r : Nat → Int32} (hS : SHL h V m p F X og) (k1 : 1 ≤ k) (k2 : k ≤ m) (ea : F (k - 1) = some a) (G : fr (fun b => b = a ∨ b = 3) h h') (L : LA h' V a (nI (og k)) (X k)) (e3 : h'.2 3 = ci 8 r) : SHL h' V m p F X og := by
  obtain ⟨a1, _, a3, a4, a5, a6, a7⟩ := hS
  have la := a6 (k - 1) a (by omega) ea
  have l83 := la.1
  have ne : ∀ i a', i < 300 → i ≠ k - 1 → F i = some a' → a' ≠ a ∧ a' + 1 ≠ a ∧ 83 ≤ a' := fun i a' i1 i2 i3 => by
    have l := a6 i a' i1 i3
    exact ⟨fun e => i2 (a7 i (k - 1) a' i1 (by omega) i3 (by rw [e]; exact ea)), fun e => LG_ne l.2.2 la.2.2 e.symm, l.1⟩
  refine ⟨(G.2.2 2 (by omega)).trans a1, ⟨r, e3⟩, (G.2.2 4 (by omega)).trans a3, a4, fun j j1 j2 => ?_, fun i a' i1 i2 => ?_, a7⟩
  · by_cases e : j = k
    · subst e
      exact ⟨a, ea, L⟩
    · obtain ⟨a', w1, w2⟩ := a5 j j1 j2
      obtain ⟨n1, n2, n3⟩ := ne (j - 1) a' (by omega) (by omega) w1
      exact ⟨a', w1, LA_fr G (by omega) (by omega) w2⟩
  · by_cases e : i = k - 1
    · subst e
      rw [ea] at i2
      injection i2 with i2
      subst i2
      exact ⟨l83, by rw [G.1]; exact la.2.1, LA_LG L⟩
    · obtain ⟨n1, n2, n3⟩ := ne i a' i1 e i2
      exact lok_fg (fg_fr G) (by omega) (by omega) (a6 i a' i1 i2)
theorem KB_look {h' : pb_H} {k a : Nat} {r : Nat → Int32} (K : KB h V c N n b s m p F X og) (k1 : 1 ≤ k) (k2 : k ≤ m) (ea : F (k - 1) = some a) (G : fr (fun b => b = a ∨ b = 3) h h') (L : LA h' V a (nI (og k)) (X k)) (e3 : h'.2 3 = ci 8 r) : KB h' V c N n b s m p F X og ∧ CHX V h F h' F ∧ 83 ≤ a := by
  have S' := SHL_look K.2.2.2 k1 k2 ea G L e3
  obtain ⟨⟨fs, g, rel, C⟩, q2, q3, q4⟩ := K
  have la := q4.2.2.2.2.2.1 (k - 1) a (by have := q4.2.2.2.1; omega) ea
  have l83 := la.1
  have hc8 := C.2.2.2.2
  have hca := c_line C la.2.2
  refine ⟨⟨⟨fs, g, rel, ⟨(G.2.2 5 (by omega)).trans C.1.1, (G.2.2 c (by omega)).trans C.1.2.1, C.1.2.2⟩, (G.2.2 6 (by omega)).trans C.2.1, (G.2.2 7 (by omega)).trans C.2.2.1, (G.2.2 8 (by omega)).trans C.2.2.2.1, hc8⟩, q2, CKs_eq (fun x x1 x2 => G.2.2 x (by omega)) q3, S'⟩, CHX_fr G (fun q w => ?_), l83⟩
  rcases w with w | w
  · exact Or.inr (Or.inr ⟨k - 1, a, by have := q4.2.2.2.1; omega, ea, Or.inl w⟩)
  · exact Or.inl (by omega)
/-- where follows stands -/
def FW (h0 : pb_H) (V c N n : Nat) (b : Nat → Nat) (s : Nat → Int32) (m p : Nat) (F : Nat → Option Nat) (X : Nat → LN) (og : Nat → Nat) (hg : Nat) (so : Int32) (y : LN) (h : pb_H) : Prop := CHX V h0 F h F ∧ KB h V c N n b s m p F X og ∧ h.2 13 = cck hg ∧ LA h V 23 so y ∧ ∃ so', LA h V 21 so' (ln_op V y)
/-- the LINE of number k, 0 being the OPPOSITE -/
theorem FW_line {h0 : pb_H} {so : Int32} {y : LN} {k : Nat} {t fl rd bf : Int32} {l7 l8 : Option Value} (hW : FW h0 V c N n b s m p F X og hg so y h) (hk : k ≤ m) : ∃ a sa r, LA h V a sa (lnx V X y k) ∧ h.2 3 = ci 8 r ∧ a ≠ 2 ∧ (pb_R 83 35 [some (.ref 13), some (.ref 23), some (.int t), some (.int fl), some (.int rd), some (.int bf), some (.int (nI k)), l7, l8] [] [] h Q ↔ pb_R 83 68 [some (.ref 13), some (.ref 23), some (.int t), some (.int fl), some (.int rd), some (.int bf), some (.int (nI k)), l7, l8] [] [.ref a] h Q) ∧ ∀ h2 r', fr (fun b => b = a ∨ b = 3) h h2 → LA h2 V a sa (lnx V X y k) → h2.2 3 = ci 8 r' → FW h0 V c N n b s m p F X og hg so y h2 := by
  obtain ⟨w1, K, w3, w4, so', w5⟩ := hW
  obtain ⟨u1, ⟨r, u2⟩, u3, u4, u5, u6, u7⟩ := id K.2.2.2
  have c1 : ¬ nI m < nI k := nI_nlt hk (by omega)
  by_cases e : k = 0
  · have ex : lnx V X y k = ln_op V y := by unfold lnx; rw [if_pos e]
    rw [ex]
    have c0 : nI k = 0 := by rw [e]; rfl
    have c1' : ¬ nI m < 0 := c0 ▸ c1
    refine ⟨21, so', r, w5, u2, by omega, ?_, fun h2 r' G L e3 => ?_⟩
    · rw [c0, pb_q83_35]
      simp only [pb_e83, w3, pb_g1, pb_o_some, u1, pb_g7, c1', if_false, not_true_eq_false]
    · have G' : fr (fun b => b = 21 ∨ b = 3) h h2 := G
      have K2 : KB h2 V c N n b s m p F X og := by
        obtain ⟨⟨fs, g, rel, C⟩, q2, q3, q4⟩ := K
        have hc8 := C.2.2.2.2
        refine ⟨⟨fs, g, rel, ⟨(G.2.2 5 (by omega)).trans C.1.1, (G.2.2 c (by omega)).trans C.1.2.1, C.1.2.2⟩, (G.2.2 6 (by omega)).trans C.2.1, (G.2.2 7 (by omega)).trans C.2.2.1, (G.2.2 8 (by omega)).trans C.2.2.2.1, hc8⟩, q2, ?_, ?_⟩
        · obtain ⟨⟨f, a1, a2⟩, a3, ⟨g', a4⟩, ⟨q, a5⟩, a6, a7⟩ := q3
          exact ⟨⟨f, (G.2.2 14 (by omega)).trans a1, a2⟩, DG_fr G (fun x hx => by omega) a3, ⟨g', (G.2.2 19 (by omega)).trans a4⟩, ⟨q, (G.2.2 20 (by omega)).trans a5⟩, LA_LG L, fun i hi => LG_fr G (by omega) (by omega) (a7 i hi)⟩
        · refine ⟨(G.2.2 2 (by omega)).trans u1, ⟨r', e3⟩, (G.2.2 4 (by omega)).trans u3, u4, fun j j1 j2 => ?_, fun i a i1 i2 => ?_, u7⟩
          · obtain ⟨a, q1, q2⟩ := u5 j j1 j2
            have := (u6 (j - 1) a (by omega) q1).1
            exact ⟨a, q1, LA_fr G (by omega) (by omega) q2⟩
          · have l := u6 i a i1 i2
            have := l.1
            exact lok_fg (fg_fr G) (by omega) (by omega) l
      exact ⟨CHX_trans w1 (CHX_fr G (fun q w => by
        rcases w with w | w
        · exact Or.inr (Or.inl (by omega))
        · exact Or.inl (by omega))), K2, (G.2.2 13 (by omega)).trans w3, LA_fr G (by omega) (by omega) w4, so', L⟩
  · have ex : lnx V X y k = X k := by unfold lnx; rw [if_neg e]
    rw [ex]
    obtain ⟨a, ea, La⟩ := u5 k (by omega) hk
    have h46 := fun Q : Option Value → pb_H → Prop => m46_in (Q := Q) u1 u3 u4 (by omega : 1 ≤ k) hk ea
    have c0 : ¬ nI k = 0 := nI_ne0 (by omega) (by omega)
    have l83 := (u6 (k - 1) a (by omega) ea).1
    refine ⟨a, nI (og k), r, La, u2, by omega, ?_, fun h2 r' G L e3 => ?_⟩
    · rw [pb_q83_35]
      simp only [pb_e83, w3, pb_g1, pb_o_some, u1, pb_g7, c1, if_false, c0, not_false_eq_true, if_true, true_and, h46, Option.toList_some, List.singleton_append]
    · obtain ⟨K2, C2, _⟩ := KB_look K (by omega) hk ea G L e3
      exact ⟨CHX_trans w1 C2, K2, (G.2.2 13 (by omega)).trans w3, LA_fr G (by omega) (by omega) w4, so', LA_fr G (by omega) (by omega) w5⟩
/-- one round over the LINES -/
theorem L83_35 {so : Int32} {y : LN} {t0 fl0 rd : Int32} {A0 : AS} (hV : V ≤ 16) (hm : m ≤ 300)
    (hE1 : ∀ h2, FW h V c N n b s m p F X og hg so y h2 → flw V m X y → Q (some (.int 1)) h2)
    (hE : ∀ h2 t2 fl2 A2 l6 l7 l8, FW h V c N n b s m p F X og hg so y h2 → AB V A2 t2 fl2 → (∀ B, clo V m X y B → subA V A2 B) → subA V A0 A2 → ((t2 = t0 ∧ fl2 = fl0 ∧ ∀ k, k ≤ m → quiet V (lnx V X y k) A2) ∨ ∃ v, 1 ≤ v ∧ v ≤ V ∧ A0 v = none ∧ A2 v ≠ none) → pb_R 83 136 [some (.ref 13), some (.ref 23), some (.int t2), some (.int fl2), some (.int rd), some (.int (t0 ||| fl0)), l6, l7, l8] [] [] h2 Q) :
    ∀ r k h' t fl A l7 l8, k + r = m + 1 → FW h V c N n b s m p F X og hg so y h' → AB V A t fl → (∀ B, clo V m X y B → subA V A B) → subA V A0 A → ((t = t0 ∧ fl = fl0 ∧ ∀ j, j < k → quiet V (lnx V X y j) A) ∨ ∃ v, 1 ≤ v ∧ v ≤ V ∧ A0 v = none ∧ A v ≠ none) → pb_R 83 35 [some (.ref 13), some (.ref 23), some (.int t), some (.int fl), some (.int rd), some (.int (t0 ||| fl0)), some (.int (nI k)), l7, l8] [] [] h' Q := by
  intro r
  induction r with
  | zero =>
    intro k h' t fl A l7 l8 hk hW hA hB hs hor
    obtain rfl : k = m + 1 := by omega
    have c1 : nI m < nI (m + 1) := nI_lt (by omega) (by omega)
    have key := hE h' t fl A (some (.int (nI (m + 1)))) l7 l8 hW hA hB hs (by
      rcases hor with ⟨q1, q2, q3⟩ | q
      · exact Or.inl ⟨q1, q2, fun j hj => q3 j (by omega)⟩
      · exact Or.inr q)
    simp only [pb_e83] at key
    rw [pb_q83_35]
    simp only [pb_e83, hW.2.2.1, pb_g1, pb_o_some, hW.2.1.2.2.2.1, pb_g7, c1, if_true]
    exact key
  | succ r ih =>
    intro k h' t fl A l7 l8 hk hW hA hB hs hor
    obtain ⟨a, sa, rr, La, e3, a2, hgo, hup⟩ := FW_line (Q := Q) (t := t) (fl := fl) (rd := rd) (bf := t0 ||| fl0) (l7 := l7) (l8 := l8) hW (show k ≤ m by omega)
    rw [hgo]
    have ha1 : 3 ≠ a + 1 := by omega
    simp only [pb_e83, hW.2.2.1, pb_g1, pb_o_some, hW.2.1.2.2.2.1, pb_g7, LA_is La, true_and]
    refine L71 hV La hA e3 (by omega) (by omega) ha1 ?_
    intro h2 z r2 G2 L2 e32 hz
    have hW2 := hup h2 r2 G2 L2 e32
    by_cases cb : ln_br V (lnx V X y k) A
    · have hz1 := (LK_br hV hz).mpr cb
      subst hz1
      simp only [Option.toList_some, List.singleton_append, pb_e83, not_true_eq_false, if_false, nb1, true_and]
      refine hE1 h2 hW2 (fun ⟨B, hB'⟩ => ?_)
      exact (fc_in (hB' k (by omega)) (hB B hB')).1 cb
    · have hz1 : ¬ z = -1 := fun e => cb ((LK_br hV hz).mp e)
      have hz2 : ∀ v, 1 ≤ v → (bt z v = true ↔ v ≤ V ∧ ln_fc V (lnx V X y k) A v) := by
        rcases hz with w | w
        · exact absurd w.1 cb
        · exact w.2
      by_cases c0 : z = 0
      · have hq : quiet V (lnx V X y k) A := ⟨cb, fun v v1 v2 w => by
          have := (hz2 v v1).mpr ⟨v2, w⟩
          rw [c0, bt_zero] at this
          cases this⟩
        subst c0
        simp only [Option.toList_some, List.singleton_append, pb_e83, hz1, not_false_eq_true, if_true, nI_1]
        refine ih (k + 1) h2 t fl A _ _ (by omega) hW2 hA hB hs ?_
        rcases hor with ⟨q1, q2, q3⟩ | q
        · refine Or.inl ⟨q1, q2, fun j hj => ?_⟩
          by_cases e : j = k
          · subst e; exact hq
          · exact q3 j (by omega)
        · exact Or.inr q
      · obtain ⟨f1, p1, n1, wi1, ca1, cf1, co1, d1, d2, d3, d4⟩ := id L2
        simp only [Option.toList_some, List.singleton_append, pb_e83, hz1, not_false_eq_true, if_true, c0, if_false, d1, pb_g4, pb_o_some, nI_1]
        have hsub := fcA_sub hz2
        refine ih (k + 1) h2 _ _ (fcA (lnx V X y k) A z) _ _ (by omega) hW2 (fcA_AB hz2 hA d3.2.2.2.1 d3.2.2.2.2.1) (fun B hB' => fcA_in hz2 (hB' k (by omega)) (hB B hB')) (fun v v1 v2 ne => ?_) (Or.inr ?_)
        · have e1 := hs v v1 v2 ne
          rw [← e1]
          exact hsub v v1 v2 (by rw [e1]; exact ne)
        · have : ∃ v, 1 ≤ v ∧ bt z v = true := by
            apply Classical.byContradiction
            intro hno
            exact c0 (zero_bits.mpr (fun v v1 => by
              cases e : bt z v
              · rfl
              · exact absurd ⟨v, v1, e⟩ hno))
          obtain ⟨v, v1, v2⟩ := this
          obtain ⟨v3, v4⟩ := (hz2 v v1).mp v2
          refine ⟨v, v1, v3, ?_, ?_⟩
          · apply Classical.byContradiction
            intro ne
            have := hs v v1 v3 ne
            rw [v4.1] at this
            exact ne this.symm
          · unfold fcA
            rw [if_pos v2]
            exact fun e => by cases e
theorem L83_15 {so : Int32} {y : LN} (hV : V ≤ 16) (hm : m ≤ 300)
    (hE1 : ∀ h2, FW h V c N n b s m p F X og hg so y h2 → flw V m X y → Q (some (.int 1)) h2)
    (hE0 : ∀ h2, FW h V c N n b s m p F X og hg so y h2 → ¬ flw V m X y → Q (some (.int 0)) h2) :
    ∀ r rd h' t fl A l5 l6 l7 l8, rd + r = V + 1 → cnt A V + rd ≤ V → FW h V c N n b s m p F X og hg so y h' → AB V A t fl → (∀ B, clo V m X y B → subA V A B) → pb_R 83 15 [some (.ref 13), some (.ref 23), some (.int t), some (.int fl), some (.int (nI rd)), l5, l6, l7, l8] [] [] h' Q := by
  intro r
  induction r with
  | zero =>
    intro rd h' t fl A l5 l6 l7 l8 hr hc
    omega
  | succ r ih =>
    intro rd h' t fl A l5 l6 l7 l8 hr hc hW hA hB
    have c1 : ¬ nI V < nI rd := nI_nlt (by omega) (by omega)
    rw [pb_q83_15]
    simp only [pb_e83, hW.2.2.1, pb_g1, pb_o_some, hW.2.1.2.2.2.1, pb_g7, c1, if_false]
    have i0 : (0 : Int32) = nI 0 := rfl
    rw [i0]
    refine L83_35 (A0 := A) hV hm hE1 ?_ (m + 1) 0 h' t fl A l7 l8 (by omega) hW hA hB (subA_refl V A) (Or.inl ⟨rfl, rfl, fun j hj => by omega⟩)
    intro h2 t2 fl2 A2 l6' l7' l8' hW2 hA2 hB2 hs2 hor
    rcases hor with ⟨q1, q2, q3⟩ | ⟨v, v1, v2, v3, v4⟩
    · subst q1; subst q2
      simp only [pb_e83, not_true_eq_false, if_false, nb0, true_and]
      exact hE0 h2 hW2 (fun w => w ⟨A2, q3⟩)
    · have ne : ¬ t2 ||| fl2 = t ||| fl := fun e => by
        have b1 : bt (t2 ||| fl2) v = bt (t ||| fl) v := by rw [e]
        rw [bt_or2, bt_or2] at b1
        obtain ⟨a1, a2⟩ := hA v v1 v2
        obtain ⟨a3, a4⟩ := hA2 v v1 v2
        have t1 : bt t v = false := by
          cases e : bt t v
          · rfl
          · have := a1.mp e
            rw [v3] at this
            cases this
        have t2' : bt fl v = false := by
          cases e : bt fl v
          · rfl
          · have := a2.mp e
            rw [v3] at this
            cases this
        rw [t1, t2'] at b1
        cases hA2v : A2 v with
        | none => exact v4 hA2v
        | some w =>
          cases w
          · rw [a4.mpr hA2v, Bool.or_true] at b1; cases b1
          · rw [a3.mpr hA2v, Bool.true_or] at b1; cases b1
      have := cnt_lt hs2 v1 v2 v3 v4
      simp only [pb_e83, ne, not_false_eq_true, if_true, nI_1]
      exact ih (rd + 1) h2 t2 fl2 A2 _ _ _ _ (by omega) (by omega) hW2 hA2 hB2
/-- Checker.follows -/
theorem L83 {so : Int32} {y : LN} (hV : V ≤ 16) (K : KB h V c N n b s m p F X og) (h13 : h.2 13 = cck hg) (hL : LA h V 23 so y) (hy : ∀ j, j ≤ V → 1 + sm (fun v => (y.2 v).natAbs) j < 4294967296 ^ 8)
    (hQ1 : ∀ h', flw V m X y → CHX V h F h' F → KB h' V c N n b s m p F X og → h'.2 13 = cck hg → LA h' V 23 so y → Q (some (.int 1)) h')
    (hQ0 : ∀ h', ¬ flw V m X y → CHX V h F h' F → KB h' V c N n b s m p F X og → h'.2 13 = cck hg → LA h' V 23 so y → Q (some (.int 0)) h') : pb_call 83 [.ref 13, .ref 23] h Q := by
  have h21 := K.2.2.1.2.2.2.2.1
  rw [pb_c83]
  simp only [pb_e83, h13, pb_g1, pb_o_some, LG_is h21, true_and]
  refine L82 hV (by omega) h21 hL hy ?_
  intro h1 so1 G L1
  have K1 : KB h1 V c N n b s m p F X og := KB_fr G (fun b w => by omega) (by
    obtain ⟨⟨f, a1, a2⟩, a3, ⟨g', a4⟩, ⟨q, a5⟩, a6, a7⟩ := K.2.2.1
    exact ⟨⟨f, (G.2.2 14 (by omega)).trans a1, a2⟩, DG_fr G (fun x hx => by omega) a3, ⟨g', (G.2.2 19 (by omega)).trans a4⟩, ⟨q, (G.2.2 20 (by omega)).trans a5⟩, LA_LG L1, fun i hi => LG_fr G (by omega) (by omega) (a7 i hi)⟩) K
  have hW : FW h V c N n b s m p F X og hg so y h1 := ⟨CHX_fr G (fun q w => Or.inr (Or.inl (by omega))), K1, (G.2.2 13 (by omega)).trans h13, LA_fr G (by omega) (by omega) hL, so1, L1⟩
  simp only [Option.toList_none, List.nil_append, pb_e83]
  have i0 : (0 : Int32) = nI 0 := rfl
  have c0 := cnt_le (fun _ => none) V
  refine L83_15 (h := h) hV K.2.2.2.2.2.2.1 (fun h2 W w => hQ1 h2 w W.1 W.2.1 W.2.2.1 W.2.2.2.1) (fun h2 W w => hQ0 h2 w W.1 W.2.1 W.2.2.1 W.2.2.2.1) (V + 1) 0 h1 0 0 (fun _ => none) _ _ _ _ (by omega) (by omega) hW (AB_0 V) (fun B _ v _ _ ne => absurd rfl ne)
end FL2
