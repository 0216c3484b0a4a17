/-! Search.resolve -/
set_option maxRecDepth 100000 in
theorem sg_dec : ∀ v : Nat, v < 17 → 1 ≤ v → ¬ (1 : Int32) * Int32.ofInt (v : Int) < 0 ∧ (1 : Int32) * Int32.ofInt (-(v : Int)) < 0 ∧ (-1 : Int32) * Int32.ofInt (v : Int) < 0 ∧ ¬ (-1 : Int32) * Int32.ofInt (-(v : Int)) < 0 ∧ ¬ (0 : Int32) * Int32.ofInt (v : Int) < 0 ∧ ¬ (0 : Int32) * Int32.ofInt (-(v : Int)) < 0 := by decide
theorem opp_lt {z x : Int} {s : Int32} (h1 : 1 ≤ z.natAbs) (h2 : z.natAbs ≤ 16) (hs : (0 < x ∧ s = 1) ∨ (x < 0 ∧ s = -1) ∨ (x = 0 ∧ s = 0)) : s * lI z < 0 ↔ x * z < 0 := by
  obtain ⟨d1, d2, d3, d4, d5, d6⟩ := sg_dec z.natAbs (by omega) h1
  unfold lI
  rcases lI_cases h1 h2 with ⟨q, e⟩ | ⟨q, e⟩
  · have ez : Int32.ofInt z = Int32.ofInt (z.natAbs : Int) := congrArg _ e
    rw [ez]
    rcases hs with ⟨a, b⟩ | ⟨a, b⟩ | ⟨a, b⟩
    · subst b
      have : 0 < x * z := Int.mul_pos a q
      exact ⟨fun w => absurd w d1, fun w => by omega⟩
    · subst b
      have : x * z < 0 := Int.mul_neg_of_neg_of_pos a q
      exact ⟨fun _ => this, fun _ => d3⟩
    · subst b a
      rw [Int.zero_mul]
      exact ⟨fun w => absurd w d5, fun w => by omega⟩
  · have ez : Int32.ofInt z = Int32.ofInt (-(z.natAbs : Int)) := congrArg _ e
    rw [ez]
    rcases hs with ⟨a, b⟩ | ⟨a, b⟩ | ⟨a, b⟩
    · subst b
      have : x * z < 0 := Int.mul_neg_of_pos_of_neg a q
      exact ⟨fun _ => this, fun _ => d2⟩
    · subst b
      have : 0 < x * z := Int.mul_pos_of_neg_of_neg a q
      exact ⟨fun w => absurd w d4, fun w => by omega⟩
    · subst b a
      rw [Int.zero_mul]
      exact ⟨fun w => absurd w d6, fun w => by omega⟩
theorem abs_lI {z : Int} (h1 : 1 ≤ z.natAbs) (h2 : z.natAbs ≤ 16) : (if (0 : Int32) ≤ lI z then lI z else 0 - lI z) = nI z.natAbs := by
  have d := lit_dec z.natAbs (by omega) h1
  unfold lI
  rcases lI_cases h1 h2 with ⟨q, e⟩ | ⟨q, e⟩
  · rw [e]
    simp only [Int.natAbs_natCast]
    rw [if_pos d.1]; exact d.2.1
  · rw [e]
    simp only [Int.natAbs_neg, Int.natAbs_natCast]
    rw [if_neg d.2.2.1]; exact d.2.2.2.1
section RSO
variable {h : pb_H} {Q : Option Value → pb_H → Prop} {V c N m p ts lv : Nat} {P : List Nat} {T : Nat → Int} {Lv Rs : Nat → Nat} {tb fb lt : Int32} {st ch le ac pb : Int32} {F : Nat → Option Nat} {X : Nat → LN} {og : Nat → Nat}
theorem sgn_3 {V wi v : Nat} {f : Nat → Int32} {pl nl : Int32} {x : LN} (hF : LF V f pl nl wi x) (h1 : 1 ≤ v) (h2 : v ≤ V) : (0 < x.2 v ∧ sgn pl nl v = 1) ∨ (x.2 v < 0 ∧ sgn pl nl v = -1) ∨ (x.2 v = 0 ∧ sgn pl nl v = 0) := by
  obtain ⟨_, _, _, l4, l5, _⟩ := hF
  have k4 := l4 v h1
  have k5 := l5 v h1
  unfold sgn
  by_cases a : bt pl v = true
  · rw [if_pos a]; exact Or.inl ⟨(k4.mp a).2, rfl⟩
  · rw [if_neg a]
    by_cases b : bt nl v = true
    · rw [if_pos b]; exact Or.inr (Or.inl ⟨(k5.mp b).2, rfl⟩)
    · rw [if_neg b]
      exact Or.inr (Or.inr ⟨by
        have a1 : ¬ 0 < x.2 v := fun w => a (k4.mpr ⟨h2, w⟩)
        have b1 : ¬ x.2 v < 0 := fun w => b (k5.mpr ⟨h2, w⟩)
        omega, rfl⟩)
/-- READY as an int -/
theorem rdy_flag {r lv : Nat} (hr : r < 2 ^ 31) : ((if r < lv then nI r else (-1 : Int32)) = -1) ↔ ¬ r < lv := by
  by_cases c : r < lv
  · rw [if_pos c]
    constructor
    · intro e
      have := nI_pos' (n := r) hr
      rw [e] at this
      exact absurd this (by decide)
    · intro w; exact absurd c w
  · rw [if_neg c]
    exact ⟨fun _ => c, fun _ => rfl⟩
/-- the loop -/
theorem L108_70 {h1 : pb_H} {a k : Nat} {P0 : List Nat} {K0 : LN} {so : Int32} (hV : V ≤ 16) (hS : SHL h1 V m p F X og) (hC : CT h1 V ts T Lv Rs tb fb lt) (hT : TV V m X T Lv Rs lv ts) (h47 : h1.2 47 = csr st (nI lv) ch le ac pb)
    (hQ1 : ∀ h' c' N' K L', rsv V X T Lv Rs lv ts ts K0 P0 = some (K, L') → WB V c N h1 P h' c' N' L' → LA h' V 61 so K → LG h' V 63 → (lv = 0 ∨ rdy V K T Lv ts lv 0 < lv) → Q (some (.int 1)) h')
    (hQ0 : ∀ h' c' N' L', rsv V X T Lv Rs lv ts ts K0 P0 = none → WB V c N h1 P h' c' N' L' → LG h' V 61 → LG h' V 63 → Q (some (.int 0)) h') :
    ∀ n h' c' N' K L' l5, n ≤ ts → WB V c N h1 P h' c' N' L' → LA h' V 61 so K → LG h' V 63 → ln_br V K (asg T n) → rsv V X T Lv Rs lv ts ts K0 P0 = rsv V X T Lv Rs lv ts n K L' →
      pb_R 108 70 [some (.ref 47), some (.int (nI k)), some (.ref a), some (.int (if rdy V K T Lv ts lv 0 < lv then 1 else 0)), some (.int (nI n - 1)), l5] [] [] h' Q := by
  have hlv : lv ≤ 16 := by
    have := TV_lv hT
    have := hT.1
    omega
  have n10 : ¬ (1 : Int32) = 0 := by decide
  have ready : ∀ n h' c' N' K L' l5, n ≤ ts → WB V c N h1 P h' c' N' L' → LA h' V 61 so K → LG h' V 63 → rsv V X T Lv Rs lv ts ts K0 P0 = rsv V X T Lv Rs lv ts n K L' → rdy V K T Lv ts lv 0 < lv → pb_R 108 70 [some (.ref 47), some (.int (nI k)), some (.ref a), some (.int 1), some (.int (nI n - 1)), l5] [] [] h' Q := by
    intro n h' c' N' K L' l5 hn W K' R' hr rd
    have e : rsv V X T Lv Rs lv ts n K L' = some (K, L') := by
      cases n with
      | zero => rfl
      | succ n => show (if _ then _ else _) = _; rw [if_pos rd]
    have key := hQ1 h' c' N' K L' (hr.trans e) W K' R' (Or.inr rd)
    rw [pb_q108_70]
    by_cases cn : nI n - 1 < 0
    · simp only [pb_e108, cn, if_true, n10, not_false_eq_true, nb1, true_and]
      exact key
    · simp only [pb_e108, cn, if_false, n10, not_false_eq_true, if_true, nb1, true_and]
      exact key
  intro n
  induction n with
  | zero =>
    intro h' c' N' K L' l5 hn W K' R' hb hr
    by_cases rd : rdy V K T Lv ts lv 0 < lv
    · rw [if_pos rd]
      exact ready 0 h' c' N' K L' l5 hn W K' R' hr rd
    · rw [if_neg rd]
      have lv0 : lv = 0 := by
        apply Classical.byContradiction
        intro w
        exact br0_nq hT hb 0 (rdy_no (f := lv) (j := 0) (by omega) 0 (by omega) (by omega))
      subst lv0
      have k47 : h'.2 47 = csr st (nI 0) ch le ac pb := (WB_low W (by omega) (by omega)).trans h47
      have cn : nI 0 - 1 < 0 := by decide
      have i0 : nI 0 = 0 := rfl
      have key := hQ1 h' c' N' K L' hr W K' R' (Or.inl rfl)
      rw [pb_q108_70]
      simp only [pb_e108, cn, if_true, not_true_eq_false, if_false, k47, pb_g6, pb_o_some, i0, nb1, true_and]
      exact key
  | succ n ih =>
    intro h' c' N' K L' l5 hn W K' R' hb hr
    by_cases rd : rdy V K T Lv ts lv 0 < lv
    · rw [if_pos rd]
      exact ready (n + 1) h' c' N' K L' l5 hn W K' R' hr rd
    · rw [if_neg rd]
      have en : nI (n + 1) - 1 = nI n := nI_pred n
      have en2 : nI n + -1 = nI n - 1 := by rw [sub1]
      have cn : ¬ nI n < 0 := i32_nlt.mpr (nI_pos' (by have := hT.1; omega))
      have k47 : h'.2 47 = csr st (nI lv) ch le ac pb := (WB_low W (by omega) (by omega)).trans h47
      have C' := CT_low W hC
      obtain ⟨t1, t2, t3, ⟨f1, f2, f3, s1, s2, s3, s4⟩, t5, t6⟩ := id C'
      have hg := pb_ai_eq (k := 0) (n := V) (j := n) (f := f1) (Or.inl rfl) (by omega) (by omega)
      rw [(s4 n (by omega)).1] at hg
      obtain ⟨b1, b2⟩ := t5 n (by omega)
      have ab := abs_lI b1 (by omega)
      obtain ⟨f, pl, nl, wi, ca, cf, co, d1, d2, d3, d4⟩ := id K'
      have h60 := fun Q : Option Value → pb_H → Prop => m60 (Q := Q) (v := (T n).natAbs) d1 b1 (by omega)
      have op := opp_lt (z := T n) b1 (by omega) (sgn_3 d3 b1 b2)
      have hRs : Rs n ≠ 0 := fun e => by
        obtain ⟨q1, q2, q3⟩ := choice_nq hT (by omega) e hb
        exact q3 (rdy_no (f := lv) (j := 0) (by omega) (Lv n - 1) (by omega) (by omega))
      have es : rsv V X T Lv Rs lv ts (n + 1) K L' = match lkR V X T Rs K L' n with
          | none => none
          | some r => rsv V X T Lv Rs lv ts n r.1 r.2 := by
        show (if _ then _ else _) = _
        rw [if_neg rd]
        rfl
      rw [pb_q108_70, en]
      by_cases co2 : K.2 (T n).natAbs * T n < 0
      · have nb := op.mpr co2
        have is47 : pb_is0 (h'.2 47) 6 = true := by rw [k47]; rfl
        obtain ⟨x1, x2, x3⟩ := hT.2.2.2.2.2.1 n (by omega)
        have fc := (x3 hRs).1
        have hKv : K.2 (T n).natAbs ≠ 0 := fun e => by rw [e, Int.zero_mul] at co2; omega
        simp only [pb_e108, cn, if_false, not_true_eq_false, k47, pb_g6, pb_o_some, t1, pb_g9, s1, hg, ab, LA_is K', true_and, h60, Option.toList_some, List.singleton_append, nb, if_true]
        refine L106 (k := Rs n) hV W hS hC hT.2.2.1 h47 (by omega) b1 b2 rfl (by omega) x1 fc.2.1 R' ?_
        intro h2 c2 N2 so2 W2 P2 L2
        have k47b : h2.2 47 = csr st (nI lv) ch le ac pb := (WB_low W2 (by omega) (by omega)).trans h47
        have is47b : pb_is0 (h2.2 47) 6 = true := by rw [k47b]; rfl
        have K2 := LA_kpl P2 (by omega) (by omega) (by omega) K'
        simp only [Option.toList_some, List.singleton_append, pb_e108, n10, if_false, is47b, true_and]
        refine L107 hV W2 h47 b1 b2 hKv K2 L2 ?_ ?_
        · intro h3 c3 N3 f1' f2' W3 K3 R3
          have elk : lkR V X T Rs K L' n = some (ln_cut (ln_sum V K (tmx (rsn V (X (Rs n)) (asg T n) (T n).natAbs) (K.2 (T n).natAbs).natAbs)), L' ++ rst_t V (Rs n) (X (Rs n)) (asg T n) (T n).natAbs ++ (if (K.2 (T n).natAbs).natAbs = 1 then [] else [32] ++ dec (K.2 (T n).natAbs).natAbs ++ [32, 42]) ++ [32, 43, 32, 115]) := by
            unfold lkR
            rw [if_pos ⟨co2, hRs⟩, if_pos (by
              rcases f1' with w | w
              · exact Or.inl w
              · exact Or.inr (fitb_1 w)), if_pos (fitb_1 f2')]
          have hb2 := lkR_br hT (by omega) hRs hb elk
          rw [es, elk] at hr
          have k47c : h3.2 47 = csr st (nI lv) ch le ac pb := (WB_low W3 (by omega) (by omega)).trans h47
          have is47c : pb_is0 (h3.2 47) 6 = true := by rw [k47c]; rfl
          simp only [Option.toList_some, List.singleton_append, pb_e108, n10, not_false_eq_true, if_true, is47c, true_and]
          refine L102 hV W3 hS.1 hC hT.2.2.1 h47 hlv K3 ?_
          intro h4 F4 W4 K4
          have R4 := LG_fr F4 (by omega) (by omega) R3
          have hrl := rdy_le V (ln_cut (ln_sum V K (tmx (rsn V (X (Rs n)) (asg T n) (T n).natAbs) (K.2 (T n).natAbs).natAbs))) T Lv ts lv 0
          have fl := rdy_flag (r := rdy V (ln_cut (ln_sum V K (tmx (rsn V (X (Rs n)) (asg T n) (T n).natAbs) (K.2 (T n).natAbs).natAbs))) T Lv ts lv 0) (lv := lv) (by omega)
          have key := ih h4 c3 N3 _ _ (some (.int (nI (T n).natAbs))) (by omega) W4 K4 R4 hb2 hr
          by_cases rd2 : rdy V (ln_cut (ln_sum V K (tmx (rsn V (X (Rs n)) (asg T n) (T n).natAbs) (K.2 (T n).natAbs).natAbs))) T Lv ts lv 0 < lv
          · have nf : ¬ _ := fun w => fl.mp w rd2
            rw [if_pos rd2] at key
            simp only [Option.toList_some, List.singleton_append, pb_e108, nf, if_false, en2]
            exact key
          · have nf := fl.mpr rd2
            rw [if_neg rd2] at key
            simp only [Option.toList_some, List.singleton_append, pb_e108, nf, if_true, en2]
            exact key
        · intro h3 c3 N3 L3 hno W3 K3 R3
          have elk : lkR V X T Rs K L' n = none := by
            unfold lkR
            rw [if_pos ⟨co2, hRs⟩]
            by_cases w1 : (K.2 (T n).natAbs).natAbs = 1 ∨ ln_fit V (ln_tm (rsn V (X (Rs n)) (asg T n) (T n).natAbs) (K.2 (T n).natAbs).natAbs)
            · rw [if_pos (by
                rcases w1 with w | w
                · exact Or.inl w
                · exact Or.inr (fitb_1 w)), if_neg (fitb_0 (fun w => hno ⟨w1, w⟩))]
            · rw [if_neg (fun w => by
                rcases w with w | w
                · exact w1 (Or.inl w)
                · exact fitb_0 (fun z => w1 (Or.inr z)) w)]
          rw [es, elk] at hr
          simp only [Option.toList_some, List.singleton_append, pb_e108, not_true_eq_false, if_false, nb0, true_and]
          exact hQ0 h3 c3 N3 L3 hr W3 K3 R3
      · have nb : ¬ sgn pl nl (T n).natAbs * lI (T n) < 0 := fun w => co2 (op.mp w)
        have elk : lkR V X T Rs K L' n = some (K, L') := by
          unfold lkR
          rw [if_neg (fun w => co2 w.1)]
        have hb2 := lkR_br hT (by omega) hRs hb elk
        rw [es, elk] at hr
        have key := ih h' c' N' K L' (some (.int (nI (T n).natAbs))) (by omega) W K' R' hb2 hr
        rw [if_neg rd] at key
        simp only [pb_e108, cn, if_false, not_true_eq_false, k47, pb_g6, pb_o_some, t1, pb_g9, s1, hg, ab, LA_is K', true_and, h60, Option.toList_some, List.singleton_append, nb, en2]
        exact key
end RSO
