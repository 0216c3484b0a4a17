/-! The reference's terms and bound: whole -/
section RC4
variable {h : pb_H} {Q : Option Value → pb_H → Prop} {V n st : Nat} {b : Nat → Nat} {s sg : Nat → Int32} {G : Nat → Nat}
/-- numbers of rows 316, 317 and the number to work in -/
theorem U187_loop (hV : V ≤ 16) : ∀ fu i st t h' s' G' l1, fu + i = n + 1 → i ≤ st → fr rS h h' → RZ h' V n b s' G' sg → RSt b n st s' → kp tkS s s' → NF abS G sg G' sg → RA V G' t (2 * i) → s' 19 = 0 →
    (∀ h2 s2 G2 st1 t1, sTms b n V fu st t = .inr (st1, t1) → fr rS h h2 → RZ h2 V n b s2 G2 sg → RSt b n st1 s2 → kp tkS s s2 → NF abS G sg G2 sg → RA V G2 t1 (2 * (n + 1)) → s2 19 = 0 → Q (some (.int 1)) h2) →
    (∀ h2 s2 G2 e, sTms b n V fu st t = .inl e → fr rS h h2 → RZ h2 V n b s2 G2 sg → kp ftS s s2 → NF abS G sg G2 sg → FR s2 e → s2 19 = 0 → Q (some (.int 0)) h2) →
    pb_R 187 14 [some (.ref 65), l1] [] [] h' Q := by
  intro fu
  induction fu with
  | zero =>
    intro i st t h' s' G' l1 hf hi F Z S
    have := S.2.2.2.2
    omega
  | succ fu ih =>
    intro i st t h' s' G' l1 hf hi F Z S K N A z19 hE hQ0
    have hsn := S.2.2.2.2
    have hn : n ≤ 4000 := Z.2.2.2.1
    rw [U187_14 Z S]
    by_cases ct : bTm (tkk b n st)
    · rw [if_pos ct]
      have hT : sTms b n V (fu + 1) st t = (match sFac b n st with
        | .inl e => .inl e
        | .inr p => match sLit b n V p.1 p.2 t with
          | .inl e => .inl e
          | .inr q => sTms b n V fu q.1 q.2) := by
        show (if _ then _ else _) = _
        rw [if_pos ct]
        rfl
      have k2 : s' 15 = 2 ↔ kR (tkk b n st) = 2 := kR_eq S (m := 2) (by omega)
      rw [kR_2] at k2
      have i10 : ¬ (1 : Int32) = 0 := by decide
      have hrest : ∀ h3 s3 G3 st3 (mn : Bool) (N3 : Nat) l1, sFac b n st = .inr (st3, if mn = true then - (N3 : Int) else N3) → fr rS h h3 → RZ h3 V n b s3 G3 sg → RSt b n st3 s3 → kp tkS s s3 → NF abS G sg G3 sg → RA V G3 t (2 * i) → rv G3 5442 = N3 → N3 ≤ 10 ^ 60 → s3 19 = (if mn = true then 1 else 0) → pb_R 187 79 [some (.ref 65), l1] [] [] h3 Q := by
        intro h3 s3 G3 st3 mn N3 l1 hF F3 Z3 S3 K3 Nf3 A3 v3 b3 c19
        rw [hF] at hT
        simp only at hT
        obtain ⟨w1, w2, _⟩ := sFac_le hsn hF
        refine U187_79 (mn := mn) Z3 S3 hV A3 (by omega) v3 b3 c19 ?_ ?_
        · intro h4 s4 G4 st4 t4 l4 hL F4 Z4 S4 K4 N4 A4 y19
          obtain ⟨m1, m2⟩ := sLit_le w1 hL
          rw [hL] at hT
          simp only at hT
          refine ih (i + 1) st4 t4 h4 s4 G4 l4 (by omega) (by omega) (fr_trans F3 F4) Z4 S4 (kp_trans K3 K4) (NF_trans Nf3 N4) (by rw [show 2 * (i + 1) = 2 * i + 2 by omega]; exact A4) y19 ?_ ?_
          · intro h5 s5 G5 st5 t5 hh
            exact hE h5 s5 G5 st5 t5 (by rw [hT]; exact hh)
          · intro h5 s5 G5 e hh
            exact hQ0 h5 s5 G5 e (by rw [hT]; exact hh)
        · intro h4 s4 e hL F4 Z4 K4 ft y19
          rw [hL] at hT
          exact hQ0 h4 s4 G3 e hT (fr_trans F3 F4) Z4 (kp_trans (kp_mono (fun k q => by omega) K3) K4) Nf3 ft y19
      simp only [pb_e187, at320, Option.toList_some, List.singleton_append, Z.1.1, pb_gr, true_and]
      refine A145 (n := 1) Z.1 (by omega) (by omega) ?_
      intro h2 G2 F2 X2 nb2 hv2
      have Z2 := RZ_fr Z F2 X2 rfl rfl
      have A2 : RA V G2 t (2 * i) := fun u hu => by
        rw [rv_ne nb2 (show 5372 + u ≠ 5442 by omega), rv_ne nb2 (show 5389 + u ≠ 5442 by omega)]
        exact A u hu
      have N2 : NF abS G sg G2 sg := NF_trans N (NF_nb (i := 5442) (Or.inr rfl) nb2)
      by_cases c2 : tkk b n st = 120
      · have q := k2.mpr c2
        have hF : sFac b n st = .inr (st, if false = true then - ((1 : Nat) : Int) else ((1 : Nat) : Int)) := by unfold sFac; rw [if_pos c2]; rfl
        suffices key : ∀ l1, pb_R 187 79 [some (.ref 65), l1] [] [] h2 Q by
          have key' := key (some (.int 1))
          simp only [pb_e187, X2.1, pb_gr, pb_o_some, true_and] at key'
          simp only [Option.toList_none, List.nil_append, pb_e187, X2.1, pb_gr, pb_o_some, true_and, q, if_true]
          exact key'
        intro l1
        exact hrest h2 s' G2 st false 1 l1 hF (fr_trans F F2) Z2 S K N2 A2 hv2 (by decide) (by rw [z19]; rfl)
      · have q : ¬ s' 15 = 2 := fun e => c2 (k2.mp e)
        simp only [Option.toList_none, List.nil_append, pb_e187, X2.1, pb_gr, pb_o_some, true_and, q, if_false]
        refine U186 Z2 S c2 (by unfold bTm at ct; omega) ?_ ?_
        · intro h3 s3 G3 st3 N3 hF F3 Z3 S3 K3 nb3 v3 b3 c19
          suffices key : ∀ l1, pb_R 187 79 [some (.ref 65), l1] [] [] h3 Q by
            have key' := key (some (.int 1))
            simp only [pb_e187, Z3.1.1, pb_gr, pb_o_some, true_and] at key'
            simp only [Option.toList_some, List.singleton_append, pb_e187, i10, not_false_eq_true, if_true, Z3.1.1, pb_gr, pb_o_some, true_and]
            exact key'
          intro l1
          have hF' : sFac b n st = .inr (st3, if decide (tkk b n st = 45) = true then - (N3 : Int) else N3) := by
            rw [hF]
            by_cases e : tkk b n st = 45 <;> simp [e]
          refine hrest h3 s3 G3 st3 (decide (tkk b n st = 45)) N3 l1 hF' (fr_trans F (fr_trans F2 F3)) Z3 S3 (kp_trans K K3) (NF_trans N2 (NF_nb (i := 5442) (Or.inr rfl) nb3)) (fun u hu => ?_) v3 b3 (by rw [c19]; by_cases e : tkk b n st = 45 <;> simp [e])
          rw [rv_ne nb3 (show 5372 + u ≠ 5442 by omega), rv_ne nb3 (show 5389 + u ≠ 5442 by omega)]
          exact A2 u hu
        · intro h3 s3 e hF F3 Z3 K3 ft y19
          rw [hF] at hT
          simp only [Option.toList_some, List.singleton_append, pb_e187, not_true_eq_false, if_false, nb0, true_and]
          exact hQ0 h3 s3 G2 e hT (fr_trans F (fr_trans F2 F3)) Z3 (kp_trans (kp_mono (fun k q => by omega) K) K3) N2 ft y19
    · rw [if_neg ct]
      have hT : sTms b n V (fu + 1) st t = .inr (st, t) := by
        show (if _ then _ else _) = _
        rw [if_neg ct]
      exact hE h' s' G' st t hT F Z S K N (RA_mono A (by omega)) z19
/-- terms -/
theorem U187 (hV : V ≤ 16) (hZ : RZ h V n b s G sg) (hS : RSt b n st s) (z19 : s 19 = 0)
    (hQ1 : ∀ h2 s2 G2 sg2 st1 t1, sTms b n V (n + 1) st (fun _ => 0) = .inr (st1, t1) → fr rS h h2 → RZ h2 V n b s2 G2 sg2 → RSt b n st1 s2 → kp tkS s s2 → NF abS G sg G2 sg2 → RA V G2 t1 (2 * (n + 1)) → s2 19 = 0 → Q (some (.int 1)) h2)
    (hQ0 : ∀ h2 s2 G2 sg2 e, sTms b n V (n + 1) st (fun _ => 0) = .inl e → fr rS h h2 → RZ h2 V n b s2 G2 sg2 → kp ftS s s2 → NF abS G sg G2 sg2 → FR s2 e → s2 19 = 0 → Q (some (.int 0)) h2) : pb_call 187 [.ref 65] h Q := by
  rw [pb_c187]
  simp only [pb_e187, hZ.1.1, pb_gr, true_and]
  refine A161 (r := 316) hZ.1 (by omega) ?_
  intro h1 G1 sg1 F1 X1 N1 v1
  simp only [Option.toList_none, List.nil_append, pb_e187, X1.1, pb_gr, true_and]
  refine A161 (r := 317) X1 (by omega) ?_
  intro h2 G2 sg2 F2 X2 N2 v2
  simp only [Option.toList_none, List.nil_append, pb_e187]
  have F12 := fr_trans F1 F2
  have Z2 := RZ_fr hZ F12 X2 rfl rfl
  have N12 : NF abS G sg G2 sg2 := NF_trans (NF_mono (fun k q => by omega) N1) (NF_mono (fun k q => by omega) N2)
  have A2 : RA V G2 (fun _ => 0) (2 * 0) := fun u hu => by
    have e1 : rv G2 (5372 + u) = 0 := by
      rw [NF_rv N2 (show ¬ rwS 317 (5372 + u) by omega)]
      exact (v1 u (by omega)).1
    have e2 : rv G2 (5389 + u) = 0 := (v2 u (by omega)).1
    rw [e1, e2]
    exact ⟨rfl, Nat.zero_le _, Nat.zero_le _⟩
  refine U187_loop (h := h2) (G := G2) (s := s) hV (n + 1) 0 st (fun _ => 0) h2 s G2 none (by omega) (by omega) (fr_refl _ _) Z2 hS (kp_refl _ _) (NF_refl _ _ _) A2 z19 ?_ ?_
  · intro h3 s3 G3 st3 t3 hh F3 Z3 S3 K3 N3 A3 y
    exact hQ1 h3 s3 G3 sg2 st3 t3 hh (fr_trans F12 F3) Z3 S3 K3 (NF_trans N12 N3) A3 y
  · intro h3 s3 G3 e hh F3 Z3 K3 N3 ft y
    exact hQ0 h3 s3 G3 sg2 e hh (fr_trans F12 F3) Z3 K3 (NF_trans N12 N3) ft y
/-- the INT and the ; -/
def sBnd (b : Nat → Nat) (n st : Nat) (t : Nat → Int) : Sum FL (Nat × (Nat → Int)) :=
  if tkk b n st = 120 then .inl (1, st) else match sFac b n st with
    | .inl e => .inl e
    | .inr q => if tkk b n q.1 = 59 then .inr (q.1, fun u => if u = 0 then t u + q.2 else t u) else .inl (1, q.1)
/-- bound -/
theorem U189 {t : Nat → Int} {K : Nat} (hV : V ≤ 16) (hZ : RZ h V n b s G sg) (hS : RSt b n st s) (hA : RA V G t K) (hK : K ≤ 19000)
    (hQ1 : ∀ h' s' G' st1 t1, sBnd b n st t = .inr (st1, t1) → fr rS h h' → RZ h' V n b s' G' sg → RSt b n st1 s' → kp tkS s s' → NF abS G sg G' sg → RA V G' t1 (K + 1) → s' 19 = 0 → Q (some (.int 1)) h')
    (hQ0 : ∀ h' s' G' e, sBnd b n st t = .inl e → fr rS h h' → RZ h' V n b s' G' sg → kp ftS s s' → NF abS G sg G' sg → FR s' e → (s' 19 = 0 ∨ s' 19 = s 19) → Q (some (.int 0)) h') : pb_call 189 [.ref 65] h Q := by
  have hb := hZ.2.2.2.2.1
  have hg : ∀ c, (pb_set h 65 c).2 65 = c := fun c => by rw [pb_set_get, if_pos rfl]
  have i10 : ¬ (1 : Int32) = 0 := by decide
  have k1 : s 15 = 1 ↔ kR (tkk b n st) = 1 := kR_eq hS (m := 1) (by omega)
  rw [kR_1] at k1
  have m43 : ∀ Q : Option Value → pb_H → Prop, pb_call 178 [.ref 65, .int 43] h Q ↔ Q (some (.int (if tkk b n st = 43 then 1 else 0))) h := fun Q => R178 (k := 43) hZ.1.1 hS (by unfold sow; omega) hb
  have m45 : ∀ Q : Option Value → pb_H → Prop, pb_call 178 [.ref 65, .int 45] h Q ↔ Q (some (.int (if tkk b n st = 45 then 1 else 0))) h := fun Q => R178 (k := 45) hZ.1.1 hS (by unfold sow; omega) hb
  rw [pb_c189]
  by_cases cs : tkk b n st = 48 ∨ tkk b n st = 43 ∨ tkk b n st = 45
  · have c120 : tkk b n st ≠ 120 := by omega
    have hB : sBnd b n st t = match sFac b n st with
      | .inl e => .inl e
      | .inr q => if tkk b n q.1 = 59 then .inr (q.1, fun u => if u = 0 then t u + q.2 else t u) else .inl (1, q.1) := by
      unfold sBnd
      rw [if_neg c120]
    have s1 : pb_R 189 0 [some (.ref 65)] [] [] h Q ↔ pb_R 189 36 [some (.ref 65)] [] [] h Q := by
      by_cases d1 : tkk b n st = 48
      · have q := k1.mpr d1
        simp only [pb_e189, hZ.1.1, pb_gr, pb_o_some, true_and, q, if_true]
      · have q : ¬ s 15 = 1 := fun e => d1 (k1.mp e)
        by_cases d2 : tkk b n st = 43
        · have m43' : ∀ Q : Option Value → pb_H → Prop, pb_call 178 [.ref 65, .int 43] h Q ↔ Q (some (.int 1)) h := fun Q => by rw [m43, if_pos d2]
          simp only [pb_e189, hZ.1.1, pb_gr, pb_o_some, true_and, q, if_false, m43', Option.toList_some, List.singleton_append, i10, not_false_eq_true, if_true]
        · have m43' : ∀ Q : Option Value → pb_H → Prop, pb_call 178 [.ref 65, .int 43] h Q ↔ Q (some (.int 0)) h := fun Q => by rw [m43, if_neg d2]
          have m45' : ∀ Q : Option Value → pb_H → Prop, pb_call 178 [.ref 65, .int 45] h Q ↔ Q (some (.int 1)) h := fun Q => by rw [m45, if_pos (by omega)]
          simp only [pb_e189, hZ.1.1, pb_gr, pb_o_some, true_and, q, if_false, m43', m45', Option.toList_some, List.singleton_append, i10, not_true_eq_false, not_false_eq_true, if_true]
    rw [s1]
    simp only [pb_e189, hZ.1.1, pb_gr, true_and]
    refine U186 hZ hS c120 cs ?_ ?_
    · intro h2 s2 G2 st2 N2 hF F2 Z2 S2 K2 nb2 v2 b2 c19
      rw [hF] at hB
      simp only at hB
      have A2 : RA V G2 t K := fun u hu => by
        rw [rv_ne nb2 (show 5372 + u ≠ 5442 by omega), rv_ne nb2 (show 5389 + u ≠ 5442 by omega)]
        exact hA u hu
      have hgo : (pb_call 184 [.ref 65, .int (if decide (¬ tkk b n st = 45) = true then 1 else -1)] h2 (fun v t => pb_R 189 61 [some (.ref 65)] [] (v.toList ++ []) t Q)) → pb_R 189 45 [some (.ref 65)] [] [] h2 Q := by
        intro hh
        by_cases e : tkk b n st = 45
        · rw [if_pos e] at c19
          simp only [e, not_true_eq_false, decide_false, Bool.false_eq_true, if_false] at hh
          simp only [pb_e189, Z2.1.1, pb_gr, pb_o_some, true_and, c19, i10, if_false]
          simp only [pb_e189] at hh
          exact hh
        · rw [if_neg e] at c19
          simp only [e, not_false_eq_true, decide_true, if_true] at hh
          simp only [pb_e189, Z2.1.1, pb_gr, pb_o_some, true_and, c19, if_true]
          simp only [pb_e189] at hh
          exact hh
      suffices key : pb_R 189 45 [some (.ref 65)] [] [] h2 Q by
        simp only [pb_e189, Z2.1.1, pb_gr, pb_o_some, true_and] at key
        simp only [Option.toList_some, List.singleton_append, pb_e189, i10, not_false_eq_true, if_true, Z2.1.1, pb_gr, pb_o_some, true_and]
        exact key
      apply hgo
      refine U184 (w := decide (¬ tkk b n st = 45)) Z2.1 A2 (by omega) hV v2 b2 ?_
      intro h3 G3 F3 X3 N3 v3 A3
      have Z3 := RZ_fr Z2 F3 X3 rfl rfl
      obtain ⟨Z4, F4⟩ := RZ_obj Z3 (s' := upd s2 19 0) (upd_ne _ _ (by omega)) (upd_ne _ _ (by omega))
      have S4 : RSt b n st2 (upd s2 19 0) := RSt_kp S2 (upd_ne _ _ (by omega)) (upd_ne _ _ (by omega)) (upd_ne _ _ (by omega)) (upd_ne _ _ (by omega))
      have hg3 : ∀ c, (pb_set h3 65 c).2 65 = c := fun c => by rw [pb_set_get, if_pos rfl]
      have m59' : ∀ Q : Option Value → pb_H → Prop, pb_call 178 [.ref 65, .int 59] (pb_set h3 65 (rm (upd s2 19 0))) Q ↔ Q (some (.int (if tkk b n st2 = 59 then 1 else 0))) (pb_set h3 65 (rm (upd s2 19 0))) := fun Q => R178 (k := 59) Z4.1.1 S4 (by unfold sow; omega) hb
      have hFr := fr_trans F2 (fr_trans F3 F4)
      have hNF : NF abS G sg G3 sg := NF_trans (NF_nb (i := 5442) (Or.inr rfl) nb2) N3
      have hK4 : kp tkS s (upd s2 19 0) := kp_trans K2 (kp_upd (by omega))
      have A3' : RA V G3 (fun u => if u = 0 then t u + (if tkk b n st = 45 then - (N2 : Int) else N2) else t u) (K + 1) := RA_ext A3 (fun u hu => by
        by_cases u0 : u = 0
        · by_cases e : tkk b n st = 45 <;> simp [u0, e] <;> omega
        · simp [u0])
      by_cases c59 : tkk b n st2 = 59
      · rw [if_pos c59] at hB
        have m59'' : ∀ Q : Option Value → pb_H → Prop, pb_call 178 [.ref 65, .int 59] (pb_set h3 65 (rm (upd s2 19 0))) Q ↔ Q (some (.int 1)) (pb_set h3 65 (rm (upd s2 19 0))) := fun Q => by rw [m59', if_pos c59]
        simp only [Option.toList_none, List.nil_append, pb_e189, X3.1, pb_gr, pb_o_some, true_and, hg3, m59'', Option.toList_some, List.singleton_append, i10, not_false_eq_true, if_true, nb1]
        exact hQ1 _ _ G3 st2 _ hB hFr Z4 S4 hK4 hNF A3' (upd_same _ _ _)
      · rw [if_neg c59] at hB
        have m59'' : ∀ Q : Option Value → pb_H → Prop, pb_call 178 [.ref 65, .int 59] (pb_set h3 65 (rm (upd s2 19 0))) Q ↔ Q (some (.int 0)) (pb_set h3 65 (rm (upd s2 19 0))) := fun Q => by rw [m59', if_neg c59]
        have h183 := fun (f p : Int32) (Q : Option Value → pb_H → Prop) => R183 (Q := Q) (f := f) (p := p) Z4.1.1
        obtain ⟨Z5, F5⟩ := RZ_obj Z3 (s' := upd (upd (upd s2 19 0) 8 1) 9 (nI st2)) (by rw [upd_ne _ _ (by omega), upd_ne _ _ (by omega), upd_ne _ _ (by omega)]) (by rw [upd_ne _ _ (by omega), upd_ne _ _ (by omega), upd_ne _ _ (by omega)])
        simp only [Option.toList_none, List.nil_append, pb_e189, X3.1, pb_gr, pb_o_some, true_and, hg3, m59'', Option.toList_some, List.singleton_append, not_true_eq_false, if_false, S4.1, h183, pb_set_same, if_true, nb0]
        exact hQ0 _ _ G3 _ hB (fr_trans F2 (fr_trans F3 F5)) Z5 (kp_trans (kp_mono (fun k q => by omega) hK4) (kp_trans (kp_upd (by omega)) (kp_upd (by omega)))) hNF ⟨by rw [upd_ne _ _ (by omega), upd_same]; rfl, by rw [upd_same]⟩ (Or.inl (by rw [upd_ne _ _ (by omega), upd_ne _ _ (by omega), upd_same]))
    · intro h2 s2 e hF F2 Z2 K2 ft y19
      rw [hF] at hB
      simp only [Option.toList_some, List.singleton_append, pb_e189, not_true_eq_false, if_false, nb0, true_and]
      exact hQ0 h2 s2 G e hB F2 Z2 K2 (NF_refl _ _ _) ft (Or.inl y19)
  · have q : ¬ s 15 = 1 := fun e => cs (Or.inl (k1.mp e))
    have m43' : ∀ Q : Option Value → pb_H → Prop, pb_call 178 [.ref 65, .int 43] h Q ↔ Q (some (.int 0)) h := fun Q => by rw [m43, if_neg (by omega)]
    have m45' : ∀ Q : Option Value → pb_H → Prop, pb_call 178 [.ref 65, .int 45] h Q ↔ Q (some (.int 0)) h := fun Q => by rw [m45, if_neg (by omega)]
    have h183 := fun (f p : Int32) (Q : Option Value → pb_H → Prop) => R183 (Q := Q) (f := f) (p := p) hZ.1.1
    have hB : sBnd b n st t = .inl (1, st) := by
      unfold sBnd
      by_cases e : tkk b n st = 120
      · rw [if_pos e]
      · rw [if_neg e]
        have hg1 : (if tkk b n st = 45 ∨ tkk b n st = 43 then nxt b n st else st) = st := if_neg (by omega)
        have : sFac b n st = .inl (1, st) := by
          unfold sFac
          rw [if_neg e, hg1, if_neg (by omega)]
        rw [this]
    obtain ⟨Z5, F5⟩ := RZ_obj hZ (s' := upd (upd s 8 1) 9 (nI st)) (by rw [upd_ne _ _ (by omega), upd_ne _ _ (by omega)]) (by rw [upd_ne _ _ (by omega), upd_ne _ _ (by omega)])
    simp only [pb_e189, hZ.1.1, pb_gr, pb_o_some, true_and, q, if_false, m43', m45', Option.toList_some, List.singleton_append, not_true_eq_false, hS.1, h183, nb0]
    exact hQ0 _ _ G _ hB F5 Z5 (kp_trans (kp_upd (by omega)) (kp_upd (by omega))) (NF_refl _ _ _) ⟨by rw [upd_ne _ _ (by omega), upd_same]; rfl, by rw [upd_same]⟩ (Or.inr (by rw [upd_ne _ _ (by omega), upd_ne _ _ (by omega)]))
end RC4
