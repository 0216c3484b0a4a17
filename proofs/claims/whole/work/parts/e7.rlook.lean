/-! The reference's look: weakening -/
abbrev lkF : Nat → Prop := fun q => rS q ∨ q = 80 ∨ q = 81 ∨ q = 82
abbrev lkK : Nat → Prop := fun k => k = 14 ∨ k = 35
abbrev lkN : Nat → Prop := fun i => rwS 314 i ∨ rwS 315 i ∨ 5440 ≤ i
def LQ (h0 : pb_H) (s0 : Nat → Int32) (G0 : Nat → Nat) (sg0 t : Nat → Int32) (h : pb_H) (s : Nat → Int32) (G : Nat → Nat) (sg : Nat → Int32) (L : List Nat) : Prop := fr lkF h0 h ∧ RX h s G sg ∧ kp lkK s0 s ∧ NF lkN G0 sg0 G sg ∧ RW h s L ∧ h.2 81 = ci 17 t ∧ ∃ d, h.2 82 = ci 110 d
section LQS
variable {h0 h h' : pb_H} {Q : Option Value → pb_H → Prop} {V : Nat} {s0 s s' sg0 sg sg' t : Nat → Int32} {G0 G G' : Nat → Nat} {L L' : List Nat}
theorem LQ_row {S : Nat → Prop} (W : LQ h0 s0 G0 sg0 t h s G sg L) (F : fr rS h h') (X : RX h' s' G' sg') (q : sq s s') (N : NF S G sg G' sg') (hS : ∀ i, S i → lkN i) : LQ h0 s0 G0 sg0 t h' s' G' sg' L := by
  obtain ⟨w1, w2, w3, w4, w5, w6, d, w7⟩ := W
  exact ⟨fr_trans w1 (fr_mono (fun q w => Or.inl w) F), X, fun k hk => (q k (by omega)).trans (w3 k hk), NF_trans w4 (NF_mono hS N), RW_fr F (by omega) (q 35 (by omega)) w5, (F.2.2 81 (by omega)).trans w6, d, (F.2.2 82 (by omega)).trans w7⟩
theorem LQ_txt (W : LQ h0 s0 G0 sg0 t h s G sg L) (F : fr rP h h') (X : RX h' s' G sg) (B : RW h' s' L') (e : h'.2 82 = h.2 82) (q : kp k35 s s') : LQ h0 s0 G0 sg0 t h' s' G sg L' := by
  obtain ⟨w1, w2, w3, w4, w5, w6, d, w7⟩ := W
  exact ⟨fr_trans w1 (fr_mono (fun q w => by omega) F), X, fun k hk => (q k (fun w => hk (Or.inr w))).trans (w3 k hk), w4, B, (F.2.2 81 (by omega)).trans w6, d, e.trans w7⟩
theorem LQ_num {S : Nat → Prop} {dg : Nat → Int32} (W : LQ h0 s0 G0 sg0 t h s G sg L) (F : fr rP h h') (X : RX h' s' G' sg) (N : NF S G sg G' sg) (hS : ∀ i, S i → lkN i) (B : RW h' s' L') (e : h'.2 82 = ci 110 dg) (q : kp k35 s s') : LQ h0 s0 G0 sg0 t h' s' G' sg L' := by
  obtain ⟨w1, w2, w3, w4, w5, w6, d, w7⟩ := W
  exact ⟨fr_trans w1 (fr_mono (fun q w => by omega) F), X, fun k hk => (q k (fun w => hk (Or.inr w))).trans (w3 k hk), NF_trans w4 (NF_mono hS N), B, (F.2.2 81 (by omega)).trans w6, dg, e⟩
theorem LQ_is (W : LQ h0 s0 G0 sg0 t h s G sg L) : pb_is0 (h.2 65) 12 = true := by rw [W.2.1.1]; rfl
theorem at315 {u : Nat} (Q : Option Value → pb_H → Prop) : pb_call 143 [.int 315, .int (nI u)] h Q ↔ Q (some (.int (nI ((315 * 17 + u) * 20)))) h := A143 (r := 315) (v := u)
theorem sgI_z {z : Int} : sgI z = 0 ↔ z = 0 := by
  unfold sgI
  by_cases a : 0 < z
  · rw [if_pos a]; exact ⟨fun e => absurd e (by decide), fun e => by omega⟩
  · rw [if_neg a]
    by_cases b : z < 0
    · rw [if_pos b]; exact ⟨fun e => absurd e (by decide), fun e => by omega⟩
    · rw [if_neg b]; exact ⟨fun _ => by omega, fun _ => rfl⟩
/-- the weakening -/
theorem U215_210 {R : LN} {A : AS} {v c : Nat} {l1 l2 l4 l5 : Option Value} (hV : V ≤ 16) (h3 : s0 3 = nI V) (v2 : v ≤ 16) (hA : AV V t A) (hc : c ≠ 0) (hL : L.length ≤ 990000)
    (hQ : ∀ h' s' G' sg' l8, LQ h0 s0 G0 sg0 t h' s' G' sg' (L ++ wkt R A v c V) → RR V G' sg' 315 (wk R A v c V) → (∀ k, k = 5446 ∨ k = 5447 → rv G' k = rv G k) → NF (fun k => rwS 315 k ∨ k = 5444 ∨ k = 5445) G sg G' sg' → pb_R 215 314 [some (.ref 65), l1, l2, some (.int (nI v)), l4, l5, some (.int (nI (5447 * 20))), some (.int (nI (V + 1))), l8] [] [] h' Q) :
    ∀ r u h' s' G' sg' l8, u + r = V → LQ h0 s0 G0 sg0 t h' s' G' sg' (L ++ wkt R A v c u) → RR V G' sg' 315 (wk R A v c u) → rv G 5447 = c → (∀ k, k = 5446 ∨ k = 5447 → rv G' k = rv G k) → NF (fun k => rwS 315 k ∨ k = 5444 ∨ k = 5445) G sg G' sg' → pb_R 215 210 [some (.ref 65), l1, l2, some (.int (nI v)), l4, l5, some (.int (nI (5447 * 20))), some (.int (nI (u + 1))), l8] [] [] h' Q := by
  have e32 : wu (32 : Int32) % 256 = 32 := by decide
  have e120 : wu (120 : Int32) % 256 = 120 := by decide
  have e119 : wu (119 : Int32) % 256 = 119 := by decide
  have i315 : (315 : Int32) = nI 315 := rfl
  intro r
  induction r with
  | zero =>
    intro u h' s' G' sg' l8 hu W R' hc5 hk N'
    obtain rfl : u = V := by omega
    have c1 : nI u < nI (u + 1) := nI_lt (by omega) (by omega)
    have k3 : s' 3 = nI u := (W.2.2.1 3 (by omega)).trans h3
    rw [pb_q215_210]
    have key := hQ h' s' G' sg' l8 W R' hk N'
    simp only [pb_e215, W.2.1.1, pb_gr, pb_o_some, true_and] at key
    simp only [pb_e215, W.2.1.1, pb_gr, pb_o_some, k3, c1, if_true, true_and]
    exact key
  | succ r ih =>
    intro u h' s' G' sg' l8 hu W R' hc5 hk N'
    have c1 : ¬ nI V < nI (u + 1) := nI_nlt (by omega) (by omega)
    have k3 : s' 3 = nI V := (W.2.2.1 3 (by omega)).trans h3
    have eadd : (5355 : Int32) + nI (u + 1) = nI (315 * 17 + (u + 1)) := (nI_add 5355 (u + 1)).symm ▸ rfl
    have hg := pb_ai_eq (k := 0) (n := 6171) (j := 315 * 17 + (u + 1)) (f := sg') (Or.inl rfl) (by omega) (by omega)
    have ew : (wk R A v c u).2 (u + 1) = R.2 (u + 1) := by rw [wk_2, if_neg (by omega)]
    obtain ⟨r1, r2⟩ := R'.2 (u + 1) (by omega) (by omega)
    rw [ew] at r1 r2
    rw [r2] at hg
    have ht := pb_ai_eq (k := 0) (n := 17) (j := u + 1) (f := t) (Or.inl rfl) (by omega) (by omega)
    rw [hA (u + 1) (by omega) (by omega)] at ht
    have next : ∀ h2 s2 G2 sg2 l8, ¬ wcond R A v c (u + 1) → LQ h0 s0 G0 sg0 t h2 s2 G2 sg2 (L ++ wkt R A v c u) → RR V G2 sg2 315 (wk R A v c u) → (∀ k, k = 5446 ∨ k = 5447 → rv G2 k = rv G k) → NF (fun k => rwS 315 k ∨ k = 5444 ∨ k = 5445) G sg G2 sg2 → pb_R 215 210 [some (.ref 65), l1, l2, some (.int (nI v)), l4, l5, some (.int (nI (5447 * 20))), some (.int (nI (u + 1 + 1))), l8] [] [] h2 Q := by
      intro h2 s2 G2 sg2 l8 nc Wn Rn kn Nn
      refine ih (u + 1) h2 s2 G2 sg2 l8 (by omega) ?_ ?_ hc5 kn Nn
      · have e : wkt R A v c (u + 1) = wkt R A v c u := by
          show wkt R A v c u ++ _ = _
          rw [if_neg (wcb_0 nc), List.append_nil]
        rw [e]; exact Wn
      · have e : wk R A v c (u + 1) = wk R A v c u := by
          show (if _ then _ else _) = _
          rw [if_neg (wcb_0 nc)]
        rw [e]; exact Rn
    rw [pb_q215_210]
    by_cases cv : u + 1 = v
    · subst cv
      simp only [pb_e215, W.2.1.1, pb_gr, pb_o_some, k3, c1, if_false, W.2.1.2.2.2.1, eadd, hg, if_true, nI_1]
      exact next h' s' G' sg' _ (fun q => q.1 rfl) W R' hk N'
    · have nv : ¬ nI (u + 1) = nI v := fun e => cv (nI_inj (by omega) (by omega) e)
      by_cases cz : R.2 (u + 1) = 0
      · have z0 := sgI_z.mpr cz
        simp only [pb_e215, W.2.1.1, pb_gr, pb_o_some, k3, c1, if_false, W.2.1.2.2.2.1, eadd, hg, nv, z0, if_true, nI_1]
        exact next h' s' G' sg' _ (fun q => q.2.1 cz) W R' hk N'
      · have z0 : ¬ sgI (R.2 (u + 1)) = 0 := fun e => cz (sgI_z.mp e)
        by_cases cw : lwr (R.2 (u + 1)) (A (u + 1))
        · have h171 : ∀ Q : Option Value → pb_H → Prop, pb_call 171 [.int (sgI (R.2 (u + 1))), .int (avI (A (u + 1)))] h' Q ↔ Q (some (.int 1)) h' := fun Q => by rw [A171, if_pos (wrong_lwr.mpr cw)]
          have n10 : ¬ (1 : Int32) = 0 := by decide
          simp only [pb_e215, W.2.1.1, pb_gr, pb_o_some, k3, c1, if_false, W.2.1.2.2.2.1, eadd, hg, nv, z0, W.2.2.2.2.2.1, ht, h171, Option.toList_some, List.singleton_append, n10, not_false_eq_true, if_true, nI_1]
          exact next h' s' G' sg' _ (fun q => q.2.2.1 cw) W R' hk N'
        · have h171 : ∀ Q : Option Value → pb_H → Prop, pb_call 171 [.int (sgI (R.2 (u + 1))), .int (avI (A (u + 1)))] h' Q ↔ Q (some (.int 0)) h' := fun Q => by rw [A171, if_neg (fun w => cw (wrong_lwr.mp w))]
          have h143 := at315 (h := h') (u := u + 1)
          have k47 : rv G' 5447 = c := (hk 5447 (Or.inr rfl)).trans hc5
          simp only [pb_e215, W.2.1.1, pb_gr, pb_o_some, k3, c1, if_false, W.2.1.2.2.2.1, eadd, hg, nv, z0, W.2.2.2.2.2.1, ht, h171, Option.toList_some, List.singleton_append, not_true_eq_false, h143, true_and]
          refine A160 W.2.1 (by omega) (by omega) (by rw [k47]; exact hc) ?_
          intro h2 s2 F2 X2 q2
          rw [r1, k47]
          have W2 : LQ h0 s0 G0 sg0 t h2 s2 G' sg' (L ++ wkt R A v c u) := LQ_row (S := fun _ => False) W F2 X2 q2 (NF_refl _ _ _) (fun i w => False.elim w)
          by_cases cm : (R.2 (u + 1)).natAbs % c = 0
          · have n10 : ¬ (1 : Int32) = 0 := by decide
            simp only [cm, if_true, Option.toList_some, List.singleton_append, pb_e215, n10, not_false_eq_true, nI_1]
            exact next h2 s2 G' sg' _ (fun q => q.2.2.2 cm) W2 R' hk N'
          · have hcon : wcond R A v c (u + 1) := ⟨cv, cz, cw, cm⟩
            have hwl := (wkt_lon R A v c u).2
            simp only [cm, if_false, Option.toList_some, List.singleton_append, pb_e215, not_true_eq_false, LQ_is W2, true_and, i315]
            refine A169 X2 (by omega) hV R' (by omega) (by omega) ?_
            intro h4 G4 sg4 F4 X4 N4 R4
            have W4 := LQ_row W2 F4 X4 (sq_refl _) N4 (fun i w => Or.inr (Or.inl w))
            simp only [Option.toList_none, List.nil_append, pb_e215, LQ_is W4, true_and]
            refine A209 X4 W4.2.2.2.2.1 e32 (by rw [List.length_append]; omega) ?_
            intro h5 s5 F5 X5 B5 e5 q5
            have W5 := LQ_txt W4 F5 X5 B5 e5 q5
            simp only [Option.toList_none, List.nil_append, pb_e215, LQ_is W5, true_and]
            refine A209 X5 B5 e120 (by rw [List.length_append, List.length_append]; show _ + 1 + 1 < _; omega) ?_
            intro h6 s6 F6 X6 B6 e6 q6
            have W6 := LQ_txt W5 F6 X6 B6 e6 q6
            obtain ⟨d6, w6⟩ := W6.2.2.2.2.2.2
            simp only [Option.toList_none, List.nil_append, pb_e215, LQ_is W6, true_and]
            refine A211 X6 B6 w6 (by omega) (by rw [List.length_append, List.length_append, List.length_append]; show _ + 1 + 1 + 80 < _; omega) ?_
            intro h7 s7 G7 dg7 F7 X7 N7 B7 e7 q7
            have W7 := LQ_num W6 F7 X7 N7 (fun i w => Or.inr (Or.inr (by omega))) B7 e7 q7
            have hdl := dec_len (u + 1)
            simp only [Option.toList_none, List.nil_append, pb_e215, LQ_is W7, true_and]
            refine A214 X7 B7 e119 (by rw [List.length_append, List.length_append, List.length_append, List.length_append]; show _ + 1 + 1 + _ + 2 < _; omega) ?_
            intro h8 s8 F8 X8 B8 e8 q8
            have W8 := LQ_txt W7 F8 X8 B8 e8 q8
            simp only [Option.toList_none, List.nil_append, pb_e215, nI_1]
            refine ih (u + 1) h8 s8 G7 sg4 _ (by omega) ?_ ?_ hc5 (fun k hk2 => ?_) ?_
            · have e : wkt R A v c (u + 1) = wkt R A v c u ++ ([32, 120] ++ dec (u + 1) ++ [32, 119]) := by
                show wkt R A v c u ++ _ = _
                rw [if_pos (wcb_1 hcon)]
              have e2 : L ++ wkt R A v c (u + 1) = L ++ wkt R A v c u ++ [32] ++ [120] ++ dec (u + 1) ++ [32, 119] := by
                rw [e]; simp only [List.append_assoc, List.cons_append, List.nil_append]
              rw [e2]; exact W8
            · have e : wk R A v c (u + 1) = ln_wo (wk R A v c u) (u + 1) := by
                show (if _ then _ else _) = _
                rw [if_pos (wcb_1 hcon)]
              rw [e]
              exact RR_NF N7 (fun v hv => by omega) R4
            · rw [NF_rv N7 (by omega), NF_rv N4 (by omega)]
              exact hk k hk2
            · exact NF_trans N' (NF_trans (NF_mono (fun i w => Or.inl w) N4) (NF_mono (fun i w => Or.inr w) N7))
end LQS
