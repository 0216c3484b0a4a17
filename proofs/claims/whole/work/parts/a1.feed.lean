/-! feed and back on both sides -/
def wby (x s : Int32) : Nat := wu (x.toUInt32 >>> (s.toUInt32 &&& Int32.toUInt32 31)).toInt32 % 256
/-- a word's bytes behind n -/
def fdw (b : Nat → Nat) (n : Nat) (x : Int32) : Nat → Nat := un (un (un (un b n (wby x 24)) (n + 1) (wby x 16)) (n + 1 + 1) (wby x 8)) (n + 1 + 1 + 1) (wby x 0)
def fd5 (b : Nat → Nat) (n : Nat) (x1 x2 x3 x4 x5 : Int32) : Nat → Nat := fdw (fdw (fdw (fdw (fdw b n x1) (n + 4) x2) (n + 8) x3) (n + 12) x4) (n + 16) x5
/-- how a ByteRow went on -/
def BG (h h' : pb_H) (w lim c N c' N' : Nat) : Prop := fg (fun q => q = w ∨ q = c) h h' ∧ (c' = c ∨ h.1 ≤ c') ∧ h'.1 + (lim - N') ≤ h.1 + (lim - N) ∧ pb_sl h' + pot lim N' ≤ pb_sl h + pot lim N
theorem BG_trans {h h' h'' : pb_H} {w lim c N c' N' c'' N'' : Nat} (a : BG h h' w lim c N c' N') (b : BG h' h'' w lim c' N' c'' N'') : BG h h'' w lim c N c'' N'' := by
  obtain ⟨a1, a2, a3, a4⟩ := a
  obtain ⟨b1, b2, b3, b4⟩ := b
  have hle := a1.1
  refine ⟨⟨Nat.le_trans a1.1 b1.1, fun q q1 q2 => (b1.2 q (Nat.lt_of_lt_of_le q1 a1.1) (fun w => ?_)).trans (a1.2 q q1 q2)⟩, by omega, by omega, by omega⟩
  rcases w with w | w
  · exact q2 (Or.inl w)
  · rcases a2 with e | e
    · exact q2 (Or.inr (w.trans e))
    · omega
theorem BG_refl (h : pb_H) (w lim c N : Nat) : BG h h w lim c N c N := ⟨fg_refl _ _, Or.inl rfl, Nat.le_refl _, Nat.le_refl _⟩
section FED
variable {h : pb_H} {Q : Option Value → pb_H → Prop} {w lim c N sz n V : Nat} {ov : Int32} {b : Nat → Nat}
theorem L2' {x : Int32} (hB : BR h w lim c N sz ov b) (hs : sz < lim)
    (hQ : ∀ h' c' N', BG h h' w lim c N c' N' → BR h' w lim c' N' (sz + 1) ov (un b sz (wu x % 256)) → Q none h') : pb_call 2 [.ref w, .int x] h Q :=
  L2 hB hs (fun h' c' N' F B o r1 r2 => hQ h' c' N' ⟨F, by rcases o with o | o <;> omega, r1, r2⟩ B)
theorem L3_step {x s s' : Int32} (hs0 : ¬ s < 0) (hs' : s + -8 = s') (hB : BR h w lim c N sz ov b) (hs : sz < lim)
    (hQ : ∀ h' c' N', BG h h' w lim c N c' N' → BR h' w lim c' N' (sz + 1) ov (un b sz (wby x s)) → pb_R 3 3 [some (.ref w), some (.int x), some (.int s')] [] [] h' Q) : pb_R 3 3 [some (.ref w), some (.int x), some (.int s)] [] [] h Q := by
  rw [pb_q3_3]
  simp only [pb_e3, hs0, if_false, hB.1, pb_g0, true_and]
  refine L2' hB hs ?_
  intro h' c' N' G B
  simp only [Option.toList_none, List.nil_append, pb_e3, hs']
  exact hQ h' c' N' G B
/-- ByteRow.addWord -/
theorem L3 {x : Int32} (hB : BR h w lim c N sz ov b) (hs : sz + 4 ≤ lim)
    (hQ : ∀ h' c' N', BG h h' w lim c N c' N' → BR h' w lim c' N' (sz + 4) ov (fdw b sz x) → Q none h') : pb_call 3 [.ref w, .int x] h Q := by
  rw [pb_c3]
  simp only [pb_e3]
  refine L3_step (s' := 16) (by decide) (by decide) hB (by omega) ?_
  intro h1 c1 N1 G1 B1
  refine L3_step (s' := 8) (by decide) (by decide) B1 (by omega) ?_
  intro h2 c2 N2 G2 B2
  refine L3_step (s' := 0) (by decide) (by decide) B2 (by omega) ?_
  intro h3 c3 N3 G3 B3
  refine L3_step (s' := -8) (by decide) (by decide) B3 (by omega) ?_
  intro h4 c4 N4 G4 B4
  have k : (-8 : Int32) < 0 := by decide
  rw [pb_q3_3]
  simp only [pb_e3, k, if_true]
  exact hQ h4 c4 N4 (BG_trans G1 (BG_trans G2 (BG_trans G3 G4))) B4
abbrev cpb (V : Nat) : pb_E := .inr (11, [.int (nI V), .ref 9, .ref 2, .ref 5, .ref 11, .ref 13, .ref 47])
theorem BR_c1 {x : Nat} {e : Nat × List Value} (hB : BR h w lim c N sz ov b) (hx : h.2 x = .inr e) : c ≠ x := fun q => by
  have hc := hB.2.1
  rw [q, hx] at hc
  exact cb_inr hc.symm
theorem BG_1 {h' : pb_H} {c' N' : Nat} (hB : BR h 9 4000 c N sz ov b) (h1 : h.2 1 = cpb V) (hG : BG h h' 9 4000 c N c' N') : h'.2 1 = cpb V := by
  have := hB.2.2.2.2.2.2.2.2.2
  exact (hG.1.2 1 (by omega) (fun e => by
    rcases e with e | e
    · omega
    · exact BR_c1 hB h1 e.symm)).trans h1
/-- PlaneBench.feed -/
theorem L124 {x1 x2 x3 x4 x5 : Int32} (h1 : h.2 1 = cpb V) (hB : BR h 9 4000 c N n ov b) (hn : n ≤ 4000)
    (hQ0 : 3980 < n → Q (some (.int (-1))) h)
    (hQ1 : ∀ h' c' N', n ≤ 3980 → BG h h' 9 4000 c N c' N' → BR h' 9 4000 c' N' (n + 20) ov (fd5 b n x1 x2 x3 x4 x5) → Q (some (.int (nI (n + 20)))) h') : pb_call 124 [.ref 1, .int x1, .int x2, .int x3, .int x4, .int x5] h Q := by
  rw [pb_c124]
  by_cases c1 : n ≤ 3980
  · have k1 : nI n ≤ 3980 := nI_le (b := 3980) c1 (by omega)
    simp only [pb_e124, h1, pb_g11, hB.1, pb_g0, pb_o_some, k1, if_true, true_and]
    refine L3 hB (by omega) ?_
    intro a1 d1 M1 G1 B1
    have e1 := BG_1 hB h1 G1
    simp only [Option.toList_none, List.nil_append, pb_e124, e1, pb_g11, B1.1, pb_g0, pb_o_some, true_and]
    refine L3 B1 (by omega) ?_
    intro a2 d2 M2 G2 B2
    have e2 := BG_1 B1 e1 G2
    simp only [Option.toList_none, List.nil_append, pb_e124, e2, pb_g11, B2.1, pb_g0, pb_o_some, true_and]
    refine L3 B2 (by omega) ?_
    intro a3 d3 M3 G3 B3
    have e3 := BG_1 B2 e2 G3
    simp only [Option.toList_none, List.nil_append, pb_e124, e3, pb_g11, B3.1, pb_g0, pb_o_some, true_and]
    refine L3 B3 (by omega) ?_
    intro a4 d4 M4 G4 B4
    have e4 := BG_1 B3 e3 G4
    simp only [Option.toList_none, List.nil_append, pb_e124, e4, pb_g11, B4.1, pb_g0, pb_o_some, true_and]
    refine L3 B4 (by omega) ?_
    intro a5 d5 M5 G5 B5
    have e5 := BG_1 B4 e4 G5
    simp only [Option.toList_none, List.nil_append, pb_e124, e5, pb_g11, B5.1, pb_g0, pb_o_some]
    exact hQ1 a5 d5 M5 c1 (BG_trans G1 (BG_trans G2 (BG_trans G3 (BG_trans G4 G5)))) B5
  · have k1 : ¬ nI n ≤ 3980 := nI_ge (a := 3980) (by omega) (by omega)
    simp only [pb_e124, h1, pb_g11, hB.1, pb_g0, pb_o_some, k1, if_false]
    exact hQ0 (by omega)
/-- PlaneBench.back -/
theorem L125 {x : Int32} (h1 : h.2 1 = cpb V) (hB : BR h 9 4000 c N n ov b) (hn : n ≤ 4000)
    (hQ0 : (x < 0 ∨ nI n < x) → Q (some (.int (-1))) h)
    (hQ1 : ∀ j, j ≤ n → x = nI j → Q (some (.int (nI (n - j)))) (pb_set h 9 (cw 4000 c (n - j) 0))) : pb_call 125 [.ref 1, .int x] h Q := by
  rw [pb_c125]
  by_cases c1 : x < 0
  · simp only [pb_e125, c1, if_true]
    exact hQ0 (Or.inl c1)
  · obtain ⟨j, j1, j2⟩ := nI_of c1
    by_cases c2 : x ≤ nI n
    · have hj : j ≤ n := (nI_leI (by omega) (by omega)).mp (j2 ▸ c2)
      have hs : nI n - x = nI (n - j) := by rw [j2]; exact nI_sub' hj
      have g1 : ∀ c, (pb_set h 9 c).2 1 = cpb V := fun c => by rw [pb_set_get, if_neg (by omega), h1]
      have g9 : ∀ c, (pb_set h 9 c).2 9 = c := fun c => by rw [pb_set_get, if_pos rfl]
      have h10 := fun (y : Int32) (Q : Option Value → pb_H → Prop) => m10 (Q := Q) (n := y) hB.1
      simp only [pb_e125, c1, if_false, h1, pb_g11, hB.1, pb_g0, pb_o_some, c2, if_true, true_and, h10, hs, Option.toList_none, List.nil_append, g1, g9]
      exact hQ1 j hj j2
    · have c3 : nI n < x := by
        rw [j2] at c2 ⊢
        have := (nI_leI (a := j) (b := n) (by omega) (by omega))
        exact nI_lt (by
          by_cases hh : j ≤ n
          · exact absurd (this.mpr hh) c2
          · omega) (by omega)
      simp only [pb_e125, c1, if_false, h1, pb_g11, hB.1, pb_g0, pb_o_some, c2]
      exact hQ0 (Or.inr c3)
end FED
section RFD
variable {h : pb_H} {Q : Option Value → pb_H → Prop} {n : Nat} {b : Nat → Nat} {s : Nat → Int32}
abbrev tS : Nat → Prop := fun q => q = 65 ∨ q = 69
theorem R140_step {x k k' : Int32} {sh : Int32} (hk0 : ¬ k < 0) (hk' : k + -1 = k') (hsh : 8 * k = sh) (h65 : h.2 65 = rm s) (h69 : h.2 69 = cb 4000 b) (h7 : s 7 = nI n) (hn : n < 4000)
    (hQ : ∀ h' s', fr tS h h' → h'.2 65 = rm s' → h'.2 69 = cb 4000 (un b n (wby x sh)) → kp (fun k => k = 7) s s' → s' 7 = nI (n + 1) → pb_R 140 2 [some (.ref 65), some (.int x), some (.int k')] [] [] h' Q) : pb_R 140 2 [some (.ref 65), some (.int x), some (.int k)] [] [] h Q := by
  have hs1 := cb_set (N := 4000) (j := n) (b := b) (x := ((x.toUInt32 >>> (sh.toUInt32 &&& Int32.toUInt32 31)).toInt32).toInt8.toInt32) hn (by omega)
  rw [wu_i8] at hs1
  have g1 : ∀ c, (pb_set h 69 c).2 65 = rm s := fun c => by rw [pb_set_get, if_neg (by omega), h65]
  rw [pb_q140_2]
  simp only [pb_e140, hk0, if_false, h65, pb_gr, pb_o_some, h7, hsh, h69, hs1, g1, nI_1, hk']
  refine hQ _ (upd s 7 (nI (n + 1))) (fr_trans (fr_set (Or.inr rfl) (by rw [h69]; rfl)) (fr_set (Or.inl rfl) (by rw [g1]; exact rm_sz _ _))) (by rw [pb_set_get, if_pos rfl]) (by rw [pb_set_get, if_neg (by omega), pb_set_get, if_pos rfl]; rfl) (kp_upd rfl) (upd_same _ _ _)
theorem R140 {x : Int32} (h65 : h.2 65 = rm s) (h69 : h.2 69 = cb 4000 b) (h7 : s 7 = nI n) (hn : n + 4 ≤ 4000)
    (hQ : ∀ h' s', fr tS h h' → h'.2 65 = rm s' → h'.2 69 = cb 4000 (fdw b n x) → kp (fun k => k = 7) s s' → s' 7 = nI (n + 4) → Q none h') : pb_call 140 [.ref 65, .int x] h Q := by
  rw [pb_c140]
  simp only [pb_e140]
  refine R140_step (k' := 2) (sh := 24) (by decide) (by decide) (by decide) h65 h69 h7 (by omega) ?_
  intro h1 s1 F1 a1 b1 k1 c1
  refine R140_step (k' := 1) (sh := 16) (by decide) (by decide) (by decide) a1 b1 c1 (by omega) ?_
  intro h2 s2 F2 a2 b2 k2 c2
  refine R140_step (k' := 0) (sh := 8) (by decide) (by decide) (by decide) a2 b2 c2 (by omega) ?_
  intro h3 s3 F3 a3 b3 k3 c3
  refine R140_step (k' := -1) (sh := 0) (by decide) (by decide) (by decide) a3 b3 c3 (by omega) ?_
  intro h4 s4 F4 a4 b4 k4 c4
  have k : (-1 : Int32) < 0 := by decide
  rw [pb_q140_2]
  simp only [pb_e140, k, if_true]
  exact hQ h4 s4 (fr_trans F1 (fr_trans F2 (fr_trans F3 F4))) a4 b4 (kp_trans k1 (kp_trans k2 (kp_trans k3 k4))) c4
/-- PlaneBenchModel.feed -/
theorem R141 {x1 x2 x3 x4 x5 : Int32} (h65 : h.2 65 = rm s) (h69 : h.2 69 = cb 4000 b) (h7 : s 7 = nI n) (hn : n ≤ 4000)
    (hQ0 : 3980 < n → Q (some (.int (-1))) h)
    (hQ1 : ∀ h' s', n ≤ 3980 → fr tS h h' → h'.2 65 = rm s' → h'.2 69 = cb 4000 (fd5 b n x1 x2 x3 x4 x5) → kp (fun k => k = 7) s s' → s' 7 = nI (n + 20) → Q (some (.int (nI (n + 20)))) h') : pb_call 141 [.ref 65, .int x1, .int x2, .int x3, .int x4, .int x5] h Q := by
  have a20 : nI n + 20 = nI (n + 20) := nI_add n 20
  rw [pb_c141]
  by_cases c1 : n ≤ 3980
  · have k1 : nI (n + 20) ≤ 4000 := nI_le (b := 4000) (by omega) (by omega)
    simp only [pb_e141, h65, pb_gr, pb_o_some, h7, a20, k1, if_true, true_and]
    refine R140 h65 h69 h7 (by omega) ?_
    intro g1 s1 F1 d1 e1 k1 f1
    simp only [Option.toList_none, List.nil_append, pb_e141, d1, pb_gr, true_and]
    refine R140 d1 e1 f1 (by omega) ?_
    intro g2 s2 F2 d2 e2 k2 f2
    simp only [Option.toList_none, List.nil_append, pb_e141, d2, pb_gr, true_and]
    refine R140 d2 e2 f2 (by omega) ?_
    intro g3 s3 F3 d3 e3 k3 f3
    simp only [Option.toList_none, List.nil_append, pb_e141, d3, pb_gr, true_and]
    refine R140 d3 e3 f3 (by omega) ?_
    intro g4 s4 F4 d4 e4 k4 f4
    simp only [Option.toList_none, List.nil_append, pb_e141, d4, pb_gr, true_and]
    refine R140 d4 e4 f4 (by omega) ?_
    intro g5 s5 F5 d5 e5 k5 f5
    simp only [Option.toList_none, List.nil_append, pb_e141, d5, pb_gr, pb_o_some, f5]
    exact hQ1 g5 s5 c1 (fr_trans F1 (fr_trans F2 (fr_trans F3 (fr_trans F4 F5)))) d5 e5 (kp_trans k1 (kp_trans k2 (kp_trans k3 (kp_trans k4 k5)))) f5
  · have k1 : ¬ nI (n + 20) ≤ 4000 := nI_ge (a := 4000) (by omega) (by omega)
    simp only [pb_e141, h65, pb_gr, pb_o_some, h7, a20, k1, if_false]
    exact hQ0 (by omega)
/-- PlaneBenchModel.back -/
theorem R142 {x : Int32} (h65 : h.2 65 = rm s) (h7 : s 7 = nI n) (hn : n ≤ 4000)
    (hQ0 : (x < 0 ∨ nI n < x) → Q (some (.int (-1))) h)
    (hQ1 : ∀ j, j ≤ n → x = nI j → Q (some (.int (nI (n - j)))) (pb_set h 65 (rm (upd s 7 (nI (n - j)))))) : pb_call 142 [.ref 65, .int x] h Q := by
  rw [pb_c142]
  by_cases c1 : x < 0
  · simp only [pb_e142, c1, if_true]
    exact hQ0 (Or.inl c1)
  · obtain ⟨j, j1, j2⟩ := nI_of c1
    by_cases c2 : x ≤ nI n
    · have hj : j ≤ n := (nI_leI (by omega) (by omega)).mp (j2 ▸ c2)
      have hs : nI n - x = nI (n - j) := by rw [j2]; exact nI_sub' hj
      have g1 : ∀ c, (pb_set h 65 c).2 65 = c := fun c => by rw [pb_set_get, if_pos rfl]
      simp only [pb_e142, c1, if_false, h65, pb_gr, pb_o_some, h7, c2, if_true, hs, g1, upd_same]
      exact hQ1 j hj j2
    · have c3 : nI n < x := by
        rw [j2] at c2 ⊢
        have := (nI_leI (a := j) (b := n) (by omega) (by omega))
        exact nI_lt (by
          by_cases hh : j ≤ n
          · exact absurd (this.mpr hh) c2
          · omega) (by omega)
      simp only [pb_e142, c1, if_false, h65, pb_gr, pb_o_some, h7, c2]
      exact hQ0 (Or.inr c3)
end RFD
