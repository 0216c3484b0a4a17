/-! ByteRow: addSmall, addNumber, addBlankAnd -/
def BWx (h : pb_H) (w lim c N : Nat) (L0 L : List Nat) : Prop := ∃ sz ov b, BX h w lim c N L0 L sz ov b
/-- as BG, with the cell a too -/
def BG2 (a : Nat) (h h' : pb_H) (w lim c N c' N' : Nat) : Prop := fg (fun q => q = w ∨ q = c ∨ q = a) h h' ∧ (c' = c ∨ h.1 ≤ c') ∧ h'.1 + (lim - N') ≤ h.1 + (lim - N) ∧ pb_sl h' + pot lim N' ≤ pb_sl h + pot lim N
theorem BG2_trans {a : Nat} {h h' h'' : pb_H} {w lim c N c' N' c'' N'' : Nat} (x : BG2 a h h' w lim c N c' N') (y : BG2 a h' h'' w lim c' N' c'' N'') : BG2 a h h'' w lim c N c'' N'' := by
  obtain ⟨a1, a2, a3, a4⟩ := x
  obtain ⟨b1, b2, b3, b4⟩ := y
  have hle := a1.1
  refine ⟨⟨Nat.le_trans a1.1 b1.1, fun q q1 q2 => (b1.2 q (Nat.lt_of_lt_of_le q1 a1.1) (fun w => ?_)).trans (a1.2 q q1 q2)⟩, by omega, by omega, by omega⟩
  rcases w with w | w | w
  · exact q2 (Or.inl w)
  · rcases a2 with e | e
    · exact q2 (Or.inr (Or.inl (w.trans e)))
    · omega
  · exact q2 (Or.inr (Or.inr w))
theorem BG_2 {a : Nat} {h h' : pb_H} {w lim c N c' N' : Nat} (x : BG h h' w lim c N c' N') : BG2 a h h' w lim c N c' N' := ⟨fg_mono (fun q _ e => by
  rcases e with e | e
  · exact Or.inl e
  · exact Or.inr (Or.inl e)) x.1, x.2⟩
theorem BG2_fr {a : Nat} {h h' : pb_H} {w lim c N : Nat} (F : fr (fun q => q = a) h h') : BG2 a h h' w lim c N c N := ⟨fg_mono (fun q _ e => Or.inr (Or.inr e)) (fg_fr F), Or.inl rfl, by rw [F.1]; omega, by rw [fr_sl F]; omega⟩
section WR2
variable {h : pb_H} {Q : Option Value → pb_H → Prop} {w lim c N sz : Nat} {ov : Int32} {b : Nat → Nat} {L0 L : List Nat}
theorem BX_is (hB : BX h w lim c N L0 L sz ov b) : pb_is0 (h.2 w) 0 = true := by rw [hB.1.1]; rfl
theorem BX_w (hB : BX h w lim c N L0 L sz ov b) : h.2 w = cw lim c sz ov := hB.1.1
theorem BX_fr {T : Nat → Prop} {h' : pb_H} (F : fr T h h') (hw : ¬ T w) (hc : ¬ T c) (hB : BX h w lim c N L0 L sz ov b) : BX h' w lim c N L0 L sz ov b := by
  obtain ⟨⟨b1, b2, b3, b4, b5, b6, b7, b8, b9, b10⟩, r⟩ := hB
  exact ⟨⟨(F.2.2 w hw).trans b1, (F.2.2 c hc).trans b2, b3, b4, b5, b6, b7, b8, by rw [F.1]; exact b9, by rw [F.1]; exact b10⟩, r⟩
theorem W2x {x : Int32} {k : Nat} (hB : BWx h w lim c N L0 L) (hk : wu x % 256 = k)
    (hQ : ∀ h' c' N', BG h h' w lim c N c' N' → BWx h' w lim c' N' L0 (L ++ [k]) → Q none h') : pb_call 2 [.ref w, .int x] h Q := by
  obtain ⟨sz, ov, b, hB⟩ := hB
  exact W2 hB hk (fun h' c' N' sz' ov' b' G B _ _ => hQ h' c' N' G ⟨sz', ov', b', B⟩)
/-- ByteRow.addBlankAnd -/
theorem W9 {x : Int32} {k : Nat} (hB : BWx h w lim c N L0 L) (hk : wu x % 256 = k)
    (hQ : ∀ h' c' N', BG h h' w lim c N c' N' → BWx h' w lim c' N' L0 (L ++ [32, k]) → Q none h') : pb_call 9 [.ref w, .int x] h Q := by
  have e32 : wu (32 : Int32) % 256 = 32 := by decide
  have hw0 : pb_is0 (h.2 w) 0 = true := by
    obtain ⟨sz, ov, b, hB⟩ := hB
    exact BX_is hB
  rw [pb_c9]
  simp only [pb_e9, hw0, true_and]
  refine W2x hB e32 ?_
  intro h1 c1 N1 G1 B1
  have hw1 : pb_is0 (h1.2 w) 0 = true := by
    obtain ⟨sz, ov, b, hB⟩ := B1
    exact BX_is hB
  simp only [Option.toList_none, List.nil_append, pb_e9, hw1, true_and]
  refine W2x B1 hk ?_
  intro h2 c2 N2 G2 B2
  simp only [Option.toList_none, List.nil_append, pb_e9]
  rw [List.append_assoc] at B2
  exact hQ h2 c2 N2 (BG_trans G1 G2) B2
theorem dig_wu {k : Nat} (hk : k < 10) : wu (48 + nI k) % 256 = 48 + k := by
  have e : (48 : Int32) + nI k = nI (48 + k) := nI_add 48 k
  rw [e, wu_nI]
  omega
/-- ByteRow.addSmall -/
theorem W8 {n : Nat} (hB : BWx h w lim c N L0 L) (hn : n < 2 ^ 31)
    (hQ : ∀ h' c' N', BG h h' w lim c N c' N' → BWx h' w lim c' N' L0 (L ++ dec n) → Q none h') : pb_call 8 [.ref w, .int (nI n)] h Q := by
  obtain ⟨sz, ov, b, hB⟩ := hB
  have hL0 : L0.length ≤ sz := hB.2.1
  have hfirst : ov = 0 → sz = L.length := fun e => by
    rcases hB.2.2.2 with q | q
    · exact q.2.1
    · rw [q.1] at e; exact absurd e (by decide)
  have z10 : ¬ (10 : Int32) = 0 := by decide
  have loop : ∀ f n' ds h' c' N' sz' ov' b' l1, n' < 10 ^ (f + 1) → n' < 2 ^ 31 → rdg 80 n = ds ++ rdg (f + 1) n' → BG h h' w lim c N c' N' → BX h' w lim c' N' L0 (L ++ ds) sz' ov' b' → (ov' = 0 → sz = L.length) → sz ≤ sz' → pb_R 8 7 [some (.ref w), l1, some (.int (nI sz)), some (.int (nI n'))] [] [] h' Q := by
    intro f
    induction f with
    | zero =>
      intro n' ds h' c' N' sz' ov' b' l1 h10 h31 hr G B hf hs
      have hd : nI n' / 10 = nI (n' / 10) := pk_div (d := 10) h31 (by omega) (by omega)
      have hm : nI n' - nI (n' / 10) * 10 = nI (n' % 10) := by
        have := pk_rem (a := n') (d := 10) h31 (by omega) (by omega)
        rw [pk_div (d := 10) h31 (by omega) (by omega)] at this
        exact this
      have h0 : n' / 10 = 0 := by omega
      have c0 : ¬ (0 : Int32) < nI (n' / 10) := by rw [h0]; decide
      have er : rdg (0 + 1) n' = [48 + n' % 10] := by
        show (48 + n' % 10) :: (if n' / 10 = 0 then [] else rdg 0 (n' / 10)) = _
        rw [if_pos h0]
      rw [er] at hr
      rw [pb_q8_7]
      simp only [pb_e8, z10, not_false_eq_true, true_and, hd, hm, BX_is B]
      refine W2 B (dig_wu (by omega)) ?_
      intro h2 c2 N2 sz2 ov2 b2 G2 B2 o2 s2
      rw [List.append_assoc, ← hr] at B2
      simp only [Option.toList_none, List.nil_append, pb_e8, z10, not_false_eq_true, true_and, hd, c0, if_false, BX_is B2]
      refine W6 B2 hL0 (by omega) (fun e => hf (o2 e)) ?_
      intro h3 sz3 ov3 b3 G3 B3
      simp only [Option.toList_none, List.nil_append, pb_e8]
      exact hQ h3 c2 N2 (BG_trans G (BG_trans G2 G3)) ⟨sz3, ov3, b3, B3⟩
    | succ f ih =>
      intro n' ds h' c' N' sz' ov' b' l1 h10 h31 hr G B hf hs
      have hd : nI n' / 10 = nI (n' / 10) := pk_div (d := 10) h31 (by omega) (by omega)
      have hm : nI n' - nI (n' / 10) * 10 = nI (n' % 10) := by
        have := pk_rem (a := n') (d := 10) h31 (by omega) (by omega)
        rw [pk_div (d := 10) h31 (by omega) (by omega)] at this
        exact this
      rw [pb_q8_7]
      simp only [pb_e8, z10, not_false_eq_true, true_and, hd, hm, BX_is B]
      refine W2 B (dig_wu (by omega)) ?_
      intro h2 c2 N2 sz2 ov2 b2 G2 B2 o2 s2
      by_cases h0 : n' / 10 = 0
      · have c0 : ¬ (0 : Int32) < nI (n' / 10) := by rw [h0]; decide
        have er : rdg (f + 1 + 1) n' = [48 + n' % 10] := by
          show (48 + n' % 10) :: (if n' / 10 = 0 then [] else rdg (f + 1) (n' / 10)) = _
          rw [if_pos h0]
        rw [er] at hr
        rw [List.append_assoc, ← hr] at B2
        simp only [Option.toList_none, List.nil_append, pb_e8, z10, not_false_eq_true, true_and, hd, c0, if_false, BX_is B2]
        refine W6 B2 hL0 (by omega) (fun e => hf (o2 e)) ?_
        intro h3 sz3 ov3 b3 G3 B3
        simp only [Option.toList_none, List.nil_append, pb_e8]
        exact hQ h3 c2 N2 (BG_trans G (BG_trans G2 G3)) ⟨sz3, ov3, b3, B3⟩
      · have c0 : (0 : Int32) < nI (n' / 10) := nI_lt (a := 0) (by omega) (by omega)
        have er : rdg (f + 1 + 1) n' = (48 + n' % 10) :: rdg (f + 1) (n' / 10) := by
          show (48 + n' % 10) :: (if n' / 10 = 0 then [] else rdg (f + 1) (n' / 10)) = _
          rw [if_neg h0]
        rw [er] at hr
        rw [List.append_assoc] at B2
        simp only [Option.toList_none, List.nil_append, pb_e8, z10, not_false_eq_true, true_and, hd, c0, if_true]
        refine ih (n' / 10) (ds ++ [48 + n' % 10]) h2 c2 N2 sz2 ov2 b2 _ (by
          have : 10 ^ (f + 1 + 1) = 10 ^ (f + 1) * 10 := rfl
          omega) (by omega) (by rw [hr, List.append_assoc]; rfl) (BG_trans G G2) B2 (fun e => hf (o2 e)) (by omega)
  rw [pb_c8]
  simp only [pb_e8, BX_w hB, pb_g0, pb_o_some]
  exact loop 79 n [] h c N sz ov b _ (Nat.lt_of_lt_of_le hn (by decide)) hn rfl (BG_refl _ _ _ _ _) (by rw [List.append_nil]; exact hB) hfirst (Nat.le_refl _)
/-- ByteRow.addNumber: the number at a is 0 afterwards -/
theorem W7 {a M : Nat} {f : Nat → Int32} (hB : BWx h w lim c N L0 L) (ha : h.2 a = ci 8 f) (hal : a < h.1) (hM : wv f 0 8 = M)
    (hQ : ∀ h' c' N' f', BG2 a h h' w lim c N c' N' → BWx h' w lim c' N' L0 (L ++ dec M) → h'.2 a = ci 8 f' → Q none h') : pb_call 7 [.ref w, .ref a] h Q := by
  obtain ⟨sz, ov, b, hB⟩ := hB
  have hL0 : L0.length ≤ sz := hB.2.1
  have hfirst : ov = 0 → sz = L.length := fun e => by
    rcases hB.2.2.2 with q | q
    · exact q.2.1
    · rw [q.1] at e; exact absurd e (by decide)
  have hM80 : M < 10 ^ 80 := by
    have := wv_lt f 0 8
    have e : 4294967296 ^ 8 < 10 ^ 80 := by decide
    omega
  -- what tenth does to f with the width W
  have ten : ∀ (f : Nat → Int32) (W n : Nat), W ≤ 8 → wd f 0 8 ≤ W → wv f 0 8 = n → (wt f 0 W).2 = n % 10 ∧ wv (wt f 0 W).1 0 8 = n / 10 := by
    intro f W n hW hwd hn
    have h1 := wt_val W f 0 (by omega)
    have h2 := wt_r W f 0 (by omega)
    have h3 : wv f 0 8 = wv f 0 W := wv_cut hW (fun i i1 i2 => wd_top f 0 8 i (by omega) i2)
    have h4 : wv (wt f 0 W).1 0 8 = wv (wt f 0 W).1 0 W := wv_cut hW (fun i i1 i2 => by
      rw [Nat.zero_add, wt_out _ _ _ _ i1]
      have := wd_top f 0 8 i (by omega) i2
      rw [Nat.zero_add] at this
      exact this)
    rw [h4]
    omega
  have sep : ∀ {h' : pb_H} {c' N' sz' : Nat} {ov' : Int32} {b' : Nat → Nat} {L' : List Nat} {f' : Nat → Int32}, BX h' w lim c' N' L0 L' sz' ov' b' → h'.2 a = ci 8 f' → a ≠ w ∧ a ≠ c' := by
    intro h' c' N' sz' ov' b' L' f' B e
    refine ⟨fun q => ?_, fun q => ?_⟩
    · rw [q, B.1.1] at e; cases e
    · have := B.1.2.1
      rw [← q, e] at this
      unfold cb at this
      injection this with this
      injection this with this _
      exact absurd this (by decide)
  have loop : ∀ fu n' ds h' c' N' sz' ov' b' f' W i, n' < 10 ^ (fu + 1) → i + fu ≤ 79 → rdg 80 M = ds ++ rdg (fu + 1) n' → BG2 a h h' w lim c N c' N' → BX h' w lim c' N' L0 (L ++ ds) sz' ov' b' → (ov' = 0 → sz = L.length) → sz ≤ sz' → h'.2 a = ci 8 f' → wv f' 0 8 = n' → W ≤ 8 → 1 ≤ W → wd f' 0 8 ≤ W → pb_R 7 18 [some (.ref w), some (.ref a), some (.int (nI sz)), some (.int (nI W)), some (.int (nI i))] [] [] h' Q := by
    intro fu
    induction fu with
    | zero =>
      intro n' ds h' c' N' sz' ov' b' f' W i h10 hi hr G B hf hs ha' hn' hW hW1 hwd
      obtain ⟨aw, ac⟩ := sep B ha'
      obtain ⟨t1, t2⟩ := ten f' W n' hW hwd hn'
      have c1 : ¬ (120 : Int32) ≤ nI i := nI_ge (b := 120) (by omega) (by omega)
      have c2 : ¬ nI W ≤ 0 := nI_nle (by omega) (by omega)
      have h5 := fun Q : Option Value → pb_H → Prop => m5 (Q := Q) (w := W) ha' hW (by omega)
      rw [t1] at h5
      have F1 : fr (fun q => q = a) h' (pb_set h' a (ci 8 (wt f' 0 W).1)) := fr_set rfl (by rw [ha']; rfl)
      have B1 := BX_fr F1 (fun e => aw e.symm) (fun e => ac e.symm) B
      have a1 : (pb_set h' a (ci 8 (wt f' 0 W).1)).2 a = ci 8 (wt f' 0 W).1 := by rw [pb_set_get, if_pos rfl]
      have h0 : n' / 10 = 0 := by omega
      have er : rdg (0 + 1) n' = [48 + n' % 10] := by
        show (48 + n' % 10) :: (if n' / 10 = 0 then [] else rdg 0 (n' / 10)) = _
        rw [if_pos h0]
      rw [er] at hr
      rw [pb_q7_18]
      simp only [pb_e7, c1, c2, if_false, h5, Option.toList_some, List.singleton_append, BX_is B1, true_and]
      refine W2 B1 (dig_wu (by omega)) ?_
      intro h2 c3 N2 sz2 ov2 b2 G2 B2 o2 s2
      rw [List.append_assoc, ← hr] at B2
      have a2 : h2.2 a = ci 8 (wt f' 0 W).1 := (G2.1.2 a (by have := G.1.1; show a < h'.1; omega) (fun e => by
        rcases e with e | e
        · exact aw e
        · exact ac e)).trans a1
      have h4 : ∀ Q : Option Value → pb_H → Prop, pb_call 4 [.ref a, .int 0] h2 Q ↔ Q (some (.int 0)) h2 := fun Q => by
        have := m4 (Q := Q) (i := 0) a2 (by omega) (by omega)
        rw [wd_zero.mpr (by rw [t2]; exact h0)] at this
        exact this
      have z0 : (0 : Int32) ≤ 0 := by decide
      simp only [Option.toList_none, List.nil_append, pb_e7, h4, Option.toList_some, List.singleton_append]
      rw [pb_q7_18]
      have done : pb_call 6 [.ref w, .int (nI sz)] h2 (fun v t => pb_R 7 58 [some (.ref w), some (.ref a), some (.int (nI sz)), some (.int 0), some (.int (nI i + 1))] [] (v.toList ++ []) t Q) := by
        refine W6 B2 hL0 (by omega) (fun e => hf (o2 e)) ?_
        intro h3 sz3 ov3 b3 G3 B3
        have a3 : h3.2 a = ci 8 (wt f' 0 W).1 := (G3.1.2 a (by have := G.1.1; have := G2.1.1; show a < h2.1; have e : (pb_set h' a (ci 8 (wt f' 0 W).1)).1 = h'.1 := rfl; omega) (fun e => by
          obtain ⟨q1, q2⟩ := sep B2 a2
          rcases e with e | e
          · exact q1 e
          · exact q2 e)).trans a2
        simp only [Option.toList_none, List.nil_append, pb_e7]
        exact hQ h3 c3 N2 _ (BG2_trans G (BG2_trans (BG2_fr F1) (BG2_trans (BG_2 G2) (BG_2 G3)))) ⟨sz3, ov3, b3, B3⟩ a3
      by_cases c120 : (120 : Int32) ≤ nI i + 1
      · simp only [pb_e7, c120, if_true, BX_is B2, true_and]
        exact done
      · simp only [pb_e7, c120, if_false, z0, if_true, BX_is B2, true_and]
        exact done
    | succ fu ih =>
      intro n' ds h' c' N' sz' ov' b' f' W i h10 hi hr G B hf hs ha' hn' hW hW1 hwd
      obtain ⟨aw, ac⟩ := sep B ha'
      obtain ⟨t1, t2⟩ := ten f' W n' hW hwd hn'
      have c1 : ¬ (120 : Int32) ≤ nI i := nI_ge (b := 120) (by omega) (by omega)
      have c2 : ¬ nI W ≤ 0 := nI_nle (by omega) (by omega)
      have h5 := fun Q : Option Value → pb_H → Prop => m5 (Q := Q) (w := W) ha' hW (by omega)
      rw [t1] at h5
      have F1 : fr (fun q => q = a) h' (pb_set h' a (ci 8 (wt f' 0 W).1)) := fr_set rfl (by rw [ha']; rfl)
      have B1 := BX_fr F1 (fun e => aw e.symm) (fun e => ac e.symm) B
      have a1 : (pb_set h' a (ci 8 (wt f' 0 W).1)).2 a = ci 8 (wt f' 0 W).1 := by rw [pb_set_get, if_pos rfl]
      rw [pb_q7_18]
      simp only [pb_e7, c1, c2, if_false, h5, Option.toList_some, List.singleton_append, BX_is B1, true_and]
      refine W2 B1 (dig_wu (by omega)) ?_
      intro h2 c3 N2 sz2 ov2 b2 G2 B2 o2 s2
      have a2 : h2.2 a = ci 8 (wt f' 0 W).1 := (G2.1.2 a (by have := G.1.1; show a < h'.1; omega) (fun e => by
        rcases e with e | e
        · exact aw e
        · exact ac e)).trans a1
      have h4 := fun Q : Option Value → pb_H → Prop => m4 (Q := Q) (i := 0) a2 (by omega) (by omega)
      have h4' : ∀ Q : Option Value → pb_H → Prop, pb_call 4 [.ref a, .int 0] h2 Q ↔ Q (some (.int (nI (wd (wt f' 0 W).1 0 8)))) h2 := h4
      have GG : BG2 a h h2 w lim c N c3 N2 := BG2_trans G (BG2_trans (BG2_fr F1) (BG_2 G2))
      by_cases h0 : n' / 10 = 0
      · have er : rdg (fu + 1 + 1) n' = [48 + n' % 10] := by
          show (48 + n' % 10) :: (if n' / 10 = 0 then [] else rdg (fu + 1) (n' / 10)) = _
          rw [if_pos h0]
        rw [er] at hr
        rw [List.append_assoc, ← hr] at B2
        rw [wd_zero.mpr (by rw [t2]; exact h0)] at h4'
        have z0 : nI 0 ≤ 0 := by decide
        simp only [Option.toList_none, List.nil_append, pb_e7, h4', Option.toList_some, List.singleton_append]
        rw [pb_q7_18]
        have done : pb_call 6 [.ref w, .int (nI sz)] h2 (fun v t => pb_R 7 58 [some (.ref w), some (.ref a), some (.int (nI sz)), some (.int (nI 0)), some (.int (nI i + 1))] [] (v.toList ++ []) t Q) := by
          refine W6 B2 hL0 (by omega) (fun e => hf (o2 e)) ?_
          intro h3 sz3 ov3 b3 G3 B3
          have a3 : h3.2 a = ci 8 (wt f' 0 W).1 := (G3.1.2 a (by have := GG.1.1; omega) (fun e => by
            obtain ⟨q1, q2⟩ := sep B2 a2
            rcases e with e | e
            · exact q1 e
            · exact q2 e)).trans a2
          simp only [Option.toList_none, List.nil_append, pb_e7]
          exact hQ h3 c3 N2 _ (BG2_trans GG (BG_2 G3)) ⟨sz3, ov3, b3, B3⟩ a3
        by_cases c120 : (120 : Int32) ≤ nI i + 1
        · simp only [pb_e7, c120, if_true, BX_is B2, true_and]
          exact done
        · simp only [pb_e7, c120, if_false, z0, if_true, BX_is B2, true_and]
          exact done
      · have er : rdg (fu + 1 + 1) n' = (48 + n' % 10) :: rdg (fu + 1) (n' / 10) := by
          show (48 + n' % 10) :: (if n' / 10 = 0 then [] else rdg (fu + 1) (n' / 10)) = _
          rw [if_neg h0]
        rw [er] at hr
        rw [List.append_assoc] at B2
        simp only [Option.toList_none, List.nil_append, pb_e7, h4', Option.toList_some, List.singleton_append, nI_1]
        have hwl := wd_le (wt f' 0 W).1 0 8
        refine ih (n' / 10) (ds ++ [48 + n' % 10]) h2 c3 N2 sz2 ov2 b2 (wt f' 0 W).1 (wd (wt f' 0 W).1 0 8) (i + 1) (by
          have : 10 ^ (fu + 1 + 1) = 10 ^ (fu + 1) * 10 := rfl
          omega) (by omega) (by rw [hr, List.append_assoc]; rfl) GG B2 (fun e => hf (o2 e)) (by omega) a2 t2 hwl (by
          have : wd (wt f' 0 W).1 0 8 ≠ 0 := fun e => h0 (by rw [← t2]; exact wd_zero.mp e)
          omega) (Nat.le_refl _)
  have h4 : ∀ Q : Option Value → pb_H → Prop, pb_call 4 [.ref a, .int 0] h Q ↔ Q (some (.int (nI (wd f 0 8)))) h := fun Q => m4 (i := 0) ha (by omega) (by omega)
  have hwl := wd_le f 0 8
  have emx : (if (1 : Int32) < nI (wd f 0 8) then nI (wd f 0 8) else 1) = nI (max 1 (wd f 0 8)) := by
    by_cases cc : 1 < wd f 0 8
    · have k1 : (1 : Int32) < nI (wd f 0 8) := nI_lt (a := 1) cc (by omega)
      rw [if_pos k1, Nat.max_eq_right (by omega)]
    · have k1 : ¬ (1 : Int32) < nI (wd f 0 8) := nI_nlt (b := wd f 0 8) (a := 1) (by omega) (by omega)
      rw [if_neg k1, Nat.max_eq_left (by omega)]
      rfl
  rw [pb_c7]
  simp only [pb_e7, BX_w hB, pb_g0, pb_o_some, h4, Option.toList_some, List.singleton_append, emx]
  exact loop 79 M [] h c N sz ov b f (max 1 (wd f 0 8)) 0 hM80 (by omega) rfl ⟨fg_refl _ _, Or.inl rfl, Nat.le_refl _, Nat.le_refl _⟩ (by rw [List.append_nil]; exact hB) hfirst (Nat.le_refl _) ha hM (by omega) (by omega) (by omega)
end WR2
