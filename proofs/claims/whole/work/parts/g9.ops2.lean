/-! The law's calls: feed, back, holds, check -/
section OPS2
variable {L : Nat} {xs : Nat → Int32} {h h' : pb_H} {V c N n p w Nw m : Nat} {b : Nat → Nat} {fa fb : Int32} {F F' D D' : Nat → Option Nat} {z : SS} {X : Nat → LN} {og : Nat → Nat}
/-- the LINES' row is not touched -/
theorem SHL_keep {S : Nat → Prop} (G : fg S h h') (h83 : 83 ≤ h.1) (hS : ∀ q, S q → (5 ≤ q) ∧ ∀ i a, i < 300 → F i = some a → q ≠ a ∧ q ≠ a + 1) (H : SHL h V m p F X og) : SHL h' V m p F X og := by
  obtain ⟨e2, ⟨r, e3⟩, e4, hm, hSL, hl, hi⟩ := H
  have k : ∀ q, q < 5 → h'.2 q = h.2 q := fun q q1 => G.2 q (by omega) (fun e => by have := (hS q e).1; omega)
  have kl : ∀ i a, i < 300 → F i = some a → ¬ S a ∧ ¬ S (a + 1) := fun i a i1 e => ⟨fun s => ((hS _ s).2 i a i1 e).1 rfl, fun s => ((hS _ s).2 i a i1 e).2 rfl⟩
  refine ⟨(k 2 (by omega)).trans e2, ⟨r, (k 3 (by omega)).trans e3⟩, (k 4 (by omega)).trans e4, hm, fun k k1 k2 => ?_, fun i a i1 e => ?_, hi⟩
  · obtain ⟨a, a1, a2⟩ := hSL k k1 k2
    have a3 := hl (k - 1) a (by omega) a1
    have a4 := kl (k - 1) a (by omega) a1
    exact ⟨a, a1, LA_fg G a3.2.1 a4.1 a4.2 a2⟩
  · obtain ⟨l1, l2, l3⟩ := hl i a i1 e
    have a4 := kl i a i1 e
    have := G.1
    exact ⟨l1, by omega, LG_eq (G.2 a (by omega) a4.1) (G.2 (a + 1) l2 a4.2) l3⟩
/-- the SEARCH and the LINES are not touched -/
theorem CW_fg {S : Nat → Prop} (G : fg S h h') (h83 : 83 ≤ h.1) (hS : ∀ q, S q → q ≠ w ∧ ((5 ≤ q ∧ q ≤ 46) ∨ 65 ≤ q) ∧ ∀ i a, i < 300 → F i = some a → q ≠ a ∧ q ≠ a + 1) (C : CW h V p w Nw F z) : CW h' V p w Nw F z := by
  obtain ⟨pb, tb, fbb, lt, h47, hR, hS0, hC, hA, hl⟩ := C
  have S' := SHL_keep G h83 (fun q e => ⟨by have := (hS q e).2.1; omega, (hS q e).2.2⟩) hS0
  refine ⟨pb, tb, fbb, lt, (G.2 47 (by omega) (fun e => by have := (hS _ e).2.1; omega)).trans h47, SRx_fg hR G (fun q e => ⟨(hS q e).1, by have := (hS _ e).2.1; omega, by have := (hS _ e).2.1; omega⟩) S'.2.1, S', CT_fg G h83 (fun q e1 e2 => by have := (hS _ e2).2.1; omega) hC, hA, hl⟩
theorem PW_fg {S : Nat → Prop} (G : fg S h h') (hF : ∀ q, S q → ∀ i a, i < 300 → F i = some a → q ≠ a ∧ q ≠ a + 1) (hD : ∀ q, S q → ∀ i a, i < 40 → D i = some a → q ≠ a ∧ q ≠ a + 1) (P : PW h V F D) : PW h' V F D := by
  have hle := G.1
  refine ⟨fun i a i1 e => ?_, fun i a i1 e => ?_, P.2.2⟩
  · obtain ⟨l1, l2, l3⟩ := P.1 i a i1 e
    exact ⟨l1, by omega, LG_eq (G.2 a (by omega) (fun s => (hF _ s i a i1 e).1 rfl)) (G.2 (a + 1) l2 (fun s => (hF _ s i a i1 e).2 rfl)) l3⟩
  · obtain ⟨l1, l2, l3⟩ := P.2.1 i a i1 e
    exact ⟨l1, by omega, LG_eq (G.2 a (by omega) (fun s => (hD _ s i a i1 e).1 rfl)) (G.2 (a + 1) l2 (fun s => (hD _ s i a i1 e).2 rfl)) l3⟩
/-- the tape has changed, nothing else -/
theorem C_BG {c' N' n' : Nat} {b' : Nat → Nat} (C : JC h V c N n b fa fb w Nw F D p z) (M : JM L h V N Nw F D) (B : BG h h' 9 4000 c N c' N') (B' : BR h' 9 4000 c' N' n' 0 b') : JC h' V c' N' n' b' fa fb w Nw F D p z ∧ (∀ q, 65 ≤ q → q ≤ 82 → h'.2 q = h.2 q) ∧ h'.2 0 = h.2 0 ∧ JM L h' V N' Nw F D := by
  obtain ⟨⟨a1, ⟨b1, b2, b3, b4, b5, b6, b7, b8, b9, b10⟩, a3, a4, ⟨cc, s, a5, a6⟩, ⟨rel, a7⟩, ⟨g, a8⟩, ⟨fs, a9⟩, ⟨m0, a10⟩, a11, a12, ⟨hg, a13⟩, a14, a15⟩, hCW⟩ := C
  obtain ⟨G, A2, A5, A6⟩ := B
  obtain ⟨pb, tb, fbb, lt, h47, hR, hS, hC, hA, hl⟩ := id hCW
  have hwx := WB_c hR.1
  obtain ⟨w1, MM, bb, w2⟩ := WB_cb hR.1
  have lo : ∀ q, q < 83 → q ≠ 9 → q ≠ 10 → h'.2 q = h.2 q := fun q q1 q2 q3 => G.2 q (by omega) (fun e => by omega)
  have hF : ∀ q, (q = 9 ∨ q = c) → ∀ i a, i < 300 → F i = some a → q ≠ a ∧ q ≠ a + 1 := fun q e i a i1 ea => by
    obtain ⟨l1, l2, l3⟩ := a12.1 i a i1 ea
    rcases e with e | e
    · omega
    · rw [e]; exact LG_cb l3 b2
  have hD : ∀ q, (q = 9 ∨ q = c) → ∀ i a, i < 40 → D i = some a → q ≠ a ∧ q ≠ a + 1 := fun q e i a i1 ea => by
    obtain ⟨l1, l2, l3⟩ := a12.2.1 i a i1 ea
    rcases e with e | e
    · omega
    · rw [e]; exact LG_cb l3 b2
  have hle := G.1
  have hc' : (c' = 10 ∨ 83 ≤ c') ∧ c' ≠ w := by
    rcases A2 with q | q
    · rw [q]; exact ⟨a3, a4⟩
    · omega
  refine ⟨⟨⟨(lo 1 (by omega) (by omega) (by omega)).trans a1, B', hc'.1, hc'.2, ⟨cc, s, (lo 5 (by omega) (by omega) (by omega)).trans a5, a6⟩, ⟨rel, (lo 6 (by omega) (by omega) (by omega)).trans a7⟩, ⟨g, (lo 7 (by omega) (by omega) (by omega)).trans a8⟩, ⟨fs, (lo 8 (by omega) (by omega) (by omega)).trans a9⟩, ⟨m0, (lo 11 (by omega) (by omega) (by omega)).trans a10⟩, (lo 12 (by omega) (by omega) (by omega)).trans a11, PW_fg G hF hD a12, ⟨hg, (lo 13 (by omega) (by omega) (by omega)).trans a13⟩, CKs_eq (fun x x1 x2 => lo x (by omega) (by omega) (by omega)) a14, by omega⟩, CW_fg G a15 (fun q e => ⟨by omega, by omega, hF q e⟩) hCW⟩, fun q q1 q2 => lo q (by omega) (by omega) (by omega), lo 0 (by omega) (by omega) (by omega), ?_, ?_⟩
  · have := M.1; omega
  · have := M.2; omega
theorem RNx_n {s s' sg ogI : Nat → Int32} {G : Nat → Nat} {n' : Nat} {b' : Nat → Nat} (W : RNx h V n b s G sg ogI z) (F : fr tS h h') (e65 : h'.2 65 = rm s') (e69 : h'.2 69 = cb 4000 b') (hb : ∀ k, b' k < 256) (h7 : s' 7 = nI n') (hn : n' ≤ 4000) (p : kp (fun k => k = 7) s s') : RNx h' V n' b' s' G sg ogI z := by
  obtain ⟨⟨⟨⟨x1, x2, x3, x4, ⟨W1, y1, y1'⟩, ⟨W2, y2, y2'⟩, ⟨W3, y3, y3'⟩, W4, y4, y4'⟩, z1, z2, z3, z4, z5⟩, k1, k2⟩, o1, o2, o3, q⟩ := W
  exact ⟨⟨⟨⟨e65, (F.2.2 66 (by omega)).trans x2, x3, (F.2.2 67 (by omega)).trans x4, ⟨W1, (F.2.2 70 (by omega)).trans y1, y1'⟩, ⟨W2, (F.2.2 71 (by omega)).trans y2, y2'⟩, ⟨W3, (F.2.2 72 (by omega)).trans y3, y3'⟩, W4, (F.2.2 73 (by omega)).trans y4, y4'⟩, e69, h7, hn, hb, (p 3 (by omega)).trans z5⟩, (p 4 (by omega)).trans k1, k2⟩, (F.2.2 68 (by omega)).trans o1, o2, RQs_fr F (fun q e => by omega) (fun k k1 k2 => p k (by omega)) o3, q⟩
theorem O0 {x1 x2 x3 x4 x5 : Int32} (J : JJ L xs h) : OPP L xs 124 141 [.int x1, .int x2, .int x3, .int x4, .int x5] h := by
  obtain ⟨h0, V, c, N, n, b, fa, fb, w, Nw, F, D, p, z, hV, C, R, M⟩ := id J
  obtain ⟨s0, G0, sg0, ogI0, W0, r4, r5, r8, r9⟩ := id R
  have hn : n ≤ 4000 := W0.1.1.2.2.2.1
  intro Q1 hQ1
  refine L124 C.1.1 C.1.2.1 hn ?_ ?_
  · intro hq
    refine hQ1 _ _ h0 (JR_is R) ?_
    intro Q hQ
    exact R141 W0.1.1.1.1 W0.1.1.2.1 W0.1.1.2.2.1 hn (fun _ => hQ h J) (fun _ _ q => by omega)
  · intro h1 c1 N1 hq B1 B2
    obtain ⟨J1, k1, k0, M1⟩ := C_BG C M B1 B2
    have R1 := JR_eq k1 R
    refine hQ1 _ _ (k0.trans h0) (JR_is R1) ?_
    intro Q hQ
    obtain ⟨s1, G1, sg1, ogI1, W1, ⟨f4, r4⟩, r5, r8, r9⟩ := R1
    refine R141 W1.1.1.1.1 W1.1.1.2.1 W1.1.1.2.2.1 hn (fun q => by omega) ?_
    intro h2 s2 _ F2 e65 e69 p2 e7
    exact hQ h2 (JJ_ref hV F2 (fun q e => by omega) (k0.trans h0) J1 M1 ⟨s2, G1, sg1, ogI1, RNx_n W1 F2 e65 e69 B2.2.2.2.2.2.2.1 e7 (by omega) p2, ⟨f4, (F2.2.2 74 (by omega)).trans r4⟩, (p2 5 (by omega)).trans r5, (p2 8 (by omega)).trans r8, (p2 9 (by omega)).trans r9⟩)
theorem O1 {x : Int32} (J : JJ L xs h) : OPP L xs 125 142 [.int x] h := by
  obtain ⟨h0, V, c, N, n, b, fa, fb, w, Nw, F, D, p, z, hV, C, R, M⟩ := id J
  obtain ⟨s0, G0, sg0, ogI0, W0, r4, r5, r8, r9⟩ := id R
  have hn : n ≤ 4000 := W0.1.1.2.2.2.1
  have key : ∀ j, j ≤ n → x = nI j → ¬ (x < 0 ∨ nI n < x) := fun j j1 e q => by
    rw [e] at q
    rcases q with q | q
    · exact Int32.not_lt.mpr (nI_pos' (by omega)) q
    · exact absurd q (nI_nlt (by omega) (by omega))
  intro Q1 hQ1
  refine L125 C.1.1 C.1.2.1 hn ?_ ?_
  · intro hq
    refine hQ1 _ _ h0 (JR_is R) ?_
    intro Q hQ
    exact R142 W0.1.1.1.1 W0.1.1.2.2.1 hn (fun _ => hQ h J) (fun j j1 e => absurd hq (key j j1 e))
  · intro j j1 ej
    have B1 : BG h (pb_set h 9 (cw 4000 c (n - j) 0)) 9 4000 c N c N := by
      have FF : fr (fun q => q = 9) h (pb_set h 9 (cw 4000 c (n - j) 0)) := fr_set rfl (by rw [C.1.2.1.1]; rfl)
      exact ⟨fg_mono (fun q _ e => Or.inl e) (fg_fr FF), Or.inl rfl, by rw [FF.1]; omega, by rw [fr_sl FF]; omega⟩
    have B2 : BR (pb_set h 9 (cw 4000 c (n - j) 0)) 9 4000 c N (n - j) 0 b := by
      obtain ⟨b1, b2, b3, b4, b5, b6, b7, b8, b9, b10⟩ := C.1.2.1
      have := C.1.2.2.1
      exact ⟨by rw [pb_set_get, if_pos rfl], by rw [pb_set_get, if_neg (by omega), b2], by omega, b4, b5, b6, b7, b8, b9, b10⟩
    obtain ⟨J1, k1, k0, M1⟩ := C_BG C M B1 B2
    have R1 := JR_eq k1 R
    refine hQ1 _ _ (k0.trans h0) (JR_is R1) ?_
    intro Q hQ
    obtain ⟨s1, G1, sg1, ogI1, W1, ⟨f4, r4⟩, r5, r8, r9⟩ := R1
    refine R142 W1.1.1.1.1 W1.1.1.2.2.1 hn (fun q => absurd q (key j j1 ej)) ?_
    intro i i1 ei
    have eij : i = j := nI_inj (by omega) (by omega) (ei.symm.trans ej)
    subst eij
    have F2 : fr tS (pb_set h 9 (cw 4000 c (n - i) 0)) (pb_set (pb_set h 9 (cw 4000 c (n - i) 0)) 65 (rm (upd s1 7 (nI (n - i))))) := fr_set (Or.inl rfl) (by rw [W1.1.1.1.1]; rfl)
    have p2 : kp (fun k => k = 7) s1 (upd s1 7 (nI (n - i))) := fun k hk => by
      show (if k = 7 then _ else _) = _
      rw [if_neg hk]
    exact hQ _ (JJ_ref hV F2 (fun q e => by omega) (k0.trans h0) J1 M1 ⟨upd s1 7 (nI (n - i)), G1, sg1, ogI1, RNx_n W1 F2 (by rw [pb_set_get, if_pos rfl]) (by rw [pb_set_get, if_neg (by omega)]; exact W1.1.1.2.1) B2.2.2.2.2.2.2.1 rfl (by omega) p2, ⟨f4, (F2.2.2 74 (by omega)).trans r4⟩, (p2 5 (by omega)).trans r5, (p2 8 (by omega)).trans r8, (p2 9 (by omega)).trans r9⟩)
theorem O7 {k y : Int32} (J : JJ L xs h) : OPP L xs 131 206 [.int k, .int y] h := by
  obtain ⟨h0, V, c, N, n, b, fa, fb, w, Nw, F, D, p, z, hV, C, R, M⟩ := id J
  obtain ⟨pb, tb, fbb, lt, h47, hR, hS, hC, hA, hl⟩ := id C.2
  intro Q1 hQ1
  refine L131 hV C.1.1 hS ?_
  intro h1 G1 S1
  have hwx := WB_c hR.1
  obtain ⟨w1, MM, bb, w2⟩ := WB_cb hR.1
  have hlk : ∀ q, lkS F q → q ≠ w ∧ (q < 47 ∨ 64 < q) := fun q e => by
    rcases e with e | ⟨i, a, i1, ea, e⟩
    · omega
    · obtain ⟨l1, l2, l3⟩ := C.1.2.2.2.2.2.2.2.2.2.2.1.1 i a i1 ea
      exact ⟨fun q2 => (LG_cb l3 w2).1 (q2.symm.trans e), by omega⟩
  have C1 : CW h1 V p w Nw F z := ⟨pb, tb, fbb, lt, (G1.2.2 47 (fun e => by have := hlk _ e; omega)).trans h47, SRx_fg hR (fg_fr G1) (fun q e => ⟨(hlk q e).1, by have h2 := (hlk q e).2; clear e; omega, by have h2 := (hlk q e).2; clear e; omega⟩) S1.2.1, S1, CT_fr G1 (fun q e1 e2 => by have h2 := (hlk q e2).2; clear e2; omega) hC, hA, hl⟩
  have A1 : AG V h F w Nw h1 F w Nw := AG_fr G1 (fun q e => by
    rcases e with e | ⟨i, a, i1, ea, e⟩
    · exact Or.inr (Or.inl e)
    · exact Or.inr (Or.inr (Or.inr (Or.inr ⟨i, a, i1, ea, Or.inl e⟩))))
  obtain ⟨J1, k1, k0, M1⟩ := C_AG C M A1 C1
  have R1 := JR_eq k1 R
  refine hQ1 _ _ (k0.trans h0) (JR_is R1) ?_
  intro Q hQ
  obtain ⟨s1, G2, sg1, ogI1, W1, ⟨f4, r4⟩, r5, r8, r9⟩ := R1
  refine R206 hV W1.1.1.1 W1.1.1.2.2.2.2.2 W1.1.2.1 W1.1.2.2.1 W1.1.2.2.2 ?_
  intro h2 G3 F2 X2 L2
  exact hQ h2 (JJ_ref hV F2 (fun q e => by omega) (k0.trans h0) J1 M1 ⟨s1, G3, sg1, ogI1, ⟨⟨RZ_fr W1.1.1 F2 X2 rfl rfl, W1.1.2.1, W1.1.2.2.1, L2⟩, (F2.2.2 68 (by omega)).trans W1.2.1, W1.2.2.1, RQs_fr F2 (fun q e => by omega) (fun _ _ _ => rfl) W1.2.2.2.1, W1.2.2.2.2⟩, ⟨f4, (F2.2.2 74 (by omega)).trans r4⟩, r5, r8, r9⟩)
end OPS2
