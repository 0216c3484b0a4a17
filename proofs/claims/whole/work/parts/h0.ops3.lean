/-! The law's calls: check, load -/
section OPS3
variable {L : Nat} {xs : Nat → Int32} {h h' : pb_H} {V c N n p w Nw m : Nat} {b : Nat → Nat} {fa fb : Int32} {F F' D D' : Nat → Option Nat} {z : SS} {X : Nat → LN} {og : Nat → Nat}
theorem BR_0 (B : BR h 9 4000 c N n 0 b) (e9 : h'.2 9 = cw 4000 c 0 0) (ec : h'.2 c = h.2 c) (hle : h.1 ≤ h'.1) : BR h' 9 4000 c N 0 0 b := by
  obtain ⟨b1, b2, b3, b4, b5, b6, b7, b8, b9, b10⟩ := B
  exact ⟨e9, ec.trans b2, Nat.zero_le _, b4, b5, b6, b7, b8, by omega, by omega⟩
theorem FX_kept {S : Nat → Prop} (G : fg S h h') (hS : ∀ q, S q → q < 83 ∨ ∃ i a, i < 300 ∧ F i = some a ∧ lc a q) (P : PW h V F D) (hF : ∀ i a, i < 300 → F' i = some a → lok h' V a) (hi : ∀ i j a, i < 300 → j < 300 → F' i = some a → F' j = some a → i = j) (A3 : ∀ i a, i < 300 → F' i = some a → F i = some a ∨ (F i = none ∧ h.1 ≤ a)) : PW h' V F' D := by
  have hle := G.1
  refine ⟨hF, fun i a i1 e => ?_, hi, P.2.2.2.1, fun i j a i1 j1 e1 e2 => ?_⟩
  · obtain ⟨d1, d2, d3⟩ := P.2.1 i a i1 e
    have e1 : h'.2 a = h.2 a := G.2 a (by omega) (fun q => by
      rcases hS a q with q | ⟨j, x, j1, y, l⟩
      · omega
      · rcases l with l | l
        · subst l; exact P.2.2.2.2 j i _ j1 i1 y e
        · exact LG_ne (P.1 j x j1 y).2.2 d3 l)
    have e2 : h'.2 (a + 1) = h.2 (a + 1) := G.2 (a + 1) (by omega) (fun q => by
      rcases hS (a + 1) q with q | ⟨j, x, j1, y, l⟩
      · omega
      · rcases l with l | l
        · exact LG_ne d3 (P.1 j x j1 y).2.2 l.symm
        · have l : a = x := by omega
          subst l; exact P.2.2.2.2 j i _ j1 i1 y e)
    exact ⟨d1, by omega, LG_eq e1 e2 d3⟩
  · rcases A3 i a i1 e1 with q | ⟨q1, q2⟩
    · exact P.2.2.2.2 i j a i1 j1 q e2
    · have := (P.2.1 j a j1 e2).2.1
      omega
theorem O3 (J : JJ L xs h) : OPP L xs 127 201 [] h := by
  obtain ⟨h0, V, c, N, n, b, fa, fb, w, Nw, F, D, p, z, hV, C, R, M⟩ := id J
  obtain ⟨⟨a1, hB, a3, a4, ⟨cc, s, a5, a6⟩, ⟨rel, a7⟩, ⟨g, a8⟩, ⟨fs, a9⟩, ⟨m0, a10⟩, a11, a12, ⟨hg, a13⟩, a14, a15⟩, hCW⟩ := id C
  obtain ⟨pb, tb, fbb, lt, h47, hR, hS, hC, hA, hl⟩ := id hCW
  have hwx := WB_c hR.1
  obtain ⟨w1, MM, bb, w2⟩ := WB_cb hR.1
  intro Q1 hQ1
  refine L127 hV a1 hB a3 a5 a7 a8 a9 a13 a14 hS a15 ?_
  intro h1 s1 fs1 g1 rel1 F1 hg1 d e m1 X1 og1 hchk G X e9 e5 hfa e6 e7 e8 e13 K1 S1
  have hle := G.1
  have nck : ∀ q, ckT F q → (2 ≤ q ∧ q ≤ 9) ∨ (13 ≤ q ∧ q ≤ 46) ∨ ∃ i a, i < 300 ∧ F i = some a ∧ lc a q := fun q e => by
    rcases e with (e | e | e) | e
    · exact Or.inl (by omega)
    · exact Or.inr (Or.inl e)
    · exact Or.inr (Or.inr e)
    · exact Or.inl (by omega)
  have nck2 : ∀ q, ckT F q → (2 ≤ q ∧ q ≤ 9) ∨ (13 ≤ q ∧ q ≤ 46) ∨ 83 ≤ q := fun q e => by
    rcases nck q e with e | e | ⟨i, a, i1, ea, l⟩
    · exact Or.inl e
    · exact Or.inr (Or.inl e)
    · obtain ⟨l1, l2, l3⟩ := a12.1 i a i1 ea
      rcases l with l | l
      · exact Or.inr (Or.inr (by omega))
      · exact Or.inr (Or.inr (by omega))
  have ncb : ∀ x K bx, (x = 10 ∨ 47 ≤ x) → h.2 x = cb K bx → ¬ ckT F x := fun x K bx hx ex e => by
    rcases nck x e with e | e | ⟨i, a, i1, ea, l⟩
    · omega
    · omega
    · obtain ⟨l1, l2, l3⟩ := a12.1 i a i1 ea
      have := LG_cb l3 ex
      rcases l with l | l
      · exact this.1 l
      · exact this.2 l
  have lo : ∀ q, q < 83 → (q < 2 ∨ (10 ≤ q ∧ q ≤ 12) ∨ 47 ≤ q) → h1.2 q = h.2 q := fun q q1 q2 => G.2 q (by omega) (fun e => by have h2 := nck2 q e; clear e; omega)
  have k1 : ∀ q, 65 ≤ q → q ≤ 82 → h1.2 q = h.2 q := fun q q1 q2 => lo q (by omega) (by omega)
  have k0 : h1.2 0 = h.2 0 := lo 0 (by omega) (by omega)
  have hc : h1.2 c = h.2 c := G.2 c hB.2.2.2.2.2.2.2.2.1 (ncb c _ _ (by omega) hB.2.1)
  have P1 : PW h1 V F1 D := FX_kept G (fun q e => by
    rcases nck q e with e | e | e
    · exact Or.inl (by omega)
    · exact Or.inl (by omega)
    · exact Or.inr e) a12 S1.2.2.2.2.2.1 S1.2.2.2.2.2.2 X.1
  have nw : ¬ ckT F w := ncb w _ _ (by omega) w2
  have C1 : CW h1 V p w Nw F1 (z.1, z.2.1, z.2.2.1, m1, X1, og1) := ⟨pb, tb, fbb, lt, (lo 47 (by omega) (by omega)).trans h47, SRx_fg hR G (fun q e => ⟨fun q2 => nw (q2 ▸ e), by have h2 := nck2 q e; clear e; omega, by have h2 := nck2 q e; clear e; omega⟩) S1.2.1, S1, CT_fg G a15 (fun q e1 e2 => by have h2 := nck2 q e2; clear e2; omega) hC, hA, hl⟩
  have J1 : JC h1 V c N 0 b (s1 7) (s1 8) w Nw F1 D p (z.1, z.2.1, z.2.2.1, m1, X1, og1) := ⟨⟨(lo 1 (by omega) (by omega)).trans a1, BR_0 hB e9 hc hle, a3, a4, ⟨_, s1, e5, rfl, rfl⟩, ⟨rel1, e6⟩, ⟨g1, e7⟩, ⟨fs1, e8⟩, ⟨m0, (lo 11 (by omega) (by omega)).trans a10⟩, (lo 12 (by omega) (by omega)).trans a11, P1, ⟨hg1, e13⟩, K1, by omega⟩, C1⟩
  have M1 : JM L h1 V N Nw F1 D := by
    obtain ⟨_, _, x3, x4⟩ := X
    obtain ⟨m1, m2⟩ := M
    refine ⟨by omega, ?_⟩
    rw [Nat.mul_add] at m2 ⊢
    omega
  have R1 := JR_eq k1 R
  refine hQ1 _ _ (k0.trans h0) (JR_is R1) ?_
  intro Q hQ
  obtain ⟨s2, G2, sg2, ogI2, W2, ⟨f4, r4⟩, r5, r8, r9⟩ := R1
  refine U201 hV W2.1 W2.2.1 W2.2.2.1 r4 ?_
  intro h3 s3 G3 sg3 og3 f3 d' e' m' X' ogN' hchk' F3 X3 e4 hm' L3 o1 o2 t3 fk e7' p3
  rw [hchk] at hchk'
  injection hchk' with c1 hchk'
  injection hchk' with c2 hchk'
  injection hchk' with c3 hchk'
  injection hchk' with c4 c5
  subst c1; subst c2; subst c3; subst c4; subst c5
  obtain ⟨mn1, mn2⟩ := sChk_mono _ _ _ _ _ _ _ _ _ _ _ hchk
  have hfab : s3 8 = s1 7 ∧ s3 9 = s1 8 := by
    cases e with
    | none => exact ⟨fk.1.trans hfa.1.symm, fk.2.trans hfa.2.symm⟩
    | some e => exact ⟨fk.1.trans hfa.1.symm, fk.2.trans hfa.2.symm⟩
  refine hQ h3 (JJ_ref hV F3 (fun q e => by omega) (k0.trans h0) J1 M1 ⟨s3, G3, sg3, og3, ⟨⟨⟨X3, (F3.2.2 69 (by omega)).trans W2.1.1.2.1, e7', Nat.zero_le _, W2.1.1.2.2.2.2.1, (p3 3 (by omega)).trans W2.1.1.2.2.2.2.2⟩, e4, hm', L3⟩, o1, o2, ?_, W2.2.2.2.2.1, ?_, W2.2.2.2.2.2.2⟩, ⟨f3, t3⟩, (p3 5 (by omega)).trans r5, hfab.1, hfab.2⟩)
  · have := RQs_fr (s' := s3) F3 (fun q e => by omega) (fun k k1 k2 => p3 k (by omega)) W2.2.2.2.1
    exact this
  · exact TV_X W2.2.2.2.2.2.1 mn1 mn2
theorem LA_fit {a : Nat} {so : Int32} {x : LN} (H : LA h V a so x) : ln_fit V x := by
  obtain ⟨f, pp, nn, wi, ca, cf, co, _, _, hF, _⟩ := H
  refine ⟨?_, fun v v1 v2 => ?_⟩
  · rw [← hF.2.1]; exact wv_lt f 0 8
  · rw [← hF.2.2.1 v v1 v2]; exact wv_lt f (v * 8) 8
theorem O2 (J : JJ L xs h) : OPP L xs 126 192 [] h := by
  obtain ⟨h0, V, c, N, n, b, fa, fb, w, Nw, F, D, p, z, hV, C, R, M⟩ := id J
  obtain ⟨⟨a1, hB, a3, a4, ⟨cc, s, a5, a6⟩, ⟨rel, a7⟩, ⟨g, a8⟩, ⟨fs, a9⟩, ⟨m0, a10⟩, a11, a12, ⟨hg, a13⟩, a14, a15⟩, hCW⟩ := id C
  obtain ⟨pb, tb, fbb, lt, h47, hR, hS, hC, hA, hl⟩ := id hCW
  have hwx := WB_c hR.1
  obtain ⟨w1, MM, bb, w2⟩ := WB_cb hR.1
  obtain ⟨r3, hr3⟩ := hS.2.1
  obtain ⟨ww1, ww2, ⟨sz, ov, b', ⟨b1, b2, b3, b4, b5, b6, b7, b8, b9, b10⟩, rr⟩, w4, ⟨f4', w5⟩, ⟨f5', w6⟩, ⟨f6', w7⟩, r', w8⟩ := id hR.1
  have nD : ∀ q, (∃ i a, i < 40 ∧ D i = some a ∧ lc a q) → 83 ≤ q := fun q ⟨i, a, i1, ea, l⟩ => by
    obtain ⟨l1, l2, l3⟩ := a12.2.1 i a i1 ea
    rcases l with l | l
    · omega
    · omega
  have nDb : ∀ x K bx, h.2 x = cb K bx → ¬ ∃ i a, i < 40 ∧ D i = some a ∧ lc a x := fun x K bx ex ⟨i, a, i1, ea, l⟩ => by
    obtain ⟨l1, l2, l3⟩ := a12.2.1 i a i1 ea
    have := LG_cb l3 ex
    rcases l with l | l
    · exact this.1 l
    · exact this.2 l
  intro Q1 hQ1
  refine L126 hV a1 hB (by omega) a5 a7 a8 a9 a10 a11 hS.1 hr3 hS.2.2.1 a12 a15 h47 hC.1 b1 ?_ ?_
  · intro h1 s1 fs1 g1 r1 rel1 F1 D1 MN X1 hprb hM G e9 e5 es7 es8 e6 e7 e8 e11 e12 e2 e3 e4 P1 SL1 RM1 e47 e57 e48
    have hle := G.1
    have nld : ∀ q, ldS D q → (2 ≤ q ∧ q ≤ 12 ∧ q ≠ 10) ∨ q = 47 ∨ q = 48 ∨ q = 57 ∨ 83 ≤ q := fun q e => by
      rcases e with e | e | e
      · exact Or.inl e
      · rcases e with e | e | e
        · exact Or.inr (Or.inl e)
        · exact Or.inr (Or.inr (Or.inl e))
        · exact Or.inr (Or.inr (Or.inr (Or.inl e)))
      · exact Or.inr (Or.inr (Or.inr (Or.inr (nD q e))))
    have lo : ∀ q, q < 83 → (q < 2 ∨ q = 10 ∨ (13 ≤ q ∧ q ≤ 46) ∨ (49 ≤ q ∧ q ≠ 57)) → h1.2 q = h.2 q := fun q q1 q2 => G.2 q (by omega) (fun e => by have h2 := nld q e; clear e; omega)
    have k1 : ∀ q, 65 ≤ q → q ≤ 82 → h1.2 q = h.2 q := fun q q1 q2 => lo q (by omega) (by omega)
    have k0 : h1.2 0 = h.2 0 := lo 0 (by omega) (by omega)
    have cbk : ∀ x K bx, x < h.1 → (x = 10 ∨ x = 49 ∨ 83 ≤ x) → h.2 x = cb K bx → h1.2 x = h.2 x := fun x K bx x1 hx ex => G.2 x x1 (fun e => by
      rcases e with e | e | e
      · omega
      · omega
      · exact nDb x K bx ex e)
    have hc : h1.2 c = h.2 c := cbk c _ _ hB.2.2.2.2.2.2.2.2.1 (by omega) hB.2.1
    have hw : h1.2 w = h.2 w := cbk w _ _ w1 (by omega) w2
    have S1 : SHL h1 V MN MN F1 (fun k => X1 (k - 1)) (fun _ => 1) := ⟨e2, ⟨r1, e3⟩, e4, by omega, SL1, P1.1, P1.2.2.1⟩
    obtain ⟨t1, t2, t3, ⟨f1, f2, f3, d1, d2, d3, d4⟩, t5, t6⟩ := hC
    obtain ⟨y1, y2, y3, y4, y5, y6, y7, y8, y9⟩ := w4
    have DG1 : DG h1 50 := ⟨y1, y2, y3, y4, y5, (lo 50 (by omega) (by omega)).trans y6, (lo 51 (by omega) (by omega)).trans y7, (lo 52 (by omega) (by omega)).trans y8, (lo 53 (by omega) (by omega)).trans y9⟩
    have C1 : CW h1 V MN w Nw F1 ((0, 0, 0, 0, 0), (0, z.2.1.2.1, z.2.1.2.2.1, z.2.1.2.2.2.1, fun _ => false), [], MN, fun k => X1 (k - 1), fun _ => 1) := by
      refine ⟨pb, 0, 0, 0, e47, ⟨⟨SG_refl _ _ _, ⟨by omega, hwx, by omega, MM, bb, hw.trans w2⟩, ⟨0, 0, b', ⟨e48, hw.trans b2, Nat.zero_le _, b4, b5, b6, b7, b8, by omega, by omega⟩, Nat.le_refl _, fun i hi => absurd hi (Nat.not_lt_zero _), Or.inl ⟨rfl, rfl, fun i hi => absurd hi (Nat.not_lt_zero _)⟩⟩, DG1, ⟨f4', (lo 54 (by omega) (by omega)).trans w5⟩, ⟨f5', (lo 55 (by omega) (by omega)).trans w6⟩, ⟨f6', (lo 56 (by omega) (by omega)).trans w7⟩, r1, e3⟩, Nat.zero_le _, LG_eq (lo 61 (by omega) (by omega)) (lo 62 (by omega) (by omega)) hR.2.2.1, LG_eq (lo 63 (by omega) (by omega)) (lo 64 (by omega) (by omega)) hR.2.2.2⟩, S1, ⟨e57, Nat.zero_le _, t3, ⟨f1, f2, f3, (lo 58 (by omega) (by omega)).trans d1, (lo 59 (by omega) (by omega)).trans d2, (lo 60 (by omega) (by omega)).trans d3, fun i hi => absurd hi (Nat.not_lt_zero _)⟩, fun i hi => absurd hi (Nat.not_lt_zero _), fun i hi => absurd hi (Nat.not_lt_zero _)⟩, fun v v1 v2 => ?_, fun v v1 v2 => bt_zero v⟩
      rw [bt_zero]
      exact ⟨⟨fun w => (by cases w), fun w => (by cases w)⟩, ⟨fun w => (by cases w), fun w => (by cases w)⟩⟩
    have J1 : JC h1 V c N 0 b 0 (-1) w Nw F1 D1 MN ((0, 0, 0, 0, 0), (0, z.2.1.2.1, z.2.1.2.2.1, z.2.1.2.2.2.1, fun _ => false), [], MN, fun k => X1 (k - 1), fun _ => 1) := ⟨⟨(lo 1 (by omega) (by omega)).trans a1, BR_0 hB e9 hc hle, a3, a4, ⟨_, s1, e5, es7, es8⟩, ⟨rel1, e6⟩, ⟨g1, e7⟩, ⟨fs1, e8⟩, ⟨MN, e11⟩, e12, P1, ⟨hg, (lo 13 (by omega) (by omega)).trans a13⟩, CKs_eq (fun x x1 x2 => lo x (by omega) (by omega)) a14, by omega⟩, C1⟩
    have M1 : JM L h1 V N Nw F1 D1 := by
      obtain ⟨x3, x4⟩ := RM1
      obtain ⟨m1, m2⟩ := M
      exact ⟨by omega, by omega⟩
    have R1 := JR_eq k1 R
    refine hQ1 _ _ (k0.trans h0) (JR_is R1) ?_
    intro Q hQ
    obtain ⟨s2, G2, sg2, ogI2, W2, ⟨f4, r4⟩, r5, r8, r9⟩ := R1
    obtain ⟨q1, q2, q3, ⟨ff, q4, q4'⟩, ⟨gg, q5, q5'⟩, ⟨g1', g2', g3', q6, q7, q8, q9⟩, q10, q11⟩ := id W2.2.2.2.1
    refine U192 hV W2.1.1 W2.2.1 q4 q5 ?_ ?_
    · intro h3 s3 G3 sg3 og3 f3' g3'' m3 X3 hprb' hm3 F3 X3' o1 u75 u76 L3 o2 uf ug v3 v4 v5 v7 v8 v9 v22 v23 v24 v25 v26 v27 v34
      rw [hprb] at hprb'
      injection hprb' with hprb'
      injection hprb' with c1 c2
      subst c1; subst c2
      have k : ∀ q, (q = 69 ∨ q = 74 ∨ 77 ≤ q) → h3.2 q = h1.2 q := fun q hq => F3.2.2 q (by omega)
      refine hQ h3 (JJ_ref hV F3 (fun q e => by omega) (k0.trans h0) J1 M1 ⟨s3, G3, sg3, og3, ⟨⟨⟨X3', (k 69 (by omega)).trans W2.1.1.2.1, v7, Nat.zero_le _, W2.1.1.2.2.2.2.1, v3.trans W2.1.1.2.2.2.2.2⟩, v4, (show MN ≤ 300 by omega), L3, fun k k1 k2 => ?_⟩, o1, fun j j1 j2 => o2 j j1 j2, ⟨⟨v22, v23, v24, v25, v26, v27, v34⟩, Nat.zero_le _, ?_, ⟨f3', u75, fun v v1 v2 => uf v (by omega)⟩, ⟨g3'', u76, fun v v1 v2 => ug v (by omega)⟩, ⟨g1', g2', g3', (k 77 (by omega)).trans q6, (k 78 (by omega)).trans q7, (k 79 (by omega)).trans q8, fun i hi => absurd hi (Nat.not_lt_zero _)⟩, ?_, ?_⟩, lo_nil, TV_0, Nat.zero_le _⟩, ⟨f4, (k 74 (by omega)).trans r4⟩, v5, v8, v9⟩)
      · obtain ⟨a, a1, a2⟩ := SL1 k k1 k2
        exact LA_fit a2
      · obtain ⟨pr, p1, p2, p3⟩ := q3
        exact ⟨pr, (k 80 (by omega)).trans p1, p2, fun i hi => absurd hi (Nat.not_lt_zero _)⟩
      · obtain ⟨t, p1⟩ := q10
        exact ⟨t, (k 81 (by omega)).trans p1⟩
      · obtain ⟨t, p1⟩ := q11
        exact ⟨t, (k 82 (by omega)).trans p1⟩
    · intro h3 s3 G3 sg3 e hprb'
      rw [hprb] at hprb'
      cases hprb'
  · intro h1 s1 fs1 g1 rel1 D1 m1 e hprb G e9 e5 hft e6 e7 e8 e11 e12 P1 RM1
    have hle := G.1
    have npd : ∀ q, (pS D q ∨ q = 9) → (5 ≤ q ∧ q ≤ 12 ∧ q ≠ 10) ∨ ∃ i a, i < 40 ∧ D i = some a ∧ lc a q := fun q e => by
      rcases e with (e | e | e | e) | e
      · exact Or.inl (by omega)
      · exact Or.inl (by omega)
      · exact Or.inl (by omega)
      · exact Or.inr e
      · exact Or.inl (by omega)
    have lo : ∀ q, q < 83 → (q < 5 ∨ q = 10 ∨ 13 ≤ q) → h1.2 q = h.2 q := fun q q1 q2 => G.2 q (by omega) (fun e => by
      rcases npd q e with e1 | e1
      · clear e; omega
      · have h2 := nD q e1; clear e e1; omega)
    have k1 : ∀ q, 65 ≤ q → q ≤ 82 → h1.2 q = h.2 q := fun q q1 q2 => lo q (by omega) (by omega)
    have k0 : h1.2 0 = h.2 0 := lo 0 (by omega) (by omega)
    have hc : h1.2 c = h.2 c := G.2 c hB.2.2.2.2.2.2.2.2.1 (fun e => by
      rcases npd c e with e1 | e1
      · clear e; omega
      · exact nDb c _ _ hB.2.1 e1)
    have C1 : CW h1 V p w Nw F z := CW_fg G a15 (fun q e => by
      rcases npd q e with e1 | ⟨i, a, i1, ea, l⟩
      · clear e
        refine ⟨by omega, by omega, fun i a i1 ea => ?_⟩
        have := (a12.1 i a i1 ea).1
        omega
      · have lk := a12.2.1 i a i1 ea
        refine ⟨fun q2 => nDb w _ _ w2 (q2 ▸ ⟨i, a, i1, ea, l⟩), ?_, fun j x j1 ex => ?_⟩
        · have h2 := nD q ⟨i, a, i1, ea, l⟩
          clear e
          omega
        · have lx := a12.1 j x j1 ex
          rcases l with l | l
          · exact ⟨fun q2 => by
              have : a = x := l.symm.trans q2
              subst this
              exact a12.2.2.2.2 j i _ j1 i1 ex ea, fun q2 => LG_ne lx.2.2 lk.2.2 (l.symm.trans q2)⟩
          · exact ⟨fun q2 => LG_ne lk.2.2 lx.2.2 (q2.symm.trans l), fun q2 => by
              have : a = x := by clear e; omega
              subst this
              exact a12.2.2.2.2 j i _ j1 i1 ex ea⟩) hCW
    have J1 : JC h1 V c N 0 b (nI e.1) (nI e.2) w Nw F D1 p z := ⟨⟨(lo 1 (by omega) (by omega)).trans a1, BR_0 hB e9 hc hle, a3, a4, ⟨_, s1, e5, hft.1, hft.2⟩, ⟨rel1, e6⟩, ⟨g1, e7⟩, ⟨fs1, e8⟩, ⟨m1, e11⟩, e12, P1, ⟨hg, (lo 13 (by omega) (by omega)).trans a13⟩, CKs_eq (fun x x1 x2 => lo x (by omega) (by omega)) a14, by omega⟩, C1⟩
    have M1 : JM L h1 V N Nw F D1 := by
      obtain ⟨x3, x4⟩ := RM1
      obtain ⟨m1, m2⟩ := M
      exact ⟨by omega, by omega⟩
    have R1 := JR_eq k1 R
    refine hQ1 _ _ (k0.trans h0) (JR_is R1) ?_
    intro Q hQ
    obtain ⟨s2, G2, sg2, ogI2, W2, ⟨f4, r4⟩, r5, r8, r9⟩ := R1
    obtain ⟨q1, q2, q3, ⟨ff, q4, q4'⟩, ⟨gg, q5, q5'⟩, q6⟩ := id W2.2.2.2.1
    refine U192 hV W2.1.1 W2.2.1 q4 q5 ?_ ?_
    · intro h3 s3 G3 sg3 og3 f3' g3'' m3 X3 hprb'
      rw [hprb] at hprb'
      cases hprb'
    · intro h3 s3 G3 sg3 e' hprb' F3 X3 N3 p3 v7 hfr
      rw [hprb] at hprb'
      injection hprb' with c1
      subst c1
      have Z3 : RZ h3 V 0 b s3 G3 sg3 := ⟨X3, (F3.2.2 69 (by omega)).trans W2.1.1.2.1, v7, Nat.zero_le _, W2.1.1.2.2.2.2.1, (p3 3 (by omega)).trans W2.1.1.2.2.2.2.2⟩
      have K0 : RK h3 V 0 b s3 G3 sg3 z.2.2.2.1 z.2.2.2.2.1 := ⟨Z3, (p3 4 (by omega)).trans W2.1.2.1, W2.1.2.2.1, RLX_NF hV W2.1.2.2.1 N3 (fun i e => by omega) W2.1.2.2.2⟩
      exact hQ h3 (JJ_ref hV F3 (fun q e => by omega) (k0.trans h0) J1 M1 ⟨s3, G3, sg3, ogI2, ⟨K0, (F3.2.2 68 (by omega)).trans W2.2.1, W2.2.2.1, RQs_fr F3 (fun q e => by omega) (fun k k1 k2 => p3 k (by omega)) W2.2.2.2.1, W2.2.2.2.2⟩, ⟨f4, (F3.2.2 74 (by omega)).trans r4⟩, (p3 5 (by omega)).trans r5, hfr.1, hfr.2⟩)
end OPS3
