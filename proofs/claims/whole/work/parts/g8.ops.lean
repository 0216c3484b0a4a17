/-! The law's calls: those that read, and begin, run -/
section OPS
variable {L : Nat} {xs : Nat → Int32} {h h' : pb_H}
theorem O4 {x : Int32} (J : JJ L xs h) : OPP L xs 128 202 [.int x] h := by
  obtain ⟨h0, V, c, N, n, b, fa, fb, w, Nw, F, D, p, z, hV, C, R, M⟩ := id J
  obtain ⟨cc, s, e5, e7, e8⟩ := C.1.2.2.2.2.1
  obtain ⟨s', G, sg, ogI, W, _, _, r8, r9⟩ := id R
  intro Q1 hQ1
  rw [L128 C.1.1 e5, e7, e8]
  refine hQ1 _ _ h0 (JR_is R) ?_
  intro Q hQ
  rw [R202 W.1.1.1.1, r8, r9]
  exact hQ h J
theorem O5 {k v : Int32} (J : JJ L xs h) : OPP L xs 129 204 [.int k, .int v] h := by
  obtain ⟨h0, V, c, N, n, b, fa, fb, w, Nw, F, D, p, z, hV, C, R, M⟩ := id J
  obtain ⟨s', G, sg, ogI, W, _⟩ := id R
  obtain ⟨pb, tb, fbb, lt, h47, hR, hS, hC, hA, hl⟩ := id C.2
  intro Q1 hQ1
  rw [L129 hV C.1.1 hS]
  refine hQ1 _ _ h0 (JR_is R) ?_
  intro Q hQ
  rw [R204 hV W.1.1.1 W.1.1.2.2.2.2.2 W.1.2.1 W.1.2.2.1 W.1.2.2.2]
  exact hQ h J
theorem O6 {k v i : Int32} (J : JJ L xs h) : OPP L xs 130 205 [.int k, .int v, .int i] h := by
  obtain ⟨h0, V, c, N, n, b, fa, fb, w, Nw, F, D, p, z, hV, C, R, M⟩ := id J
  obtain ⟨s', G, sg, ogI, W, _⟩ := id R
  obtain ⟨pb, tb, fbb, lt, h47, hR, hS, hC, hA, hl⟩ := id C.2
  intro Q1 hQ1
  rw [L130 hV C.1.1 hS]
  refine hQ1 _ _ h0 (JR_is R) ?_
  intro Q hQ
  rw [R205 hV W.1.1.1 W.1.1.2.2.2.2.2 W.1.2.1 W.1.2.2.1 W.1.2.2.2]
  exact hQ h J
theorem O8 {k : Int32} (J : JJ L xs h) : OPP L xs 132 207 [.int k] h := by
  obtain ⟨h0, V, c, N, n, b, fa, fb, w, Nw, F, D, p, z, hV, C, R, M⟩ := id J
  obtain ⟨s', G, sg, ogI, W, _⟩ := id R
  obtain ⟨pb, tb, fbb, lt, h47, hR, hS, hC, hA, hl⟩ := id C.2
  intro Q1 hQ1
  rw [L132 C.1.1 hS]
  refine hQ1 _ _ h0 (JR_is R) ?_
  intro Q hQ
  rw [R207 W.1.1.1.1 W.1.2.1 W.1.2.2.1 W.2.1 W.2.2.1]
  exact hQ h J
theorem O11 {x : Int32} (J : JJ L xs h) : OPP L xs 135 220 [.int x] h := by
  obtain ⟨h0, V, c, N, n, b, fa, fb, w, Nw, F, D, p, z, hV, C, R, M⟩ := id J
  obtain ⟨s', G, sg, ogI, W, _⟩ := id R
  intro Q1 hQ1
  rw [L135 hV C.1.1 C.2]
  refine hQ1 _ _ h0 (JR_is R) ?_
  intro Q hQ
  rw [U220 hV W.1.1.1.1 W.1.1.2.2.2.2.2 W.2.2.2.1]
  exact hQ h J
theorem O12 {x y : Int32} (J : JJ L xs h) : OPP L xs 136 221 [.int x, .int y] h := by
  obtain ⟨h0, V, c, N, n, b, fa, fb, w, Nw, F, D, p, z, hV, C, R, M⟩ := id J
  obtain ⟨s', G, sg, ogI, W, _⟩ := id R
  intro Q1 hQ1
  rw [L136 hV C.1.1 C.2]
  refine hQ1 _ _ h0 (JR_is R) ?_
  intro Q hQ
  rw [U221 hV W.2.2.2.2.2.1.1 W.1.1.1.1 W.2.2.2.1]
  exact hQ h J
theorem O13 {x : Int32} (J : JJ L xs h) : OPP L xs 137 222 [.int x] h := by
  obtain ⟨h0, V, c, N, n, b, fa, fb, w, Nw, F, D, p, z, hV, C, R, M⟩ := id J
  obtain ⟨s', G, sg, ogI, W, _⟩ := id R
  intro Q1 hQ1
  rw [L137 C.1.1 C.2]
  refine hQ1 _ _ h0 (JR_is R) ?_
  intro Q hQ
  rw [U222 W.1.1.1.1 W.2.2.2.1 W.2.2.2.2.1]
  exact hQ h J
theorem O14 {k : Int32} (J : JJ L xs h) : OPP L xs 138 223 [.int k] h := by
  obtain ⟨h0, V, c, N, n, b, fa, fb, w, Nw, F, D, p, z, hV, C, R, M⟩ := id J
  obtain ⟨s', G, sg, ogI, W, r4, r5, r8, r9⟩ := id R
  obtain ⟨f4, r4⟩ := r4
  intro Q1 hQ1
  rw [L138 C.1.1 C.1.2.1.1 C.2]
  refine hQ1 _ _ h0 (JR_is R) ?_
  intro Q hQ
  refine U223 hV W r5 ?_
  intro h' G' F' W'
  exact hQ h' (JJ_ref hV F' (fun q e => by omega) h0 C M ⟨s', G', sg, ogI, W', ⟨f4, (F'.2.2 74 (by omega)).trans r4⟩, r5, r8, r9⟩)
/-- the class's SEARCH has changed its cells, its text, its LINES -/
theorem C_AG {V c N n p w Nw w' Nw' : Nat} {b : Nat → Nat} {fa fb : Int32} {F F' D : Nat → Option Nat} {z z' : SS} (C : JC h V c N n b fa fb w Nw F D p z) (M : JM L h V N Nw F D) (A : AG V h F w Nw h' F' w' Nw') (C' : CW h' V p w' Nw' F' z') : JC h' V c N n b fa fb w' Nw' F' D p z' ∧ (∀ q, 65 ≤ q → q ≤ 82 → h'.2 q = h.2 q) ∧ h'.2 0 = h.2 0 ∧ JM L h' V N Nw' F' D := by
  obtain ⟨⟨a1, ⟨b1, b2, b3, b4, b5, b6, b7, b8, b9, b10⟩, a3, a4, ⟨cc, s, a5, a6⟩, ⟨rel, a7⟩, ⟨g, a8⟩, ⟨fs, a9⟩, ⟨m0, a10⟩, a11, a12, ⟨hg, a13⟩, a14, a15⟩, pb, tb, fbb, lt, h47, hR, hS, hC, hA, hl⟩ := C
  obtain ⟨pb', tb', fbb', lt', h47', hR', hS', hC', hA', hl'⟩ := id C'
  obtain ⟨A1, A2, A3, A4, A5, A6⟩ := A
  have hwx := WB_c hR.1
  obtain ⟨w1, MM, bb, w2⟩ := WB_cb hR.1
  have nF : ∀ q i a, i < 300 → F i = some a → lc a q → 83 ≤ q := fun q i a i1 e l => by
    have := (a12.1 i a i1 e).1
    rcases l with l | l
    · omega
    · omega
  have lo : ∀ q, q < 83 → (q < 2 ∨ (5 ≤ q ∧ q ≤ 46) ∨ 65 ≤ q) → h'.2 q = h.2 q := fun q q1 q2 => A1.2 q (by omega) (fun e => by
    rcases e with e | e
    · rcases e with e | e | e | e | ⟨i, a, i1, e, l⟩
      · omega
      · omega
      · omega
      · omega
      · have := nF q i a i1 e l; omega
    · omega)
  have hc : h'.2 c = h.2 c := A1.2 c b9 (fun e => by
    rcases e with e | e
    · rcases e with e | e | e | e | ⟨i, a, i1, e, l⟩
      · omega
      · omega
      · omega
      · omega
      · have := LG_cb (a12.1 i a i1 e).2.2 b2
        rcases l with l | l
        · exact this.1 l
        · exact this.2 l
    · exact a4 e)
  have hD : ∀ i a, i < 40 → D i = some a → lok h' V a := fun i a i1 e => by
    obtain ⟨d1, d2, d3⟩ := a12.2.1 i a i1 e
    have dw := LG_cb d3 w2
    have e1 : h'.2 a = h.2 a := A1.2 a (by omega) (fun q => by
      rcases q with q | q
      · rcases q with q | q | q | q | ⟨j, x, j1, y, l⟩
        · omega
        · omega
        · omega
        · omega
        · rcases l with l | l
          · subst l; exact a12.2.2.2.2 j i _ j1 i1 y e
          · exact LG_ne (a12.1 j x j1 y).2.2 d3 l
      · exact dw.1 q.symm)
    have e2 : h'.2 (a + 1) = h.2 (a + 1) := A1.2 (a + 1) (by omega) (fun q => by
      rcases q with q | q
      · rcases q with q | q | q | q | ⟨j, x, j1, y, l⟩
        · omega
        · omega
        · omega
        · omega
        · rcases l with l | l
          · exact LG_ne d3 (a12.1 j x j1 y).2.2 l.symm
          · have l : a = x := by omega
            subst l; exact a12.2.2.2.2 j i _ j1 i1 y e
      · exact dw.2 q.symm)
    exact ⟨d1, by have := A1.1; omega, LG_eq e1 e2 d3⟩
  have hcw : c ≠ w' := fun e => by
    rcases A2 with q | q
    · exact a4 (e.trans q)
    · omega
  refine ⟨⟨⟨(lo 1 (by omega) (by omega)).trans a1, ⟨(lo 9 (by omega) (by omega)).trans b1, hc.trans b2, b3, b4, b5, b6, b7, b8, by have := A1.1; omega, by have := A1.1; omega⟩, a3, hcw, ⟨cc, s, (lo 5 (by omega) (by omega)).trans a5, a6⟩, ⟨rel, (lo 6 (by omega) (by omega)).trans a7⟩, ⟨g, (lo 7 (by omega) (by omega)).trans a8⟩, ⟨fs, (lo 8 (by omega) (by omega)).trans a9⟩, ⟨m0, (lo 11 (by omega) (by omega)).trans a10⟩, (lo 12 (by omega) (by omega)).trans a11, ⟨hS'.2.2.2.2.2.1, hD, hS'.2.2.2.2.2.2, a12.2.2.2.1, ?_⟩, ⟨hg, (lo 13 (by omega) (by omega)).trans a13⟩, CKs_eq (fun x x1 x2 => lo x (by omega) (by omega)) a14, by have := A1.1; omega⟩, C'⟩, fun q q1 q2 => lo q (by omega) (by omega), lo 0 (by omega) (by omega), ?_, ?_⟩
  · intro i j a i1 j1 e1 e2
    rcases A3 i a i1 e1 with q | ⟨q1, q2⟩
    · exact a12.2.2.2.2 i j a i1 j1 q e2
    · have := (a12.2.1 j a j1 e2).2.1
      omega
  · have := M.1
    omega
  · have := M.2
    rw [Nat.mul_add] at this ⊢
    omega
theorem O9 (J : JJ L xs h) : OPP L xs 133 208 [] h := by
  obtain ⟨h0, V, c, N, n, b, fa, fb, w, Nw, F, D, p, z, hV, C, R, M⟩ := id J
  intro Q1 hQ1
  refine L133 C.1.1 C.2 ?_
  intro h1 A1 C1
  obtain ⟨J1, k1, k0, M1⟩ := C_AG C M A1 C1
  have R1 := JR_eq k1 R
  refine hQ1 _ _ (k0.trans h0) (JR_is R1) ?_
  intro Q hQ
  obtain ⟨s', G, sg, ogI, W, ⟨f4, r4⟩, r5, r8, r9⟩ := R1
  refine U208 hV W.1.1.1 W.2.2.2.1 ?_
  intro h2 s2 F2 X2 R2 p2
  refine hQ h2 (JJ_ref hV F2 (fun q e => by omega) (k0.trans h0) J1 M1 ⟨s2, G, sg, ogI, ⟨?_, (F2.2.2 68 (by omega)).trans W.2.1, W.2.2.1, R2, lo_nil, SV_rs, ?_⟩, ⟨f4, (F2.2.2 74 (by omega)).trans r4⟩, (p2 5 (by omega)).trans r5, (p2 8 (by omega)).trans r8, (p2 9 (by omega)).trans r9⟩)
  · exact RK_s W.1 X2 (F2.2.2 69 (by omega)) (p2 3 (by omega)) (p2 4 (by omega)) (p2 7 (by omega))
  · show 1 ≤ 4
    omega
theorem O10 {k : Int32} (J : JJ L xs h) : OPP L xs 134 219 [.int k] h := by
  obtain ⟨h0, V, c, N, n, b, fa, fb, w, Nw, F, D, p, z, hV, C, R, M⟩ := id J
  obtain ⟨s0, G0, sg0, ogI0, W0, _⟩ := id R
  intro Q1 hQ1
  refine L134 hV C.1.1 C.2 W0.2.2.2.2.2.1 W0.2.2.2.2.2.2 ?_
  intro h1 c1 N1 F1 A1 C1
  obtain ⟨J1, k1, k0, M1⟩ := C_AG C M A1 C1
  have R1 := JR_eq k1 R
  refine hQ1 _ _ (k0.trans h0) (JR_is R1) ?_
  intro Q hQ
  obtain ⟨s', G, sg, ogI, W, ⟨f4, r4⟩, r5, r8, r9⟩ := R1
  refine U219 hV W ?_
  intro h2 s2 G2 sg2 ogI2 F2 W2 p2
  exact hQ h2 (JJ_ref hV F2 (fun q e => by omega) (k0.trans h0) J1 M1 ⟨s2, G2, sg2, ogI2, W2, ⟨f4, (F2.2.2 74 (by omega)).trans r4⟩, (p2 5 (by omega)).trans r5, (p2 8 (by omega)).trans r8, (p2 9 (by omega)).trans r9⟩)
end OPS
