/-! The law: both worlds -/
theorem sStp_mono {b : Nat → Nat} {n V st m : Nat} {X : Nat → LN} {og : Nat → Nat} {r : SR} (h : sStp b n V st m X og = .inr r) : m ≤ r.2.1 ∧ ∀ k, 1 ≤ k → k ≤ m → r.2.2.1 k = X k := by
  unfold sStp at h
  have hl : ∀ (p : Nat × LN) (q : Nat), (.inr (p.1, m + 1, lput X (m + 1) p.2, un og (m + 1) q) : Sum FL SR) = .inr r → m ≤ r.2.1 ∧ ∀ k, 1 ≤ k → k ≤ m → r.2.2.1 k = X k := by
    intro p q e
    injection e with e
    rw [← e]
    refine ⟨Nat.le_succ _, fun k k1 k2 => ?_⟩
    show lput X (m + 1) p.2 k = X k
    unfold lput
    rw [if_neg (by omega)]
  by_cases c1 : tkk b n st = 112
  · rw [if_pos c1] at h
    cases e : sP b n V m X st with
    | inl w => rw [e] at h; cases h
    | inr p => rw [e] at h; exact hl p 2 h
  · rw [if_neg c1] at h
    by_cases c2 : tkk b n st = 117
    · rw [if_pos c2] at h
      cases e : sU b n V m X st with
      | inl w => rw [e] at h; cases h
      | inr p => rw [e] at h; exact hl p 3 h
    · rw [if_neg c2] at h
      by_cases c3 : tkk b n st = 99
      · rw [if_pos c3] at h
        cases e : sC b n V m X st with
        | inl w => rw [e] at h; cases h
        | inr p =>
          rw [e] at h
          injection h with h
          rw [← h]
          exact ⟨Nat.le_refl _, fun k _ _ => rfl⟩
      · rw [if_neg c3] at h; cases h
theorem sChk_mono {b : Nat → Nat} {n V : Nat} : ∀ (f st d m : Nat) (X : Nat → LN) (og : Nat → Nat) (d' : Nat) (e : Option FL) (m' : Nat) (X' : Nat → LN) (og' : Nat → Nat), sChk b n V f st d m X og = (d', e, m', X', og') → m ≤ m' ∧ ∀ k, 1 ≤ k → k ≤ m → X' k = X k := by
  intro f
  induction f with
  | zero =>
    intro st d m X og d' e m' X' og' h
    change (d, none, m, X, og) = (d', e, m', X', og') at h
    injection h with _ h
    injection h with _ h
    injection h with h1 h
    injection h with h2 h
    subst h1; subst h2
    exact ⟨Nat.le_refl _, fun _ _ _ => rfl⟩
  | succ f ih =>
    intro st d m X og d' e m' X' og' h
    by_cases c : tkk b n st = 0
    · unfold sChk at h
      rw [if_pos c] at h
      injection h with _ h
      injection h with _ h
      injection h with h1 h
      injection h with h2 h
      subst h1; subst h2
      exact ⟨Nat.le_refl _, fun _ _ _ => rfl⟩
    · obtain ⟨s1, s2⟩ := sChk_step (V := V) (f := f) (d := d) (m := m) (X := X) (og := og) c
      cases es : sStp b n V st m X og with
      | inl w =>
        rw [s1 w es] at h
        injection h with _ h
        injection h with _ h
        injection h with h1 h
        injection h with h2 h
        subst h1; subst h2
        exact ⟨Nat.le_refl _, fun _ _ _ => rfl⟩
      | inr r =>
        rw [s2 r es] at h
        obtain ⟨a1, a2⟩ := sStp_mono es
        obtain ⟨b1, b2⟩ := ih _ _ _ _ _ _ _ _ _ _ h
        exact ⟨by omega, fun k k1 k2 => (b2 k k1 (by omega)).trans (a2 k k1 k2)⟩
section WRL
variable {h h' : pb_H} {V c N n p w Nw : Nat} {b : Nat → Nat} {fa fb : Int32} {F F' D : Nat → Option Nat} {z : SS}
theorem LG_cb {a x M : Nat} {bb : Nat → Nat} (L : LG h V a) (hx : h.2 x = cb M bb) : x ≠ a ∧ x ≠ a + 1 := by
  obtain ⟨f, p, n, wi, so, ca, cf, co, e1, e2⟩ := L
  refine ⟨fun e => ?_, fun e => ?_⟩
  · rw [e, e1] at hx; cases hx
  · rw [e, e2] at hx; cases hx
/-- what the class's world is, but for its SEARCH and its LINES -/
def CRs (h : pb_H) (V c N n : Nat) (b : Nat → Nat) (fa fb : Int32) (w : Nat) (F D : Nat → Option Nat) : Prop :=
  h.2 1 = cpb V ∧ BR h 9 4000 c N n 0 b ∧ (c = 10 ∨ 83 ≤ c) ∧ c ≠ w ∧ (∃ cc s, h.2 5 = cx cc s ∧ s 7 = fa ∧ s 8 = fb) ∧ (∃ rel, h.2 6 = cco V rel) ∧ (∃ g, h.2 7 = ci 8 g) ∧ (∃ fs, h.2 8 = ci ((V + 1) * 8) fs) ∧ (∃ m0, h.2 11 = cpr V m0) ∧ h.2 12 = co 40 D ∧ PW h V F D ∧ (∃ hg, h.2 13 = cck hg) ∧ CKs h V ∧ 83 ≤ h.1
def JC (h : pb_H) (V c N n : Nat) (b : Nat → Nat) (fa fb : Int32) (w Nw : Nat) (F D : Nat → Option Nat) (p : Nat) (z : SS) : Prop := CRs h V c N n b fa fb w F D ∧ CW h V p w Nw F z
def JR (h : pb_H) (V n : Nat) (b : Nat → Nat) (fa fb : Int32) (p : Nat) (z : SS) : Prop := ∃ s G sg ogI, RNx h V n b s G sg ogI z ∧ (∃ f, h.2 74 = ci 17 f) ∧ s 5 = nI p ∧ s 8 = fa ∧ s 9 = fb
def JM (L : Nat) (h : pb_H) (V N Nw : Nat) (F D : Nat → Option Nat) : Prop := h.1 + (4000 - N) + (20000 - Nw) + 2 * (nul F 300 + nul D 40) ≤ 600001 ∧ pb_sl h + pot 4000 N + pot 20000 Nw + (9 + (V + 1) * 8) * (nul F 300 + nul D 40) ≤ L + 7302250
/-- the reference's world depends on its own cells alone -/
theorem JR_eq (e : ∀ q, 65 ≤ q → q ≤ 82 → h'.2 q = h.2 q) (J : JR h V n b fa fb p z) : JR h' V n b fa fb p z := by
  obtain ⟨s, G, sg, ogI, ⟨⟨⟨⟨x1, x2, x3, x4, ⟨W1, y1, y1'⟩, ⟨W2, y2, y2'⟩, ⟨W3, y3, y3'⟩, W4, y4, y4'⟩, z1, z2⟩, k1⟩, o1, o2, ⟨r1, r2, ⟨pr, r3, r3'⟩, ⟨f, r4, r4'⟩, ⟨g, r5, r5'⟩, ⟨f1, f2, f3, r6, r7, r8, r9⟩, ⟨t, r10⟩, dd, r11⟩, q⟩, ⟨ff, t1⟩, u⟩ := J
  exact ⟨s, G, sg, ogI, ⟨⟨⟨⟨(e 65 (by omega) (by omega)).trans x1, (e 66 (by omega) (by omega)).trans x2, x3, (e 67 (by omega) (by omega)).trans x4, ⟨W1, (e 70 (by omega) (by omega)).trans y1, y1'⟩, ⟨W2, (e 71 (by omega) (by omega)).trans y2, y2'⟩, ⟨W3, (e 72 (by omega) (by omega)).trans y3, y3'⟩, W4, (e 73 (by omega) (by omega)).trans y4, y4'⟩, (e 69 (by omega) (by omega)).trans z1, z2⟩, k1⟩, (e 68 (by omega) (by omega)).trans o1, o2, ⟨r1, r2, ⟨pr, (e 80 (by omega) (by omega)).trans r3, r3'⟩, ⟨f, (e 75 (by omega) (by omega)).trans r4, r4'⟩, ⟨g, (e 76 (by omega) (by omega)).trans r5, r5'⟩, ⟨f1, f2, f3, (e 77 (by omega) (by omega)).trans r6, (e 78 (by omega) (by omega)).trans r7, (e 79 (by omega) (by omega)).trans r8, r9⟩, ⟨t, (e 81 (by omega) (by omega)).trans r10⟩, dd, (e 82 (by omega) (by omega)).trans r11⟩, q⟩, ⟨ff, (e 74 (by omega) (by omega)).trans t1⟩, u⟩
theorem CW_fr2 {T : Nat → Prop} (G : fr T h h') (hT : ∀ q, T q → 65 ≤ q ∧ q ≤ 82) (C : CW h V p w Nw F z) : CW h' V p w Nw F z := by
  obtain ⟨pb, tb, fb, lt, h47, hR, hS, hC, hA, hl⟩ := C
  have hcx := WB_c hR.1
  obtain ⟨r, hr⟩ := hR.1.2.2.2.2.2.2.2
  refine ⟨pb, tb, fb, lt, (G.2.2 47 (fun e => by have := hT _ e; omega)).trans h47, SRx_fg hR (fg_fr G) (fun q e => by have := hT _ e; omega) ⟨r, (G.2.2 3 (fun e => by have := hT _ e; omega)).trans hr⟩, SHL_fr G (fun q e => by have := hT _ e; omega) hS, CT_fr G (fun q e1 e2 => by have := hT _ e2; omega) hC, hA, hl⟩
theorem PW_fr2 {T : Nat → Prop} (G : fr T h h') (hT : ∀ q, T q → 65 ≤ q ∧ q ≤ 82) (P : PW h V F D) : PW h' V F D := by
  have key : ∀ a, lok h V a → lok h' V a := fun a ⟨a1, a2, a3⟩ => ⟨a1, by rw [G.1]; exact a2, LG_fr G (fun e => by have := hT _ e; omega) (fun e => by have := hT _ e; omega) a3⟩
  exact ⟨fun i a i1 e => key a (P.1 i a i1 e), fun i a i1 e => key a (P.2.1 i a i1 e), P.2.2⟩
/-- the class's world, when the reference does something -/
theorem JC_fr {T : Nat → Prop} (G : fr T h h') (hT : ∀ q, T q → 65 ≤ q ∧ q ≤ 82) (J : JC h V c N n b fa fb w Nw F D p z) : JC h' V c N n b fa fb w Nw F D p z := by
  obtain ⟨⟨a1, ⟨b1, b2, b3, b4, b5, b6, b7, b8, b9, b10⟩, a3, a4, ⟨cc, s, a5, a6⟩, ⟨rel, a7⟩, ⟨g, a8⟩, ⟨fs, a9⟩, ⟨m0, a10⟩, a11, a12, ⟨hg, a13⟩, a14, a15⟩, hC⟩ := J
  have k : ∀ q, (q < 65 ∨ 82 < q) → h'.2 q = h.2 q := fun q hq => G.2.2 q (fun e => by have := hT _ e; omega)
  exact ⟨⟨(k 1 (by omega)).trans a1, ⟨(k 9 (by omega)).trans b1, (k c (by omega)).trans b2, b3, b4, b5, b6, b7, b8, by rw [G.1]; exact b9, by rw [G.1]; exact b10⟩, a3, a4, ⟨cc, s, (k 5 (by omega)).trans a5, a6⟩, ⟨rel, (k 6 (by omega)).trans a7⟩, ⟨g, (k 7 (by omega)).trans a8⟩, ⟨fs, (k 8 (by omega)).trans a9⟩, ⟨m0, (k 11 (by omega)).trans a10⟩, (k 12 (by omega)).trans a11, PW_fr2 G hT a12, ⟨hg, (k 13 (by omega)).trans a13⟩, CKs_eq (fun x x1 x2 => k x (by omega)) a14, by rw [G.1]; exact a15⟩, CW_fr2 G hT hC⟩
theorem JM_fr {L : Nat} {T : Nat → Prop} (G : fr T h h') (J : JM L h V N Nw F D) : JM L h' V N Nw F D := by
  unfold JM
  rw [G.1, fr_sl G]
  exact J
/-- both, and the script -/
def JJ (L : Nat) (xs : Nat → Int32) (h : pb_H) : Prop := h.2 0 = .inl (3, L, .inl xs) ∧ ∃ V c N n b fa fb w Nw F D p z, V ≤ 16 ∧ JC h V c N n b fa fb w Nw F D p z ∧ JR h V n b fa fb p z ∧ JM L h V N Nw F D
/-- the reference's steps keep all but its own -/
theorem JJ_ref {L : Nat} {xs : Nat → Int32} {T : Nat → Prop} (hV : V ≤ 16) (G : fr T h h') (hT : ∀ q, T q → 65 ≤ q ∧ q ≤ 82) (h0 : h.2 0 = .inl (3, L, .inl xs)) (C : JC h V c N n b fa fb w Nw F D p z) (M : JM L h V N Nw F D) (R : JR h' V n b fa fb p z) : JJ L xs h' :=
  ⟨(G.2.2 0 (fun e => by have := hT _ e; omega)).trans h0, V, c, N, n, b, fa, fb, w, Nw, F, D, p, z, hV, JC_fr G hT C, R, JM_fr G M⟩
/-- what a call is to do: the class's answer, and the reference's, the same -/
def OPP (L : Nat) (xs : Nat → Int32) (m1 m2 : Nat) (A : List Value) (h : pb_H) : Prop := ∀ Q1 : Option Value → pb_H → Prop, (∀ a t, t.2 0 = .inl (3, L, .inl xs) → pb_is0 (t.2 65) 12 = true → (∀ Q : Option Value → pb_H → Prop, (∀ h', JJ L xs h' → Q (some (.int a)) h') → pb_call m2 (.ref 65 :: A) t Q) → Q1 (some (.int a)) t) → pb_call m1 (.ref 1 :: A) h Q1
theorem JR_is (J : JR h V n b fa fb p z) : pb_is0 (h.2 65) 12 = true := by
  obtain ⟨s, G, sg, ogI, W, _⟩ := J
  rw [W.1.1.1.1]; rfl
theorem JJ_is {L : Nat} {xs : Nat → Int32} (J : JJ L xs h) : pb_is0 (h.2 1) 11 = true := by
  obtain ⟨_, V, c, N, n, b, fa, fb, w, Nw, F, D, p, z, hV, C, _⟩ := J
  rw [C.1.1]; rfl
end WRL
