/-! Problem: makeLines, read -/
theorem LG_ne {h : pb_H} {V a b : Nat} (h1 : LG h V a) (h2 : LG h V b) : b ≠ a + 1 := fun e => by
  obtain ⟨f, p, n, wi, so, ca, cf, co, e1, e2⟩ := h1
  obtain ⟨f', p', n', wi', so', ca', cf', co', e3, e4⟩ := h2
  rw [e, e2] at e3
  cases e3
/-- Lines lie apart -/
theorem lc_sep {h : pb_H} {V a b : Nat} (h1 : LG h V a) (h2 : LG h V b) (hab : b ≠ a) : ¬ lc a b ∧ ¬ lc a (b + 1) := by
  have q1 := LG_ne h1 h2
  have q2 := LG_ne h2 h1
  refine ⟨fun w => ?_, fun w => ?_⟩
  · rcases w with w | w
    · exact hab w
    · exact q1 w
  · rcases w with w | w
    · exact q2 w.symm
    · omega
/-- cells that reading a PROBLEM touches -/
abbrev pS (D0 : Nat → Option Nat) : Nat → Prop := fun b => cS b ∨ b = 11 ∨ b = 12 ∨ ∃ i a, i < 40 ∧ D0 i = some a ∧ lc a b
/-- the drafts, as they came from D0 -/
def PI (V : Nat) (h0 : pb_H) (D0 : Nat → Option Nat) (h : pb_H) (D : Nat → Option Nat) (m : Nat) (X : Nat → LN) : Prop :=
  fg (pS D0) h0 h ∧ h.2 12 = co 40 D ∧ (∀ i a, i < 40 → D i = some a → lok h V a) ∧ (∀ i j a, i < 40 → j < 40 → D i = some a → D j = some a → i = j) ∧ (∀ i a, i < 40 → D i = some a → D0 i = some a ∨ (D0 i = none ∧ h0.1 ≤ a)) ∧ (∀ i, i < 40 → D i = none → D0 i = none) ∧ (∀ i, i < m → ∃ a so, D i = some a ∧ LA h V a so (X i)) ∧ h.1 + 2 * nul D 40 = h0.1 + 2 * nul D0 40 ∧ pb_sl h + (9 + (V + 1) * 8) * nul D 40 = pb_sl h0 + (9 + (V + 1) * 8) * nul D0 40
section PRL
variable {h h0 : pb_H} {Q : Option Value → pb_H → Prop} {V c N n st m : Nat} {b : Nat → Nat} {s fs g : Nat → Int32} {rel : Int32} {t : Nat → Int} {D D0 : Nat → Option Nat} {X : Nat → LN}
theorem PI_fr {S : Nat → Prop} {h' : pb_H} (hm : m ≤ 40) (F : fr S h h') (hS : ∀ b, S b → cS b ∨ b = 11) (hP : PI V h0 D0 h D m X) : PI V h0 D0 h' D m X := by
  obtain ⟨p1, p2, p3, p4, p5, p6, p7, p8, p9⟩ := hP
  have big : ∀ q, 12 ≤ q → ¬ S q := fun q q1 q2 => by have := hS q q2; omega
  refine ⟨fg_trans p1 (fg_mono (fun b _ q => ?_) (fg_fr F)), (F.2.2 12 (big _ (by omega))).trans p2, fun i a i1 i2 => ?_, p4, p5, p6, fun i hi => ?_, by rw [F.1]; exact p8, by rw [fr_sl F]; exact p9⟩
  · rcases hS b q with w | w
    · exact Or.inl w
    · exact Or.inr (Or.inl w)
  · have l := p3 i a i1 i2
    exact lok_fg (fg_fr F) (big _ (by have := l.1; omega)) (big _ (by have := l.1; omega)) l
  · obtain ⟨a, so, e, L⟩ := p7 i hi
    have l := p3 i a (by omega) e
    exact ⟨a, so, e, LA_fr F (big _ (by have := l.1; omega)) (big _ (by have := l.1; omega)) L⟩
theorem PI_le {k : Nat} (hk : k ≤ m) (hP : PI V h0 D0 h D m X) : PI V h0 D0 h D k X := ⟨hP.1, hP.2.1, hP.2.2.1, hP.2.2.2.1, hP.2.2.2.2.1, hP.2.2.2.2.2.1, fun i hi => hP.2.2.2.2.2.2.1 i (by omega), hP.2.2.2.2.2.2.2.1, hP.2.2.2.2.2.2.2.2⟩
theorem PI_step {h' : pb_H} {D' : Nat → Option Nat} {a : Nat} {so : Int32} {x : LN} (hP : PI V h0 D0 h D m X) (hm : m < 40) (F : fg (dS D m) h h') (k12 : h'.2 12 = co 40 D') (hD : ∀ i, i ≠ m → D' i = D i) (ha : D' m = some a) (hor : D m = some a ∨ (D m = none ∧ a = h.1)) (lk : lok h' V a) (L : LA h' V a so x) (e1 : h'.1 + 2 * nul D' 40 = h.1 + 2 * nul D 40) (e2 : pb_sl h' + (9 + (V + 1) * 8) * nul D' 40 = pb_sl h + (9 + (V + 1) * 8) * nul D 40) : PI V h0 D0 h' D' (m + 1) (lput X m x) := by
  obtain ⟨p1, p2, p3, p4, p5, p6, p7, p8, p9⟩ := hP
  have sep : ∀ i a', i < 40 → i ≠ m → D i = some a' → ¬ dS D m a' ∧ ¬ dS D m (a' + 1) := by
    intro i a' i1 i2 i3
    have l := p3 i a' i1 i3
    have l83 := l.1
    refine ⟨fun w => ?_, fun w => ?_⟩
    · rcases w with w | w | ⟨q, q1, q2⟩
      · omega
      · omega
      · have lq := p3 m q hm q1
        exact (lc_sep lq.2.2 l.2.2 (fun e => i2 (p4 i m a' i1 hm i3 (by rw [e]; exact q1)))).1 q2
    · rcases w with w | w | ⟨q, q1, q2⟩
      · omega
      · omega
      · have lq := p3 m q hm q1
        exact (lc_sep lq.2.2 l.2.2 (fun e => i2 (p4 i m a' i1 hm i3 (by rw [e]; exact q1)))).2 q2
  refine ⟨⟨Nat.le_trans p1.1 F.1, fun q q1 q2 => ?_⟩, k12, fun i a' i1 i2 => ?_, fun i j a' i1 j1 i2 j2 => ?_, fun i a' i1 i2 => ?_, fun i i1 i2 => ?_, fun i hi => ?_, e1.trans p8, e2.trans p9⟩
  · refine (F.2 q (Nat.lt_of_lt_of_le q1 p1.1) ?_).trans (p1.2 q q1 q2)
    rintro (w | w | ⟨a', w1, w2⟩)
    · exact q2 (Or.inr (Or.inl w))
    · exact q2 (Or.inr (Or.inr (Or.inl w)))
    · rcases p5 m a' hm w1 with w | ⟨_, w⟩
      · exact q2 (Or.inr (Or.inr (Or.inr ⟨m, a', hm, w, w2⟩)))
      · rcases w2 with w2 | w2 <;> omega
  · by_cases e : i = m
    · subst e
      rw [ha] at i2
      injection i2 with i2
      rw [← i2]; exact lk
    · rw [hD i e] at i2
      obtain ⟨s1, s2⟩ := sep i a' i1 e i2
      exact lok_fg F s1 s2 (p3 i a' i1 i2)
  · have key : ∀ j, j < 40 → j ≠ m → D j = some a → False := by
      intro j j1 j2 j3
      rcases hor with w | ⟨_, w⟩
      · exact j2 (p4 j m a j1 hm j3 w)
      · have := (p3 j a j1 j3).2.1
        omega
    by_cases e : i = m
    · by_cases e' : j = m
      · omega
      · rw [e, ha] at i2
        rw [hD j e', ← i2] at j2
        exact absurd j2 (fun w => key j j1 e' w)
    · by_cases e' : j = m
      · rw [e', ha] at j2
        rw [hD i e, ← j2] at i2
        exact absurd i2 (fun w => key i i1 e w)
      · rw [hD i e] at i2
        rw [hD j e'] at j2
        exact p4 i j a' i1 j1 i2 j2
  · by_cases e : i = m
    · subst e
      rw [ha] at i2
      injection i2 with i2
      rw [← i2]
      rcases hor with w | ⟨w1, w2⟩
      · exact p5 i a hm w
      · exact Or.inr ⟨p6 i hm w1, by rw [w2]; exact p1.1⟩
    · rw [hD i e] at i2
      exact p5 i a' i1 i2
  · by_cases e : i = m
    · subst e
      rw [ha] at i2
      cases i2
    · rw [hD i e] at i2
      exact p6 i i1 i2
  · by_cases e : i = m
    · subst e
      refine ⟨a, so, ha, ?_⟩
      unfold lput
      rw [if_pos rfl]
      exact L
    · obtain ⟨a', so', w1, w2⟩ := p7 i (by omega)
      obtain ⟨s1, s2⟩ := sep i a' (by omega) e w1
      refine ⟨a', so', by rw [hD i e]; exact w1, ?_⟩
      unfold lput
      rw [if_neg e]
      exact LA_fg F (p3 i a' (by omega) w1).2.1 s1 s2 w2
theorem L90f (hV : V ≤ 16) (hC : CD h V c N n b s fs g rel) (hS : TS b n st s) (h11 : h.2 11 = cpr V m) (hP : PI V h0 D0 h D m X) (hm : m ≤ 40) (hT : ∀ u, u ≤ V → TC fs (u * 8) (t u)) (hB : Bd t 4500) (hlc : c < h0.1) (h83 : 83 ≤ h0.1)
    (hQ1 : ∀ h' D', m < 40 → CD h' V c N n b s fs g rel → h'.2 11 = cpr V (m + 1) → PI V h0 D0 h' D' (m + 1) (lput X m (ln_of V t)) → Q (some (.int 1)) h')
    (hQ0 : ∀ h' s', m = 40 → CD h' V c N n b s' fs g rel → FT s' (5, st) → h'.2 11 = cpr V m → PI V h0 D0 h' D m X → Q (some (.int 0)) h') : pb_call 90 [.ref 11, .int 0] h Q := by
  refine L90 (tn := false) hV hC h11 hP.2.1 hm (fun a w1 w2 => hP.2.2.1 m a w1 w2) hT hB (Nat.lt_of_lt_of_le hlc hP.1.1) (Nat.le_trans h83 hP.1.1) ?_ ?_
  · intro h' D' a so m4 F C2 k11 k12 hD ha hor lk L e1 e2
    exact hQ1 h' D' m4 C2 k11 (PI_step hP m4 F k12 hD ha hor lk L e1 e2)
  · intro h' s' m4 F C2 es
    refine hQ0 h' s' m4 C2 ⟨by rw [es, upd_ne _ _ (by omega), upd_same]; rfl, by rw [es, upd_same, hS.1]⟩ ((F.2.2 11 (by omega)).trans h11) (PI_fr hm F (fun b q => by omega) hP)
theorem L90t (hV : V ≤ 16) (hC : CD h V c N n b s fs g rel) (hS : TS b n st s) (h11 : h.2 11 = cpr V m) (hP : PI V h0 D0 h D m X) (hm : m ≤ 40) (hT : ∀ u, u ≤ V → TC fs (u * 8) (t u)) (hB : Bd t 4500) (hlc : c < h0.1) (h83 : 83 ≤ h0.1)
    (hQ1 : ∀ h' D', m < 40 → CD h' V c N n b s fs g rel → h'.2 11 = cpr V (m + 1) → PI V h0 D0 h' D' (m + 1) (lput X m (ln_of V (fun u => - t u))) → Q (some (.int 1)) h')
    (hQ0 : ∀ h' s', m = 40 → CD h' V c N n b s' fs g rel → FT s' (5, st) → h'.2 11 = cpr V m → PI V h0 D0 h' D m X → Q (some (.int 0)) h') : pb_call 90 [.ref 11, .int 1] h Q := by
  refine L90 (tn := true) hV hC h11 hP.2.1 hm (fun a w1 w2 => hP.2.2.1 m a w1 w2) hT hB (Nat.lt_of_lt_of_le hlc hP.1.1) (Nat.le_trans h83 hP.1.1) ?_ ?_
  · intro h' D' a so m4 F C2 k11 k12 hD ha hor lk L e1 e2
    exact hQ1 h' D' m4 C2 k11 (PI_step hP m4 F k12 hD ha hor lk L e1 e2)
  · intro h' s' m4 F C2 es
    refine hQ0 h' s' m4 C2 ⟨by rw [es, upd_ne _ _ (by omega), upd_same]; rfl, by rw [es, upd_same, hS.1]⟩ ((F.2.2 11 (by omega)).trans h11) (PI_fr hm F (fun b q => by omega) hP)
/-- Problem.makeLines -/
theorem L91 {k : Nat} (hV : V ≤ 16) (hC : CD h V c N n b s fs g (nI k)) (hS : TS b n st s) (hk : k = 62 ∨ k = 60 ∨ k = 61) (h11 : h.2 11 = cpr V m) (hP : PI V h0 D0 h D m X) (hm : m ≤ 40) (hT : ∀ u, u ≤ V → TC fs (u * 8) (t u)) (hB : Bd t 4500) (hlc : c < h0.1) (h83 : 83 ≤ h0.1)
    (hQ1 : ∀ h' D' m' X', ¬ 40 < m + (if k = 61 then 2 else 1) → m' = m + (if k = 61 then 2 else 1) → X' = (if k = 62 then lput X m (ln_of V t) else if k = 60 then lput X m (ln_of V (fun u => - t u)) else lput (lput X m (ln_of V t)) (m + 1) (ln_of V (fun u => - t u))) → CD h' V c N n b s fs g (nI k) → h'.2 11 = cpr V m' → PI V h0 D0 h' D' m' X' → Q (some (.int 1)) h')
    (hQ0 : ∀ h' D' m' s', 40 < m + (if k = 61 then 2 else 1) → CD h' V c N n b s' fs g (nI k) → FT s' (5, st) → h'.2 11 = cpr V m' → PI V h0 D0 h' D' 0 X → Q (some (.int 0)) h') : pb_call 91 [.ref 11] h Q := by
  have i10 : ¬ (1 : Int32) = 0 := by decide
  rw [pb_c91]
  rcases hk with e | e | e
  · subst e
    have k1 : ¬ nI 62 = 60 := by decide
    have k2 : nI 62 = 62 := rfl
    simp only [pb_e91, h11, pb_g5, hC.2.1, pb_g2, pb_o_some, true_and, k1, if_false]
    refine L90f hV hC hS h11 hP hm hT hB hlc h83 ?_ ?_
    · intro h2 D2 m4 C2 k11 P2
      simp only [Option.toList_some, List.singleton_append, pb_e91, i10, not_false_eq_true, if_true, k2, nb1, true_and]
      exact hQ1 h2 D2 _ _ (by rw [if_neg (by omega)]; omega) (by rw [if_neg (by omega)]) (by rw [if_pos rfl]) C2 k11 P2
    · intro h2 s2 m4 C2 ft k11 P2
      simp only [Option.toList_some, List.singleton_append, pb_e91, not_true_eq_false, if_false, nb0, true_and]
      exact hQ0 h2 D _ s2 (by rw [if_neg (by omega)]; omega) C2 ft k11 (PI_le (Nat.zero_le _) P2)
  · subst e
    have k1 : nI 60 = 60 := rfl
    have k2 : ¬ nI 60 = 62 := by decide
    have k3 : ¬ (60 : Int32) = 62 := by decide
    simp only [pb_e91, h11, pb_g5, hC.2.1, pb_g2, pb_o_some, true_and, k1, k3, if_true, if_false]
    refine L90t hV hC hS h11 hP hm hT hB hlc h83 ?_ ?_
    · intro h2 D2 m4 C2 k11 P2
      simp only [Option.toList_some, List.singleton_append, pb_e91, i10, not_false_eq_true, if_true, if_false, nb1, true_and]
      exact hQ1 h2 D2 _ _ (by rw [if_neg (by omega)]; omega) (by rw [if_neg (by omega)]) (by rw [if_neg (by omega), if_pos rfl]) C2 k11 P2
    · intro h2 s2 m4 C2 ft k11 P2
      simp only [Option.toList_some, List.singleton_append, pb_e91, not_true_eq_false, if_true, if_false, nb0, true_and]
      exact hQ0 h2 D _ s2 (by rw [if_neg (by omega)]; omega) C2 ft k11 (PI_le (Nat.zero_le _) P2)
  · subst e
    have k1 : ¬ nI 61 = 60 := by decide
    have k2 : ¬ nI 61 = 62 := by decide
    simp only [pb_e91, h11, pb_g5, hC.2.1, pb_g2, pb_o_some, true_and, k1, if_false]
    refine L90f hV hC hS h11 hP hm hT hB hlc h83 ?_ ?_
    · intro h2 D2 m4 C2 k11 P2
      simp only [Option.toList_some, List.singleton_append, pb_e91, i10, not_false_eq_true, if_true, if_false, k2, k11, pb_g5, true_and]
      refine L90t hV C2 hS k11 P2 (by omega) hT hB hlc h83 ?_ ?_
      · intro h3 D3 m5 C3 k11' P3
        simp only [Option.toList_some, List.singleton_append, pb_e91, i10, not_false_eq_true, if_true, if_false, nb1, true_and]
        exact hQ1 h3 D3 _ _ (by rw [if_pos rfl]; omega) (by rw [if_pos rfl]) (by rw [if_neg (by omega), if_neg (by omega)]) C3 k11' P3
      · intro h3 s3 m5 C3 ft k11' P3
        simp only [Option.toList_some, List.singleton_append, pb_e91, not_true_eq_false, if_true, if_false, nb0, true_and]
        have P4 := PI_le (Nat.zero_le _) P3
        exact hQ0 h3 D2 _ s3 (by rw [if_pos rfl]; omega) C3 ft k11' ⟨P4.1, P4.2.1, P4.2.2.1, P4.2.2.2.1, P4.2.2.2.2.1, P4.2.2.2.2.2.1, fun i hi => by omega, P4.2.2.2.2.2.2.2.1, P4.2.2.2.2.2.2.2.2⟩
    · intro h2 s2 m4 C2 ft k11 P2
      simp only [Option.toList_some, List.singleton_append, pb_e91, not_true_eq_false, if_false, nb0, true_and]
      exact hQ0 h2 D _ s2 (by rw [if_pos rfl]; omega) C2 ft k11 (PI_le (Nat.zero_le _) P2)
/-- Problem.read's loop -/
theorem L92_loop {s0 : Nat → Int32} (hV : V ≤ 16) (hn : n ≤ 4000) (hb : ∀ k, b k < 256) (hlc : c < h0.1) (h83 : 83 ≤ h0.1) : ∀ fu i st m X h' s' fs g rel D, fu + i = n + 1 → i ≤ st → CD h' V c N n b s' fs g rel → TS b n st s' → h'.2 11 = cpr V m → PI V h0 D0 h' D m X → m ≤ 40 → KF s0 s' →
    (∀ h2 s2 fs2 g2 rel2 D2 m2 X2, sPrb b n V fu st m X = .inr (m2, X2) → CD h2 V c N n b s2 fs2 g2 rel2 → KF s0 s2 → h2.2 11 = cpr V m2 → PI V h0 D0 h2 D2 m2 X2 → m2 ≤ 40 → Q (some (.int 1)) h2) →
    (∀ h2 s2 fs2 g2 rel2 D2 m2 X2 e, sPrb b n V fu st m X = .inl e → CD h2 V c N n b s2 fs2 g2 rel2 → FT s2 e → h2.2 11 = cpr V m2 → PI V h0 D0 h2 D2 0 X2 → Q (some (.int 0)) h2) →
    pb_R 92 7 [some (.ref 11), some (.int (nI i))] [] [] h' Q := by
  intro fu
  induction fu with
  | zero =>
    intro i st m X h' s' fs g rel D hf hi C S
    have := S.2.2.2.2
    omega
  | succ fu ih =>
    intro i st m X h' s' fs g rel D hf hi C S k11 P hm K hE hQ0
    have hsn := S.2.2.2.2
    have i10 : ¬ (1 : Int32) = 0 := by decide
    have kl : ¬ nI n < nI i := nI_nlt (by omega) (by omega)
    have k0 : s' 2 = 0 ↔ tkk b n st = 0 := kd_eq S hb (m := 0) (by omega)
    have s1 := C.1.2.2.2.2.1
    rw [pb_q92_7]
    by_cases c0 : tkk b n st = 0
    · have q := k0.mpr c0
      have hPr : sPrb b n V (fu + 1) st m X = .inr (m, X) := by
        show (if _ then _ else _) = _
        rw [if_pos c0]
      simp only [pb_e92, k11, pb_g5, C.1.1, pb_gx, pb_o_some, true_and, s1, kl, if_false, q, if_true, nb1]
      exact hE h' s' fs g rel D m X hPr C K k11 P hm
    · have q : ¬ s' 2 = 0 := fun e => c0 (k0.mp e)
      have hPr : sPrb b n V (fu + 1) st m X = (match sCnd b n V true st with
        | .inl e => .inl e
        | .inr p => if 40 < m + (if p.2.1 = 61 then 2 else 1) then .inl (5, p.1)
          else if p.2.1 = 62 then sPrb b n V fu (nxt b n p.1) (m + 1) (lput X m (ln_of V p.2.2))
          else if p.2.1 = 60 then sPrb b n V fu (nxt b n p.1) (m + 1) (lput X m (ln_of V (fun u => - p.2.2 u)))
          else sPrb b n V fu (nxt b n p.1) (m + 2) (lput (lput X m (ln_of V p.2.2)) (m + 1) (ln_of V (fun u => - p.2.2 u)))) := by
        show (if _ then _ else _) = _
        rw [if_neg c0]
        rfl
      simp only [pb_e92, k11, pb_g5, C.1.1, pb_gx, pb_o_some, true_and, s1, kl, if_false, q, C.2.1, pb_g2]
      refine L80 (any := true) hV C S ?_ ?_
      · intro h2 s2 f2 g2 st1 k t hC2 F2 C2 S2 K2 T2 B2
        rw [hC2] at hPr
        simp only at hPr
        obtain ⟨w1, w2, w3, w4⟩ := sCnd_le hsn hC2
        have hkk : k = 62 ∨ k = 60 ∨ k = 61 := by unfold sRl at w4; omega
        have P2 := PI_fr hm F2 (fun b q => Or.inl q) P
        have k112 : h2.2 11 = cpr V m := (F2.2.2 11 (by omega)).trans k11
        simp only [Option.toList_some, List.singleton_append, pb_e92, i10, if_false, k112, pb_g5, true_and]
        refine L91 hV C2 S2 hkk k112 P2 hm T2 B2 hlc h83 ?_ ?_
        · intro h3 D3 m3 X3 n40 em eX C3 k113 P3
          rw [if_neg n40] at hPr
          have hlt : st1 < n := tkk_lt (b := b) (by omega)
          obtain ⟨v1, v2⟩ := nxt_le (b := b) w2 (by omega : tkk b n st1 ≠ 1)
          have hm3 : m3 ≤ 40 := by omega
          have hnext : sPrb b n V (fu + 1) st m X = sPrb b n V fu (nxt b n st1) m3 X3 := by
            rw [hPr, em, eX]
            rcases hkk with e | e | e
            · subst e; rw [if_pos rfl, if_neg (by omega), if_pos rfl]
            · subst e; rw [if_neg (by omega), if_pos rfl, if_neg (by omega), if_neg (by omega), if_pos rfl]
            · subst e; rw [if_neg (by omega), if_neg (by omega), if_pos rfl, if_neg (by omega), if_neg (by omega)]
          simp only [Option.toList_some, List.singleton_append, pb_e92, i10, not_false_eq_true, if_true, k113, pb_g5, pb_o_some, C3.1.1, pb_gx, true_and]
          refine T23 C3.1 S2 (by omega) ?_
          intro s4 T4 S4 k7 k8
          obtain ⟨C4, F4⟩ := CD_s C3 (s' := s4) (by rw [T4.2.2.2.2.1, C3.1.2.2.2.2.1])
          have P4 := PI_fr (S := fun b => b = 5) (h' := pb_set h3 5 (cx (.ref c) s4)) hm3 (fr_set rfl (by rw [C3.1.1]; rfl)) (fun b q => by omega) P3
          have k114 : (pb_set h3 5 (cx (.ref c) s4)).2 11 = cpr V m3 := by rw [pb_set_get, if_neg (by omega)]; exact k113
          simp only [Option.toList_none, List.nil_append, pb_e92, nI_1]
          refine ih (i + 1) (nxt b n st1) m3 X3 _ s4 f2 g2 _ D3 (by omega) (by omega) C4 S4 k114 P4 hm3 (KF_tr K (KF_tr K2 ⟨k7, k8⟩)) ?_ ?_
          · intro h8 s8 f8 g8 r8 D8 m8 X8 hh
            exact hE h8 s8 f8 g8 r8 D8 m8 X8 (by rw [hnext]; exact hh)
          · intro h8 s8 f8 g8 r8 D8 m8 X8 e hh
            exact hQ0 h8 s8 f8 g8 r8 D8 m8 X8 e (by rw [hnext]; exact hh)
        · intro h3 D3 m3 s3 n40 C3 ft k113 P3
          rw [if_pos n40] at hPr
          simp only [Option.toList_some, List.singleton_append, pb_e92, not_true_eq_false, if_false, nb0, true_and]
          exact hQ0 h3 s3 _ _ _ D3 m3 X _ hPr C3 ft k113 P3
      · intro h2 s2 f2 g2 rel2 e hC2 F2 C2 ft
        rw [hC2] at hPr
        simp only [Option.toList_some, List.singleton_append, pb_e92, if_true, nb0, true_and]
        exact hQ0 h2 s2 f2 g2 rel2 D m X e hPr C2 ft ((F2.2.2 11 (by omega)).trans k11) (PI_le (Nat.zero_le _) (PI_fr hm F2 (fun b q => Or.inl q) P))
/-- Problem.read -/
theorem L92 {s0 : Nat → Int32} {m0 : Nat} (hV : V ≤ 16) (hC : CD h V c N n b s fs g rel) (hS : TS b n (st0 b n) s) (h11 : h.2 11 = cpr V m0) (h12 : h.2 12 = co 40 D0) (hok : ∀ i a, i < 40 → D0 i = some a → lok h V a) (hinj : ∀ i j a, i < 40 → j < 40 → D0 i = some a → D0 j = some a → i = j) (hlc : c < h.1) (h83 : 83 ≤ h.1)
    (hQ1 : ∀ h2 s2 fs2 g2 rel2 D2 m2 X2, sPrb b n V (n + 1) (st0 b n) 0 X00 = .inr (m2, X2) → CD h2 V c N n b s2 fs2 g2 rel2 → KF s s2 → h2.2 11 = cpr V m2 → PI V h D0 h2 D2 m2 X2 → m2 ≤ 40 → Q (some (.int 1)) h2)
    (hQ0 : ∀ h2 s2 fs2 g2 rel2 D2 m2 X2 e, sPrb b n V (n + 1) (st0 b n) 0 X00 = .inl e → CD h2 V c N n b s2 fs2 g2 rel2 → FT s2 e → h2.2 11 = cpr V m2 → PI V h D0 h2 D2 0 X2 → Q (some (.int 0)) h2) : pb_call 92 [.ref 11] h Q := by
  have hn : n ≤ 4000 := Nat.le_trans hC.1.2.2.1 hC.1.2.2.2.1
  have F0 : fr (fun b => b = 11) h (pb_set h 11 (cpr V 0)) := fr_set rfl (by rw [h11]; rfl)
  have hc11 : c ≠ 11 := c_ne hC.1 h11 (fun _ _ => cb_inr)
  have P0 : PI V h D0 h D0 0 X00 := ⟨fg_refl _ _, h12, hok, hinj, fun i a _ q => Or.inl q, fun i _ q => q, fun i hi => by omega, rfl, rfl⟩
  have C0 : CD (pb_set h 11 (cpr V 0)) V c N n b s fs g rel := CD_fg (fg_fr F0) (fun b q => by omega) hc11 (by omega) hlc hC
  rw [pb_c92]
  simp only [pb_e92, h11, pb_g5, pb_o_some, true_and]
  exact L92_loop (s0 := s) (h0 := h) hV hn hC.1.2.2.2.2.2 hlc h83 (n + 1) 0 (st0 b n) 0 X00 _ s fs g rel D0 (by omega) (by omega) C0 hS (by rw [pb_set_get, if_pos rfl]; rfl) (PI_fr (by omega) F0 (fun b q => Or.inr q) P0) (by omega) ⟨rfl, rfl⟩ hQ1 hQ0
end PRL
