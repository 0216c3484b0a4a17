/-! Checker: addLine, takeItems -/
/-- how the LINES' row went on -/
def FX (V : Nat) (h : pb_H) (F : Nat → Option Nat) (h' : pb_H) (F' : Nat → Option Nat) : Prop := (∀ i a, i < 300 → F' i = some a → F i = some a ∨ (F i = none ∧ h.1 ≤ a)) ∧ (∀ i, i < 300 → F' i = none → F i = none) ∧ h'.1 + 2 * nul F' 300 = h.1 + 2 * nul F 300 ∧ pb_sl h' + (9 + (V + 1) * 8) * nul F' 300 = pb_sl h + (9 + (V + 1) * 8) * nul F 300
/-- cells that check touches -/
abbrev chS (F : Nat → Option Nat) : Nat → Prop := fun b => (2 ≤ b ∧ b ≤ 8) ∨ (13 ≤ b ∧ b ≤ 46) ∨ ∃ i a, i < 300 ∧ F i = some a ∧ lc a b
def CHX (V : Nat) (h : pb_H) (F : Nat → Option Nat) (h' : pb_H) (F' : Nat → Option Nat) : Prop := fg (chS F) h h' ∧ FX V h F h' F'
theorem CHX_trans {V : Nat} {h h' h'' : pb_H} {F F' F'' : Nat → Option Nat} (a : CHX V h F h' F') (b : CHX V h' F' h'' F'') : CHX V h F h'' F'' := by
  obtain ⟨a1, a2, a3, a4, a5⟩ := a
  obtain ⟨b1, b2, b3, b4, b5⟩ := b
  refine ⟨⟨Nat.le_trans a1.1 b1.1, fun q q1 q2 => (b1.2 q (Nat.lt_of_lt_of_le q1 a1.1) (fun w => ?_)).trans (a1.2 q q1 q2)⟩, fun i x i1 i2 => ?_, fun i i1 i2 => a3 i i1 (b3 i i1 i2), b4.trans a4, b5.trans a5⟩
  · rcases w with w | w | ⟨i, x, i1, i2, i3⟩
    · exact q2 (Or.inl w)
    · exact q2 (Or.inr (Or.inl w))
    · rcases a2 i x i1 i2 with e | ⟨_, e⟩
      · exact q2 (Or.inr (Or.inr ⟨i, x, i1, e, i3⟩))
      · omega
  · rcases b2 i x i1 i2 with e | ⟨e, e2⟩
    · exact a2 i x i1 e
    · exact Or.inr ⟨a3 i i1 e, Nat.le_trans a1.1 e2⟩
theorem CHX_fr {V : Nat} {h h' : pb_H} {F : Nat → Option Nat} {T : Nat → Prop} (G : fr T h h') (hT : ∀ b, T b → chS F b) : CHX V h F h' F := ⟨fg_mono (fun b _ w => hT b w) (fg_fr G), fun i a _ e => Or.inl e, fun i _ e => e, by rw [G.1], by rw [fr_sl G]⟩
theorem LG_eq {h h' : pb_H} {V a : Nat} (e1 : h'.2 a = h.2 a) (e2 : h'.2 (a + 1) = h.2 (a + 1)) (L : LG h V a) : LG h' V a := by
  obtain ⟨f, p, n, wi, so, ca, cf, co, d1, d2⟩ := L
  exact ⟨f, p, n, wi, so, ca, cf, co, e1.trans d1, e2.trans d2⟩
theorem CKs_eq {h h' : pb_H} {V : Nat} (e : ∀ x, 14 ≤ x → x ≤ 46 → h'.2 x = h.2 x) (hC : CKs h V) : CKs h' V := by
  obtain ⟨⟨f, a1, a2⟩, ⟨w, s, f2, l2, q2, d1, d2, d3, d4⟩, ⟨g, a4⟩, ⟨q, a5⟩, a6, a7⟩ := hC
  refine ⟨⟨f, (e 14 (by omega) (by omega)).trans a1, a2⟩, ⟨w, s, f2, l2, q2, (e 15 (by omega) (by omega)).trans d1, (e 16 (by omega) (by omega)).trans d2, (e 17 (by omega) (by omega)).trans d3, (e 18 (by omega) (by omega)).trans d4⟩, ⟨g, (e 19 (by omega) (by omega)).trans a4⟩, ⟨q, (e 20 (by omega) (by omega)).trans a5⟩, LG_eq (e _ (by omega) (by omega)) (e _ (by omega) (by omega)) a6, fun i hi => LG_eq (e _ (by omega) (by omega)) (e _ (by omega) (by omega)) (a7 i hi)⟩
section PIL
variable {h : pb_H} {Q : Option Value → pb_H → Prop} {V c N n m p hg st : Nat} {b : Nat → Nat} {s : Nat → Int32} {F : Nat → Option Nat} {X S : Nat → LN} {og : Nat → Nat}
/-- what Shelf.add makes of the LINES -/
theorem SHL_add {h' : pb_H} {F' : Nat → Option Nat} {a o : Nat} {r' : Nat → Int32} {y : LN} (hm : m < 300) (hS : SHL h V m p F X og) (G : fg (adS F m) h h') (k2 : h'.2 2 = csh V (m + 1) p (nfl V X m + isF V y)) (k3 : h'.2 3 = ci 8 r') (k4 : h'.2 4 = co 300 F') (hF : ∀ i, i ≠ m → F' i = F i) (ha : F' m = some a) (hor : F m = some a ∨ (F m = none ∧ a = h.1)) (lk : lok h' V a) (L : LA h' V a (nI o) y) (e1 : h'.1 + 2 * nul F' 300 = h.1 + 2 * nul F 300) (e2 : pb_sl h' + (9 + (V + 1) * 8) * nul F' 300 = pb_sl h + (9 + (V + 1) * 8) * nul F 300) :
    SHL h' V (m + 1) p F' (lput X (m + 1) y) (un og (m + 1) o) ∧ CHX V h F h' F' := by
  obtain ⟨a1, ⟨r, a2⟩, a3, a4, a5, a6, a7⟩ := hS
  have sep : ∀ i a', i < 300 → i ≠ m → F i = some a' → ¬ adS F m a' ∧ ¬ adS F m (a' + 1) := by
    intro i a' i1 i2 i3
    have l := a6 i a' i1 i3
    have l83 := l.1
    refine ⟨fun w => ?_, fun w => ?_⟩
    · rcases w with w | w | w | ⟨q, q1, q2⟩
      · omega
      · omega
      · omega
      · have lq := a6 m q hm q1
        exact (lc_sep lq.2.2 l.2.2 (fun e => i2 (a7 i m a' i1 hm i3 (by rw [e]; exact q1)))).1 q2
    · rcases w with w | w | w | ⟨q, q1, q2⟩
      · omega
      · omega
      · omega
      · have lq := a6 m q hm q1
        exact (lc_sep lq.2.2 l.2.2 (fun e => i2 (a7 i m a' i1 hm i3 (by rw [e]; exact q1)))).2 q2
  refine ⟨⟨?_, ⟨r', k3⟩, k4, by omega, fun k k1 k2 => ?_, fun i a' i1 i2 => ?_, fun i j a' i1 j1 i2 j2 => ?_⟩, fg_mono (fun q _ w => ?_) G, fun i a' i1 i2 => ?_, fun i i1 i2 => ?_, e1, e2⟩
  · rw [k2]
    have e : nfl V (lput X (m + 1) y) (m + 1) = nfl V X m + isF V y := by
      show nfl V (lput X (m + 1) y) m + isF V (lput X (m + 1) y (m + 1)) = _
      rw [nfl_congr (Y := X) (fun k k1 k2 => by unfold lput; rw [if_neg (by omega)])]
      unfold lput
      rw [if_pos rfl]
    rw [e]
  · by_cases e : k = m + 1
    · subst e
      refine ⟨a, ha, ?_⟩
      unfold lput un
      rw [if_pos rfl, if_pos rfl]
      exact L
    · obtain ⟨a', w1, w2⟩ := a5 k k1 (by omega)
      obtain ⟨s1, s2⟩ := sep (k - 1) a' (by omega) (by omega) w1
      refine ⟨a', by rw [hF _ (by omega)]; exact w1, ?_⟩
      unfold lput un
      rw [if_neg e, if_neg e]
      exact LA_fg G (a6 (k - 1) a' (by omega) w1).2.1 s1 s2 w2
  · by_cases e : i = m
    · subst e
      rw [ha] at i2
      injection i2 with i2
      rw [← i2]; exact lk
    · rw [hF i e] at i2
      obtain ⟨s1, s2⟩ := sep i a' i1 e i2
      exact lok_fg G s1 s2 (a6 i a' i1 i2)
  · have key : ∀ j, j < 300 → j ≠ m → F j = some a → False := by
      intro j j1 j2 j3
      rcases hor with w | ⟨_, w⟩
      · exact j2 (a7 j m a j1 hm j3 w)
      · have := (a6 j a j1 j3).2.1
        omega
    by_cases e : i = m
    · by_cases e' : j = m
      · omega
      · rw [e, ha] at i2
        rw [hF j e', ← i2] at j2
        exact absurd j2 (fun w => key j j1 e' w)
    · by_cases e' : j = m
      · rw [e', ha] at j2
        rw [hF i e, ← j2] at i2
        exact absurd i2 (fun w => key i i1 e w)
      · rw [hF i e] at i2
        rw [hF j e'] at j2
        exact a7 i j a' i1 j1 i2 j2
  · rcases w with w | w | w | ⟨a', w, w2⟩
    · exact Or.inl (by omega)
    · exact Or.inl (by omega)
    · exact Or.inl (by omega)
    · exact Or.inr (Or.inr ⟨m, a', hm, w, w2⟩)
  · by_cases e : i = m
    · subst e
      rw [ha] at i2
      injection i2 with i2
      rw [← i2]
      rcases hor with w | ⟨w1, w2⟩
      · exact Or.inl w
      · exact Or.inr ⟨w1, by omega⟩
    · rw [hF i e] at i2
      exact Or.inl i2
  · by_cases e : i = m
    · subst e
      rw [ha] at i2
      cases i2
    · rw [hF i e] at i2
      exact i2
/-- Checker.addLine -/
theorem L73 {o : Nat} (hV : V ≤ 16) (K : KB h V c N n b s m p F X og) (hcl : c < h.1) (h83 : 83 ≤ h.1) (h13 : h.2 13 = cck hg) {so : Int32} {y : LN} (hL : LA h V 23 so y) (hT : TS b n st s)
    (hQ1 : ∀ h' F', m < 300 → CHX V h F h' F' → KB h' V c N n b s (m + 1) p F' (lput X (m + 1) y) (un og (m + 1) o) → h'.2 13 = cck hg → Q (some (.int 1)) h')
    (hQ0 : ∀ h' s', ¬ m < 300 → fr kS h h' → KB h' V c N n b s' m p F X og → h'.2 13 = cck hg → FT s' (5, st) → Q (some (.int 0)) h') : pb_call 73 [.ref 13, .int (nI o)] h Q := by
  have h5 := KB_5 K
  obtain ⟨u1, ⟨r, u2⟩, u3, u4, u5, u6, u7⟩ := id K.2.2.2
  have h29 := fun (f : Int32) (Q : Option Value → pb_H → Prop) => m29 (Q := Q) (f := f) h5
  have i10 : ¬ (1 : Int32) = 0 := by decide
  rw [pb_c73]
  by_cases cm : m < 300
  · have h68 : ∀ Q : Option Value → pb_H → Prop, pb_call 68 [.ref 2] h Q ↔ Q (some (.int 0)) h := fun Q => by rw [m68 u1 u4, if_pos cm]
    obtain ⟨⟨f, a1, a2⟩, _⟩ := id K.2.2.1
    have hg' : pb_aa (co 12 f) 0 = some (some 23) := by
      have := co_get (f := f) (n := 12) (j := 0) (by omega) (by omega)
      rw [a2 0 (by omega)] at this
      exact this
    have hrf : va_rf (some 23) = .ref 23 := rfl
    simp only [pb_e73, h13, pb_g1, pb_o_some, u1, pb_g7, true_and, h68, Option.toList_some, List.singleton_append, if_true, a1, hg', hrf]
    refine L72 hV u1 u2 u3 cm (fun a w => u6 m a cm w) h83 (by omega) hL ?_
    intro h' F' a r' G k2 k3 k4 hF ha hor lk L e1 e2
    obtain ⟨S', C'⟩ := SHL_add cm K.2.2.2 G k2 k3 k4 hF ha hor lk L e1 e2
    have nad : ∀ x, x < 83 → x ≠ 2 → x ≠ 3 → x ≠ 4 → ¬ adS F m x := fun x x1 x2 x3 x4 w => by
      rcases w with w | w | w | ⟨q, q1, q2⟩
      · omega
      · omega
      · omega
      · have := (u6 m q cm q1).1
        omega
    have e13 : h'.2 13 = cck hg := (G.2 13 (by omega) (nad 13 (by omega) (by omega) (by omega) (by omega))).trans h13
    obtain ⟨⟨fs, g, rel, CC⟩, k2', k3', k4'⟩ := K
    have hcn : ¬ adS F m c := fun w => by
      rcases w with w | w | w | ⟨q, q1, q2⟩
      · have := CC.2.2.2.2; omega
      · have := CC.2.2.2.2; omega
      · have := CC.2.2.2.2; omega
      · have := c_line CC (u6 m q cm q1).2.2
        omega
    have low : ∀ x, 5 ≤ x → x ≤ 8 → h'.2 x = h.2 x := fun x x1 x2 => G.2 x (by omega) (nad x (by omega) (by omega) (by omega) (by omega))
    have C2 : CD h' V c N n b s fs g rel := ⟨⟨(low 5 (by omega) (by omega)).trans CC.1.1, (G.2 c hcl hcn).trans CC.1.2.1, CC.1.2.2⟩, (low 6 (by omega) (by omega)).trans CC.2.1, (low 7 (by omega) (by omega)).trans CC.2.2.1, (low 8 (by omega) (by omega)).trans CC.2.2.2.1, CC.2.2.2.2⟩
    simp only [Option.toList_none, List.nil_append, pb_e73, nb1, true_and]
    exact hQ1 h' F' cm C' ⟨⟨fs, g, rel, C2⟩, k2', CKs_eq (fun x x1 x2 => G.2 x (by omega) (nad x (by omega) (by omega) (by omega) (by omega))) k3', S'⟩ e13
  · have h68 : ∀ Q : Option Value → pb_H → Prop, pb_call 68 [.ref 2] h Q ↔ Q (some (.int 1)) h := fun Q => by rw [m68 u1 u4, if_neg cm]
    simp only [pb_e73, h13, pb_g1, pb_o_some, u1, pb_g7, true_and, h68, Option.toList_some, List.singleton_append, i10, if_false, h5, pb_gx, h29, nb0]
    exact hQ0 _ _ cm (fr_mono (fun b w => Or.inl w) (fr_5 K rfl)) (KB_s K (by rw [upd_ne _ _ (by omega), upd_ne _ _ (by omega)])) (by rw [pb_set_get, if_neg (by omega), h13]) ⟨by rw [upd_ne _ _ (by omega), upd_same]; rfl, by rw [upd_same, hT.1]⟩
theorem iOne_le {st' hg' : Nat} {S' : Nat → LN} (hs : st ≤ n) (h : iOne b n V m X st hg S = .inr (st', hg', S')) : st < st' ∧ st' ≤ n := by
  have n1 := fun (w : tkk b n st ≠ 1) => nxt_le (b := b) hs w
  have lt : tkk b n st ≠ 0 → st < n := fun w => tkk_lt w
  have two : tkk b n st ≠ 1 → tkk b n st ≠ 0 → tkk b n (nxt b n st) ≠ 1 → st < nxt b n (nxt b n st) ∧ nxt b n (nxt b n st) ≤ n := fun a1 a2 a3 => by
    have q1 := n1 a1
    have q2 := nxt_le (b := b) q1.1 a3
    have q3 := lt a2
    refine ⟨?_, q2.1⟩
    have q4 := q1.2 q3
    by_cases e : nxt b n st < n
    · have := q2.2 e; omega
    · have e' : nxt b n st = n := by omega
      have hz : tkk b n (nxt b n st) = 0 := by unfold tkk; rw [if_pos (by omega)]
      have hn : nxt b n (nxt b n st) = n := by
        have : tke b n (nxt b n st) = nxt b n st := by unfold tke; rw [if_pos (by omega)]
        unfold nxt at this ⊢
        rw [this]
        have := skp_ge b (n - nxt b n st) (nxt b n st) false
        have := skp_le b (n - nxt b n st) (nxt b n st) false
        show skp b (n - nxt b n st) (nxt b n st) false = n
        omega
      omega
  unfold iOne at h
  by_cases c1 : tkk b n st = 48
  · rw [if_pos c1] at h
    have q := n1 (by omega)
    have q' := lt (by omega)
    unfold iNum at h
    by_cases k : tkk b n (nxt b n st) = 42 ∨ tkk b n (nxt b n st) = 100
    · rw [if_pos k] at h
      have t := two (by omega) (by omega) (by omega)
      split at h
      · cases h
      · split at h
        · cases h
        · split at h
          · injection h with h; injection h with h _; omega
          · split at h
            · injection h with h; injection h with h _; omega
            · cases h
    · rw [if_neg k] at h
      split at h
      · split at h
        · injection h with h; injection h with h _
          have := q.2 q'
          omega
        · cases h
      · cases h
  · rw [if_neg c1] at h
    by_cases c2 : tkk b n st = 120
    · rw [if_pos c2] at h
      have q := n1 (by omega)
      have q' := lt (by omega)
      unfold iLet at h
      split at h
      · by_cases k : tkk b n (nxt b n st) = 119
        · rw [if_pos k] at h
          have t := two (by omega) (by omega) (by omega)
          split at h
          · cases h
          · injection h with h; injection h with h _; omega
        · rw [if_neg k] at h
          split at h
          · injection h with h; injection h with h _
            have := q.2 q'
            omega
          · cases h
      · cases h
    · rw [if_neg c2] at h
      unfold iSgn at h
      by_cases c3 : tkk b n st = 43
      · rw [if_pos c3] at h
        have q := n1 (by omega)
        have q' := lt (by omega)
        split at h
        · cases h
        · split at h
          · injection h with h; injection h with h _
            have := q.2 q'
            omega
          · cases h
      · rw [if_neg c3] at h
        by_cases c4 : tkk b n st = 115
        · rw [if_pos c4] at h
          have q := n1 (by omega)
          have q' := lt (by omega)
          split at h
          · cases h
          · injection h with h; injection h with h _
            have := q.2 q'
            omega
        · rw [if_neg c4] at h
          cases h
end PIL
