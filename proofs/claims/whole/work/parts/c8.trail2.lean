/-! The class's Trail -/
def iput (T : Nat → Int) (k : Nat) (z : Int) : Nat → Int := fun i => if i = k then z else T i
/-- the Trail's cells -/
def CT (h : pb_H) (V ts : Nat) (T : Nat → Int) (Lv Rs : Nat → Nat) (tb fb lt : Int32) : Prop := h.2 57 = ctr V (nI ts) tb fb lt ∧ ts ≤ V ∧ V ≤ 16 ∧ (∃ f1 f2 f3, h.2 58 = ci V f1 ∧ h.2 59 = ci V f2 ∧ h.2 60 = ci V f3 ∧ ∀ i, i < ts → f1 i = lI (T i) ∧ f2 i = nI (Lv i) ∧ f3 i = nI (Rs i)) ∧ (∀ i, i < ts → 1 ≤ (T i).natAbs ∧ (T i).natAbs ≤ V) ∧ ∀ i, i < ts → Lv i ≤ 16
theorem TV_lv {V m : Nat} {X : Nat → LN} {T : Nat → Int} {Lv Rs : Nat → Nat} {lv ts : Nat} (hT : TV V m X T Lv Rs lv ts) : lv ≤ ts := by
  obtain ⟨t1, t2, t3, t4, t5, t6, t7⟩ := hT
  have key : ∀ l i, 1 ≤ l → l ≤ lv → i < ts → Lv i = l → l ≤ i + 1 := by
    intro l
    induction l with
    | zero => intro i h1; omega
    | succ l ih =>
      intro i h1 h2 h3 h4
      by_cases e : l = 0
      · omega
      · obtain ⟨j, j1, j2, j3⟩ := t7 l (by omega) (by omega)
        have := ih j (by omega) (by omega) j1 j2
        by_cases c : i ≤ j
        · have := t5 i j c j1
          omega
        · omega
  by_cases e : lv = 0
  · omega
  · obtain ⟨i, i1, i2, _⟩ := t7 lv (by omega) (Nat.le_refl _)
    have := key lv i (by omega) (Nat.le_refl _) i1 i2
    omega
/-- bits of the first n -/
def tbs (T : Nat → Int) : Nat → Int32
  | 0 => 0
  | i + 1 => tbs T i ||| (if 0 < T i then bm (T i).natAbs else 0)
def fbs (T : Nat → Int) : Nat → Int32
  | 0 => 0
  | i + 1 => fbs T i ||| (if T i < 0 then bm (T i).natAbs else 0)
section TRL
variable {h : pb_H} {Q : Option Value → pb_H → Prop} {V ts n j : Nat} {T : Nat → Int} {Lv Rs : Nat → Nat} {tb fb lt : Int32}
theorem tbs_bt {v : Nat} (hv : 1 ≤ v) : ∀ {i : Nat}, (∀ k, k < i → 1 ≤ (T k).natAbs ∧ (T k).natAbs ≤ 16) → ((bt (tbs T i) v = true ↔ ∃ k, k < i ∧ (T k).natAbs = v ∧ 0 < T k) ∧ (bt (fbs T i) v = true ↔ ∃ k, k < i ∧ (T k).natAbs = v ∧ T k < 0))
  | 0, _ => by
    refine ⟨⟨fun w => ?_, fun ⟨k, k1, _⟩ => by omega⟩, ⟨fun w => ?_, fun ⟨k, k1, _⟩ => by omega⟩⟩
    · rw [show tbs T 0 = 0 from rfl, bt_zero] at w; cases w
    · rw [show fbs T 0 = 0 from rfl, bt_zero] at w; cases w
  | i + 1, hT => by
    obtain ⟨ih1, ih2⟩ := tbs_bt hv (i := i) (fun k hk => hT k (by omega))
    obtain ⟨b1, b2⟩ := hT i (by omega)
    have hb := bm_any (v := (T i).natAbs) (u := v) b1 b2 hv
    refine ⟨?_, ?_⟩
    · show bt (tbs T i ||| (if 0 < T i then bm (T i).natAbs else 0)) v = true ↔ _
      rw [bt_or2, Bool.or_eq_true, ih1]
      by_cases p : 0 < T i
      · rw [if_pos p, hb, decide_eq_true_iff]
        constructor
        · rintro (⟨k, k1, k2, k3⟩ | e)
          · exact ⟨k, by omega, k2, k3⟩
          · exact ⟨i, by omega, e.symm, p⟩
        · rintro ⟨k, k1, k2, k3⟩
          by_cases e : k = i
          · subst e; exact Or.inr k2.symm
          · exact Or.inl ⟨k, by omega, k2, k3⟩
      · rw [if_neg p, bt_zero]
        constructor
        · rintro (⟨k, k1, k2, k3⟩ | e)
          · exact ⟨k, by omega, k2, k3⟩
          · cases e
        · rintro ⟨k, k1, k2, k3⟩
          by_cases e : k = i
          · subst e; exact absurd k3 p
          · exact Or.inl ⟨k, by omega, k2, k3⟩
    · show bt (fbs T i ||| (if T i < 0 then bm (T i).natAbs else 0)) v = true ↔ _
      rw [bt_or2, Bool.or_eq_true, ih2]
      by_cases p : T i < 0
      · rw [if_pos p, hb, decide_eq_true_iff]
        constructor
        · rintro (⟨k, k1, k2, k3⟩ | e)
          · exact ⟨k, by omega, k2, k3⟩
          · exact ⟨i, by omega, e.symm, p⟩
        · rintro ⟨k, k1, k2, k3⟩
          by_cases e : k = i
          · subst e; exact Or.inr k2.symm
          · exact Or.inl ⟨k, by omega, k2, k3⟩
      · rw [if_neg p, bt_zero]
        constructor
        · rintro (⟨k, k1, k2, k3⟩ | e)
          · exact ⟨k, by omega, k2, k3⟩
          · cases e
        · rintro ⟨k, k1, k2, k3⟩
          by_cases e : k = i
          · subst e; exact absurd k3 p
          · exact Or.inl ⟨k, by omega, k2, k3⟩
theorem zneg {z : Int} (h1 : 1 ≤ z.natAbs) (h2 : ¬ 0 < z) : z < 0 := by omega
theorem tbs_AB (hT : ∀ k, k < n → 1 ≤ (T k).natAbs ∧ (T k).natAbs ≤ 16) (hd : ∀ a b, a < b → b < n → (T a).natAbs ≠ (T b).natAbs) : AB V (asg T n) (tbs T n) (fbs T n) := fun v v1 v2 => by
  obtain ⟨b1, b2⟩ := tbs_bt (T := T) v1 (i := n) hT
  rw [b1, b2]
  constructor
  · constructor
    · rintro ⟨k, k1, k2, k3⟩
      subst k2
      rw [asg_at k1 hd, decide_eq_true k3]
    · intro e
      obtain ⟨k, k1, k2⟩ := asg_some (T := T) (i := n) (v := v) (by rw [e]; exact fun q => by cases q)
      subst k2
      rw [asg_at k1 hd] at e
      injection e with e
      exact ⟨k, k1, rfl, of_decide_eq_true e⟩
  · constructor
    · rintro ⟨k, k1, k2, k3⟩
      subst k2
      rw [asg_at k1 hd, decide_eq_false (by omega)]
    · intro e
      obtain ⟨k, k1, k2⟩ := asg_some (T := T) (i := n) (v := v) (by rw [e]; exact fun q => by cases q)
      subst k2
      rw [asg_at k1 hd] at e
      injection e with e
      have g1 := of_decide_eq_false e
      have g2 := (hT k k1).1
      exact ⟨k, k1, rfl, zneg g2 g1⟩
/-- Trail.sizeAt -/
theorem m98 (C : CT h V ts T Lv Rs tb fb lt) (hj : j ≤ 16) : pb_call 98 [.ref 57, .int (nI j)] h Q ↔ Q (some (.int (nI (szl Lv j ts)))) h := by
  obtain ⟨c1, c2, c3, ⟨f1, f2, f3, d1, d2, d3, d4⟩, c5, c6⟩ := C
  have loop : ∀ n, n ≤ ts → (pb_R 98 5 [some (.ref 57), some (.int (nI j)), some (.int (nI n))] [] [] h Q ↔ Q (some (.int (nI (szl Lv j n)))) h) := by
    intro n
    induction n with
    | zero =>
      intro _
      have k0 : nI 0 ≤ 0 := by decide
      rw [pb_q98_5]
      simp only [pb_e98, k0, if_true]
      rfl
    | succ n ih =>
      intro hn
      have k0 : ¬ nI (n + 1) ≤ 0 := nI_nle (by omega) (by omega)
      have e1 : nI (n + 1) - 1 = nI n := nI_pred n
      have e2 : nI (n + 1) + -1 = nI n := by rw [sub1]; exact e1
      have hg := pb_ai_eq (k := 0) (n := V) (j := n) (f := f2) (Or.inl rfl) (by omega) (by omega)
      rw [(d4 n (by omega)).2.1] at hg
      have hl := c6 n (by omega)
      have kc : nI (Lv n) ≤ nI j ↔ Lv n ≤ j := nI_leI (by omega) (by omega)
      rw [pb_q98_5]
      by_cases c : Lv n ≤ j
      · have es : szl Lv j (n + 1) = n + 1 := by
          show (if j < Lv n then _ else _) = _
          rw [if_neg (by omega)]
        rw [es]
        simp only [pb_e98, k0, if_false, c1, pb_g9, pb_o_some, e1, d2, hg, kc.mpr c, if_true]
      · have es : szl Lv j (n + 1) = szl Lv j n := by
          show (if j < Lv n then _ else _) = _
          rw [if_pos (by omega)]
        have nc : ¬ nI (Lv n) ≤ nI j := fun w => c (kc.mp w)
        rw [es, ← ih (by omega)]
        simp only [pb_e98, k0, if_false, c1, pb_g9, pb_o_some, e1, d2, hg, nc, e2]
  rw [pb_c98]
  simp only [pb_e98, c1, pb_g9, pb_o_some]
  exact loop ts (Nat.le_refl _)
theorem m100 (C : CT h V ts T Lv Rs tb fb lt) (hn : n ≤ ts) : pb_call 100 [.ref 57, .int (nI n)] h Q ↔ Q (some (.int (tbs T n))) h := by
  obtain ⟨c1, c2, c3, ⟨f1, f2, f3, d1, d2, d3, d4⟩, c5, c6⟩ := C
  have loop : ∀ r i, i + r = n → (pb_R 100 4 [some (.ref 57), some (.int (nI n)), some (.int (tbs T i)), some (.int (nI i))] [] [] h Q ↔ Q (some (.int (tbs T n))) h) := by
    intro r
    induction r with
    | zero =>
      intro i hi
      obtain rfl : i = n := by omega
      rw [pb_q100_4]
      simp only [pb_e100, Int32.le_refl, if_true]
    | succ r ih =>
      intro i hi
      have k1 : ¬ nI n ≤ nI i := nI_ge (by omega) (by omega)
      have k2 : ¬ nI ts ≤ nI i := nI_ge (by omega) (by omega)
      have hg := pb_ai_eq (k := 0) (n := V) (j := i) (f := f1) (Or.inl rfl) (by omega) (by omega)
      rw [(d4 i (by omega)).1] at hg
      obtain ⟨b1, b2⟩ := c5 i (by omega)
      obtain ⟨p1, p2, p3⟩ := lI_pos b1 (by omega)
      have h99 := fun Q : Option Value → pb_H → Prop => m99 (h := h) (Q := Q) b1 (by omega : (T i).natAbs ≤ 16)
      rw [← ih (i + 1) (by omega), pb_q100_4]
      by_cases c : 0 < T i
      · have n1 : ¬ lI (T i) ≤ 0 := fun w => p1.mp w c
        have es : tbs T (i + 1) = tbs T i ||| bm (T i).natAbs := by
          show _ ||| (if 0 < T i then _ else _) = _
          rw [if_pos c]
        rw [es]
        simp only [pb_e100, k1, k2, if_false, c1, pb_g9, pb_o_some, d1, hg, n1, h99, Option.toList_some, List.singleton_append, nI_1]
      · have n1 : lI (T i) ≤ 0 := p1.mpr c
        have es : tbs T (i + 1) = tbs T i ||| 0 := by
          show _ ||| (if 0 < T i then _ else _) = _
          rw [if_neg c]
        rw [es]
        simp only [pb_e100, k1, k2, if_false, c1, pb_g9, pb_o_some, d1, hg, n1, if_true, nI_1]
  rw [pb_c100]
  simp only [pb_e100]
  exact loop n 0 (by omega)
theorem m101 (C : CT h V ts T Lv Rs tb fb lt) (hn : n ≤ ts) : pb_call 101 [.ref 57, .int (nI n)] h Q ↔ Q (some (.int (fbs T n))) h := by
  obtain ⟨c1, c2, c3, ⟨f1, f2, f3, d1, d2, d3, d4⟩, c5, c6⟩ := C
  have loop : ∀ r i, i + r = n → (pb_R 101 4 [some (.ref 57), some (.int (nI n)), some (.int (fbs T i)), some (.int (nI i))] [] [] h Q ↔ Q (some (.int (fbs T n))) h) := by
    intro r
    induction r with
    | zero =>
      intro i hi
      obtain rfl : i = n := by omega
      rw [pb_q101_4]
      simp only [pb_e101, Int32.le_refl, if_true]
    | succ r ih =>
      intro i hi
      have k1 : ¬ nI n ≤ nI i := nI_ge (by omega) (by omega)
      have k2 : ¬ nI ts ≤ nI i := nI_ge (by omega) (by omega)
      have hg := pb_ai_eq (k := 0) (n := V) (j := i) (f := f1) (Or.inl rfl) (by omega) (by omega)
      rw [(d4 i (by omega)).1] at hg
      obtain ⟨b1, b2⟩ := c5 i (by omega)
      obtain ⟨p1, p2, p3⟩ := lI_pos b1 (by omega)
      have h99 := fun Q : Option Value → pb_H → Prop => m99 (h := h) (Q := Q) b1 (by omega : (T i).natAbs ≤ 16)
      rw [← ih (i + 1) (by omega), pb_q101_4]
      by_cases c : T i < 0
      · have n1 : ¬ 0 ≤ lI (T i) := by
          rw [p3 c]
          exact neg_lt100 (T i).natAbs (by omega) b1
        have es : fbs T (i + 1) = fbs T i ||| bm (T i).natAbs := by
          show _ ||| (if T i < 0 then _ else _) = _
          rw [if_pos c]
        rw [es]
        simp only [pb_e101, k1, k2, if_false, c1, pb_g9, pb_o_some, d1, hg, n1, h99, Option.toList_some, List.singleton_append, nI_1]
      · have n1 : 0 ≤ lI (T i) := by
          rw [p2 (by omega)]
          exact nI_pos' (by omega)
        have es : fbs T (i + 1) = fbs T i ||| 0 := by
          show _ ||| (if T i < 0 then _ else _) = _
          rw [if_neg c]
        rw [es]
        simp only [pb_e101, k1, k2, if_false, c1, pb_g9, pb_o_some, d1, hg, n1, if_true, nI_1]
  rw [pb_c101]
  simp only [pb_e101]
  exact loop n 0 (by omega)
theorem m114 (C : CT h V ts T Lv Rs tb fb lt) : pb_call 114 [.ref 57] h Q ↔ Q (some (.int (if ts < V then 0 else 1))) h := by
  obtain ⟨c1, c2, c3, _⟩ := C
  have kc : nI ts < nI V ↔ ts < V := nI_ltI (by omega) (by omega)
  rw [pb_c114]
  by_cases c : ts < V
  · rw [if_pos c]
    simp only [pb_e114, c1, pb_g9, pb_o_some, kc.mpr c, if_true, nb0, true_and]
  · rw [if_neg c]
    have nc : ¬ nI ts < nI V := fun w => c (kc.mp w)
    simp only [pb_e114, c1, pb_g9, pb_o_some, nc, if_false, nb1, true_and]
abbrev tS4 : Nat → Prop := fun q => q = 57 ∨ q = 58 ∨ q = 59 ∨ q = 60
theorem CT_fr {S : Nat → Prop} {h' : pb_H} (F : fr S h h') (hS : ∀ q, tS4 q → ¬ S q) (C : CT h V ts T Lv Rs tb fb lt) : CT h' V ts T Lv Rs tb fb lt := by
  obtain ⟨c1, c2, c3, ⟨f1, f2, f3, d1, d2, d3, d4⟩, c5⟩ := C
  exact ⟨(F.2.2 57 (hS _ (by omega))).trans c1, c2, c3, ⟨f1, f2, f3, (F.2.2 58 (hS _ (by omega))).trans d1, (F.2.2 59 (hS _ (by omega))).trans d2, (F.2.2 60 (hS _ (by omega))).trans d3, d4⟩, c5⟩
/-- Trail.push -/
theorem L115 {z : Int} {l k : Nat} (C : CT h V ts T Lv Rs tb fb lt) (hts : ts < V) (z1 : 1 ≤ z.natAbs) (z2 : z.natAbs ≤ V) (hl : l ≤ 16) (hA : AB V (asg T ts) tb fb) (hn : asg T ts z.natAbs = none)
    (hQ : ∀ h' tb' fb' lt', fr tS4 h h' → CT h' V (ts + 1) (iput T ts z) (un Lv ts l) (un Rs ts k) tb' fb' lt' → AB V (asg (iput T ts z) (ts + 1)) tb' fb' → (∀ v, 1 ≤ v → bt lt' v = if v = z.natAbs then decide (0 < z) else bt lt v) → Q none h') : pb_call 115 [.ref 57, .int (lI z), .int (nI l), .int (nI k)] h Q := by
  have C0 := C
  obtain ⟨c1, c2, c3, ⟨f1, f2, f3, d1, d2, d3, d4⟩, c5, c6⟩ := C
  have h114 : ∀ Q : Option Value → pb_H → Prop, pb_call 114 [.ref 57] h Q ↔ Q (some (.int 0)) h := fun Q => by rw [m114 C0, if_pos hts]
  have s1 := pb_si_eq (n := V) (j := ts) (f := f1) (x := lI z) (by omega) (by omega)
  have s2 := pb_si_eq (n := V) (j := ts) (f := f2) (x := nI l) (by omega) (by omega)
  have s3 := pb_si_eq (n := V) (j := ts) (f := f3) (x := nI k) (by omega) (by omega)
  have h99 := fun (H : pb_H) (Q : Option Value → pb_H → Prop) => m99 (h := H) (Q := Q) z1 (by omega : z.natAbs ≤ 16)
  have e58 : ∀ x, (pb_set h 58 x).2 57 = ctr V (nI ts) tb fb lt := fun x => by rw [pb_set_get, if_neg (by omega), c1]
  have g58 : ∀ x, (pb_set h 58 x).2 59 = ci V f2 := fun x => by rw [pb_set_get, if_neg (by omega), d2]
  have e59 : ∀ x y, (pb_set (pb_set h 58 x) 59 y).2 57 = ctr V (nI ts) tb fb lt := fun x y => by rw [pb_set_get, if_neg (by omega), e58]
  have g59 : ∀ x y, (pb_set (pb_set h 58 x) 59 y).2 60 = ci V f3 := fun x y => by rw [pb_set_get, if_neg (by omega), pb_set_get, if_neg (by omega), d3]
  have e60 : ∀ x y w, (pb_set (pb_set (pb_set h 58 x) 59 y) 60 w).2 57 = ctr V (nI ts) tb fb lt := fun x y w => by rw [pb_set_get, if_neg (by omega), e59]
  have g57 : ∀ (H : pb_H) x, (pb_set H 57 x).2 57 = x := fun H x => by rw [pb_set_get, if_pos rfl]
  obtain ⟨p1, p2, p3⟩ := lI_pos z1 (by omega : z.natAbs ≤ 16)
  have fin : ∀ tb' fb' lt', AB V (asg (iput T ts z) (ts + 1)) tb' fb' → (∀ v, 1 ≤ v → bt lt' v = if v = z.natAbs then decide (0 < z) else bt lt v) → Q none (pb_set (pb_set (pb_set (pb_set h 58 (ci V (upd f1 ts (lI z)))) 59 (ci V (upd f2 ts (nI l)))) 60 (ci V (upd f3 ts (nI k)))) 57 (ctr V (nI (ts + 1)) tb' fb' lt')) := by
    intro tb' fb' lt' a1 a2
    refine hQ _ tb' fb' lt' (fr_trans (fr_set (Or.inr (Or.inl rfl)) (by rw [d1]; rfl)) (fr_trans (fr_set (Or.inr (Or.inr (Or.inl rfl))) (by rw [g58]; rfl)) (fr_trans (fr_set (Or.inr (Or.inr (Or.inr rfl))) (by rw [g59]; rfl)) (fr_set (Or.inl rfl) (by rw [e60]; rfl))))) ⟨g57 _ _, by omega, c3, ⟨_, _, _, by rw [pb_set_get, if_neg (by omega), pb_set_get, if_neg (by omega), pb_set_get, if_neg (by omega), pb_set_get, if_pos rfl], by rw [pb_set_get, if_neg (by omega), pb_set_get, if_neg (by omega), pb_set_get, if_pos rfl], by rw [pb_set_get, if_neg (by omega), pb_set_get, if_pos rfl], fun i hi => ?_⟩, fun i hi => ?_, fun i hi => ?_⟩ a1 a2
    · unfold iput un upd
      by_cases e : i = ts
      · rw [if_pos e, if_pos e, if_pos e, if_pos e, if_pos e, if_pos e]; exact ⟨rfl, rfl, rfl⟩
      · rw [if_neg e, if_neg e, if_neg e, if_neg e, if_neg e, if_neg e]; exact d4 i (by omega)
    · unfold iput
      by_cases e : i = ts
      · rw [if_pos e]; exact ⟨z1, z2⟩
      · rw [if_neg e]; exact c5 i (by omega)
    · unfold un
      by_cases e : i = ts
      · rw [if_pos e]; exact hl
      · rw [if_neg e]; exact c6 i (by omega)
  have easg : ∀ u, asg (iput T ts z) (ts + 1) u = if u = z.natAbs then some (decide (0 < z)) else asg T ts u := fun u => by
    have e1 : iput T ts z ts = z := by unfold iput; rw [if_pos rfl]
    have e2 : ∀ n, n ≤ ts → asg (iput T ts z) n u = asg T n u := by
      intro n
      induction n with
      | zero => intro _; rfl
      | succ n ih =>
        intro hn'
        have e3 : iput T ts z n = T n := by unfold iput; rw [if_neg (by omega)]
        show (if u = (iput T ts z n).natAbs then _ else _) = (if u = (T n).natAbs then _ else _)
        rw [e3, ih (by omega)]
    show (if u = (iput T ts z ts).natAbs then some (decide (0 < iput T ts z ts)) else asg (iput T ts z) ts u) = _
    rw [e1, e2 ts (Nat.le_refl _)]
  have hbm := fun u (hu : 1 ≤ u) => bm_any (v := z.natAbs) (u := u) z1 (by omega) hu
  rw [pb_c115]
  by_cases c : 0 < z
  · have n1 : ¬ lI z ≤ 0 := fun w => p1.mp w c
    simp only [pb_e115, c1, pb_g9, true_and, h114, Option.toList_some, List.singleton_append, if_true, pb_o_some, d1, s1, e58, g58, s2, e59, g59, s3, e60, nI_1, h99, n1, if_false, g57, pb_set_same]
    refine fin _ _ _ (fun u u1 u2 => ?_) (fun u u1 => ?_)
    · obtain ⟨a1, a2⟩ := hA u u1 u2
      rw [easg u, bt_or2, hbm u u1]
      by_cases e : u = z.natAbs
      · subst e
        rw [hn] at a1 a2
        rw [if_pos rfl, decide_eq_true rfl, Bool.or_true, decide_eq_true c]
        refine ⟨⟨fun _ => rfl, fun _ => rfl⟩, ⟨fun w => ?_, fun w => ?_⟩⟩
        · have := a2.mp w; cases this
        · injection w with w; cases w
      · rw [if_neg e, decide_eq_false e, Bool.or_false]
        exact ⟨a1, a2⟩
    · rw [bt_or2, hbm u u1]
      by_cases e : u = z.natAbs
      · rw [if_pos e, decide_eq_true e, Bool.or_true, decide_eq_true c]
      · rw [if_neg e, decide_eq_false e, Bool.or_false]
  · have n1 : lI z ≤ 0 := p1.mpr c
    simp only [pb_e115, c1, pb_g9, true_and, h114, Option.toList_some, List.singleton_append, if_true, pb_o_some, d1, s1, e58, g58, s2, e59, g59, s3, e60, nI_1, h99, n1, g57, pb_set_same]
    refine fin _ _ _ (fun u u1 u2 => ?_) (fun u u1 => ?_)
    · obtain ⟨a1, a2⟩ := hA u u1 u2
      rw [easg u, bt_or2, hbm u u1]
      by_cases e : u = z.natAbs
      · subst e
        rw [hn] at a1 a2
        rw [if_pos rfl, decide_eq_true rfl, Bool.or_true, decide_eq_false c]
        refine ⟨⟨fun w => ?_, fun w => ?_⟩, ⟨fun _ => rfl, fun _ => rfl⟩⟩
        · have := a1.mp w; cases this
        · injection w with w; cases w
      · rw [if_neg e, decide_eq_false e, Bool.or_false]
        exact ⟨a1, a2⟩
    · rw [bt_off' z1 (by omega) u1]
      by_cases e : u = z.natAbs
      · rw [if_pos e, decide_eq_true e, decide_eq_false c, Bool.not_true, Bool.and_false]
      · rw [if_neg e, decide_eq_false e, Bool.not_false, Bool.and_true]
/-- Trail.choice -/
theorem L116 {v : Nat} (C : CT h V ts T Lv Rs tb fb lt) (hA : AB V (asg T ts) tb fb) (v1 : 1 ≤ v) (v2 : v ≤ V) (hv : asg T ts v = none) (hu : ∀ u, 1 ≤ u → u < v → asg T ts u ≠ none) : pb_call 116 [.ref 57] h Q ↔ Q (some (.int (lI (if bt lt v = true then (v : Int) else -(v : Int))))) h := by
  obtain ⟨c1, c2, c3, _⟩ := C
  have h113 : ∀ Q : Option Value → pb_H → Prop, pb_call 113 [.int ((tb ||| fb) ^^^ -1)] h Q ↔ Q (some (.int (nI v))) h := fun Q => by
    refine m113 v1 (by omega) ?_ ?_
    · obtain ⟨a1, a2⟩ := hA v v1 v2
      rw [bt_not (by omega) v1, bt_or2]
      rw [hv] at a1 a2
      have t1 : bt tb v = false := by
        cases e : bt tb v
        · rfl
        · have := a1.mp e; cases this
      have t2 : bt fb v = false := by
        cases e : bt fb v
        · rfl
        · have := a2.mp e; cases this
      rw [t1, t2]; rfl
    · intro u u1 u2
      obtain ⟨a1, a2⟩ := hA u u1 (by omega)
      rw [bt_not (by omega) u1, bt_or2]
      cases hx : asg T ts u with
      | none => exact absurd hx (hu u u1 u2)
      | some t =>
        cases t
        · rw [a2.mpr hx, Bool.or_true]; rfl
        · rw [a1.mpr hx, Bool.true_or]; rfl
  have hbt := bm_test (x := lt) v1 (by omega : v ≤ 16)
  have d := lit_dec v (by omega) v1
  rw [pb_c116]
  by_cases c : bt lt v = true
  · have n1 : ¬ (lt &&& 1 <<< ((nI v - 1) &&& 31) = 0) := fun w => hbt.mp w c
    have e1 : lI (v : Int) = nI v := d.2.1
    rw [if_pos c, e1]
    simp only [pb_e116, c1, pb_g9, pb_o_some, h113, Option.toList_some, List.singleton_append, n1, if_false]
  · have n1 : lt &&& 1 <<< ((nI v - 1) &&& 31) = 0 := hbt.mpr c
    have e1 : lI (-(v : Int)) = - nI v := d.2.2.2.2.2.2
    rw [if_neg c, e1]
    simp only [pb_e116, c1, pb_g9, pb_o_some, h113, Option.toList_some, List.singleton_append, n1, if_true]
/-- Trail.keepLevels -/
theorem L110 (C : CT h V ts T Lv Rs tb fb lt) (hj : j ≤ 16) (hQ : ∀ h', fr tS4 h h' → CT h' V (szl Lv j ts) T Lv Rs (tbs T (szl Lv j ts)) (fbs T (szl Lv j ts)) lt → Q none h') : pb_call 110 [.ref 57, .int (nI j)] h Q := by
  have hle := szl_le (Lv := Lv) j ts
  have h98 := fun Q : Option Value → pb_H → Prop => m98 (Q := Q) C hj
  have h100 := fun Q : Option Value → pb_H → Prop => m100 (Q := Q) C hle
  obtain ⟨c1, c2, c3, ⟨f1, f2, f3, d1, d2, d3, d4⟩, c5, c6⟩ := id C
  have g57 : ∀ (H : pb_H) x, (pb_set H 57 x).2 57 = x := fun H x => by rw [pb_set_get, if_pos rfl]
  have C1 : CT (pb_set h 57 (ctr V (nI ts) (tbs T (szl Lv j ts)) fb lt)) V ts T Lv Rs (tbs T (szl Lv j ts)) fb lt := ⟨g57 _ _, c2, c3, ⟨f1, f2, f3, by rw [pb_set_get, if_neg (by omega), d1], by rw [pb_set_get, if_neg (by omega), d2], by rw [pb_set_get, if_neg (by omega), d3], d4⟩, c5, c6⟩
  have h101 := fun Q : Option Value → pb_H → Prop => m101 (Q := Q) C1 hle
  rw [pb_c110]
  simp only [pb_e110, c1, pb_g9, true_and, h98, Option.toList_some, List.singleton_append, h100, pb_o_some, g57, h101, pb_set_same]
  refine hQ _ (fr_set (Or.inl rfl) (by rw [c1]; rfl)) ⟨g57 _ _, by omega, c3, ⟨f1, f2, f3, by rw [pb_set_get, if_neg (by omega), d1], by rw [pb_set_get, if_neg (by omega), d2], by rw [pb_set_get, if_neg (by omega), d3], fun i hi => d4 i (by omega)⟩, fun i hi => c5 i (by omega), fun i hi => c6 i (by omega)⟩
/-- Trail.valueOf -/
theorem m122 {v : Nat} (C : CT h V ts T Lv Rs tb fb lt) (hA : AB V (asg T ts) tb fb) (v1 : 1 ≤ v) (v2 : v ≤ V) : pb_call 122 [.ref 57, .int (nI v)] h Q ↔ Q (some (.int (avI (asg T ts v)))) h := by
  obtain ⟨c1, c2, c3, _⟩ := C
  obtain ⟨a1, a2⟩ := hA v v1 v2
  have b1 := bm_test (x := tb) v1 (by omega : v ≤ 16)
  have b2 := bm_test (x := fb) v1 (by omega : v ≤ 16)
  rw [pb_c122]
  cases hx : asg T ts v with
  | none =>
    rw [hx] at a1 a2
    have n1 : tb &&& 1 <<< ((nI v - 1) &&& 31) = 0 := b1.mpr (fun w => by have := a1.mp w; cases this)
    have n2 : fb &&& 1 <<< ((nI v - 1) &&& 31) = 0 := b2.mpr (fun w => by have := a2.mp w; cases this)
    simp only [pb_e122, c1, pb_g9, pb_o_some, n1, n2, if_true]
    rfl
  | some t =>
    rw [hx] at a1 a2
    cases t
    · have n1 : tb &&& 1 <<< ((nI v - 1) &&& 31) = 0 := b1.mpr (fun w => by have := a1.mp w; injection this with this; cases this)
      have n2 : ¬ fb &&& 1 <<< ((nI v - 1) &&& 31) = 0 := fun w => b2.mp w (a2.mpr rfl)
      simp only [pb_e122, c1, pb_g9, pb_o_some, n1, n2, if_true, if_false]
      rfl
    · have n1 : ¬ tb &&& 1 <<< ((nI v - 1) &&& 31) = 0 := fun w => b1.mp w (a1.mpr rfl)
      simp only [pb_e122, c1, pb_g9, pb_o_some, n1, if_false]
      rfl
end TRL
