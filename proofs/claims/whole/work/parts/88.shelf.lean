/-! Shelf: line, isFull, add, replaceBy -/
abbrev csh (V m p q : Nat) : pb_E := .inr (7, [.int (nI V), .ref 3, .int (nI m), .int (nI p), .int (nI q), .ref 4])
/-- FALSE LINES among the first m -/
noncomputable def isF (V : Nat) (x : LN) : Nat := by
  classical
  exact if ln_br V x (fun _ => none) then 1 else 0
theorem isF_1 {V : Nat} {x : LN} (h : ln_br V x (fun _ => none)) : isF V x = 1 := by unfold isF; rw [if_pos h]
theorem isF_0 {V : Nat} {x : LN} (h : ¬ ln_br V x (fun _ => none)) : isF V x = 0 := by unfold isF; rw [if_neg h]
noncomputable def nfl (V : Nat) (X : Nat → LN) : Nat → Nat
  | 0 => 0
  | m + 1 => nfl V X m + isF V (X (m + 1))
theorem isF_le (V : Nat) (x : LN) : isF V x ≤ 1 := by
  by_cases h : ln_br V x (fun _ => none)
  · rw [isF_1 h]; omega
  · rw [isF_0 h]; omega
theorem nfl_le (V : Nat) (X : Nat → LN) : ∀ m, nfl V X m ≤ m
  | 0 => Nat.le_refl _
  | m + 1 => by
    have := nfl_le V X m
    have := isF_le V (X (m + 1))
    show nfl V X m + isF V (X (m + 1)) ≤ _
    omega
theorem nfl_congr {V : Nat} {X Y : Nat → LN} : ∀ {m : Nat}, (∀ k, 1 ≤ k → k ≤ m → X k = Y k) → nfl V X m = nfl V Y m
  | 0, _ => rfl
  | m + 1, h => by
    show nfl V X m + isF V (X (m + 1)) = nfl V Y m + isF V (Y (m + 1))
    rw [nfl_congr (fun k k1 k2 => h k k1 (by omega)), h (m + 1) (by omega) (by omega)]
section SHF
variable {h : pb_H} {Q : Option Value → pb_H → Prop} {V m p q : Nat} {F D : Nat → Option Nat}
theorem m46_in {k a : Nat} (h2 : h.2 2 = csh V m p q) (h4 : h.2 4 = co 300 F) (hm : m ≤ 300) (k1 : 1 ≤ k) (k2 : k ≤ m) (hF : F (k - 1) = some a) : pb_call 46 [.ref 2, .int (nI k)] h Q ↔ Q (some (.ref a)) h := by
  have c1 : ¬ nI k < 1 := nI_nlt (b := 1) k1 (by omega)
  have c2 : ¬ nI m < nI k := nI_nlt k2 (by omega)
  have c3 : nI k ≤ Int32.ofNat 300 := nI_le (b := 300) (by omega) (by omega)
  have e1 : nI k - 1 = nI (k - 1) := by
    have := nI_pred (k - 1)
    rw [Nat.sub_add_cancel k1] at this
    exact this
  have hg := co_get (f := F) (n := 300) (j := k - 1) (by omega) (by omega)
  have hrf : va_rf (some a) = .ref a := rfl
  rw [hF] at hg
  rw [pb_c46]
  simp only [pb_e46, h2, pb_g7, h4, pb_o_some, co_len, c1, c2, c3, if_false, if_true, e1, hg, hrf]
theorem m46_no {x : Int32} (h2 : h.2 2 = csh V m p q) (hx : x < 1 ∨ nI m < x) : pb_call 46 [.ref 2, .int x] h Q ↔ Q (some .null) h := by
  rw [pb_c46]
  by_cases c1 : x < 1
  · simp only [pb_e46, c1, if_true]
  · have c2 : nI m < x := by
      rcases hx with w | w
      · exact absurd w c1
      · exact w
    simp only [pb_e46, c1, if_false, h2, pb_g7, pb_o_some, c2, if_true]
theorem m68 (h2 : h.2 2 = csh V m p q) (hm : m ≤ 300) : pb_call 68 [.ref 2] h Q ↔ Q (some (.int (if m < 300 then 0 else 1))) h := by
  have c1 : nI m < 300 ↔ m < 300 := nI_ltI (b := 300) (by omega) (by omega)
  rw [pb_c68]
  simp only [pb_e68, h2, pb_g7, pb_o_some, c1, nb0, nb1, true_and]
  by_cases c : m < 300
  · simp only [c, if_true]
  · simp only [c, if_false]
/-- cells that Shelf.add touches -/
abbrev adS (F : Nat → Option Nat) (m : Nat) : Nat → Prop := fun b => b = 2 ∨ b = 3 ∨ b = 4 ∨ ∃ a, F m = some a ∧ lc a b
theorem L72_40 {a b : Nat} {so src : Int32} {y : LN} {r : Nat → Int32} {l3 : Option Value} (hV : V ≤ 16) (h2 : h.2 2 = csh V m p q) (h3 : h.2 3 = ci 8 r) (h4 : h.2 4 = co 300 F) (hm : m < 300) (hF : F m = some a) (hL : lok h V a) (hb : b < 65) (hB : LA h V b so y)
    (hQ : ∀ h' r', fr (adS F m) h h' → h'.2 2 = csh V (m + 1) p (q + isF V y) → h'.2 3 = ci 8 r' → h'.2 4 = co 300 F → LA h' V a src y → Q none h') : pb_R 72 40 [some (.ref 2), some (.ref b), some (.int src), l3] [] [] h Q := by
  have hg := co_get (f := F) (n := 300) (j := m) hm (by omega)
  rw [hF] at hg
  have hrf : va_rf (some a) = .ref a := rfl
  have h83 := hL.1
  obtain ⟨fl, pl, nl, wl, sl, cal, cfl, col, e1, e2⟩ := hL.2.2
  simp only [pb_e72, h2, pb_g7, h4, pb_o_some, true_and, hg, hrf, e1, pb_g4]
  refine L48 hV (by omega) hL.2.2 hB ?_
  intro h1 so1 F1 L1
  obtain ⟨f1, p1, n1, w1, ca1, cf1, co1, d1, d2, d3, d4⟩ := L1
  have j2 : h1.2 2 = csh V m p q := (F1.2.2 2 (by omega)).trans h2
  have j3 : h1.2 3 = ci 8 r := (F1.2.2 3 (by omega)).trans h3
  have j4 : h1.2 4 = co 300 F := (F1.2.2 4 (by omega)).trans h4
  have G2 : fr (adS F m) h1 (pb_set h1 a (cl (nI V) (a + 1) p1 n1 (nI w1) src ca1 cf1 co1)) := fr_set (Or.inr (Or.inr (Or.inr ⟨a, hF, Or.inl rfl⟩))) (by rw [d1]; rfl)
  have k2 : (pb_set h1 a (cl (nI V) (a + 1) p1 n1 (nI w1) src ca1 cf1 co1)).2 2 = csh V m p q := by rw [pb_set_get, if_neg (by omega), j2]
  have G3 : fr (adS F m) (pb_set h1 a (cl (nI V) (a + 1) p1 n1 (nI w1) src ca1 cf1 co1)) (pb_set (pb_set h1 a (cl (nI V) (a + 1) p1 n1 (nI w1) src ca1 cf1 co1)) 2 (csh V (m + 1) p q)) := fr_set (Or.inl rfl) (by rw [k2]; rfl)
  have L3 : LA (pb_set (pb_set h1 a (cl (nI V) (a + 1) p1 n1 (nI w1) src ca1 cf1 co1)) 2 (csh V (m + 1) p q)) V a src y := ⟨f1, p1, n1, w1, ca1, cf1, co1, by rw [pb_set_get, if_neg (by omega), pb_set_get, if_pos rfl], by rw [pb_set_get, if_neg (by omega), pb_set_get, if_neg (by omega), d2], d3, d4⟩
  have i2 : (pb_set (pb_set h1 a (cl (nI V) (a + 1) p1 n1 (nI w1) src ca1 cf1 co1)) 2 (csh V (m + 1) p q)).2 2 = csh V (m + 1) p q := by rw [pb_set_get, if_pos rfl]
  have i3 : (pb_set (pb_set h1 a (cl (nI V) (a + 1) p1 n1 (nI w1) src ca1 cf1 co1)) 2 (csh V (m + 1) p q)).2 3 = ci 8 r := by rw [pb_set_get, if_neg (by omega), pb_set_get, if_neg (by omega), j3]
  have i4 : (pb_set (pb_set h1 a (cl (nI V) (a + 1) p1 n1 (nI w1) src ca1 cf1 co1)) 2 (csh V (m + 1) p q)).2 4 = co 300 F := by rw [pb_set_get, if_neg (by omega), pb_set_get, if_neg (by omega), j4]
  have ia : (pb_set (pb_set h1 a (cl (nI V) (a + 1) p1 n1 (nI w1) src ca1 cf1 co1)) 2 (csh V (m + 1) p q)).2 a = cl (nI V) (a + 1) p1 n1 (nI w1) src ca1 cf1 co1 := by rw [pb_set_get, if_neg (by omega), pb_set_get, if_pos rfl]
  have FF : fr (adS F m) h (pb_set (pb_set h1 a (cl (nI V) (a + 1) p1 n1 (nI w1) src ca1 cf1 co1)) 2 (csh V (m + 1) p q)) := fr_trans (fr_mono (fun b w => Or.inr (Or.inr (Or.inr ⟨a, hF, w⟩))) F1) (fr_trans G2 G3)
  simp only [Option.toList_none, List.nil_append, pb_e72, d1, pb_g4, pb_o_some, k2, pb_g7, nI_1, i2, ia, true_and]
  generalize hH : pb_set (pb_set h1 a (cl (nI V) (a + 1) p1 n1 (nI w1) src ca1 cf1 co1)) 2 (csh V (m + 1) p q) = H at L3 i2 i3 i4 ia FF ⊢
  refine L71 hV L3 (AB_0 V) i3 (by omega) (by omega) (by omega) ?_
  intro h5 z r5 F5 L5 k35 hz
  have k25 : h5.2 2 = csh V (m + 1) p q := (F5.2.2 2 (by omega)).trans i2
  have k45 : h5.2 4 = co 300 F := (F5.2.2 4 (by omega)).trans i4
  have F6 : ∀ x, fr (adS F m) h (pb_set h5 2 (csh V (m + 1) p x)) := fun x => fr_trans FF (fr_trans (fr_mono (fun b w => by
    rcases w with w | w
    · exact Or.inr (Or.inr (Or.inr ⟨a, hF, Or.inl w⟩))
    · exact Or.inr (Or.inl w)) F5) (fr_set (Or.inl rfl) (by rw [k25]; rfl)))
  have fin : ∀ x, x = q + isF V y → Q none (pb_set h5 2 (csh V (m + 1) p x)) := fun x hx => by
    subst hx
    exact hQ _ r5 (F6 _) (by rw [pb_set_get, if_pos rfl]) (by rw [pb_set_get, if_neg (by omega), k35]) (by rw [pb_set_get, if_neg (by omega), k45]) (LA_fr (S := fun b => b = 2) (fr_set rfl (by rw [k25]; rfl)) (by omega) (by omega) L5)
  by_cases c : ln_br V y (fun _ => none)
  · have hz1 := (LK_br hV hz).mpr c
    subst hz1
    simp only [Option.toList_some, List.singleton_append, pb_e72, not_true_eq_false, if_false, k25, pb_g7, pb_o_some, nI_1]
    exact fin (q + 1) (by rw [isF_1 c])
  · have hz1 : ¬ z = -1 := fun e => c ((LK_br hV hz).mp e)
    have z0 : ∀ x : Int32, x + 0 = x := fun x => Int32.add_zero x
    simp only [Option.toList_some, List.singleton_append, pb_e72, hz1, not_false_eq_true, if_true, k25, pb_g7, pb_o_some, z0]
    exact fin q (by rw [isF_0 c, Nat.add_zero])
/-- Shelf.add -/
theorem L72 {b : Nat} {so src : Int32} {y : LN} {r : Nat → Int32} (hV : V ≤ 16) (h2 : h.2 2 = csh V m p q) (h3 : h.2 3 = ci 8 r) (h4 : h.2 4 = co 300 F) (hm : m < 300) (hok : ∀ a, F m = some a → lok h V a) (h83 : 83 ≤ h.1) (hb : b < 65) (hB : LA h V b so y)
    (hQ : ∀ h' F' a r', fg (adS F m) h h' → h'.2 2 = csh V (m + 1) p (q + isF V y) → h'.2 3 = ci 8 r' → h'.2 4 = co 300 F' → (∀ i, i ≠ m → F' i = F i) → F' m = some a → (F m = some a ∨ (F m = none ∧ a = h.1)) → lok h' V a → LA h' V a src y → h'.1 + 2 * nul F' 300 = h.1 + 2 * nul F 300 → pb_sl h' + (9 + (V + 1) * 8) * nul F' 300 = pb_sl h + (9 + (V + 1) * 8) * nul F 300 → Q none h') : pb_call 72 [.ref 2, .ref b, .int src] h Q := by
  have h68 : ∀ Q : Option Value → pb_H → Prop, pb_call 68 [.ref 2] h Q ↔ Q (some (.int 0)) h := fun Q => by rw [m68 h2 (by omega), if_pos hm]
  have hg := co_get (f := F) (n := 300) (j := m) hm (by omega)
  rw [pb_c72]
  cases hF : F m with
  | some a =>
    have hL := hok a hF
    rw [hF] at hg
    have hrf : va_rf (some a) = .ref a := rfl
    have s1 : pb_R 72 0 [some (.ref 2), some (.ref b), some (.int src), none] [] [] h Q ↔ pb_R 72 40 [some (.ref 2), some (.ref b), some (.int src), none] [] [] h Q := by
      simp only [pb_e72, h2, pb_g7, true_and, h68, Option.toList_some, List.singleton_append, if_true, h4, pb_o_some, hg, hrf]
    rw [s1]
    refine L72_40 hV h2 h3 h4 hm hF hL hb hB ?_
    intro h' r' F2 k2 k3 k4 L
    exact hQ h' F a r' (fg_fr F2) k2 k3 k4 (fun _ _ => rfl) hF (Or.inl hF) ⟨hL.1, by rw [F2.1]; exact hL.2.1, LA_LG L⟩ L (by rw [F2.1]) (by rw [fr_sl F2])
  | none =>
    rw [hF] at hg
    have hrn : va_rf none = .null := rfl
    have ne : ∀ x, x < 83 → ¬ x = h.1 := fun x hx => by omega
    simp only [pb_e72, h2, pb_g7, true_and, h68, Option.toList_some, List.singleton_append, if_true, h4, pb_o_some, hg, hrn, pb_new_get, ne 2 (by omega), if_false]
    refine L13 (a := h.1) hV (by rw [pb_new_get, if_pos rfl]) rfl ?_
    intro h1 e1 e2 e3 L1
    have rr : ∀ q, q < h.1 → h1.2 q = h.2 q := fun q hq => by rw [e3 q (by omega) (by omega), pb_new_get, if_neg (by omega)]
    have k4 : h1.2 4 = co 300 F := by rw [rr 4 (by omega), h4]
    have hs := co_set (f := F) (n := 300) (j := m) (r := some h.1) hm (by omega)
    have his : ∀ v, some h.1 = some v → pb_is0 (h1.2 v) 4 = true := fun v hv => by
      injection hv with hv
      subst hv
      obtain ⟨_, _, _, _, _, _, _, q1, _⟩ := L1
      rw [q1]; rfl
    have hn1 : h1.1 = h.1 + 2 := e1
    have F1 : fg (adS F m) h h1 := ⟨by omega, fun q q1 _ => rr q q1⟩
    have F2 : fr (fun b => b = 4) h1 (pb_set h1 4 (co 300 (va_up F m (some h.1)))) := fr_set rfl (by rw [k4]; rfl)
    have j2 : (pb_set h1 4 (co 300 (va_up F m (some h.1)))).2 2 = csh V m p q := by rw [pb_set_get, if_neg (by omega), rr 2 (by omega), h2]
    have j3 : (pb_set h1 4 (co 300 (va_up F m (some h.1)))).2 3 = ci 8 r := by rw [pb_set_get, if_neg (by omega), rr 3 (by omega), h3]
    have j4 : (pb_set h1 4 (co 300 (va_up F m (some h.1)))).2 4 = co 300 (va_up F m (some h.1)) := by rw [pb_set_get, if_pos rfl]
    have lk : lok (pb_set h1 4 (co 300 (va_up F m (some h.1)))) V h.1 := ⟨h83, by show h.1 + 1 < h1.1; omega, LG_fr F2 (by omega) (by omega) (LA_LG L1)⟩
    obtain ⟨cf, cp, cn, cwi, cca, ccf, cco', eb1, eb2, eb3, eb4⟩ := hB
    have hbL : b < h.1 := by omega
    have B2 : LA (pb_set h1 4 (co 300 (va_up F m (some h.1)))) V b so y := ⟨cf, cp, cn, cwi, cca, ccf, cco', by
      rw [pb_set_get, if_neg (fun e => by rw [e, h4] at eb1; cases eb1), rr b hbL, eb1], by
      rw [pb_set_get, if_neg (fun e => by
        rw [e, h4] at eb2
        injection eb2 with w
        injection w with w _
        exact absurd w (by decide)), rr (b + 1) (by omega), eb2], eb3, eb4⟩
    suffices key : pb_R 72 40 [some (.ref 2), some (.ref b), some (.int src), none] [] [] (pb_set h1 4 (co 300 (va_up F m (some h.1)))) Q by
      simp only [pb_e72, j2, pb_g7, pb_o_some, true_and, j4] at key
      simp only [Option.toList_none, List.nil_append, pb_e72, k4, hs, pb_o_some, true_and, j2, pb_g7, j4]
      exact ⟨his, key⟩
    refine L72_40 hV j2 j3 j4 hm up_same lk hb B2 ?_
    intro h3' r' F3 l2 l3 l4 L3
    have hF3 : fg (adS F m) h h3' := by
      refine ⟨by rw [F3.1]; show h.1 ≤ h1.1; omega, fun q q1 q2 => ?_⟩
      rw [F3.2.2 q (by
        rintro (w | w | w | ⟨a, w, w2⟩)
        · exact q2 (Or.inl w)
        · exact q2 (Or.inr (Or.inl w))
        · exact q2 (Or.inr (Or.inr (Or.inl w)))
        · rw [up_same] at w
          injection w with w
          subst w
          omega), pb_set_get, if_neg (fun e => q2 (Or.inr (Or.inr (Or.inl e)))), rr q q1]
    have hnl := nul_set (f := F) (i := m) (a := h.1) hF (N := 300) hm
    have hsl : pb_sl h3' = pb_sl h + 9 + (V + 1) * 8 := by
      rw [fr_sl F3, fr_sl F2, e2, pb_sl_new]
      rfl
    refine hQ h3' (va_up F m (some h.1)) h.1 r' hF3 l2 l3 l4 (fun i hi => up_ne hi) up_same (Or.inr ⟨hF, rfl⟩) ⟨h83, by rw [F3.1]; show h.1 + 1 < h1.1; omega, LA_LG L3⟩ L3 ?_ ?_
    · rw [F3.1]
      show h1.1 + _ = _
      omega
    · rw [hsl, ← hnl, Nat.mul_add]
      omega
def swF (F D : Nat → Option Nat) (m : Nat) : Nat → Option Nat := fun i => if i < m then D i else F i
theorem swF_up (F D : Nat → Option Nat) (i : Nat) : swF F D (i + 1) = va_up (swF F D i) i (D i) := by
  funext j
  unfold swF va_up
  by_cases e : j = i
  · subst e
    rw [if_pos (by omega), if_pos rfl]
  · rw [if_neg e]
    show (if j < i + 1 then D j else F j) = (if j < i then D j else F j)
    by_cases c : j < i
    · rw [if_pos (by omega), if_pos c]
    · rw [if_neg (by omega), if_neg c]
theorem swF_at (F D : Nat → Option Nat) (i : Nat) : swF F D i i = F i := by unfold swF; rw [if_neg (by omega)]
theorem swF_0 (F D : Nat → Option Nat) : swF F D 0 = F := by
  funext j
  unfold swF
  rw [if_neg (by omega)]
/-- cells that replaceBy touches -/
abbrev rpS (D : Nat → Option Nat) (m : Nat) : Nat → Prop := fun b => b = 2 ∨ b = 3 ∨ b = 4 ∨ b = 12 ∨ ∃ i a, i < m ∧ D i = some a ∧ b = a
/-- where replaceBy stands -/
def RPI (V M : Nat) (F D : Nat → Option Nat) (X : Nat → LN) (h h' : pb_H) (i : Nat) : Prop :=
  fr (rpS D M) h h' ∧ h'.2 2 = csh V i i (nfl V (fun k => X (k - 1)) i) ∧ (∃ r, h'.2 3 = ci 8 r) ∧ h'.2 4 = co 300 (swF F D i) ∧ h'.2 12 = co 40 (swF D F i) ∧ (∀ k, k < i → ∃ a, D k = some a ∧ LA h' V a 1 (X k)) ∧ (∀ k, i ≤ k → k < M → ∃ a so, D k = some a ∧ LA h' V a so (X k))
theorem L119_48 {i a : Nat} {l2 : Option Value} {F D : Nat → Option Nat} (h2 : h.2 2 = csh V m p q) (h4 : h.2 4 = co 300 F) (h12 : h.2 12 = co 40 D) (hi : i < 40) (his : ∀ v, F i = some v → pb_is0 (h.2 v) 4 = true) :
    pb_R 119 57 [some (.ref 2), some (.ref 12), l2, some (.int (nI i)), some (.ref a)] [] [] (pb_set h 12 (co 40 (va_up D i (F i)))) Q → pb_R 119 48 [some (.ref 2), some (.ref 12), l2, some (.int (nI i)), some (.ref a)] [] [] h Q := by
  have hg := co_get (f := F) (n := 300) (j := i) (by omega) (by omega)
  have hs := fun r => co_set (f := D) (n := 40) (j := i) (r := r) hi (by omega)
  intro key
  cases hF : F i with
  | some v =>
    have hrf : va_rf (some v) = .ref v := rfl
    rw [hF] at hg key his
    simp only [pb_e119, h2, pb_g7, pb_o_some, h4, hg, hrf, h12, hs] at key ⊢
    exact ⟨his, key⟩
  | none =>
    have hrn : va_rf none = .null := rfl
    rw [hF] at hg key his
    simp only [pb_e119, h2, pb_g7, pb_o_some, h4, hg, hrn, h12, hs] at key ⊢
    exact ⟨his, key⟩
end SHF
