/-! Shelf.replaceBy -/
section RPL
variable {h : pb_H} {Q : Option Value → pb_H → Prop} {V m p q : Nat} {F D : Nat → Option Nat}
theorem L119_65 {a i : Nat} {so : Int32} {x : LN} {r : Nat → Int32} {l2 : Option Value} (hV : V ≤ 16) (h2 : h.2 2 = csh V i i q) (h3 : h.2 3 = ci 8 r) (h83 : 83 ≤ a) (hL : LA h V a so x)
    (hQ : ∀ h' r', fr (fun b => b = 2 ∨ b = 3 ∨ b = a) h h' → h'.2 2 = csh V (i + 1) (i + 1) (q + isF V x) → h'.2 3 = ci 8 r' → LA h' V a 1 x → pb_R 119 17 [some (.ref 2), some (.ref 12), l2, some (.int (nI (i + 1))), some (.ref a)] [] [] h' Q) : pb_R 119 65 [some (.ref 2), some (.ref 12), l2, some (.int (nI i)), some (.ref a)] [] [] h Q := by
  obtain ⟨f1, p1, n1, w1, ca1, cf1, co1, d1, d2, d3, d4⟩ := hL
  have hg1 : ∀ c, (pb_set h a c).2 2 = csh V i i q := fun c => by rw [pb_set_get, if_neg (by omega), h2]
  have hg2 : ∀ (H : pb_H) c, (pb_set H 2 c).2 2 = c := fun H c => by rw [pb_set_get, if_pos rfl]
  have ia : ∀ c, (pb_set (pb_set h a (cl (nI V) (a + 1) p1 n1 (nI w1) 1 ca1 cf1 co1)) 2 c).2 a = cl (nI V) (a + 1) p1 n1 (nI w1) 1 ca1 cf1 co1 := fun c => by rw [pb_set_get, if_neg (by omega), pb_set_get, if_pos rfl]
  have i3 : ∀ c, (pb_set (pb_set h a (cl (nI V) (a + 1) p1 n1 (nI w1) 1 ca1 cf1 co1)) 2 c).2 3 = ci 8 r := fun c => by rw [pb_set_get, if_neg (by omega), pb_set_get, if_neg (by omega), h3]
  have FF : fr (fun b => b = 2 ∨ b = 3 ∨ b = a) h (pb_set (pb_set h a (cl (nI V) (a + 1) p1 n1 (nI w1) 1 ca1 cf1 co1)) 2 (csh V (i + 1) (i + 1) q)) := fr_trans (fr_set (Or.inr (Or.inr rfl)) (by rw [d1]; rfl)) (fr_set (Or.inl rfl) (by rw [hg1]; rfl))
  have L3 : LA (pb_set (pb_set h a (cl (nI V) (a + 1) p1 n1 (nI w1) 1 ca1 cf1 co1)) 2 (csh V (i + 1) (i + 1) q)) V a 1 x := ⟨f1, p1, n1, w1, ca1, cf1, co1, ia _, by rw [pb_set_get, if_neg (by omega), pb_set_get, if_neg (by omega), d2], d3, d4⟩
  simp only [pb_e119, d1, pb_g4, pb_o_some, hg1, pb_g7, nI_1, hg2, pb_set_same, ia, true_and]
  refine L71 hV L3 (AB_0 V) (i3 _) (by omega) (by omega) (by omega) ?_
  intro h5 z r5 F5 L5 k35 hz
  have k25 : h5.2 2 = csh V (i + 1) (i + 1) q := (F5.2.2 2 (by omega)).trans (hg2 _ _)
  have F6 : ∀ y, fr (fun b => b = 2 ∨ b = 3 ∨ b = a) h (pb_set h5 2 (csh V (i + 1) (i + 1) y)) := fun y => fr_trans FF (fr_trans (fr_mono (fun b w => by omega) F5) (fr_set (Or.inl rfl) (by rw [k25]; rfl)))
  have fin : ∀ y, y = q + isF V x → pb_R 119 17 [some (.ref 2), some (.ref 12), l2, some (.int (nI (i + 1))), some (.ref a)] [] [] (pb_set h5 2 (csh V (i + 1) (i + 1) y)) Q := fun y hy => by
    subst hy
    exact hQ _ r5 (F6 _) (by rw [pb_set_get, if_pos rfl]) (by rw [pb_set_get, if_neg (by omega), k35]) (LA_fr (S := fun b => b = 2) (fr_set rfl (by rw [k25]; rfl)) (by omega) (by omega) L5)
  by_cases c : ln_br V x (fun _ => none)
  · have hz1 := (LK_br hV hz).mpr c
    subst hz1
    simp only [Option.toList_some, List.singleton_append, pb_e119, not_true_eq_false, if_false, k25, pb_g7, pb_o_some, nI_1]
    exact fin (q + 1) (by rw [isF_1 c])
  · have hz1 : ¬ z = -1 := fun e => c ((LK_br hV hz).mp e)
    have z0 : ∀ x : Int32, x + 0 = x := fun x => Int32.add_zero x
    simp only [Option.toList_some, List.singleton_append, pb_e119, hz1, not_false_eq_true, if_true, k25, pb_g7, pb_o_some, z0, nI_1]
    exact fin q (by rw [isF_0 c, Nat.add_zero])
theorem L119_loop {M : Nat} {X : Nat → LN} (hV : V ≤ 16) (hM : M ≤ 40) (hF : ∀ i a, i < 300 → F i = some a → lok h V a) (hD : ∀ i a, i < 40 → D i = some a → lok h V a) (hinj : ∀ i j a, i < 40 → j < 40 → D i = some a → D j = some a → i = j) (hFD : ∀ i j a, i < 300 → j < 40 → F i = some a → D j = some a → False)
    (hE : ∀ h', RPI V M F D X h h' M → Q none h') : ∀ r i h' l4, i + r = M → RPI V M F D X h h' i → pb_R 119 17 [some (.ref 2), some (.ref 12), some (.int (nI M)), some (.int (nI i)), l4] [] [] h' Q := by
  intro r
  induction r with
  | zero =>
    intro i h' l4 hi hI
    obtain rfl : i = M := by omega
    have c1 : nI i ≤ nI i := nI_le (Nat.le_refl _) (by omega)
    rw [pb_q119_17]
    simp only [pb_e119, c1, if_true]
    exact hE h' hI
  | succ r ih =>
    intro i h' l4 hi hI
    obtain ⟨i1, i2, ⟨rr, i3⟩, i4, i12, i5, i6⟩ := hI
    obtain ⟨a, so, ea, L⟩ := i6 i (Nat.le_refl _) (by omega)
    have h83 := (hD i a (by omega) ea).1
    have c1 : ¬ nI M ≤ nI i := nI_ge (by omega) (by omega)
    have c2 : ¬ Int32.ofNat 40 ≤ nI i := nI_ge (b := 40) (by omega) (by omega)
    have c3 : ¬ Int32.ofNat 300 ≤ nI i := nI_ge (b := 300) (by omega) (by omega)
    have hg := co_get (f := swF D F i) (n := 40) (j := i) (by omega) (by omega)
    rw [swF_at, ea] at hg
    have hrf : va_rf (some a) = .ref a := rfl
    have s1 : pb_R 119 17 [some (.ref 2), some (.ref 12), some (.int (nI M)), some (.int (nI i)), l4] [] [] h' Q ↔ pb_R 119 48 [some (.ref 2), some (.ref 12), some (.int (nI M)), some (.int (nI i)), some (.ref a)] [] [] h' Q := by
      rw [pb_q119_17]
      simp only [pb_e119, c1, c2, c3, if_false, i2, pb_g7, pb_o_some, i4, i12, co_len, hg, hrf]
    rw [s1]
    have hbig : ∀ v, 83 ≤ v → rpS D M v → ∃ k b, k < M ∧ D k = some b ∧ v = b := fun v hv w => by
      rcases w with w | w | w | w | w
      · omega
      · omega
      · omega
      · omega
      · exact w
    refine L119_48 i2 i4 i12 (by omega) (fun v hv => ?_) ?_
    · rw [swF_at] at hv
      have l := hF i v (by omega) hv
      obtain ⟨_, _, _, _, _, _, _, _, e1, _⟩ := l.2.2
      have e2 := i1.2.2 v (fun w => by
        obtain ⟨k, b, k1, k2, k3⟩ := hbig v l.1 w
        exact hFD i k v (by omega) (by omega) hv (by rw [k3]; exact k2))
      rw [e2, e1]; rfl
    · have ea' : pb_is0 (h'.2 a) 4 = true := by
        obtain ⟨_, _, _, _, _, _, _, q1, _⟩ := L
        rw [q1]; rfl
      rw [swF_at, ← swF_up]
      have G1 : fr (fun b => b = 12) h' (pb_set h' 12 (co 40 (swF D F (i + 1)))) := fr_set rfl (by rw [i12]; rfl)
      have k2 : (pb_set h' 12 (co 40 (swF D F (i + 1)))).2 2 = csh V i i (nfl V (fun k => X (k - 1)) i) := by rw [pb_set_get, if_neg (by omega), i2]
      have k4 : (pb_set h' 12 (co 40 (swF D F (i + 1)))).2 4 = co 300 (swF F D i) := by rw [pb_set_get, if_neg (by omega), i4]
      have hs := co_set (f := swF F D i) (n := 300) (j := i) (r := some a) (by omega) (by omega)
      have his : ∀ v, some a = some v → pb_is0 ((pb_set h' 12 (co 40 (swF D F (i + 1)))).2 v) 4 = true := fun v hv => by
        injection hv with hv
        subst hv
        rw [pb_set_get, if_neg (by omega)]
        exact ea'
      simp only [pb_e119, k2, pb_g7, pb_o_some, k4, hs]
      refine ⟨his, ?_⟩
      rw [← ea, ← swF_up]
      have G2 : fr (fun b => b = 4) (pb_set h' 12 (co 40 (swF D F (i + 1)))) (pb_set (pb_set h' 12 (co 40 (swF D F (i + 1)))) 4 (co 300 (swF F D (i + 1)))) := fr_set rfl (by rw [k4]; rfl)
      have FF : fr (rpS D M) h (pb_set (pb_set h' 12 (co 40 (swF D F (i + 1)))) 4 (co 300 (swF F D (i + 1)))) := fr_trans i1 (fr_trans (fr_mono (fun b w => Or.inr (Or.inr (Or.inr (Or.inl w)))) G1) (fr_mono (fun b w => Or.inr (Or.inr (Or.inl w))) G2))
      have L2 : LA (pb_set (pb_set h' 12 (co 40 (swF D F (i + 1)))) 4 (co 300 (swF F D (i + 1)))) V a so (X i) := LA_fr G2 (by omega) (by omega) (LA_fr G1 (by omega) (by omega) L)
      have key := L119_65 (h := pb_set (pb_set h' 12 (co 40 (swF D F (i + 1)))) 4 (co 300 (swF F D (i + 1)))) (Q := Q) (l2 := some (.int (nI M))) (i := i) (q := nfl V (fun k => X (k - 1)) i) (r := rr) (x := X i) hV (by rw [pb_set_get, if_neg (by omega), k2]) (by rw [pb_set_get, if_neg (by omega), pb_set_get, if_neg (by omega), i3]) h83 L2 (by
        intro h5 r5 F5 k25 k35 L5
        have hne : ∀ k b, k < M → k ≠ i → D k = some b → b ≠ a ∧ b + 1 ≠ a ∧ 83 ≤ b := fun k b q1 q2 q3 => by
          have lb := hD k b (by omega) q3
          have la := hD i a (by omega) ea
          refine ⟨fun e => q2 (hinj k i b (by omega) (by omega) q3 (by rw [e]; exact ea)), fun e => LG_ne lb.2.2 la.2.2 e.symm, lb.1⟩
        have tr : ∀ k b s', k < M → k ≠ i → D k = some b → LA h' V b s' (X k) → LA h5 V b s' (X k) := fun k b s' q1 q2 q3 q4 => by
          obtain ⟨n1, n2, n3⟩ := hne k b q1 q2 q3
          exact LA_fr F5 (by omega) (by omega) (LA_fr G2 (by omega) (by omega) (LA_fr G1 (by omega) (by omega) q4))
        refine ih (i + 1) h5 _ (by omega) ⟨fr_trans FF (fr_mono (fun b w => by
          rcases w with w | w | w
          · exact Or.inl w
          · exact Or.inr (Or.inl w)
          · exact Or.inr (Or.inr (Or.inr (Or.inr ⟨i, a, by omega, ea, w⟩)))) F5), k25, ⟨r5, k35⟩, by rw [F5.2.2 4 (by omega), pb_set_get, if_pos rfl], by rw [F5.2.2 12 (by omega), pb_set_get, if_neg (by omega), pb_set_get, if_pos rfl], fun k hk => ?_, fun k k1 k2 => ?_⟩
        · by_cases e : k = i
          · subst e
            exact ⟨a, ea, L5⟩
          · obtain ⟨b, q1, q2⟩ := i5 k (by omega)
            exact ⟨b, q1, tr k b 1 (by omega) e q1 q2⟩
        · obtain ⟨b, s', q1, q2⟩ := i6 k (by omega) k2
          exact ⟨b, s', q1, tr k b s' k2 (by omega) q1 q2⟩)
      simp only [pb_e119] at key
      exact key
/-- Shelf.replaceBy -/
theorem L119 {M m0 p0 q0 : Nat} {X : Nat → LN} {r : Nat → Int32} (hV : V ≤ 16) (hM : M ≤ 40) (h2 : h.2 2 = csh V m0 p0 q0) (h3 : h.2 3 = ci 8 r) (h4 : h.2 4 = co 300 F) (h12 : h.2 12 = co 40 D) (hF : ∀ i a, i < 300 → F i = some a → lok h V a) (hD : ∀ i a, i < 40 → D i = some a → lok h V a) (hinj : ∀ i j a, i < 40 → j < 40 → D i = some a → D j = some a → i = j) (hFD : ∀ i j a, i < 300 → j < 40 → F i = some a → D j = some a → False) (hX : ∀ k, k < M → ∃ a so, D k = some a ∧ LA h V a so (X k))
    (hE : ∀ h', RPI V M F D X h h' M → Q none h') : pb_call 119 [.ref 2, .ref 12, .int (nI M)] h Q := by
  have hg2 : ∀ (H : pb_H) c, (pb_set H 2 c).2 2 = c := fun H c => by rw [pb_set_get, if_pos rfl]
  have G : fr (fun b => b = 2) h (pb_set h 2 (csh V 0 0 0)) := fr_set rfl (by rw [h2]; rfl)
  rw [pb_c119]
  simp only [pb_e119, h2, pb_g7, pb_o_some, hg2, pb_set_same]
  refine L119_loop (h := h) (X := X) hV hM hF hD hinj hFD hE M 0 _ _ (by omega) ⟨fr_mono (fun b w => Or.inl w) G, hg2 _ _, ⟨r, by rw [pb_set_get, if_neg (by omega), h3]⟩, by rw [swF_0, pb_set_get, if_neg (by omega), h4], by rw [swF_0, pb_set_get, if_neg (by omega), h12], fun k hk => by omega, fun k _ k2 => ?_⟩
  obtain ⟨a, so, q1, q2⟩ := hX k k2
  have := (hD k a (by omega) q1).1
  exact ⟨a, so, q1, LA_fr G (by omega) (by omega) q2⟩
end RPL
