/-! The reference's load -/
section RLD
variable {h : pb_H} {Q : Option Value → pb_H → Prop} {V n : Nat} {b : Nat → Nat} {s sg : Nat → Int32} {G : Nat → Nat}
abbrev X00 : Nat → LN := fun _ => (0, fun _ => 0)
theorem U190 (hV : V ≤ 16) (hZ : RZ h V n b s G sg) (h17 : s 17 = 0) (h19 : s 19 = 0)
    (hQ1 : ∀ h2 s2 G2 sg2 m2 X2, sPrb b n V (n + 1) (st0 b n) 0 X00 = .inr (m2, X2) → fr rS h h2 → RZ h2 V n b s2 G2 sg2 → kp tkS s s2 → NF sgS G sg G2 sg2 → RG V G2 sg2 m2 X2 → Q (some (.int (nI m2))) h2)
    (hQ0 : ∀ h2 s2 G2 sg2 e, sPrb b n V (n + 1) (st0 b n) 0 X00 = .inl e → fr rS h h2 → RZ h2 V n b s2 G2 sg2 → kp ftS s s2 → NF sgS G sg G2 sg2 → FR s2 e → Q (some (.int (-1))) h2) : pb_call 190 [.ref 65] h Q := by
  rw [pb_c190]
  simp only [pb_e190, hZ.1.1, pb_gr, true_and]
  refine R177 (e := 0) (RZ_RT hZ) h17 (Nat.zero_le _) ?_
  intro s1 hN
  obtain ⟨n0, n16, n15, n18, n17⟩ := hN
  have hkp : kp tkS s s1 := fun k q => n0 k (by omega) (by omega) (by omega) (by omega)
  obtain ⟨Z1, F1⟩ := RZ_obj hZ (s' := s1) (hkp 7 (by omega)) (hkp 3 (by omega))
  have S1 : RSt b n (st0 b n) s1 := ⟨n16, n15, n18, n17, st0_le b n⟩
  simp only [Option.toList_none, List.nil_append, pb_e190]
  exact U190_loop (h := h) (s := s) hV (n + 1) 0 (st0 b n) 0 X00 _ s1 G sg none (by omega) (by omega) F1 Z1 S1 hkp (NF_refl _ _ _) ⟨by omega, fun i hi => by omega⟩ (by rw [n0 19 (by omega) (by omega) (by omega) (by omega), h19]) hQ1 hQ0
/-- forget: nothing is chosen, nothing proved -/
def fgt (s : Nat → Int32) : Nat → Int32 := upd (upd (upd (upd (upd (upd s 23 0) 24 0) 25 0) 26 0) 27 0) 34 0
theorem U191 {f g : Nat → Int32} (h65 : h.2 65 = rm s) (h75 : h.2 75 = ci 17 f) (h76 : h.2 76 = ci 17 g)
    (hQ : ∀ f' g', (∀ v, v < 17 → f' v = -1) → (∀ v, v < 17 → g' v = 0) → Q none (pb_set (pb_set (pb_set h 65 (rm (fgt s))) 75 (ci 17 f')) 76 (ci 17 g'))) : pb_call 191 [.ref 65] h Q := by
  have hg : ∀ c, (pb_set h 65 c).2 65 = c := fun c => by rw [pb_set_get, if_pos rfl]
  have r65 : ∀ x y, (pb_set (pb_set (pb_set h 65 (rm (fgt s))) 75 x) 76 y).2 65 = rm (fgt s) := fun x y => by rw [pb_set_get, if_neg (by omega), pb_set_get, if_neg (by omega), pb_set_get, if_pos rfl]
  have r75 : ∀ x y, (pb_set (pb_set (pb_set h 65 (rm (fgt s))) 75 x) 76 y).2 75 = x := fun x y => by rw [pb_set_get, if_neg (by omega), pb_set_get, if_pos rfl]
  have r76 : ∀ x y, (pb_set (pb_set (pb_set h 65 (rm (fgt s))) 75 x) 76 y).2 76 = y := fun x y => by rw [pb_set_get, if_pos rfl]
  have w75 : ∀ x y z, pb_set (pb_set (pb_set (pb_set h 65 (rm (fgt s))) 75 x) 76 y) 75 z = pb_set (pb_set (pb_set h 65 (rm (fgt s))) 75 z) 76 y := fun x y z => by rw [pb_set_comm _ _ _ (by omega), pb_set_same]
  have hl : ∀ r i f' g', i + r = 17 → (∀ v, v < i → f' v = -1) → (∀ v, v < i → g' v = 0) → pb_R 191 32 [some (.ref 65), some (.int (nI i))] [] [] (pb_set (pb_set (pb_set h 65 (rm (fgt s))) 75 (ci 17 f')) 76 (ci 17 g')) Q := by
    intro r
    induction r with
    | zero =>
      intro i f' g' hi hf hg'
      obtain rfl : i = 17 := by omega
      rw [pb_q191_32]
      simp only [pb_e191, nI17, Int32.le_refl, if_true]
      exact hQ f' g' hf hg'
    | succ r ih =>
      intro i f' g' hi hf hg'
      have c1 : ¬ nI 17 ≤ nI i := nI_ge (by omega) (by omega)
      have s1 : pb_si (ci 17 f') (nI i) (-1) = some (ci 17 (upd f' i (-1))) := pb_si_eq (by omega) (by omega)
      have s2 : pb_si (ci 17 g') (nI i) 0 = some (ci 17 (upd g' i 0)) := pb_si_eq (by omega) (by omega)
      rw [pb_q191_32]
      simp only [pb_e191, nI17, c1, if_false, r65, pb_gr, pb_o_some, true_and, r75, s1, w75, r76, s2, pb_set_same, nI_1]
      refine ih (i + 1) _ _ (by omega) (fun v hv => ?_) (fun v hv => ?_)
      · by_cases e : v = i
        · subst e; exact upd_same _ _ _
        · rw [upd_ne _ _ e]; exact hf v (by omega)
      · by_cases e : v = i
        · subst e; exact upd_same _ _ _
        · rw [upd_ne _ _ e]; exact hg' v (by omega)
  have h0 := hl 17 0 f g (by omega) (fun v hv => by omega) (fun v hv => by omega)
  have e75 : pb_set (pb_set (pb_set h 65 (rm (fgt s))) 75 (ci 17 f)) 76 (ci 17 g) = pb_set h 65 (rm (fgt s)) := by
    rw [pb_set_id (h := pb_set h 65 (rm (fgt s))) (a := 75) (by rw [pb_set_get, if_neg (by omega), h75]), pb_set_id (h := pb_set h 65 (rm (fgt s))) (a := 76) (by rw [pb_set_get, if_neg (by omega), h76])]
  rw [e75] at h0
  rw [pb_c191]
  simp only [pb_e191, h65, hg, pb_gr, pb_o_some, true_and, pb_set_same]
  exact h0
/-- rows 1 to m -/
def RLn (V : Nat) (G : Nat → Nat) (sg : Nat → Int32) (m : Nat) (X : Nat → LN) : Prop := ∀ k, 1 ≤ k → k ≤ m → RR V G sg k (X k)
abbrev rO : Nat → Prop := fun b => rS b ∨ b = 68
/-- the staged rows become the LINES -/
theorem U192_28 {m : Nat} {X : Nat → LN} {og : Nat → Int32} (hX : RX h s G sg) (hR : RG V G sg m X) (hV : V ≤ 16) (h68 : h.2 68 = ci 301 og)
    (hE : ∀ h' G' sg' og' l2, fr rO h h' → RX h' s G' sg' → h'.2 68 = ci 301 og' → RLn V G' sg' m (fun k => X (k - 1)) → (∀ k, 1 ≤ k → k ≤ m → og' k = 1) → pb_R 192 60 [some (.ref 65), some (.int (nI m)), l2] [] [] h' Q) :
    ∀ r k h' G' sg' og', k + r = m → fr rO h h' → RX h' s G' sg' → h'.2 68 = ci 301 og' → RG V G' sg' m X → RLn V G' sg' k (fun k => X (k - 1)) → (∀ i, 1 ≤ i → i ≤ k → og' i = 1) → pb_R 192 28 [some (.ref 65), some (.int (nI m)), some (.int (nI k))] [] [] h' Q := by
  have hm := hR.1
  intro r
  induction r with
  | zero =>
    intro k h' G' sg' og' hk F X' h68' R L o
    obtain rfl : k = m := by omega
    have := hE h' G' sg' og' (some (.int (nI k))) F X' h68' L o
    simp only [pb_e192, X'.1, pb_gr, pb_o_some, true_and] at this
    rw [pb_q192_28]
    simp only [pb_e192, Int32.le_refl, if_true, X'.1, pb_gr, pb_o_some, true_and]
    exact this
  | succ r ih =>
    intro k h' G' sg' og' hk F X' h68' R L o
    have c1 : ¬ nI m ≤ nI k := nI_ge (by omega) (by omega)
    have e1 : (1 : Int32) + nI k = nI (1 + k) := nI_add 1 k
    rw [pb_q192_28]
    simp only [pb_e192, c1, if_false, n321, e1, X'.1, pb_gr, true_and]
    refine A162 X' (by omega) (by omega) (by omega) ?_
    intro h2 G2 sg2 F2 X2 N2 v2
    have h68'' : h2.2 68 = ci 301 og' := (F2.2.2 68 (by omega)).trans h68'
    have hs : pb_si (ci 301 og') (nI (1 + k)) 1 = some (ci 301 (upd og' (1 + k) 1)) := pb_si_eq (by omega) (by omega)
    simp only [Option.toList_none, List.nil_append, pb_e192, X2.1, pb_gr, pb_o_some, true_and, h68'', hs, e1, nI_1]
    have hne : ∀ q, q ≠ 68 → (pb_set h2 68 (ci 301 (upd og' (1 + k) 1))).2 q = h2.2 q := fun q hq => by rw [pb_set_get, if_neg hq]
    have X3 : RX (pb_set h2 68 (ci 301 (upd og' (1 + k) 1))) s G2 sg2 := by
      obtain ⟨b1, b2, b3, b4, ⟨W0, c0, d0⟩, ⟨W1, c1, d1⟩, ⟨W2, c2, d2⟩, ⟨W3, c3, d3⟩⟩ := X2
      exact ⟨by rw [hne _ (by omega), b1], by rw [hne _ (by omega), b2], b3, by rw [hne _ (by omega), b4], ⟨W0, by rw [hne _ (by omega), c0], d0⟩, ⟨W1, by rw [hne _ (by omega), c1], d1⟩, ⟨W2, by rw [hne _ (by omega), c2], d2⟩, ⟨W3, by rw [hne _ (by omega), c3], d3⟩⟩
    have F3 : fr rO h2 (pb_set h2 68 (ci 301 (upd og' (1 + k) 1))) := fr_set (Or.inr rfl) (by rw [h68'']; rfl)
    have hsrc := R.2 k (by omega)
    refine ih (k + 1) _ G2 sg2 _ (by omega) (fr_trans F (fr_trans (fr_mono (fun b q => Or.inl q) F2) F3)) X3 (by rw [pb_set_get, if_pos rfl]) ⟨hm, fun i hi => RR_NF N2 (fun v hv => by omega) (R.2 i hi)⟩ (fun j j1 j2 => ?_) (fun j j1 j2 => ?_)
    · by_cases e : j = k + 1
      · subst e
        have hX0 : X (k + 1 - 1) = X k := by rw [Nat.add_sub_cancel]
        show RR V G2 sg2 (k + 1) (X (k + 1 - 1))
        rw [hX0]
        have a0 := (v2 0 (by omega)).1
        rw [Nat.add_comm 1 k] at v2 a0
        exact ⟨a0.trans hsrc.1, fun u u1 u2 => ⟨by rw [(v2 u (by omega)).1]; exact (hsrc.2 u u1 u2).1, by rw [(v2 u (by omega)).2]; exact (hsrc.2 u u1 u2).2⟩⟩
      · exact RR_NF N2 (fun v hv => by omega) (L j j1 (by omega))
    · by_cases e : j = k + 1
      · subst e; rw [Nat.add_comm 1 k, upd_same]
      · rw [upd_ne _ _ (by omega)]; exact o j j1 (by omega)
abbrev rL : Nat → Prop := fun b => rS b ∨ b = 68 ∨ b = 75 ∨ b = 76
theorem sPrb_40 {m : Nat} {X : Nat → LN} {G' : Nat → Nat} {sg' : Nat → Int32} (hR : RG V G' sg' m X) : m ≤ 40 := hR.1
/-- load -/
theorem U192 {f g og : Nat → Int32} (hV : V ≤ 16) (hZ : RZ h V n b s G sg) (h68 : h.2 68 = ci 301 og) (h75 : h.2 75 = ci 17 f) (h76 : h.2 76 = ci 17 g)
    (hQ1 : ∀ h' s' G' sg' og' f' g' m X, sPrb b n V (n + 1) (st0 b n) 0 X00 = .inr (m, X) → m ≤ 40 → fr rL h h' → RX h' s' G' sg' → h'.2 68 = ci 301 og' → h'.2 75 = ci 17 f' → h'.2 76 = ci 17 g' → RLn V G' sg' m (fun k => X (k - 1)) → (∀ k, 1 ≤ k → k ≤ m → og' k = 1) → (∀ v, v < 17 → f' v = -1) → (∀ v, v < 17 → g' v = 0) → s' 3 = s 3 → s' 4 = nI m → s' 5 = nI m → s' 7 = 0 → s' 8 = 0 → s' 9 = -1 → s' 22 = 0 → s' 23 = 0 → s' 24 = 0 → s' 25 = 0 → s' 26 = 0 → s' 27 = 0 → s' 34 = 0 → Q (some (.int (nI m))) h')
    (hQ0 : ∀ h' s' G' sg' e, sPrb b n V (n + 1) (st0 b n) 0 X00 = .inl e → fr rS h h' → RX h' s' G' sg' → NF sgS G sg G' sg' → kp (fun k => ftS k ∨ k = 7) s s' → s' 7 = 0 → FR s' e → Q (some (.int (-1))) h') : pb_call 192 [.ref 65] h Q := by
  have hg : ∀ c, (pb_set h 65 c).2 65 = c := fun c => by rw [pb_set_get, if_pos rfl]
  obtain ⟨Z1, F1⟩ := RZ_obj hZ (s' := upd (upd s 17 0) 19 0) (by rw [upd_ne _ _ (by omega), upd_ne _ _ (by omega)]) (by rw [upd_ne _ _ (by omega), upd_ne _ _ (by omega)])
  rw [pb_c192]
  simp only [pb_e192, hZ.1.1, hg, pb_gr, pb_o_some, true_and, pb_set_same]
  refine U190 hV Z1 (by rw [upd_ne _ _ (by omega), upd_same]) (upd_same _ _ _) ?_ ?_
  · intro h2 s2 G2 sg2 m X hP F2 Z2 K2 N2 R2
    have hm := R2.1
    have hge : 0 ≤ nI m := nI_pos' (by omega)
    have hg2 : ∀ c, (pb_set h2 65 c).2 65 = c := fun c => by rw [pb_set_get, if_pos rfl]
    obtain ⟨X3, F3⟩ := RX_obj Z2.1 (s' := upd s2 7 0)
    have F3' : fr rO h (pb_set h2 65 (rm (upd s2 7 0))) := fr_mono (fun b q => Or.inl q) (fr_trans F1 (fr_trans F2 F3))
    have h68' : (pb_set h2 65 (rm (upd s2 7 0))).2 68 = ci 301 og := by
      rw [(fr_trans F1 (fr_trans F2 F3)).2.2 68 (by omega)]; exact h68
    simp only [Option.toList_some, List.singleton_append, pb_e192, Z2.1.1, hg2, pb_gr, pb_o_some, true_and, hge, if_true]
    refine U192_28 (h := pb_set h2 65 (rm (upd s2 7 0))) (og := og) X3 R2 hV h68' ?_ m 0 _ G2 sg2 og (by omega) (fr_refl _ _) X3 h68' R2 (fun k k1 k2 => by omega) (fun k k1 k2 => by omega)
    intro h4 G4 sg4 og4 l2 F4 X4 h684 L4 o4
    have hg4 : ∀ c, (pb_set h4 65 c).2 65 = c := fun c => by rw [pb_set_get, if_pos rfl]
    have F34 := fr_trans F3' F4
    have h754 : h4.2 75 = ci 17 f := (F34.2.2 75 (by omega)).trans h75
    have h764 : h4.2 76 = ci 17 g := (F34.2.2 76 (by omega)).trans h76
    simp only [pb_e192, X4.1, hg4, pb_gr, pb_o_some, true_and, pb_set_same]
    obtain ⟨X5, F5⟩ := RX_obj X4 (s' := upd (upd (upd (upd (upd (upd s2 7 0) 4 (nI m)) 5 (nI m)) 8 0) 9 (-1)) 22 0)
    refine U191 (f := f) (g := g) (hg4 _) (by rw [pb_set_get, if_neg (by omega), h754]) (by rw [pb_set_get, if_neg (by omega), h764]) ?_
    intro f' g' hf' hg'
    simp only [Option.toList_none, List.nil_append, pb_e192, pb_set_same]
    obtain ⟨X6, F6⟩ := RX_obj X4 (s' := fgt (upd (upd (upd (upd (upd (upd s2 7 0) 4 (nI m)) 5 (nI m)) 8 0) 9 (-1)) 22 0))
    generalize hs6 : fgt (upd (upd (upd (upd (upd (upd s2 7 0) 4 (nI m)) 5 (nI m)) 8 0) 9 (-1)) 22 0) = s6 at X6 F6 ⊢
    have hne : ∀ q, q ≠ 75 → q ≠ 76 → (pb_set (pb_set (pb_set h4 65 (rm s6)) 75 (ci 17 f')) 76 (ci 17 g')).2 q = (pb_set h4 65 (rm s6)).2 q := fun q q1 q2 => by rw [pb_set_get, if_neg q2, pb_set_get, if_neg q1]
    have X7 : RX (pb_set (pb_set (pb_set h4 65 (rm s6)) 75 (ci 17 f')) 76 (ci 17 g')) s6 G4 sg4 := by
      obtain ⟨b1, b2, b3, b4, ⟨W0, c0, d0⟩, ⟨W1, c1, d1⟩, ⟨W2, c2, d2⟩, ⟨W3, c3, d3⟩⟩ := X6
      exact ⟨by rw [hne _ (by omega) (by omega), b1], by rw [hne _ (by omega) (by omega), b2], b3, by rw [hne _ (by omega) (by omega), b4], ⟨W0, by rw [hne _ (by omega) (by omega), c0], d0⟩, ⟨W1, by rw [hne _ (by omega) (by omega), c1], d1⟩, ⟨W2, by rw [hne _ (by omega) (by omega), c2], d2⟩, ⟨W3, by rw [hne _ (by omega) (by omega), c3], d3⟩⟩
    have G1 : fr rL (pb_set h4 65 (rm s6)) (pb_set (pb_set h4 65 (rm s6)) 75 (ci 17 f')) := fr_set (by omega) (by rw [pb_set_get, if_neg (by omega), h754]; rfl)
    have G2' : fr rL (pb_set (pb_set h4 65 (rm s6)) 75 (ci 17 f')) (pb_set (pb_set (pb_set h4 65 (rm s6)) 75 (ci 17 f')) 76 (ci 17 g')) := fr_set (by omega) (by rw [pb_set_get, if_neg (by omega), pb_set_get, if_neg (by omega), h764]; rfl)
    have F7 : fr rL h (pb_set (pb_set (pb_set h4 65 (rm s6)) 75 (ci 17 f')) 76 (ci 17 g')) := fr_trans (fr_mono (fun b q => by omega) F34) (fr_trans (fr_mono (fun b q => Or.inl q) F6) (fr_trans G1 G2'))
    have e3 : s2 3 = s 3 := by rw [K2 3 (by omega), upd_ne _ _ (by omega), upd_ne _ _ (by omega)]
    refine hQ1 _ s6 G4 sg4 og4 f' g' m X hP hm F7 X7 (by rw [hne _ (by omega) (by omega), pb_set_get, if_neg (by omega), h684]) (by rw [pb_set_get, if_neg (by omega), pb_set_get, if_pos rfl]) (by rw [pb_set_get, if_pos rfl]) L4 o4 hf' hg' ?_ ?_ ?_ ?_ ?_ ?_ ?_ ?_ ?_ ?_ ?_ ?_ ?_ <;> rw [← hs6] <;> unfold fgt
    · simp only [upd_ne _ _ (show (3 : Nat) ≠ 34 by omega), upd_ne _ _ (show (3 : Nat) ≠ 27 by omega), upd_ne _ _ (show (3 : Nat) ≠ 26 by omega), upd_ne _ _ (show (3 : Nat) ≠ 25 by omega), upd_ne _ _ (show (3 : Nat) ≠ 24 by omega), upd_ne _ _ (show (3 : Nat) ≠ 23 by omega), upd_ne _ _ (show (3 : Nat) ≠ 22 by omega), upd_ne _ _ (show (3 : Nat) ≠ 9 by omega), upd_ne _ _ (show (3 : Nat) ≠ 8 by omega), upd_ne _ _ (show (3 : Nat) ≠ 5 by omega), upd_ne _ _ (show (3 : Nat) ≠ 4 by omega), upd_ne _ _ (show (3 : Nat) ≠ 7 by omega)]
      exact e3
    all_goals rfl
  · intro h2 s2 G2 sg2 e hP F2 Z2 K2 N2 ft
    have hlt : ¬ (0 : Int32) ≤ -1 := by decide
    have hg2 : ∀ c, (pb_set h2 65 c).2 65 = c := fun c => by rw [pb_set_get, if_pos rfl]
    obtain ⟨X3, F3⟩ := RX_obj Z2.1 (s' := upd s2 7 0)
    simp only [Option.toList_some, List.singleton_append, pb_e192, Z2.1.1, hg2, pb_gr, pb_o_some, true_and, hlt, if_false]
    refine hQ0 _ _ G2 sg2 e hP (fr_trans F1 (fr_trans F2 F3)) X3 N2 (fun k hk => ?_) (upd_same _ _ _) ⟨by rw [upd_ne _ _ (by omega)]; exact ft.1, by rw [upd_ne _ _ (by omega)]; exact ft.2⟩
    rw [upd_ne _ _ (by omega), K2 k (by omega), upd_ne _ _ (by omega), upd_ne _ _ (by omega)]
end RLD
