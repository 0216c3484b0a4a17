/-! The class's Search: what is written, READY, weakening -/
theorem LK_0 {V : Nat} {x : LN} {A : AS} {z : Int32} (hV : V ≤ 16) (h : LK V x A z) : z = 0 ↔ quiet V x A := by
  constructor
  · intro e
    subst e
    have nb : ¬ ln_br V x A := fun w => absurd ((LK_br hV h).mpr w) (by decide)
    refine ⟨nb, fun v v1 v2 w => ?_⟩
    rcases h with q | q
    · exact nb q.1
    · have := (q.2 v v1).mpr ⟨v2, w⟩
      rw [bt_zero] at this
      cases this
  · intro q
    rcases h with w | w
    · exact absurd w.1 q.1
    · exact zero_bits.mpr (fun v v1 => by
        cases e : bt z v
        · rfl
        · obtain ⟨a, b⟩ := (w.2 v v1).mp e
          exact absurd b (q.2 v v1 a))
theorem nI_inj {a b : Nat} (ha : a < 4294967296) (hb : b < 4294967296) (h : nI a = nI b) : a = b := by
  have := congrArg wu h
  rw [wu_nI, wu_nI, Nat.mod_eq_of_lt ha, Nat.mod_eq_of_lt hb] at this
  exact this
/-- cells of a resolution -/
abbrev rvS : Nat → Prop := fun q => q = 3 ∨ (48 ≤ q ∧ q ≤ 56) ∨ (61 ≤ q ∧ q ≤ 64)
def SG (h h' : pb_H) (c N c' N' : Nat) : Prop := fg (fun q => rvS q ∨ q = c) h h' ∧ (c' = c ∨ h.1 ≤ c') ∧ h'.1 + (20000 - N') ≤ h.1 + (20000 - N) ∧ pb_sl h' + pot 20000 N' ≤ pb_sl h + pot 20000 N
theorem SG_refl (h : pb_H) (c N : Nat) : SG h h c N c N := ⟨fg_refl _ _, Or.inl rfl, Nat.le_refl _, Nat.le_refl _⟩
theorem SG_trans {h h' h'' : pb_H} {c N c' N' c'' N'' : Nat} (x : SG h h' c N c' N') (y : SG h' h'' c' N' c'' N'') : SG h h'' c N c'' N'' := by
  obtain ⟨a1, a2, a3, a4⟩ := x
  obtain ⟨b1, b2, b3, b4⟩ := y
  have hle := a1.1
  refine ⟨⟨Nat.le_trans a1.1 b1.1, fun q q1 q2 => (b1.2 q (Nat.lt_of_lt_of_le q1 a1.1) (fun w => ?_)).trans (a1.2 q q1 q2)⟩, by omega, by omega, by omega⟩
  rcases w with w | w
  · exact q2 (Or.inl w)
  · rcases a2 with e | e
    · exact q2 (Or.inr (w.trans e))
    · omega
theorem SG_fr {T : Nat → Prop} {h h' : pb_H} {c N : Nat} (F : fr T h h') (hT : ∀ q, T q → rvS q) : SG h h' c N c N := ⟨fg_mono (fun q _ e => Or.inl (hT q e)) (fg_fr F), Or.inl rfl, by rw [F.1]; omega, by rw [fr_sl F]; omega⟩
theorem SG_BG {h h' : pb_H} {c N c' N' : Nat} (x : BG h h' 48 20000 c N c' N') : SG h h' c N c' N' := ⟨fg_mono (fun q _ e => by
  rcases e with e | e
  · exact Or.inl (by omega)
  · exact Or.inr e) x.1, x.2⟩
theorem SG_BG2 {h h' : pb_H} {c N c' N' : Nat} (x : BG2 55 h h' 48 20000 c N c' N') : SG h h' c N c' N' := ⟨fg_mono (fun q _ e => by
  rcases e with e | e | e
  · exact Or.inl (by omega)
  · exact Or.inr e
  · exact Or.inl (by omega)) x.1, x.2⟩
/-- low cells are kept -/
abbrev kpl (S : Nat → Prop) (h h' : pb_H) : Prop := ∀ q, q < 65 → ¬ S q → h'.2 q = h.2 q
theorem kpl_trans {S : Nat → Prop} {h h' h'' : pb_H} (a : kpl S h h') (b : kpl S h' h'') : kpl S h h'' := fun q q1 q2 => (b q q1 q2).trans (a q q1 q2)
theorem kpl_fr {S T : Nat → Prop} {h h' : pb_H} (F : fr T h h') (hT : ∀ q, T q → S q) : kpl S h h' := fun q _ q2 => F.2.2 q (fun w => q2 (hT q w))
theorem kpl_mono {S T : Nat → Prop} {h h' : pb_H} (a : kpl T h h') (hT : ∀ q, T q → S q) : kpl S h h' := fun q q1 q2 => a q q1 (fun w => q2 (hT q w))
theorem LA_kpl {S : Nat → Prop} {h h' : pb_H} {V a : Nat} {so : Int32} {x : LN} (F : kpl S h h') (ha : a < 64) (h1 : ¬ S a) (h2 : ¬ S (a + 1)) (L : LA h V a so x) : LA h' V a so x := by
  obtain ⟨f, p, n, wi, ca, cf, co, e1, e2, r⟩ := L
  exact ⟨f, p, n, wi, ca, cf, co, (F a (by omega) h1).trans e1, (F _ (by omega) h2).trans e2, r⟩
theorem LG_kpl {S : Nat → Prop} {h h' : pb_H} {V a : Nat} (F : kpl S h h') (ha : a < 64) (h1 : ¬ S a) (h2 : ¬ S (a + 1)) (L : LG h V a) : LG h' V a := LG_eq (F a (by omega) h1) (F _ (by omega) h2) L
theorem DV_kpl {S : Nat → Prop} {h h' : pb_H} {N : Nat} (F : kpl S h h') (h1 : ∀ q, 50 ≤ q → q ≤ 53 → ¬ S q) (D : DV h 50 N) : DV h' 50 N := by
  obtain ⟨g, f0, l, q, d1, d2, d3, d4, d5⟩ := D
  exact ⟨g, f0, l, q, (F 50 (by omega) (h1 _ (by omega) (by omega))).trans d1, (F 51 (by omega) (h1 _ (by omega) (by omega))).trans d2, (F 52 (by omega) (h1 _ (by omega) (by omega))).trans d3, (F 53 (by omega) (h1 _ (by omega) (by omega))).trans d4, d5⟩
/-- the working cells, as they come from h0 -/
def WB (V c0 N0 : Nat) (h0 : pb_H) (L0 : List Nat) (h : pb_H) (c N : Nat) (L : List Nat) : Prop := SG h0 h c0 N0 c N ∧ (83 ≤ h0.1 ∧ (c0 = 49 ∨ 83 ≤ c0) ∧ c0 < h0.1 ∧ ∃ M b, h0.2 c0 = cb M b) ∧ BWx h 48 20000 c N L0 L ∧ DG h 50 ∧ (∃ f, h.2 54 = ci 8 f) ∧ (∃ f, h.2 55 = ci 8 f) ∧ (∃ f, h.2 56 = ci 16 f) ∧ ∃ r, h.2 3 = ci 8 r
section WBS
variable {h h0 h' : pb_H} {Q : Option Value → pb_H → Prop} {V c0 N0 c N c' N' : Nat} {L0 L L' : List Nat}
theorem WB_c (W : WB V c0 N0 h0 L0 h c N L) : c = 49 ∨ 83 ≤ c := by
  obtain ⟨⟨_, g, _⟩, ⟨k1, k2, _⟩, _⟩ := W
  omega
theorem WB_83 (W : WB V c0 N0 h0 L0 h c N L) : 83 ≤ h.1 := Nat.le_trans W.2.1.1 W.1.1.1
theorem WB_low {q : Nat} (W : WB V c0 N0 h0 L0 h c N L) (q1 : q < 83) (q2 : ¬ rvS q) : h.2 q = h0.2 q := by
  obtain ⟨⟨g, _⟩, ⟨k1, k2, _⟩, _⟩ := W
  exact g.2 q (by omega) (fun w => by
    rcases w with w | w
    · exact q2 w
    · rcases k2 with k | k
      · exact q2 (by omega)
      · omega)
theorem CT_low {ts : Nat} {T : Nat → Int} {Lv Rs : Nat → Nat} {tb fb lt : Int32} (W : WB V c0 N0 h0 L0 h c N L) (C : CT h0 V ts T Lv Rs tb fb lt) : CT h V ts T Lv Rs tb fb lt := by
  obtain ⟨c1, c2, c3, ⟨f1, f2, f3, d1, d2, d3, d4⟩, c5⟩ := C
  exact ⟨(WB_low W (by omega) (by omega)).trans c1, c2, c3, ⟨f1, f2, f3, (WB_low W (by omega) (by omega)).trans d1, (WB_low W (by omega) (by omega)).trans d2, (WB_low W (by omega) (by omega)).trans d3, d4⟩, c5⟩
theorem LA_high {a : Nat} {so : Int32} {x : LN} (W : WB V c0 N0 h0 L0 h c N L) (hl : lok h0 V a) (L2 : LA h0 V a so x) : LA h V a so x := by
  obtain ⟨⟨g, _⟩, ⟨k1, k2, k3, M, b, k4⟩, _⟩ := W
  obtain ⟨l1, l2, l3⟩ := hl
  refine LA_fg g l2 (fun w => ?_) (fun w => ?_) L2
  · rcases w with w | w
    · omega
    · subst w
      obtain ⟨f, p, n, wi, ca, cf, co, e1, _⟩ := L2
      rw [k4] at e1
      exact cb_inr e1
  · rcases w with w | w
    · omega
    · subst w
      obtain ⟨f, p, n, wi, ca, cf, co, _, e1, _⟩ := L2
      rw [k4] at e1
      unfold cb at e1
      injection e1 with e1
      injection e1 with e1 _
      exact absurd e1 (by decide)
theorem WB_mv {T : Nat → Prop} (W : WB V c0 N0 h0 L0 h c N L) (F : fr T h h') (hT : ∀ q, T q → q = 3 ∨ (50 ≤ q ∧ q ≤ 56) ∨ (61 ≤ q ∧ q ≤ 64)) (d : DG h' 50) (n4 : ∃ f, h'.2 54 = ci 8 f) (n5 : ∃ f, h'.2 55 = ci 8 f) (n6 : ∃ f, h'.2 56 = ci 16 f) (r3 : ∃ f, h'.2 3 = ci 8 f) : WB V c0 N0 h0 L0 h' c N L := by
  have hc := WB_c W
  obtain ⟨w1, w2, ⟨sz, ov, b, w3⟩, _⟩ := W
  exact ⟨SG_trans w1 (SG_fr F (fun q w => by have := hT q w; omega)), w2, ⟨sz, ov, b, BX_fr F (fun w => by have := hT _ w; omega) (fun w => by have := hT _ w; omega) w3⟩, d, n4, n5, n6, r3⟩
theorem WB_k {T : Nat → Prop} (W : WB V c0 N0 h0 L0 h c N L) (F : fr T h h') (hT : ∀ q, T q → 61 ≤ q ∧ q ≤ 64) : WB V c0 N0 h0 L0 h' c N L := by
  have W0 := W
  obtain ⟨w1, w2, w3, w4, ⟨f4, w5⟩, ⟨f5, w6⟩, ⟨f6, w7⟩, r, w8⟩ := W
  exact WB_mv W0 F (fun q w => Or.inr (Or.inr (hT q w))) (DG_fr F (fun b hb w => by have := hT _ w; omega) w4) ⟨f4, (F.2.2 _ (fun w => by have := hT _ w; omega)).trans w5⟩ ⟨f5, (F.2.2 _ (fun w => by have := hT _ w; omega)).trans w6⟩ ⟨f6, (F.2.2 _ (fun w => by have := hT _ w; omega)).trans w7⟩ ⟨r, (F.2.2 _ (fun w => by have := hT _ w; omega)).trans w8⟩
theorem WB_look {r' : Nat → Int32} (W : WB V c0 N0 h0 L0 h c N L) (F : fr (fun q => q = 61 ∨ q = 3) h h') (e : h'.2 3 = ci 8 r') : WB V c0 N0 h0 L0 h' c N L := by
  have W0 := W
  obtain ⟨w1, w2, w3, w4, ⟨f4, w5⟩, ⟨f5, w6⟩, ⟨f6, w7⟩, r, w8⟩ := W
  exact WB_mv W0 F (fun q w => by omega) (DG_fr F (fun b hb w => by omega) w4) ⟨f4, (F.2.2 _ (by omega)).trans w5⟩ ⟨f5, (F.2.2 _ (by omega)).trans w6⟩ ⟨f6, (F.2.2 _ (by omega)).trans w7⟩ ⟨r', e⟩
theorem BG_kpl (W : WB V c0 N0 h0 L0 h c N L) (G : BG h h' 48 20000 c N c' N') : kpl (fun q => q = 48 ∨ q = 49) h h' := fun q q1 q2 => G.1.2 q (by have := WB_83 W; omega) (fun w => by have := WB_c W; omega)
theorem WB_txt (W : WB V c0 N0 h0 L0 h c N L) (G : BG h h' 48 20000 c N c' N') (B : BWx h' 48 20000 c' N' L0 L') : WB V c0 N0 h0 L0 h' c' N' L' := by
  have K := BG_kpl W G
  obtain ⟨w1, w2, w3, ⟨x1, x2, x3, x4, x5, d1, d2, d3, d4⟩, ⟨f4, w5⟩, ⟨f5, w6⟩, ⟨f6, w7⟩, r, w8⟩ := W
  exact ⟨SG_trans w1 (SG_BG G), w2, B, ⟨x1, x2, x3, x4, x5, (K 50 (by omega) (by omega)).trans d1, (K 51 (by omega) (by omega)).trans d2, (K 52 (by omega) (by omega)).trans d3, (K 53 (by omega) (by omega)).trans d4⟩, ⟨f4, (K _ (by omega) (by omega)).trans w5⟩, ⟨f5, (K _ (by omega) (by omega)).trans w6⟩, ⟨f6, (K _ (by omega) (by omega)).trans w7⟩, r, (K _ (by omega) (by omega)).trans w8⟩
theorem WB_is (W : WB V c0 N0 h0 L0 h c N L) : pb_is0 (h.2 48) 0 = true := by
  obtain ⟨w1, w2, ⟨sz, ov, b, w3⟩, _⟩ := W
  exact BX_is w3
/-- Search.isOne -/
theorem m104 {a n : Nat} {f : Nat → Int32} (ha : h.2 a = ci n f) (hi : 8 ≤ n) (hn : n < 2 ^ 31) : pb_call 104 [.ref a] h Q ↔ Q (some (.int (if wv f 0 8 = 1 then 1 else 0))) h := by
  have h45 := fun Q : Option Value → pb_H → Prop => m45 (Q := Q) ha hi hn
  obtain ⟨s1, s2⟩ := small_val (f := f)
  rw [pb_c104]
  by_cases c : wv f 0 8 = 1
  · have e : (if 1 < wd f 0 8 ∨ f 0 < 0 then -1 else f 0) = (1 : Int32) := by rw [s1 (by omega), c]; rfl
    rw [if_pos c]
    simp only [pb_e104, h45, e, Option.toList_some, List.singleton_append, not_true_eq_false, if_false, if_true, nb1, true_and]
  · have e : ¬ (if 1 < wd f 0 8 ∨ f 0 < 0 then -1 else f 0) = (1 : Int32) := by
      by_cases c2 : wv f 0 8 < 2147483648
      · rw [s1 c2]
        intro w
        exact c (nI_inj (by omega) (by omega) (show nI (wv f 0 8) = nI 1 from w))
      · rw [s2 c2]; decide
    rw [if_neg c]
    simp only [pb_e104, h45, e, Option.toList_some, List.singleton_append, not_false_eq_true, if_true, if_false, nb0, true_and]
end WBS
