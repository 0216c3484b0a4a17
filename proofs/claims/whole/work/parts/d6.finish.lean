/-! Search.finish -/
/-- cells that act touches -/
abbrev aS (F : Nat → Option Nat) : Nat → Prop := fun q => q = 2 ∨ q = 3 ∨ q = 4 ∨ (47 ≤ q ∧ q ≤ 64) ∨ ∃ i a, i < 300 ∧ F i = some a ∧ lc a q
def AG (V : Nat) (h : pb_H) (F : Nat → Option Nat) (c N : Nat) (h' : pb_H) (F' : Nat → Option Nat) (c' N' : Nat) : Prop := fg (fun q => aS F q ∨ q = c) h h' ∧ (c' = c ∨ h.1 ≤ c') ∧ (∀ i a, i < 300 → F' i = some a → F i = some a ∨ (F i = none ∧ h.1 ≤ a)) ∧ (∀ i, i < 300 → F' i = none → F i = none) ∧ h'.1 + (20000 - N') + 2 * nul F' 300 ≤ h.1 + (20000 - N) + 2 * nul F 300 ∧ pb_sl h' + pot 20000 N' + (9 + (V + 1) * 8) * nul F' 300 ≤ pb_sl h + pot 20000 N + (9 + (V + 1) * 8) * nul F 300
section AGS
variable {h h' h'' h0 : pb_H} {Q : Option Value → pb_H → Prop} {V c N c0 N0 c' N' c'' N'' m p ts lv : Nat} {P L L0 : List Nat} {T : Nat → Int} {Lv Rs : Nat → Nat} {tb fb lt : Int32} {st ch le ac pb : Int32} {F F' F'' : Nat → Option Nat} {X : Nat → LN} {og : Nat → Nat}
theorem AG_trans (x : AG V h F c N h' F' c' N') (y : AG V h' F' c' N' h'' F'' c'' N'') : AG V h F c N h'' F'' c'' N'' := by
  obtain ⟨a1, a2, a3, a4, a5, a6⟩ := x
  obtain ⟨b1, b2, b3, b4, b5, b6⟩ := y
  have hle := a1.1
  refine ⟨⟨Nat.le_trans a1.1 b1.1, fun q q1 q2 => (b1.2 q (Nat.lt_of_lt_of_le q1 a1.1) (fun w => ?_)).trans (a1.2 q q1 q2)⟩, by omega, fun i a hi ha => ?_, fun i hi hn => a4 i hi (b4 i hi hn), Nat.le_trans b5 a5, Nat.le_trans b6 a6⟩
  · rcases w with (w | w | w | w | ⟨i, a, i1, i2, i3⟩) | w
    · exact q2 (Or.inl (Or.inl w))
    · exact q2 (Or.inl (Or.inr (Or.inl w)))
    · exact q2 (Or.inl (Or.inr (Or.inr (Or.inl w))))
    · exact q2 (Or.inl (Or.inr (Or.inr (Or.inr (Or.inl w)))))
    · rcases a3 i a i1 i2 with e | ⟨_, e⟩
      · exact q2 (Or.inl (Or.inr (Or.inr (Or.inr (Or.inr ⟨i, a, i1, e, i3⟩)))))
      · omega
    · rcases a2 with e | e
      · exact q2 (Or.inr (w.trans e))
      · omega
  · rcases b3 i a hi ha with e | ⟨e, e2⟩
    · exact a3 i a hi e
    · exact Or.inr ⟨a4 i hi e, by omega⟩
theorem AG_SG (x : SG h h' c N c' N') : AG V h F c N h' F c' N' := by
  obtain ⟨a1, a2, a3, a4⟩ := x
  refine ⟨fg_mono (fun q _ e => ?_) a1, a2, fun i a _ ha => Or.inl ha, fun i _ hn => hn, by omega, by omega⟩
  rcases e with e | e
  · refine Or.inl ?_
    rcases e with e | e | e
    · exact Or.inr (Or.inl e)
    · exact Or.inr (Or.inr (Or.inr (Or.inl (by omega))))
    · exact Or.inr (Or.inr (Or.inr (Or.inl (by omega))))
  · exact Or.inr e
theorem AG_fr {S : Nat → Prop} (G : fr S h h') (hS : ∀ q, S q → aS F q) : AG V h F c N h' F c N := ⟨fg_mono (fun q _ e => Or.inl (hS q e)) (fg_fr G), Or.inl rfl, fun i a _ ha => Or.inl ha, fun i _ hn => hn, by rw [G.1]; omega, by rw [fr_sl G]; omega⟩
theorem AG_add (hm : m < 300) (G : fg (adS F m) h h') (x : FX V h F h' F') : AG V h F c N h' F' c N := by
  obtain ⟨x1, x2, x3, x4⟩ := x
  refine ⟨fg_mono (fun q _ e => Or.inl ?_) G, Or.inl rfl, x1, x2, by omega, by omega⟩
  rcases e with e | e | e | ⟨a, e1, e2⟩
  · exact Or.inl e
  · exact Or.inr (Or.inl e)
  · exact Or.inr (Or.inr (Or.inl e))
  · exact Or.inr (Or.inr (Or.inr (Or.inr ⟨m, a, hm, e1, e2⟩)))
/-- the Search's cells at rest -/
def SRx (h : pb_H) (V c N : Nat) (P : List Nat) : Prop := WB V c N h P h c N P ∧ P.length ≤ 20000 ∧ LG h V 61 ∧ LG h V 63
theorem WB_cb (W : WB V c0 N0 h0 L0 h c N L) : c < h.1 ∧ ∃ M b, h.2 c = cb M b := by
  obtain ⟨w1, w2, ⟨sz, ov, b, ⟨b1, b2, b3, b4, b5, b6, b7, b8, b9, b10⟩, _⟩, _⟩ := W
  exact ⟨b9, N, b, b2⟩
theorem SRx_of (W : WB V c0 N0 h0 L0 h c N L) (hl : L.length ≤ 20000) (h61 : LG h V 61) (h63 : LG h V 63) : SRx h V c N L := by
  have hc := WB_c W
  have h83 := WB_83 W
  obtain ⟨c1, c2⟩ := WB_cb W
  obtain ⟨w1, w2, ⟨sz, ov, b, w3⟩, w4⟩ := W
  refine ⟨⟨SG_refl _ _ _, ⟨h83, hc, c1, c2⟩, ⟨sz, ov, b, ?_⟩, w4⟩, hl, h61, h63⟩
  obtain ⟨b0, b1, b2, q | q⟩ := w3
  · exact ⟨b0, Nat.le_of_eq q.2.1.symm, q.2.2, Or.inl q⟩
  · omega
theorem SRx_fg {S : Nat → Prop} (R : SRx h V c N P) (G : fg S h h') (hS : ∀ q, S q → q ≠ c ∧ (q < 48 ∨ 56 < q) ∧ (q < 61 ∨ 64 < q)) (h3 : ∃ r, h'.2 3 = ci 8 r) : SRx h' V c N P := by
  obtain ⟨W, hl, g1, g2⟩ := R
  have hc := WB_c W
  have h83 := WB_83 W
  obtain ⟨c1, M, bb, c2⟩ := WB_cb W
  have k : ∀ q, q < h.1 → (q = c ∨ (48 ≤ q ∧ q ≤ 56) ∨ (61 ≤ q ∧ q ≤ 64)) → h'.2 q = h.2 q := fun q q1 q2 => G.2 q q1 (fun w => by have := hS q w; omega)
  obtain ⟨w1, w2, ⟨sz, ov, b, ⟨b1, b2, b3, b4, b5, b6, b7, b8, b9, b10⟩, rr⟩, ⟨x1, x2, x3, x4, x5, d1, d2, d3, d4⟩, ⟨f4, w5⟩, ⟨f5, w6⟩, ⟨f6, w7⟩, r, w8⟩ := W
  have hle := G.1
  exact ⟨⟨SG_refl _ _ _, ⟨by omega, hc, by omega, M, bb, (k c c1 (Or.inl rfl)).trans c2⟩, ⟨sz, ov, b, ⟨(k 48 (by omega) (by omega)).trans b1, (k c c1 (Or.inl rfl)).trans b2, b3, b4, b5, b6, b7, b8, by omega, by omega⟩, rr⟩, ⟨x1, x2, x3, x4, x5, (k 50 (by omega) (by omega)).trans d1, (k 51 (by omega) (by omega)).trans d2, (k 52 (by omega) (by omega)).trans d3, (k 53 (by omega) (by omega)).trans d4⟩, ⟨f4, (k 54 (by omega) (by omega)).trans w5⟩, ⟨f5, (k 55 (by omega) (by omega)).trans w6⟩, ⟨f6, (k 56 (by omega) (by omega)).trans w7⟩, h3⟩, hl, LG_eq (k 61 (by omega) (by omega)) (k 62 (by omega) (by omega)) g1, LG_eq (k 63 (by omega) (by omega)) (k 64 (by omega) (by omega)) g2⟩
/-- FULL -/
theorem L111_28 {l1 : Option Value} (W : WB V c0 N0 h0 L0 h c N L) (hl : L0.length ≤ 20000) (h61 : LG h V 61) (h63 : LG h V 63) (hS : SHL h0 V m p F X og) (hC : CT h0 V ts T Lv Rs tb fb lt) (h47 : h0.2 47 = csr st (nI lv) ch le ac (nI L0.length))
    (hQ : ∀ h', AG V h0 F c0 N0 h' F c N → SRx h' V c N L0 → SHL h' V m p F X og → CT h' V ts T Lv Rs tb fb lt → h'.2 47 = csr 4 (nI lv) ch le ac (nI L0.length) → Q none h') : pb_R 111 28 [some (.ref 47), l1] [] [] h Q := by
  have k47 : h.2 47 = csr st (nI lv) ch le ac (nI L0.length) := (WB_low W (by omega) (by omega)).trans h47
  have hc := WB_c W
  obtain ⟨sz, ov, b, ⟨b1, b2, b3, b4, b5, b6, b7, b8, b9, b10⟩, r1, r2, r3⟩ := id W.2.2.1
  have h10 : ∀ Q : Option Value → pb_H → Prop, pb_call 10 [.ref 48, .int (nI L0.length)] h Q ↔ Q none (pb_set h 48 (cw 20000 c L0.length 0)) := fun Q => m10 b1
  have is48 := WB_is W
  have g47 : (pb_set h 48 (cw 20000 c L0.length 0)).2 47 = csr st (nI lv) ch le ac (nI L0.length) := by rw [pb_set_get, if_neg (by omega), k47]
  simp only [pb_e111, k47, pb_g6, pb_o_some, is48, true_and, h10, Option.toList_none, List.nil_append, g47]
  have F1 : fr (fun q => q = 48) h (pb_set h 48 (cw 20000 c L0.length 0)) := fr_set rfl (by rw [b1]; rfl)
  have F2 : fr (fun q => q = 47) (pb_set h 48 (cw 20000 c L0.length 0)) (pb_set (pb_set h 48 (cw 20000 c L0.length 0)) 47 (csr 4 (nI lv) ch le ac (nI L0.length))) := fr_set rfl (by rw [g47]; rfl)
  have F3 : fr (fun q => q = 48 ∨ q = 47) h (pb_set (pb_set h 48 (cw 20000 c L0.length 0)) 47 (csr 4 (nI lv) ch le ac (nI L0.length))) := fr_trans (fr_mono (fun q w => Or.inl w) F1) (fr_mono (fun q w => Or.inr w) F2)
  have h83 := WB_83 W
  obtain ⟨c1, M, bb, c2⟩ := WB_cb W
  have S1 : SHL h V m p F X og := SHL_WB W hS
  refine hQ _ ?_ ?_ (SHL_fr F3 (fun b w => by omega) S1) (CT_fr F3 (fun q w => by omega) (CT_low W hC)) (by rw [pb_set_get, if_pos rfl])
  · refine AG_trans (AG_SG W.1) (AG_fr F3 (fun q w => ?_))
    exact Or.inr (Or.inr (Or.inr (Or.inl (by omega))))
  · obtain ⟨w1, w2, w3, w4, ⟨f4, w5⟩, ⟨f5, w6⟩, ⟨f6, w7⟩, r, w8⟩ := id W
    refine ⟨⟨SG_refl _ _ _, ⟨h83, hc, c1, M, bb, (F3.2.2 c (by omega)).trans c2⟩, ⟨L0.length, 0, b, ⟨?_, (F3.2.2 c (by omega)).trans b2, by omega, b4, b5, b6, b7, b8, b9, b10⟩, Nat.le_refl _, r2, Or.inl ⟨rfl, rfl, r2⟩⟩, DG_fr F3 (fun b hb w => by omega) w4, ⟨f4, (F3.2.2 _ (by omega)).trans w5⟩, ⟨f5, (F3.2.2 _ (by omega)).trans w6⟩, ⟨f6, (F3.2.2 _ (by omega)).trans w7⟩, r, (F3.2.2 _ (by omega)).trans w8⟩, hl, LG_fr F3 (by omega) (by omega) h61, LG_fr F3 (by omega) (by omega) h63⟩
    rw [pb_set_get, if_neg (by omega), pb_set_get, if_pos rfl]
/-- Search.finish, when it did not FIT -/
theorem L111_0 (W : WB V c0 N0 h0 L0 h c N L) (hl : L0.length ≤ 20000) (hlv : lv ≤ 16) (h61 : LG h V 61) (h63 : LG h V 63) (hS : SHL h0 V m p F X og) (hC : CT h0 V ts T Lv Rs tb fb lt) (h47 : h0.2 47 = csr st (nI lv) ch le ac (nI L0.length))
    (hQ : ∀ h' c' N', AG V h0 F c0 N0 h' F c' N' → SRx h' V c' N' L0 → SHL h' V m p F X og → CT h' V ts T Lv Rs tb fb lt → h'.2 47 = csr 4 (nI lv) ch le ac (nI L0.length) → Q none h') : pb_call 111 [.ref 47, .int 0] h Q := by
  have k47 : h.2 47 = csr st (nI lv) ch le ac (nI L0.length) := (WB_low W (by omega) (by omega)).trans h47
  have is47 : pb_is0 (h.2 47) 6 = true := by rw [k47]; rfl
  rw [pb_c111]
  simp only [pb_e111, is47, true_and]
  refine L109 W hS.1 hS.2.2.2.1 h47 hlv ?_
  intro h1 c1 N1 W1 P1
  have key := L111_28 (Q := Q) (l1 := some (.int 0)) W1 hl (LG_kpl P1 (by omega) (by omega) (by omega) h61) (LG_kpl P1 (by omega) (by omega) (by omega) h63) hS hC h47 (fun h' => hQ h' c1 N1)
  have k47b : h1.2 47 = csr st (nI lv) ch le ac (nI L0.length) := (WB_low W1 (by omega) (by omega)).trans h47
  simp only [pb_e111, k47b, pb_g6, pb_o_some] at key
  simp only [Option.toList_none, List.nil_append, pb_e111, if_true, k47b, pb_g6, pb_o_some]
  exact key
end AGS
