/-! ByteRow: rows of bytes that grow -/
abbrev cw (lim c sz : Nat) (ov : Int32) : pb_E := .inr (0, [.int (nI lim), .ref c, .int (nI sz), .int ov])
set_option maxRecDepth 100000 in
theorem sB_wu : ∀ n, n < 256 → wu (sB n) % 256 = n := by decide
set_option maxRecDepth 100000 in
theorem sB_fits : ∀ n, n < 256 → fits .byte (.int (sB n)) = true := by decide
theorem wu_i8 (x : Int32) : wu x.toInt8.toInt32 % 256 = wu x % 256 := by
  have e : x.toInt8.toInt32 = sB (wu x % 256) := nar_byte x
  rw [e]
  exact sB_wu _ (Nat.mod_lt _ (by omega))
theorem nI_mul (a b : Nat) : nI a * nI b = nI (a * b) := (Int32.ofNat_mul a b).symm
theorem nI_sub' {a b : Nat} (h : b ≤ a) : nI a - nI b = nI (a - b) := by
  have e : nI a = nI (a - b) + nI b := by rw [nI_add, Nat.sub_add_cancel h]
  rw [e, Int32.add_sub_cancel]
theorem cb_len (N : Nat) (b : Nat → Nat) : pb_al2 (cb N b) = some N := rfl
/-- what growing may cost yet -/
def pot (lim N : Nat) : Nat := if N = lim then 0 else 3 * lim - 2 * N
/-- a ByteRow at w, its bytes at c -/
def BR (h : pb_H) (w lim c N sz : Nat) (ov : Int32) (b : Nat → Nat) : Prop := h.2 w = cw lim c sz ov ∧ h.2 c = cb N b ∧ sz ≤ N ∧ N ≤ lim ∧ 1 ≤ N ∧ lim ≤ 20000 ∧ (∀ k, b k < 256) ∧ (∀ i, N ≤ i → b i = 0) ∧ c < h.1 ∧ w < h.1
section BYT
variable {h : pb_H} {Q : Option Value → pb_H → Prop} {w lim c N sz : Nat} {ov : Int32} {b : Nat → Nat}
/-- Arrays.copyOf -/
theorem m1 {M : Nat} (hc : h.2 c = cb N b) (hcl : c < h.1) (hNM : N < M) (hM : M ≤ 20000) (hb : ∀ k, b k < 256) (hz : ∀ i, N ≤ i → b i = 0) : pb_call 1 [.ref c, .int (nI M)] h Q ↔ Q (some (.ref h.1)) (pb_new h (cb M b)) := by
  have c1 : ¬ nI M = Int32.ofNat N := fun e => by
    have := (nI_eq (a := M) (b := N) (by omega) (by omega)).mp e
    omega
  have c2 : ¬ nI M < 0 := nI_pos (by omega)
  have c3 : (nI M).toNatClampNeg = M := nI_clamp (by omega)
  have c4 : ¬ nI M < Int32.ofNat N := nI_nlt (b := N) (by omega) (by omega)
  have c5 : M ≤ 1000000 := by omega
  have g1 : (pb_new h (.inl (1, M, .inl (fun _ => 0)))).2 c = cb N b := by rw [pb_new_get, if_neg (by omega), hc]
  have g2 : (pb_new h (.inl (1, M, .inl (fun _ => 0)))).2 h.1 = .inl (1, M, .inl (fun _ => 0)) := by rw [pb_new_get, if_pos rfl]
  have g3 : pb_cp (cb N b) (.inl (1, M, .inl (fun _ => 0))) 0 0 (Int32.ofNat N) = some (cb M b) := by
    have k0 : (Int32.ofNat N).toNatClampNeg = N := nI_clamp (n := N) (by omega)
    have k1 : ¬ Int32.ofNat N < 0 := nI_pos (n := N) (by omega)
    have k2 : (0 : Int32).toNatClampNeg = 0 := rfl
    show (if _ then _ else _) = _
    rw [if_pos ⟨rfl, by omega, by decide, by decide, k1, by rw [k0, k2]; omega, by rw [k0, k2]; omega, Or.inr (fun i hi => sB_fits _ (hb _))⟩, k0, k2]
    show some (Sum.inl (1, M, Sum.inl (va_cpy (fun k => sB (b k)) (fun _ => 0) 0 0 N))) = some (Sum.inl (1, M, Sum.inl (fun k => sB (b k))))
    congr 5
    funext k
    unfold va_cpy
    by_cases e : k < N
    · rw [if_pos (by omega)]
      show sB (b (0 + (k - 0))) = _
      rw [Nat.zero_add, Nat.sub_zero]
    · rw [if_neg (by omega), hz k (by omega)]
      rfl
  have g4 : pb_set (pb_new h (.inl (1, M, .inl (fun _ => 0)))) h.1 (cb M b) = pb_new h (cb M b) := by
    unfold pb_set pb_new
    congr 1
    funext k
    unfold va_up
    by_cases e : k = h.1
    · rw [if_pos e, if_pos e]
    · rw [if_neg e, if_neg e]
      show (if k = h.1 then _ else _) = _
      rw [if_neg e]
  rw [pb_c1]
  simp only [pb_e1, hc, cb_len, pb_o_some, c1, not_false_eq_true, if_true, c2, c3, c5, true_and, g1, g2, g3, g4, c4, if_false]
theorem m2_54 {x : Int32} (hB : BR h w lim c N sz ov b) (hs : sz < N) : pb_R 2 54 [some (.ref w), some (.int x)] [] [] h Q ↔ Q none (pb_set (pb_set h c (cb N (un b sz (wu x % 256)))) w (cw lim c (sz + 1) ov)) := by
  obtain ⟨b1, b2, b3, b4, b5, b6, b7, b8, b9, b10⟩ := hB
  have hcw : w ≠ c := fun e => by rw [e, b2] at b1; exact cb_inr b1
  have hs1 := cb_set (N := N) (j := sz) (b := b) (x := x.toInt8.toInt32) hs (by omega)
  rw [wu_i8] at hs1
  have g1 : (pb_set h c (cb N (un b sz (wu x % 256)))).2 w = cw lim c sz ov := by rw [pb_set_get, if_neg hcw, b1]
  simp only [pb_e2, b1, pb_g0, pb_o_some, b2, hs1, g1, nI_1]
theorem pot_up (hN : N < lim) : pot lim (min lim (2 * N)) + min lim (2 * N) ≤ pot lim N ∧ lim - min lim (2 * N) + 1 ≤ lim - N ∨ N = 0 := by
  by_cases e : N = 0
  · exact Or.inr e
  · left
    unfold pot
    by_cases c : lim ≤ 2 * N
    · rw [Nat.min_eq_left c, if_pos rfl, if_neg (by omega)]
      omega
    · rw [Nat.min_eq_right (by omega), if_neg (by omega), if_neg (by omega)]
      omega
/-- ByteRow.add, where there is a place -/
theorem L2 {x : Int32} (hB : BR h w lim c N sz ov b) (hs : sz < lim)
    (hQ : ∀ h' c' N', fg (fun q => q = w ∨ q = c) h h' → BR h' w lim c' N' (sz + 1) ov (un b sz (wu x % 256)) → (c' = c ∨ c' = h.1) → h'.1 + (lim - N') ≤ h.1 + (lim - N) → pb_sl h' + pot lim N' ≤ pb_sl h + pot lim N → Q none h') : pb_call 2 [.ref w, .int x] h Q := by
  have hB' := hB
  obtain ⟨b1, b2, b3, b4, b5, b6, b7, b8, b9, b10⟩ := hB
  have hcw : w ≠ c := fun e => by rw [e, b2] at b1; exact cb_inr b1
  have k1 : nI sz < nI lim := nI_lt hs (by omega)
  have hun : ∀ k, un b sz (wu x % 256) k < 256 := fun k => by
    unfold un
    split
    · exact Nat.mod_lt _ (by omega)
    · exact b7 k
  rw [pb_c2]
  by_cases c1 : sz < N
  · have k2 : nI sz < Int32.ofNat N := nI_lt (b := N) c1 (by omega)
    have s1 : pb_R 2 0 [some (.ref w), some (.int x)] [] [] h Q ↔ pb_R 2 54 [some (.ref w), some (.int x)] [] [] h Q := by
      simp only [pb_e2, b1, pb_g0, pb_o_some, k1, if_true, b2, cb_len, k2]
    rw [s1, m2_54 hB' c1]
    have F1 : fr (fun q => q = w ∨ q = c) h (pb_set (pb_set h c (cb N (un b sz (wu x % 256)))) w (cw lim c (sz + 1) ov)) := fr_trans (fr_set (Or.inr rfl) (by rw [b2]; rfl)) (fr_set (Or.inl rfl) (by rw [pb_set_get, if_neg hcw, b1]; rfl))
    refine hQ _ c N (fg_fr F1) ⟨by rw [pb_set_get, if_pos rfl], by rw [pb_set_get, if_neg (fun e => hcw e.symm), pb_set_get, if_pos rfl], c1, b4, b5, b6, hun, fun i hi => ?_, b9, b10⟩ (Or.inl rfl) (by rw [F1.1]; omega) (by rw [fr_sl F1]; omega)
    rw [un_ne _ (by omega)]
    exact b8 i hi
  · obtain rfl : sz = N := by omega
    have k2 : ¬ nI sz < Int32.ofNat sz := nI_nlt (b := sz) (Nat.le_refl _) (by omega)
    have t2 : (2 : Int32) = nI 2 := rfl
    have em : Int32.ofNat sz * 2 = nI (sz * 2) := by rw [t2]; exact nI_mul sz 2
    have emn : (if nI (sz * 2) < nI lim then nI (sz * 2) else nI lim) = nI (min lim (2 * sz)) := by
      by_cases cc : sz * 2 < lim
      · rw [if_pos (nI_lt cc (by omega)), Nat.min_eq_right (by omega), Nat.mul_comm]
      · rw [if_neg (nI_nlt (by omega) (by omega)), Nat.min_eq_left (by omega)]
    have hlt : sz < min lim (2 * sz) := by omega
    have h1 := fun Q : Option Value → pb_H → Prop => m1 (Q := Q) (M := min lim (2 * sz)) b2 b9 hlt (by omega) b7 b8
    have g1 : (pb_new h (cb (min lim (2 * sz)) b)).2 w = cw lim c sz ov := by rw [pb_new_get, if_neg (by omega), b1]
    have hB2 : BR (pb_set (pb_new h (cb (min lim (2 * sz)) b)) w (cw lim h.1 sz ov)) w lim h.1 (min lim (2 * sz)) sz ov b := ⟨by rw [pb_set_get, if_pos rfl], by rw [pb_set_get, if_neg (by omega), pb_new_get, if_pos rfl], by omega, by omega, by omega, b6, b7, fun i hi => b8 i (by omega), by show h.1 < h.1 + 1; omega, by show w < h.1 + 1; omega⟩
    have s1 : pb_R 2 0 [some (.ref w), some (.int x)] [] [] h Q ↔ pb_R 2 54 [some (.ref w), some (.int x)] [] [] (pb_set (pb_new h (cb (min lim (2 * sz)) b)) w (cw lim h.1 sz ov)) Q := by
      simp only [pb_e2, b1, pb_g0, pb_o_some, k1, if_true, b2, cb_len, k2, if_false, em, emn, h1, Option.toList_some, List.singleton_append, g1]
    rw [s1, m2_54 hB2 hlt]
    have F2 : fg (fun q => q = w ∨ q = c) h (pb_set (pb_new h (cb (min lim (2 * sz)) b)) w (cw lim h.1 sz ov)) := ⟨by show h.1 ≤ h.1 + 1; omega, fun q q1 q2 => by rw [pb_set_get, if_neg (fun e => q2 (Or.inl e)), pb_new_get, if_neg (by omega)]⟩
    generalize hH : pb_set (pb_new h (cb (min lim (2 * sz)) b)) w (cw lim h.1 sz ov) = H at hB2 F2 ⊢
    have hH1 : H.1 = h.1 + 1 := by rw [← hH]; rfl
    have hHs : pb_sl H = pb_sl h + min lim (2 * sz) := by
      rw [← hH, pb_sl_set (by rw [g1]; rfl), pb_sl_new]
      rfl
    have F3 : fr (fun q => q = w ∨ q = h.1) H (pb_set (pb_set H h.1 (cb (min lim (2 * sz)) (un b sz (wu x % 256)))) w (cw lim h.1 (sz + 1) ov)) := fr_trans (fr_set (Or.inr rfl) (by rw [hB2.2.1]; rfl)) (fr_set (Or.inl rfl) (by rw [pb_set_get, if_neg (by omega), hB2.1]; rfl))
    have hp := pot_up (lim := lim) (N := sz) (by omega)
    refine hQ _ h.1 (min lim (2 * sz)) ⟨by rw [F3.1, hH1]; omega, fun q q1 q2 => ?_⟩ ⟨by rw [pb_set_get, if_pos rfl], by rw [pb_set_get, if_neg (by omega), pb_set_get, if_pos rfl], by omega, by omega, by omega, b6, hun, fun i hi => ?_, by rw [F3.1, hH1]; omega, by rw [F3.1, hH1]; omega⟩ (Or.inr rfl) (by rw [F3.1, hH1]; omega) (by rw [fr_sl F3, hHs]; omega)
    · rw [F3.2.2 q (fun e => by
        rcases e with e | e
        · exact q2 (Or.inl e)
        · omega)]
      exact F2.2 q q1 q2
    · rw [un_ne _ (by omega)]
      exact b8 i (by omega)
/-- ByteRow.add, where there is none -/
theorem L2_full {x : Int32} (hB : BR h w lim c N lim ov b) : pb_call 2 [.ref w, .int x] h Q ↔ Q none (pb_set h w (cw lim c lim 1)) := by
  obtain ⟨b1, b2, b3, b4, b5, b6, b7, b8, b9, b10⟩ := hB
  have k1 : ¬ nI lim < nI lim := nI_nlt (Nat.le_refl _) (by omega)
  rw [pb_c2]
  simp only [pb_e2, b1, pb_g0, pb_o_some, k1, if_false]
theorem m10 {n : Int32} {l c s : Value} {o : Value} (hw : h.2 w = .inr (0, [l, c, s, o])) : pb_call 10 [.ref w, .int n] h Q ↔ Q none (pb_set h w (.inr (0, [l, c, .int n, .int 0]))) := by
  have g1 : ∀ c, (pb_set h w c).2 w = c := fun c => by rw [pb_set_get, if_pos rfl]
  rw [pb_c10]
  simp only [pb_e10, hw, pb_g0, pb_o_some, g1, pb_set_same]
end BYT
