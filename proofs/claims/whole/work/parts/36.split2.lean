/-! Divider.split, whole. -/
theorem m36_exit {h : pb_H} {Q : Option Value → pb_H → Prop} {d a0 a1 a2 : Nat} {w0 s0 x : Int32} {l : Nat → Int32} {l1 l2 l3 l4 : Option Value} {j3 : Option Int64} (hx : x < 0) (hd : h.2 d = cv a0 a1 a2 w0 s0) (h1 : h.2 a1 = ci 9 l) : pb_R 36 89 [some (.ref d), l1, l2, l3, l4, some (.int x)] [none, none, none, j3, none, none] [] h Q ↔ Q (some (.int (if wv l 0 9 = 0 then 0 else 1))) h := by
  rw [pb_q36_89]
  simp only [pb_e36, if_pos hx, hd, pb_g3, true_and, m35 hd h1 (by omega) (by omega), Option.toList_some, List.singleton_append]
  by_cases e : wv l 0 9 = 0
  · simp only [if_pos e]
    exact and_iff_right nb0
  · simp only [if_neg e]
    exact and_iff_right nb1
theorem m36_one {H : pb_H} {Q : Option Value → pb_H → Prop} {d a a0 a1 a2 n i s : Nat} {w0 : Int32} {f l0 : Nat → Int32} (hd1 : d ≠ a1) (ha1 : a ≠ a1) (hd : H.2 d = cv a0 a1 a2 w0 (nI s)) (ha : H.2 a = ci n f) (hs : s < 32) (hi : i + 8 ≤ n) (hn : n < 2 ^ 31) :
    ∀ k w, w + k = 8 → (pb_R 36 13 [some (.ref d), some (.ref a), some (.int (nI i)), none, none, some (.int (nI w))] [none, none, none, some (lN (wsl l0 f i s w).2), none, none] [] (pb_set H a1 (ci 9 (wsl l0 f i s w).1)) Q ↔
      pb_R 36 59 [some (.ref d), some (.ref a), some (.int (nI i)), none, none, some (.int (nI 8))] [none, none, none, some (lN (wsl l0 f i s 8).2), none, none] [] (pb_set H a1 (ci 9 (wsl l0 f i s 8).1)) Q) := by
  intro k
  induction k with
  | zero =>
    intro w hw
    obtain rfl : w = 8 := by omega
    rw [pb_q36_13]
    generalize hX : (pb_R 36 59 _ _ _ _ Q) = X
    simp only [pb_e36, show (8 : Int32) = nI 8 from rfl, if_pos (Int32.le_refl (nI 8))] at hX ⊢
    rw [← hX]
  | succ k ih =>
    intro w hw
    have hF : (pb_set H a1 (ci 9 (wsl l0 f i s w).1)).2 d = cv a0 a1 a2 w0 (nI s) := by rw [pb_set_get, if_neg hd1, hd]
    have hA : pb_ai ((pb_set H a1 (ci 9 (wsl l0 f i s w).1)).2 a) (nI (i + w)) = some (f (i + w)) := by
      rw [pb_set_get, if_neg ha1, ha, pb_ai_eq (Or.inl rfl) (by omega) hn]
    have hS : ∀ x, pb_si ((pb_set H a1 (ci 9 (wsl l0 f i s w).1)).2 a1) (nI w) x = some (ci 9 (upd (wsl l0 f i s w).1 w x)) := by
      intro x
      rw [pb_set_get, if_pos rfl, pb_si_eq (by omega) (by omega)]
    have hc := wsl_carry l0 f i s w
    have h2 := shl_bound (s := s) (wu_lt (f (i + w)))
    have h3 := pow_31 hs
    rw [← ih (w + 1) (by omega), pb_q36_13]
    simp only [pb_e36, show (8 : Int32) = nI 8 from rfl, if_neg (nI_ge (a := w) (b := 8) (by omega) (by omega)), nI_add, hA, hF, pb_g3, hS, pb_o_some, low_and, lN_shl hs, lN_add, lN_i32, lN_ushr32 (n := (wsl l0 f i s w).2 + wu (f (i + w)) * 2 ^ s) (by omega), pb_set_same, nI_1]
    rfl
/-- the nine words to divide -/
def spn (l0 f : Nat → Int32) (i s : Nat) : Nat → Int32 := upd (wsl l0 f i s 8).1 8 (nI (wsl l0 f i s 8).2)
theorem spn_val (l0 f : Nat → Int32) (i : Nat) {s : Nat} (hs : s < 32) : wv (spn l0 f i s) 0 9 = wv f i 8 * 2 ^ s := by
  have h1 := wsl_val l0 f i s 8
  have h2 := wsl_carry l0 f i s 8
  have h3 := pow_31 hs
  show wv (upd (wsl l0 f i s 8).1 8 _) 0 8 + wu (upd (wsl l0 f i s 8).1 8 _ (0 + 8)) * 4294967296 ^ 8 = _
  rw [Nat.zero_add, upd_same, wu_nI, Nat.mod_eq_of_lt (by omega), wv_upd_above _ _ (by omega), h1]
/-- how many words the quotient may have -/
def spc (f : Nat → Int32) (i W : Nat) : Nat := wd f i 8 + 1 - W
def spz (q0 : Nat → Int32) : Nat → Int32 := fun z => if z < 8 then 0 else q0 z
theorem div_low {dv : Nat → Int32} {W : Nat} (hW : 1 ≤ W) (hv : 2147483648 ≤ ghi dv W) : 2147483648 * 4294967296 ^ (W - 1) ≤ wv dv 0 W := by
  obtain ⟨w, rfl⟩ : ∃ w, W = w + 1 := ⟨W - 1, by omega⟩
  show _ ≤ wv dv 0 w + wu (dv (0 + w)) * 4294967296 ^ w
  have h1 : 2147483648 * 4294967296 ^ w ≤ wu (dv (0 + w)) * 4294967296 ^ w := Nat.mul_le_mul_right _ (by rw [Nat.zero_add]; exact hv)
  rw [Nat.add_sub_cancel]
  omega
theorem sp_start {dv f l0 : Nat → Int32} {W i s : Nat} (hW : 1 ≤ W) (hv : 2147483648 ≤ ghi dv W) (hs : s < 32) : wv (spn l0 f i s) 0 9 < wv dv 0 W * 4294967296 ^ spc f i W := by
  rw [spn_val l0 f i hs]
  have hA : wv f i 8 < 4294967296 ^ wd f i 8 := by
    rw [wv_cut (wd_le f i 8) (fun k h1 h2 => wd_top f i 8 k h1 h2)]
    exact wv_lt f i _
  have hD := div_low hW hv
  have h3 := pow_31 hs
  have h2 : 0 < 2 ^ s := Nat.pow_pos (by omega)
  have h4 : wv f i 8 * 2 ^ s < 4294967296 ^ wd f i 8 * 2 ^ s := Nat.mul_lt_mul_of_pos_right hA h2
  have h5 : 4294967296 ^ wd f i 8 * 2 ^ s ≤ 4294967296 ^ wd f i 8 * 2147483648 := Nat.mul_le_mul_left _ h3
  have h6 : 2147483648 * 4294967296 ^ (W - 1) * 4294967296 ^ spc f i W ≤ wv dv 0 W * 4294967296 ^ spc f i W := Nat.mul_le_mul_right _ hD
  have h7 : 4294967296 ^ wd f i 8 ≤ 4294967296 ^ (W - 1) * 4294967296 ^ spc f i W := by
    rw [← Nat.pow_add]
    exact Nat.pow_le_pow_right (by omega) (by unfold spc; omega)
  have h8 : 4294967296 ^ wd f i 8 * 2147483648 ≤ 2147483648 * 4294967296 ^ (W - 1) * 4294967296 ^ spc f i W := by
    rw [Nat.mul_comm, Nat.mul_assoc]
    exact Nat.mul_le_mul_left _ h7
  omega
/-- Divider.split -/
theorem m36 {h : pb_H} {Q : Option Value → pb_H → Prop} {d a a0 a1 a2 n n0 i s W : Nat} {f dv l0 q0 : Nat → Int32} (h01 : a0 ≠ a1) (h02 : a0 ≠ a2) (h12 : a1 ≠ a2) (ha1 : a ≠ a1) (ha2 : a ≠ a2) (hd : h.2 d = cv a0 a1 a2 (nI W) (nI s)) (ha : h.2 a = ci n f) (h0 : h.2 a0 = ci n0 dv) (h1 : h.2 a1 = ci 9 l0) (h2 : h.2 a2 = ci 8 q0) (hs : s < 32) (hW1 : 1 ≤ W) (hW8 : W ≤ 8) (hW : W ≤ n0) (hi : i + 8 ≤ n) (hn : n < 2 ^ 31) (hn0 : n0 < 2 ^ 31) (hv : 2147483648 ≤ ghi dv W) :
    pb_call 36 [.ref d, .ref a, .int (nI i)] h Q ↔ Q (some (.int (if wv (spl dv W (spc f i W) (spn l0 f i s) (spz q0)).1 0 9 = 0 then 0 else 1))) (pb_set (pb_set h a2 (ci 8 (spl dv W (spc f i W) (spn l0 f i s) (spz q0)).2)) a1 (ci 9 (spl dv W (spc f i W) (spn l0 f i s) (spz q0)).1)) := by
  have hd1 : d ≠ a1 := fun e => by rw [e, h1] at hd; cases hd
  have hd2 : d ≠ a2 := fun e => by rw [e, h2] at hd; cases hd
  have hwle := wd_le f i 8
  have one := m36_one (H := pb_set h a2 (ci 8 (spz q0))) (Q := Q) (d := d) (a := a) (a0 := a0) (a1 := a1) (a2 := a2) (n := n) (i := i) (s := s) (w0 := nI W) (f := f) (l0 := l0) hd1 ha1 (by rw [pb_set_get, if_neg hd2, hd]) (by rw [pb_set_get, if_neg ha2, ha]) hs hi hn 8 0 (by omega)
  rw [show pb_set (pb_set h a2 (ci 8 (spz q0))) a1 (ci 9 (wsl l0 f i s 0).1) = pb_set h a2 (ci 8 (spz q0)) from pb_set_id _ (by rw [pb_set_get, if_neg h12, h1]; rfl)] at one
  have hF : ∀ x y, (pb_set (pb_set h a2 x) a1 y).2 d = cv a0 a1 a2 (nI W) (nI s) := by
    intro x y
    rw [pb_set_get, if_neg hd1, pb_set_get, if_neg hd2, hd]
  have hA : ∀ x y, (pb_set (pb_set h a2 x) a1 y).2 a = ci n f := by
    intro x y
    rw [pb_set_get, if_neg ha1, pb_set_get, if_neg ha2, ha]
  have hS : ∀ x y z, pb_si ((pb_set (pb_set h a2 x) a1 (ci 9 y)).2 a1) (nI 8) z = some (ci 9 (upd y 8 z)) := by
    intro x y z
    rw [pb_set_get, if_pos rfl, pb_si_eq (by omega) (by omega)]
  have hWn : ¬ nI W = 0 := nI_ne0 (by omega) (by omega)
  have hst := sp_start (dv := dv) (f := f) (l0 := l0) (i := i) (s := s) hW1 hv hs
  have hm24 := fun Q : Option Value → pb_H → Prop => m24 (h := h) (Q := Q) (x := 0) h2 (by omega)
  rw [pb_c36]
  simp only [pb_e36, hd, pb_g3, pb_o_some, hm24, Option.toList_none, List.nil_append]
  refine Iff.trans one ?_
  simp only [pb_e36, hF, pb_g3, pb_o_some, show (8 : Int32) = nI 8 from rfl, lN_i32, hS, pb_set_same, hWn, not_false_eq_true, if_true, m4 (hA (ci 8 (spz q0)) (ci 9 (upd (wsl l0 f i s 8).1 8 (nI (wsl l0 f i s 8).2)))) hi hn, Option.toList_some, List.singleton_append]
  by_cases hc : W ≤ wd f i 8
  · have e1 : nI (wd f i 8) - nI W = nI (spc f i W) - 1 := by
      rw [pk_sub hc]
      have : spc f i W = (wd f i 8 - W) + 1 := by unfold spc; omega
      rw [this, nI_pred]
    rw [e1]
    exact m36_two h01 h02 h12 hd1 hd2 hd h0 hW1 hW hn0 hv (spc f i W) (spn l0 f i s) (spz q0) (by unfold spc; omega) hst
  · have e0 : spc f i W = 0 := by unfold spc; omega
    rw [e0]
    exact m36_exit (pk_sneg (by omega) (by omega)) (hF _ _) (by rw [pb_set_get, if_pos rfl]; rfl)
/-- what split means: quotient and rest -/
theorem spl_div {dv f l0 q0 : Nat → Int32} {W i s : Nat} (hW : 1 ≤ W) (hW8 : W ≤ 8) (hv : 2147483648 ≤ ghi dv W) (hs : s < 32) :
    wv (spl dv W (spc f i W) (spn l0 f i s) (spz q0)).2 0 8 = wv f i 8 * 2 ^ s / wv dv 0 W ∧ wv (spl dv W (spc f i W) (spn l0 f i s) (spz q0)).1 0 9 = wv f i 8 * 2 ^ s % wv dv 0 W := by
  have hwle := wd_le f i 8
  obtain ⟨s1, s2, s3⟩ := spl_spec (dv := dv) hW hv (spc f i W) (spn l0 f i s) (spz q0) (by unfold spc; omega) (sp_start hW hv hs)
  rw [spn_val l0 f i hs] at s1
  have e8 : wv (spl dv W (spc f i W) (spn l0 f i s) (spz q0)).2 0 8 = wv (spl dv W (spc f i W) (spn l0 f i s) (spz q0)).2 0 (spc f i W) := by
    apply wv_cut
    · unfold spc; omega
    · intro k k1 k2
      rw [Nat.zero_add, s3 k k1]
      unfold spz
      rw [if_pos k2]
  rw [e8]
  generalize wv (spl dv W (spc f i W) (spn l0 f i s) (spz q0)).2 0 (spc f i W) = qq at *
  generalize wv (spl dv W (spc f i W) (spn l0 f i s) (spz q0)).1 0 9 = rr at *
  have hDp : 0 < wv dv 0 W := by omega
  rw [← s1, Nat.mul_comm]
  constructor
  · rw [Nat.add_mul_div_left _ _ hDp, Nat.div_eq_of_lt s2, Nat.zero_add]
  · rw [Nat.add_mul_mod_self_left, Nat.mod_eq_of_lt s2]
