/-! Divider.take, somethingLeft, putRoundedUp; the shift of split. -/
theorem lN_shl {n s : Nat} (hs : s < 32) : lN n <<< ((nI s).toInt64 &&& 63) = lN (n * 2 ^ s) := by
  apply l64_eq
  rw [lN_nat]
  show ((lN n).toBitVec <<< (BitVec.smod ((nI s).toInt64 &&& 63 : Int64).toBitVec 64)).toNat = _
  have e1 : ∀ s, s < 32 → (((nI s).toInt64 &&& 63 : Int64).toBitVec.smod 64).toNat = s := by decide
  show ((lN n).toBitVec <<< (BitVec.smod ((nI s).toInt64 &&& 63 : Int64).toBitVec 64).toNat).toNat = _
  rw [e1 s hs, BitVec.toNat_shiftLeft, lN_nat, Nat.shiftLeft_eq, Nat.mod_mul_mod]
/-- w words, moved up by s bits -/
def wsl (f g : Nat → Int32) (i s : Nat) : Nat → (Nat → Int32) × Nat
  | 0 => (f, 0)
  | w + 1 => (upd (wsl f g i s w).1 w (nI ((wsl f g i s w).2 + wu (g (i + w)) * 2 ^ s)), ((wsl f g i s w).2 + wu (g (i + w)) * 2 ^ s) / 4294967296)
theorem pow_31 {s : Nat} (hs : s < 32) : 2 ^ s ≤ 2147483648 := Nat.pow_le_pow_right (n := 2) (by omega) (show s ≤ 31 by omega)
theorem shl_bound {x s : Nat} (hx : x < 4294967296) : x * 2 ^ s + 2 ^ s ≤ 4294967296 * 2 ^ s := by
  have : (x + 1) * 2 ^ s ≤ 4294967296 * 2 ^ s := Nat.mul_le_mul_right _ (by omega)
  rw [Nat.add_mul] at this
  omega
theorem wsl_carry (f g : Nat → Int32) (i s : Nat) : ∀ w, (wsl f g i s w).2 < 2 ^ s
  | 0 => Nat.pow_pos (by omega)
  | w + 1 => by
    have h1 := wsl_carry f g i s w
    have h2 := shl_bound (s := s) (wu_lt (g (i + w)))
    show ((wsl f g i s w).2 + wu (g (i + w)) * 2 ^ s) / 4294967296 < 2 ^ s
    exact Nat.div_lt_of_lt_mul (by omega)
theorem wsl_out (f g : Nat → Int32) (i s : Nat) : ∀ w k, w ≤ k → (wsl f g i s w).1 k = f k
  | 0, _, _ => rfl
  | w + 1, k, h => by
    show upd (wsl f g i s w).1 w _ k = f k
    rw [upd_ne _ _ (by omega)]
    exact wsl_out f g i s w k (by omega)
theorem wsl_val (f g : Nat → Int32) (i s : Nat) : ∀ w, wv (wsl f g i s w).1 0 w + (wsl f g i s w).2 * 4294967296 ^ w = wv g i w * 2 ^ s
  | 0 => by show 0 + 0 * 1 = 0 * _; omega
  | w + 1 => by
    have h1 := wsl_val f g i s w
    show wv (upd (wsl f g i s w).1 w _) 0 w + wu (upd (wsl f g i s w).1 w _ (0 + w)) * 4294967296 ^ w + _ / 4294967296 * 4294967296 ^ (w + 1) = (wv g i w + wu (g (i + w)) * 4294967296 ^ w) * 2 ^ s
    rw [Nat.zero_add, upd_same, wv_upd_above _ _ (by omega), wu_nI, Nat.pow_succ]
    generalize hs : (wsl f g i s w).2 + wu (g (i + w)) * 2 ^ s = sm
    generalize hP : 4294967296 ^ w = P at h1 ⊢
    have h2 := digit_sum sm P
    have h4 : sm * P = (wsl f g i s w).2 * P + wu (g (i + w)) * P * 2 ^ s := by
      rw [← hs, Nat.add_mul, Nat.mul_assoc, Nat.mul_assoc, Nat.mul_comm (2 ^ s) P]
    rw [Nat.add_mul]
    omega
theorem m31_loop {H : pb_H} {Q : Option Value → pb_H → Prop} {d c a0 a1 a2 nq n0 s : Nat} {wv0 : Int32} {f g : Nat → Int32} (hda : d ≠ a0) (hca : c ≠ a0) (hD : H.2 d = cv a0 a1 a2 wv0 (nI s)) (hC : H.2 c = ci nq g) (hs : s < 32) (h8 : 8 ≤ nq) (h80 : 8 ≤ n0) (hn : nq < 2 ^ 31) (hn0 : n0 < 2 ^ 31) :
    ∀ k w, w + k = 8 → (pb_R 31 40 [some (.ref d), some (.ref c), none, none, some (.int (nI w))] [none, none, some (lN (wsl f g 0 s w).2), none, none] [] (pb_set H a0 (ci n0 (wsl f g 0 s w).1)) Q ↔ Q none (pb_set H a0 (ci n0 (wsl f g 0 s 8).1))) := by
  intro k
  induction k with
  | zero =>
    intro w hw
    obtain rfl : w = 8 := by omega
    rw [pb_q31_40]
    simp only [pb_e31, show (8 : Int32) = nI 8 from rfl, if_pos (Int32.le_refl (nI 8))]
  | succ k ih =>
    intro w hw
    have hA : pb_ai ((pb_set H a0 (ci n0 (wsl f g 0 s w).1)).2 c) (nI w) = some (g (0 + w)) := by
      rw [pb_set_get, if_neg hca, hC, pb_ai_eq (Or.inl rfl) (by omega) hn, Nat.zero_add]
    have hF : (pb_set H a0 (ci n0 (wsl f g 0 s w).1)).2 d = cv a0 a1 a2 wv0 (nI s) := by
      rw [pb_set_get, if_neg hda, hD]
    have hS : ∀ x, pb_si ((pb_set H a0 (ci n0 (wsl f g 0 s w).1)).2 a0) (nI w) x = some (ci n0 (upd (wsl f g 0 s w).1 w x)) := by
      intro x
      rw [pb_set_get, if_pos rfl, pb_si_eq (by omega) hn0]
    have hc := wsl_carry f g 0 s w
    have h2 := shl_bound (s := s) (wu_lt (g (0 + w)))
    have h3 := pow_31 hs
    have h4 : 4294967296 * 2 ^ s ≤ 9223372036854775808 := by omega
    rw [pb_q31_40]
    simp only [pb_e31, show (8 : Int32) = nI 8 from rfl, if_neg (nI_ge (a := w) (b := 8) (by omega) (by omega)), hA, hF, pb_g3, hS, pb_o_some, low_and, lN_shl hs, lN_add, lN_i32, lN_ushr32 (n := (wsl f g 0 s w).2 + wu (g (0 + w)) * 2 ^ s) (by omega), pb_set_same, nI_1]
    exact ih (w + 1) (by omega)
/-- the shift that brings the highest bit to a word's top -/
def dsh (g : Nat → Int32) : Nat := if wd g 0 8 = 0 then 0 else nlz (g (wd g 0 8 - 1))
theorem wd_ne {f : Nat → Int32} {o : Nat} : ∀ n, wd f o n ≠ 0 → f (o + (wd f o n - 1)) ≠ 0
  | 0, h => absurd rfl h
  | n + 1, h => by
    unfold wd at h ⊢
    split at h
    · rename_i h0
      rw [if_pos h0]
      exact wd_ne n h
    · rename_i h0
      rw [if_neg h0]
      exact h0
theorem dsh_lt (g : Nat → Int32) : dsh g < 32 := by
  unfold dsh
  split
  · omega
  · rename_i h
    have := (nlz_spec (x := g (wd g 0 8 - 1)) (by have := wd_ne (f := g) (o := 0) 8 h; rwa [Nat.zero_add] at this)).1
    omega
/-- Divider.take -/
theorem m31 {h : pb_H} {Q : Option Value → pb_H → Prop} {d c a0 a1 a2 nq n0 : Nat} {w0 s0 : Int32} {f g : Nat → Int32} (hca : c ≠ a0) (hd : h.2 d = cv a0 a1 a2 w0 s0) (hc : h.2 c = ci nq g) (h0 : h.2 a0 = ci n0 f) (h8 : 8 ≤ nq) (h80 : 8 ≤ n0) (hn : nq < 2 ^ 31) (hn0 : n0 < 2 ^ 31) :
    pb_call 31 [.ref d, .ref c] h Q ↔ Q none (pb_set (pb_set h d (cv a0 a1 a2 (nI (wd g 0 8)) (nI (dsh g)))) a0 (ci n0 (wsl f g 0 (dsh g) 8).1)) := by
  have hda : d ≠ a0 := fun e => by rw [e, h0] at hd; cases hd
  have hdc : c ≠ d := fun e => by rw [e, hd] at hc; cases hc
  have h0d : a0 ≠ d := Ne.symm hda
  have hw := wd_le g 0 8
  have e1 : ∀ Q : Option Value → pb_H → Prop, pb_call 4 [.ref c, .int 0] h Q ↔ Q (some (.int (nI (wd g 0 8)))) h := fun Q => m4 (i := 0) hc (by omega) hn
  have hl := m31_loop (H := pb_set h d (cv a0 a1 a2 (nI (wd g 0 8)) (nI (dsh g)))) (Q := Q) (d := d) (c := c) (a0 := a0) (a1 := a1) (a2 := a2) (nq := nq) (n0 := n0) (s := dsh g) (wv0 := nI (wd g 0 8)) (f := f) (g := g) hda hca (by rw [pb_set_get, if_pos rfl]) (by rw [pb_set_get, if_neg hdc, hc]) (dsh_lt g) h8 h80 hn hn0 8 0 (by omega)
  rw [show pb_set (pb_set h d (cv a0 a1 a2 (nI (wd g 0 8)) (nI (dsh g)))) a0 (ci n0 (wsl f g 0 (dsh g) 0).1) = pb_set h d (cv a0 a1 a2 (nI (wd g 0 8)) (nI (dsh g))) from pb_set_id _ (by rw [pb_set_get, if_neg h0d, h0]; rfl)] at hl
  rw [pb_c31]
  by_cases hz : wd g 0 8 = 0
  · have hs : dsh g = 0 := by unfold dsh; rw [if_pos hz]
    rw [hs, hz] at hl
    simp only [pb_e31, e1, hz, Option.toList_some, List.singleton_append, hd, pb_g3, pb_o_some, pb_set_get, eq_self, if_true, pb_set_same, show ¬ ¬ nI 0 = 0 from fun q => q rfl, if_false]
    rw [hs]
    exact hl
  · have hs : dsh g = nlz (g (wd g 0 8 - 1)) := by unfold dsh; rw [if_neg hz]
    have e2 : ¬ nI (wd g 0 8) = 0 := nI_ne0 (by omega) (by omega)
    have e3 : nI (wd g 0 8) - 1 = nI (wd g 0 8 - 1) := pk_sub (b := 1) (by omega)
    have e4 : pb_ai (ci nq g) (nI (wd g 0 8 - 1)) = some (g (wd g 0 8 - 1)) := pb_ai_eq (Or.inl rfl) (by omega) hn
    simp only [pb_e31, e1, Option.toList_some, List.singleton_append, hd, pb_g3, pb_o_some, pb_set_get, eq_self, if_true, pb_set_same, e2, not_false_eq_true, e3, hdc, if_false, hc, e4, m30, ← hs]
    exact hl
