/-! The guess is the quotient's word, or one more. -/
theorem gst_range {v1 v2 x2 two q : Nat} (hv2 : v2 < 4294967296) (ha : q * (v1 * 4294967296 + v2) ≤ two * 4294967296 + x2) (hb : two * 4294967296 + x2 < (q + 2) * (v1 * 4294967296 + v2)) (hq : q < 4294967296) :
    ∀ (k word over : Nat), k ≤ 3 → word * v1 + over = two → q ≤ word → word + 1 ≤ q + k → q ≤ gst v1 v2 x2 k word over ∧ gst v1 v2 x2 k word over ≤ q + 1 := by
  intro k
  induction k with
  | zero => intro word over _ _ h1 h2; omega
  | succ k ih =>
    intro word over hk e h1 h2
    have eM : word * (v1 * 4294967296 + v2) = word * v1 * 4294967296 + word * v2 := by rw [Nat.mul_add, Nat.mul_assoc]
    have eT : two * 4294967296 + x2 = word * v1 * 4294967296 + (over * 4294967296 + x2) := by rw [← e, Nat.add_mul]; omega
    have low : two * 4294967296 + x2 < word * (v1 * 4294967296 + v2) → q < word := fun q9 => Nat.lt_of_mul_lt_mul_right (Nat.lt_of_le_of_lt ha q9)
    have top : word * (v1 * 4294967296 + v2) ≤ two * 4294967296 + x2 → word ≤ q + 1 := fun q9 => Nat.le_of_lt_succ (Nat.lt_of_mul_lt_mul_right (Nat.lt_of_le_of_lt q9 hb))
    have go : q < word → (q ≤ gst v1 v2 x2 k (word - 1) (over + v1) ∧ gst v1 v2 x2 k (word - 1) (over + v1) ≤ q + 1) := by
      intro hlt
      refine ih (word - 1) (over + v1) (by omega) ?_ (by omega) (by omega)
      obtain ⟨w', rfl⟩ : ∃ w', word = w' + 1 := ⟨word - 1, by omega⟩
      rw [Nat.add_mul, Nat.one_mul] at e
      rw [Nat.add_sub_cancel]
      omega
    unfold gst
    by_cases c1 : 4294967295 < over
    · rw [if_pos c1]
      refine ⟨h1, top ?_⟩
      rw [eM, eT]
      have h3 : word * v2 ≤ 4294967297 * 4294967295 := Nat.mul_le_mul (by omega) (by omega)
      omega
    · rw [if_neg c1]
      by_cases c2 : 4294967295 < word
      · rw [if_pos c2]
        exact go (by omega)
      · rw [if_neg c2]
        by_cases c3 : over * 4294967296 + x2 < word * v2
        · rw [if_pos c3]
          exact go (low (by rw [eM, eT]; exact Nat.add_lt_add_left c3 _))
        · rw [if_neg c3]
          exact ⟨h1, top (by rw [eM, eT]; exact Nat.add_le_add_left (Nat.le_of_not_lt c3) _)⟩
/-- what three words and two say of a quotient -/
theorem knuth_a {P d2 t3 Dl Xl q : Nat} (hD : 0 ≤ Dl) (hX : Xl < P) (h1 : q * (d2 * P + Dl) ≤ t3 * P + Xl) : q * d2 ≤ t3 := by
  apply Nat.le_of_lt_succ
  apply Nat.lt_of_mul_lt_mul_right (a := P)
  have : q * d2 * P ≤ q * (d2 * P + Dl) := by rw [Nat.mul_assoc]; exact Nat.mul_le_mul_left _ (by omega)
  rw [Nat.succ_mul]
  omega
theorem knuth_b {P v t Dl Xl q : Nat} (hP : 0 < P) (hD : Dl < P) (h2 : t * P + Xl < (q + 1) * (v * P + Dl)) : t < (q + 1) * (v + 1) := by
  apply Nat.lt_of_mul_lt_mul_right (a := P)
  have : (q + 1) * (v * P + Dl) ≤ (q + 1) * ((v + 1) * P) := Nat.mul_le_mul_left _ (by rw [Nat.add_mul, Nat.one_mul]; omega)
  rw [Nat.mul_assoc]
  omega
theorem gss_range {l dv : Nat → Int32} {pl W : Nat} (hW : 1 ≤ W) (hv : 2147483648 ≤ ghi dv W) (hlt : wv l pl (W + 1) < wv dv 0 W * 4294967296) :
    wv l pl (W + 1) / wv dv 0 W ≤ gss l dv pl W ∧ gss l dv pl W ≤ wv l pl (W + 1) / wv dv 0 W + 1 := by
  have hvl : ghi dv W < 4294967296 := wu_lt _
  have hnx := gnx_lt dv W
  have hbl := gbl_lt l pl W
  have hDp : 0 < wv dv 0 W := by
    apply Nat.pos_of_ne_zero
    intro e
    rw [e] at hlt
    omega
  have q1 := Nat.div_mul_le_self (wv l pl (W + 1)) (wv dv 0 W)
  have q2 : wv l pl (W + 1) < (wv l pl (W + 1) / wv dv 0 W + 1) * wv dv 0 W := by
    rw [Nat.mul_comm]
    exact Nat.lt_mul_div_succ _ hDp
  have hq : wv l pl (W + 1) / wv dv 0 W < 4294967296 := Nat.div_lt_of_lt_mul hlt
  generalize wv l pl (W + 1) / wv dv 0 W = q at *
  have main : q * (ghi dv W * 4294967296 + gnx dv W) ≤ gtw l pl W * 4294967296 + gbl l pl W ∧ gtw l pl W * 4294967296 + gbl l pl W < (q + 2) * (ghi dv W * 4294967296 + gnx dv W) ∧ gtw l pl W < (q + 3) * ghi dv W := by
    by_cases hW2 : 1 < W
    · obtain ⟨w, rfl⟩ : ∃ w, W = w + 2 := ⟨W - 2, by omega⟩
      have eh : ghi dv (w + 2) = wu (dv (w + 1)) := rfl
      have en : gnx dv (w + 2) = wu (dv w) := by unfold gnx; rw [if_pos hW2]; rfl
      have eb : gbl l pl (w + 2) = wu (l (pl + w)) := by unfold gbl; rw [if_pos hW2]; rfl
      have et : gtw l pl (w + 2) = wu (l (pl + (w + 2))) * 4294967296 + wu (l (pl + (w + 1))) := rfl
      have hP : 0 < 4294967296 ^ w := Nat.pow_pos (by omega)
      have hDl := wv_lt dv 0 w
      have hXl := wv_lt l pl w
      have hD2 := wv_lt dv 0 (w + 1)
      have eD : wv dv 0 (w + 2) = (wu (dv (w + 1)) * 4294967296 + wu (dv w)) * 4294967296 ^ w + wv dv 0 w := by
        show wv dv 0 w + wu (dv (0 + w)) * 4294967296 ^ w + wu (dv (0 + (w + 1))) * 4294967296 ^ (w + 1) = _
        rw [Nat.zero_add, Nat.zero_add, Nat.pow_succ, Nat.add_mul, Nat.mul_assoc (wu (dv (w + 1))), Nat.mul_comm 4294967296 (4294967296 ^ w)]
        omega
      have eD1 : wv dv 0 (w + 2) = wu (dv (w + 1)) * 4294967296 ^ (w + 1) + wv dv 0 (w + 1) := by
        show wv dv 0 (w + 1) + wu (dv (0 + (w + 1))) * 4294967296 ^ (w + 1) = _
        rw [Nat.zero_add]
        omega
      have eX : wv l pl (w + 2 + 1) = ((wu (l (pl + (w + 2))) * 4294967296 + wu (l (pl + (w + 1)))) * 4294967296 + wu (l (pl + w))) * 4294967296 ^ w + wv l pl w := by
        show wv l pl w + wu (l (pl + w)) * 4294967296 ^ w + wu (l (pl + (w + 1))) * 4294967296 ^ (w + 1) + wu (l (pl + (w + 2))) * 4294967296 ^ (w + 2) = _
        rw [Nat.pow_succ 4294967296 (w + 1), Nat.pow_succ]
        generalize 4294967296 ^ w = P
        generalize wu (l (pl + (w + 2))) = a
        generalize wu (l (pl + (w + 1))) = b
        rw [Nat.add_mul, Nat.add_mul, Nat.add_mul]
        have k1 : a * (P * 4294967296 * 4294967296) = a * 4294967296 * 4294967296 * P := by
          rw [Nat.mul_assoc a, Nat.mul_assoc a, Nat.mul_comm P, Nat.mul_comm _ 4294967296, ← Nat.mul_assoc 4294967296 4294967296 P]
        have k2 : b * (P * 4294967296) = b * 4294967296 * P := by rw [Nat.mul_assoc, Nat.mul_comm P]
        omega
      have eX1 : wv l pl (w + 2 + 1) = (wu (l (pl + (w + 2))) * 4294967296 + wu (l (pl + (w + 1)))) * 4294967296 ^ (w + 1) + wv l pl (w + 1) := by
        show wv l pl (w + 1) + wu (l (pl + (w + 1))) * 4294967296 ^ (w + 1) + wu (l (pl + (w + 2))) * 4294967296 ^ (w + 2) = _
        rw [Nat.pow_succ 4294967296 (w + 1), Nat.add_mul, Nat.mul_assoc (wu (l (pl + (w + 2)))), Nat.mul_comm 4294967296 (4294967296 ^ (w + 1))]
        omega
      have b1 : gtw l pl (w + 2) * 4294967296 + gbl l pl (w + 2) < (q + 1) * (ghi dv (w + 2) * 4294967296 + gnx dv (w + 2) + 1) := by
        refine knuth_b hP hDl (Xl := wv l pl w) ?_
        rw [et, eb, eh, en, ← eX, ← eD]
        exact q2
      have b2 : gtw l pl (w + 2) < (q + 1) * (ghi dv (w + 2) + 1) := by
        refine knuth_b (Nat.pow_pos (by omega)) hD2 (Xl := wv l pl (w + 1)) ?_
        rw [et, eh, ← eX1, ← eD1]
        exact q2
      refine ⟨?_, ?_, ?_⟩
      · refine knuth_a (Nat.zero_le _) hXl (P := 4294967296 ^ w) (Dl := wv dv 0 w) (Xl := wv l pl w) ?_
        rw [et, eb, eh, en, ← eX, ← eD]
        exact q1
      · have k1 : (q + 1) * (ghi dv (w + 2) * 4294967296 + gnx dv (w + 2) + 1) = (q + 1) * (ghi dv (w + 2) * 4294967296 + gnx dv (w + 2)) + (q + 1) := by rw [Nat.mul_add, Nat.mul_one]
        have k2 : (q + 2) * (ghi dv (w + 2) * 4294967296 + gnx dv (w + 2)) = (q + 1) * (ghi dv (w + 2) * 4294967296 + gnx dv (w + 2)) + (ghi dv (w + 2) * 4294967296 + gnx dv (w + 2)) := by rw [show q + 2 = (q + 1) + 1 by omega, Nat.add_mul (q + 1), Nat.one_mul]
        omega
      · have k1 : (q + 1) * (ghi dv (w + 2) + 1) = (q + 1) * ghi dv (w + 2) + (q + 1) := by rw [Nat.mul_add, Nat.mul_one]
        have k2 : (q + 3) * ghi dv (w + 2) = (q + 1) * ghi dv (w + 2) + 2 * ghi dv (w + 2) := by rw [show q + 3 = (q + 1) + 2 by omega, Nat.add_mul (q + 1)]
        omega
    · obtain rfl : W = 1 := by omega
      have eD : wv dv 0 1 = ghi dv 1 := wv_one dv 0
      have eX : wv l pl (1 + 1) = gtw l pl 1 := by
        show 0 + wu (l (pl + 0)) * 1 + wu (l (pl + 1)) * 4294967296 ^ 1 = wu (l (pl + 1)) * 4294967296 + wu (l (pl + 1 - 1))
        rw [Nat.add_sub_cancel, Nat.add_zero, Nat.pow_one]
        omega
      have e1 : gnx dv 1 = 0 := rfl
      have e2 : gbl l pl 1 = 0 := rfl
      rw [eD, eX] at q1 q2
      rw [e1, e2]
      generalize gtw l pl 1 = t at *
      generalize ghi dv 1 = v at *
      have k1 : (q + 1) * v = q * v + v := by rw [Nat.add_mul, Nat.one_mul]
      have k2 : (q + 2) * (v * 4294967296 + 0) = q * v * 4294967296 + 2 * (v * 4294967296) := by rw [Nat.add_zero (v * 4294967296), Nat.add_mul, ← Nat.mul_assoc q]
      have k3 : (q + 3) * v = q * v + 3 * v := by rw [Nat.add_mul]
      have k4 : q * (v * 4294967296 + 0) = q * v * 4294967296 := by rw [Nat.add_zero (v * 4294967296), ← Nat.mul_assoc]
      rw [k2, k3, k4]
      refine ⟨by omega, by omega, by omega⟩
  obtain ⟨ma, mb, mc⟩ := main
  unfold gss
  have hvp : 0 < ghi dv W := by omega
  refine gst_range hnx ma mb hq 3 _ _ (Nat.le_refl _) ?_ ?_ ?_
  · rw [Nat.mul_comm]
    exact Nat.div_add_mod _ _
  · rw [Nat.le_div_iff_mul_le hvp]
    apply Nat.le_of_lt_succ
    apply Nat.lt_of_mul_lt_mul_right (a := 4294967296)
    have k1 : q * ghi dv W * 4294967296 ≤ q * (ghi dv W * 4294967296 + gnx dv W) := by rw [Nat.mul_assoc]; exact Nat.mul_le_mul_left _ (by omega)
    rw [Nat.succ_mul]
    exact Nat.lt_of_le_of_lt (Nat.le_trans k1 ma) (Nat.add_lt_add_left hbl _)
  · have := (Nat.div_lt_iff_lt_mul hvp).mpr mc
    omega
