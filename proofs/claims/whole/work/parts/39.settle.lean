/-! Line: topIsEmpty, settle, copyFrom. -/
/-- every eighth word from x on is 0 -/
def te (f : Nat → Int32) (N : Nat) : Nat → Nat → Bool
  | 0, _ => true
  | m + 1, x => if N ≤ x then true else if f x = 0 then te f N m (x + 8) else false
theorem te_spec (f : Nat → Int32) (N : Nat) : ∀ m x, N ≤ x + 8 * m → (te f N m x = true ↔ ∀ k, x + 8 * k < N → f (x + 8 * k) = 0)
  | 0, x, h => by
    constructor
    · intro _ k hk; omega
    · intro _; rfl
  | m + 1, x, h => by
    have h1 := te_spec f N m (x + 8) (by omega)
    unfold te
    by_cases c1 : N ≤ x
    · rw [if_pos c1]
      exact ⟨fun _ k hk => by omega, fun _ => rfl⟩
    · rw [if_neg c1]
      by_cases c2 : f x = 0
      · rw [if_pos c2, h1]
        constructor
        · intro q k hk
          cases k with
          | zero => exact c2
          | succ k => rw [show x + 8 * (k + 1) = x + 8 + 8 * k by omega]; exact q k (by omega)
        · intro q k hk
          rw [show x + 8 + 8 * k = x + 8 * (k + 1) by omega]
          exact q (k + 1) (by omega)
      · rw [if_neg c2]
        constructor
        · intro q; cases q
        · intro q; exact absurd (q 0 (by omega)) c2
theorem m38_loop {h : pb_H} {Q : Option Value → pb_H → Prop} {a w N : Nat} {V p n wi so ca cf co : Int32} {f : Nat → Int32} (ha : h.2 a = cl V w p n wi so ca cf co) (hw : h.2 w = ci N f) (hN : N < 1000000) :
    ∀ m x, N ≤ x + 8 * m → x < N + 8 → (pb_R 38 7 [some (.ref a), some (.int (nI x))] [] [] h Q ↔ Q (some (.int (if te f N m x = true then 1 else 0))) h) := by
  have hal : pb_al2 (ci N f) = some N := rfl
  have hc : ∀ x, x < N + 8 → (Int32.ofNat N ≤ nI x ↔ N ≤ x) := fun x hx => nI_leI (by omega) (by omega)
  intro m
  induction m with
  | zero =>
    intro x hx hx2
    rw [pb_q38_7]
    simp only [pb_e38, ha, pb_g4, pb_o_some, hw, hal, hc x hx2, if_pos (show N ≤ x by omega), nb1, true_and]
    exact Iff.rfl
  | succ m ih =>
    intro x hx hx2
    rw [pb_q38_7]
    unfold te
    by_cases c1 : N ≤ x
    · simp only [pb_e38, ha, pb_g4, pb_o_some, hw, hal, hc x hx2, if_pos c1, nb1, true_and, if_true]
    · have hA : pb_ai (ci N f) (nI x) = some (f x) := pb_ai_eq (Or.inl rfl) (by omega) (by omega)
      by_cases c2 : f x = 0
      · have e8 : nI x + 8 = nI (x + 8) := nI_add x 8
        simp only [pb_e38, ha, pb_g4, pb_o_some, hw, hal, hc x hx2, if_neg c1, hA, if_pos c2, e8]
        exact ih (x + 8) (by omega) (by omega)
      · simp only [pb_e38, ha, pb_g4, pb_o_some, hw, hal, hc x hx2, if_neg c1, hA, if_neg c2, nb0, true_and, Bool.false_eq_true, if_false]
/-- Line.topIsEmpty -/
theorem m38 {h : pb_H} {Q : Option Value → pb_H → Prop} {a w N b : Nat} {V p n so ca cf co : Int32} {f : Nat → Int32} (ha : h.2 a = cl V w p n (nI (b + 1)) so ca cf co) (hw : h.2 w = ci N f) (hN : N < 1000000) (hb : b < N + 8) : pb_call 38 [.ref a] h Q ↔ Q (some (.int (if te f N N b = true then 1 else 0))) h := by
  rw [pb_c38]
  simp only [pb_e38, ha, pb_g4, pb_o_some, nI_pred]
  exact m38_loop ha hw hN N b (by omega) hb
def stl (f : Nat → Int32) (N : Nat) : Nat → Nat
  | 0 => 0
  | b + 1 => if te f N N b = true then stl f N b else b + 1
theorem stl_le (f : Nat → Int32) (N : Nat) : ∀ b, stl f N b ≤ b
  | 0 => Nat.le_refl _
  | b + 1 => by
    have := stl_le f N b
    unfold stl
    split <;> omega
theorem stl_zero (f : Nat → Int32) (N : Nat) : ∀ b j k, stl f N b ≤ j → j < b → j + 8 * k < N → f (j + 8 * k) = 0
  | 0, _, _, _, h, _ => by omega
  | b + 1, j, k, h1, h2, h3 => by
    unfold stl at h1
    split at h1
    · rename_i ht
      by_cases hj : j = b
      · rw [hj] at h3 ⊢
        exact (te_spec f N N b (by omega)).mp ht k h3
      · exact stl_zero f N b j k h1 (by omega) h3
    · omega
theorem m39_loop {H : pb_H} {Q : Option Value → pb_H → Prop} {a w N : Nat} {V p n so cf co : Int32} {f : Nat → Int32} {l1 : Option Value} (hwa : w ≠ a) (hw : H.2 w = ci N f) (hN : N < 1000000) :
    ∀ b, b < N + 8 → (pb_R 39 10 [some (.ref a), l1] [] [] (pb_set H a (cl V w p n (nI b) so 0 cf co)) Q ↔ Q none (pb_set H a (cl V w p n (nI (stl f N b)) so 0 cf co))) := by
  intro b
  induction b with
  | zero =>
    intro _
    rw [pb_q39_10]
    simp only [pb_e39, pb_set_get, eq_self, if_true, pb_g4, pb_o_some, if_pos (show nI 0 ≤ 0 by decide)]
    exact Iff.rfl
  | succ b ih =>
    intro hb
    have hA : (pb_set H a (cl V w p n (nI (b + 1)) so 0 cf co)).2 a = cl V w p n (nI (b + 1)) so 0 cf co := by rw [pb_set_get, if_pos rfl]
    have hW : (pb_set H a (cl V w p n (nI (b + 1)) so 0 cf co)).2 w = ci N f := by rw [pb_set_get, if_neg hwa, hw]
    rw [pb_q39_10]
    unfold stl
    by_cases c : te f N N b = true
    · have e1 : ¬ (1 : Int32) = 0 := by decide
      simp only [pb_e39, hA, pb_g4, pb_o_some, if_neg (nI_nle (n := b + 1) (by omega) (by omega)), true_and, m38 hA hW hN (by omega), if_pos c, Option.toList_some, List.singleton_append, e1, if_false, nI_pred, pb_set_same]
      exact ih (by omega)
    · simp only [pb_e39, hA, pb_g4, pb_o_some, if_neg (nI_nle (n := b + 1) (by omega) (by omega)), true_and, m38 hA hW hN (by omega), if_neg c, Option.toList_some, List.singleton_append, eq_self, if_true]
/-- Line.settle -/
theorem m39 {h : pb_H} {Q : Option Value → pb_H → Prop} {a w N b : Nat} {V p n wi so ca cf co : Int32} {f : Nat → Int32} (ha : h.2 a = cl V w p n wi so ca cf co) (hw : h.2 w = ci N f) (hN : N < 1000000) (hb : b < N + 8) : pb_call 39 [.ref a, .int (nI b)] h Q ↔ Q none (pb_set h a (cl V w p n (nI (stl f N b)) so 0 cf co)) := by
  have hwa : w ≠ a := fun e => by rw [e, ha] at hw; cases hw
  rw [pb_c39]
  simp only [pb_e39, ha, pb_g4, pb_o_some, pb_set_get, eq_self, if_true, pb_set_same]
  exact m39_loop hwa hw hN b hb
/-- Line.copyFrom -/
theorem m48 {h : pb_H} {Q : Option Value → pb_H → Prop} {a b w u N : Nat} {V p n wi so ca cf co V2 p2 n2 wi2 so2 ca2 cf2 co2 : Int32} {f g : Nat → Int32} (hab : b ≠ a) (ha : h.2 a = cl V w p n wi so ca cf co) (hb : h.2 b = cl V2 u p2 n2 wi2 so2 ca2 cf2 co2) (hw : h.2 w = ci N f) (hu : h.2 u = ci N g) (hN : N < 1000000) :
    pb_call 48 [.ref a, .ref b] h Q ↔ Q none (pb_set (pb_set h w (ci N (va_cpy g f 0 0 N))) a (cl V w p2 n2 wi2 so 0 cf co)) := by
  have hwa : a ≠ w := fun e => by rw [← e, ha] at hw; cases hw
  have hwb : b ≠ w := fun e => by rw [← e, hb] at hw; cases hw
  have hal : ∀ z, pb_al2 (ci N z) = some N := fun _ => rfl
  have hmin : (if Int32.ofNat N < Int32.ofNat N then Int32.ofNat N else Int32.ofNat N) = nI N := by split <;> rfl
  have hcp : pb_cp (ci N g) (ci N f) 0 0 (nI N) = some (ci N (va_cpy g f 0 0 N)) := pb_cp_eq (sp := 0) (dp := 0) (by omega) (by omega) (by omega) (by omega)
  rw [pb_c48]
  simp only [pb_e48, ha, hb, pb_g4, pb_o_some, hw, hu, hal, hmin, hcp, pb_set_get, hwa, hwb, hab, if_false, eq_self, if_true, pb_set_same]
