/-! How long a DERIVATION's text is, and that its bytes are small -/
def lo (L : List Nat) : Prop := ∀ x, x ∈ L → x < 128
theorem lo_app {L M : List Nat} (a : lo L) (b : lo M) : lo (L ++ M) := fun x hx => by
  rcases List.mem_append.mp hx with w | w
  · exact a x w
  · exact b x w
theorem lo_nil : lo [] := fun x hx => by cases hx
theorem rdg_lo : ∀ f n, lo (rdg f n) := by
  intro f
  induction f with
  | zero => intro n; exact lo_nil
  | succ f ih =>
    intro n x hx
    change x ∈ (48 + n % 10) :: (if n / 10 = 0 then [] else rdg f (n / 10)) at hx
    rcases List.mem_cons.mp hx with w | w
    · omega
    · by_cases c : n / 10 = 0
      · rw [if_pos c] at w; cases w
      · rw [if_neg c] at w; exact ih _ x w
theorem dec_lo (n : Nat) : lo (dec n) := fun x hx => rdg_lo 80 n x (List.mem_reverse.mp hx)
theorem lo_gd {L : List Nat} (h : lo L) (i : Nat) : gd L i < 128 := by
  unfold gd
  by_cases c : i < L.length
  · rw [List.getElem?_eq_getElem c]
    exact h _ (List.getElem_mem c)
  · rw [List.getElem?_eq_none (by omega)]
    show 0 < 128
    omega
/-- small and not longer than n -/
def lon (n : Nat) (L : List Nat) : Prop := lo L ∧ L.length ≤ n
theorem lon_app {m n k : Nat} {L M : List Nat} (a : lon m L) (b : lon n M) (h : m + n ≤ k) : lon k (L ++ M) := ⟨lo_app a.1 b.1, by rw [List.length_append]; have := a.2; have := b.2; omega⟩
theorem lon_dec (n : Nat) : lon 80 (dec n) := ⟨dec_lo n, dec_len n⟩
theorem lon_mono {m n : Nat} {L : List Nat} (a : lon m L) (h : m ≤ n) : lon n L := ⟨a.1, Nat.le_trans a.2 h⟩
theorem lon_1 {a : Nat} (ha : a < 128) : lon 1 [a] := by
  refine ⟨fun x hx => ?_, Nat.le_refl _⟩
  rcases List.mem_cons.mp hx with w | w
  · omega
  · cases w
theorem lon_2 {a b : Nat} (ha : a < 128) (hb : b < 128) : lon 2 [a, b] := lon_app (L := [a]) (M := [b]) (lon_1 ha) (lon_1 hb) (Nat.le_refl _)
theorem lon_nil {n : Nat} : lon n [] := ⟨lo_nil, Nat.zero_le _⟩
theorem wkt_lon (R : LN) (A : AS) (v c : Nat) : ∀ u, lon (84 * u) (wkt R A v c u) := by
  intro u
  induction u with
  | zero => exact lon_nil
  | succ u ih =>
    show lon (84 * (u + 1)) (wkt R A v c u ++ _)
    refine lon_app (n := 84) ih ?_ (by omega)
    by_cases w : wcb R A v c (u + 1) = true
    · rw [if_pos w]
      exact lon_app (m := 82) (n := 2) (lon_app (m := 2) (n := 80) (lon_2 (by omega) (by omega)) (lon_dec _) (by omega)) (lon_2 (by omega) (by omega)) (by omega)
    · rw [if_neg w]; exact lon_nil
theorem num_lon {c k : Nat} (hk : k < 128) : lon 83 (if c = 1 then [] else [32] ++ dec c ++ [32, k]) := by
  by_cases w : c = 1
  · rw [if_pos w]; exact lon_nil
  · rw [if_neg w]
    exact lon_app (m := 81) (n := 2) (lon_app (m := 1) (n := 80) (lon_1 (by omega)) (lon_dec _) (by omega)) (lon_2 (by omega) hk) (by omega)
theorem rst_lon (V k : Nat) (R : LN) (A : AS) (v : Nat) : lon (84 * V + 166) (rst_t V k R A v) := by
  unfold rst_t
  exact lon_app (m := 84 * V + 164) (n := 2) (lon_app (m := 84 * V + 81) (n := 83) (lon_app (m := 81) (n := 84 * V) (lon_app (m := 1) (n := 80) (lon_1 (by omega)) (lon_dec _) (by omega)) (wkt_lon _ _ _ _ _) (by omega)) (num_lon (by omega)) (by omega)) (lon_2 (by omega) (by omega)) (by omega)
theorem edt_lon (m lv : Nat) : lon 88 (edt m lv) := by
  unfold edt
  refine lon_app (m := 3) (n := 85) (lon_app (L := [32, 59]) (M := [10]) (m := 2) (n := 1) (lon_2 (by omega) (by omega)) (lon_1 (by omega)) (by omega)) ?_ (by omega)
  by_cases w : lv = 0
  · rw [if_pos w]
    exact lon_app (m := 82) (n := 3) (lon_app (m := 2) (n := 80) (lon_2 (by omega) (by omega)) (lon_dec _) (by omega)) (lon_app (L := [32, 59]) (M := [10]) (m := 2) (n := 1) (lon_2 (by omega) (by omega)) (lon_1 (by omega)) (by omega)) (by omega)
  · rw [if_neg w]; exact lon_nil
section LKL
variable {V n0 : Nat} {X : Nat → LN} {T : Nat → Int} {Lv Rs : Nat → Nat} {K : LN} {P : List Nat} {r : LN × List Nat}
theorem lkR_lon {i : Nat} (hV : V ≤ 16) (hP : lon n0 P) (hK : ln_fit V K) (h : lkR V X T Rs K P i = some r) : lon (n0 + 2000) r.2 ∧ ln_fit V r.1 := by
  unfold lkR at h
  by_cases c1 : K.2 (T i).natAbs * T i < 0 ∧ Rs i ≠ 0
  · rw [if_pos c1] at h
    by_cases c2 : (K.2 (T i).natAbs).natAbs = 1 ∨ fitb V (ln_tm (rsn V (X (Rs i)) (asg T i) (T i).natAbs) (K.2 (T i).natAbs).natAbs) = true
    · rw [if_pos c2] at h
      by_cases c3 : fitb V (ln_sum V K (tmx (rsn V (X (Rs i)) (asg T i) (T i).natAbs) (K.2 (T i).natAbs).natAbs)) = true
      · rw [if_pos c3] at h
        injection h with h
        subst h
        refine ⟨?_, fit_cut (Classical.byContradiction (fun w => fitb_0 w c3))⟩
        exact lon_app (m := n0 + 1900) (n := 4) (lon_app (m := n0 + 1800) (n := 83) (lon_app (n := 84 * V + 166) hP (rst_lon _ _ _ _ _) (by omega)) (num_lon (by omega)) (by omega)) (lon_app (L := [32, 43]) (M := [32, 115]) (m := 2) (n := 2) (lon_2 (by omega) (by omega)) (lon_2 (by omega) (by omega)) (by omega)) (by omega)
      · rw [if_neg c3] at h; cases h
    · rw [if_neg c2] at h; cases h
  · rw [if_neg c1] at h
    injection h with h
    subst h
    exact ⟨lon_mono hP (by omega), hK⟩
theorem rsv_lon {lv ts : Nat} (hV : V ≤ 16) : ∀ i n0 K P, lon n0 P → ln_fit V K → ∀ r, rsv V X T Lv Rs lv ts i K P = some r → lon (n0 + 2000 * i) r.2 ∧ ln_fit V r.1 := by
  intro i
  induction i with
  | zero =>
    intro n0 K P hP hK r h
    change some (K, P) = some r at h
    injection h with h
    subst h
    exact ⟨lon_mono hP (by omega), hK⟩
  | succ i ih =>
    intro n0 K P hP hK r h
    unfold rsv at h
    by_cases c : rdy V K T Lv ts lv 0 < lv
    · rw [if_pos c] at h
      injection h with h
      subst h
      exact ⟨lon_mono hP (by omega), hK⟩
    · rw [if_neg c] at h
      cases e : lkR V X T Rs K P i with
      | none => rw [e] at h; cases h
      | some q =>
        rw [e] at h
        obtain ⟨a, b⟩ := lkR_lon hV hP hK e
        obtain ⟨a2, b2⟩ := ih (n0 + 2000) q.1 q.2 a b r h
        exact ⟨lon_mono a2 (by omega), b2⟩
end LKL
