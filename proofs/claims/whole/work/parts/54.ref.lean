/-! The reference: its object, its arrays at their places, its numbers of 20 limbs. -/
/-- the object at 65; s: its ints by their field -/
def rm (s : Nat → Int32) : pb_E := .inr (12, [.ref 66, .ref 67, .ref 68, .int (s 3), .int (s 4), .int (s 5), .ref 69, .int (s 7), .int (s 8), .int (s 9), .ref 70, .ref 71, .ref 72, .ref 73, .int (s 14), .int (s 15), .int (s 16), .int (s 17), .int (s 18), .int (s 19), .int (s 20), .ref 74, .int (s 22), .int (s 23), .int (s 24), .int (s 25), .int (s 26), .int (s 27), .ref 75, .ref 76, .ref 77, .ref 78, .ref 79, .ref 80, .int (s 34), .int (s 35), .ref 81, .ref 82])
set_option maxRecDepth 100000 in
theorem pb_gr : (∀ s : Nat → Int32, pb_gf (rm s) 12 0 = some (.ref 66)) ∧
  (∀ s : Nat → Int32, pb_gf (rm s) 12 1 = some (.ref 67)) ∧
  (∀ s : Nat → Int32, pb_gf (rm s) 12 2 = some (.ref 68)) ∧
  (∀ s : Nat → Int32, pb_gf (rm s) 12 3 = some (.int (s 3))) ∧
  (∀ (s : Nat → Int32) (v : Int32), pb_pf (rm s) 12 3 (.int v) = some (rm (upd s 3 v))) ∧
  (∀ s : Nat → Int32, pb_gf (rm s) 12 4 = some (.int (s 4))) ∧
  (∀ (s : Nat → Int32) (v : Int32), pb_pf (rm s) 12 4 (.int v) = some (rm (upd s 4 v))) ∧
  (∀ s : Nat → Int32, pb_gf (rm s) 12 5 = some (.int (s 5))) ∧
  (∀ (s : Nat → Int32) (v : Int32), pb_pf (rm s) 12 5 (.int v) = some (rm (upd s 5 v))) ∧
  (∀ s : Nat → Int32, pb_gf (rm s) 12 6 = some (.ref 69)) ∧
  (∀ s : Nat → Int32, pb_gf (rm s) 12 7 = some (.int (s 7))) ∧
  (∀ (s : Nat → Int32) (v : Int32), pb_pf (rm s) 12 7 (.int v) = some (rm (upd s 7 v))) ∧
  (∀ s : Nat → Int32, pb_gf (rm s) 12 8 = some (.int (s 8))) ∧
  (∀ (s : Nat → Int32) (v : Int32), pb_pf (rm s) 12 8 (.int v) = some (rm (upd s 8 v))) ∧
  (∀ s : Nat → Int32, pb_gf (rm s) 12 9 = some (.int (s 9))) ∧
  (∀ (s : Nat → Int32) (v : Int32), pb_pf (rm s) 12 9 (.int v) = some (rm (upd s 9 v))) ∧
  (∀ s : Nat → Int32, pb_gf (rm s) 12 10 = some (.ref 70)) ∧
  (∀ s : Nat → Int32, pb_gf (rm s) 12 11 = some (.ref 71)) ∧
  (∀ s : Nat → Int32, pb_gf (rm s) 12 12 = some (.ref 72)) ∧
  (∀ s : Nat → Int32, pb_gf (rm s) 12 13 = some (.ref 73)) ∧
  (∀ s : Nat → Int32, pb_gf (rm s) 12 14 = some (.int (s 14))) ∧
  (∀ s : Nat → Int32, pb_pf (rm s) 12 14 (.int 0) = some (rm (upd s 14 0))) ∧
  (∀ s : Nat → Int32, pb_pf (rm s) 12 14 (.int 1) = some (rm (upd s 14 1))) ∧
  (∀ s : Nat → Int32, pb_gf (rm s) 12 15 = some (.int (s 15))) ∧
  (∀ (s : Nat → Int32) (v : Int32), pb_pf (rm s) 12 15 (.int v) = some (rm (upd s 15 v))) ∧
  (∀ s : Nat → Int32, pb_gf (rm s) 12 16 = some (.int (s 16))) ∧
  (∀ (s : Nat → Int32) (v : Int32), pb_pf (rm s) 12 16 (.int v) = some (rm (upd s 16 v))) ∧
  (∀ s : Nat → Int32, pb_gf (rm s) 12 17 = some (.int (s 17))) ∧
  (∀ (s : Nat → Int32) (v : Int32), pb_pf (rm s) 12 17 (.int v) = some (rm (upd s 17 v))) ∧
  (∀ s : Nat → Int32, pb_gf (rm s) 12 18 = some (.int (s 18))) ∧
  (∀ (s : Nat → Int32) (v : Int32), pb_pf (rm s) 12 18 (.int v) = some (rm (upd s 18 v))) ∧
  (∀ s : Nat → Int32, pb_gf (rm s) 12 19 = some (.int (s 19))) ∧
  (∀ s : Nat → Int32, pb_pf (rm s) 12 19 (.int 0) = some (rm (upd s 19 0))) ∧
  (∀ s : Nat → Int32, pb_pf (rm s) 12 19 (.int 1) = some (rm (upd s 19 1))) ∧
  (∀ s : Nat → Int32, pb_gf (rm s) 12 20 = some (.int (s 20))) ∧
  (∀ (s : Nat → Int32) (v : Int32), pb_pf (rm s) 12 20 (.int v) = some (rm (upd s 20 v))) ∧
  (∀ s : Nat → Int32, pb_gf (rm s) 12 21 = some (.ref 74)) ∧
  (∀ s : Nat → Int32, pb_gf (rm s) 12 22 = some (.int (s 22))) ∧
  (∀ (s : Nat → Int32) (v : Int32), pb_pf (rm s) 12 22 (.int v) = some (rm (upd s 22 v))) ∧
  (∀ s : Nat → Int32, pb_gf (rm s) 12 23 = some (.int (s 23))) ∧
  (∀ (s : Nat → Int32) (v : Int32), pb_pf (rm s) 12 23 (.int v) = some (rm (upd s 23 v))) ∧
  (∀ s : Nat → Int32, pb_gf (rm s) 12 24 = some (.int (s 24))) ∧
  (∀ (s : Nat → Int32) (v : Int32), pb_pf (rm s) 12 24 (.int v) = some (rm (upd s 24 v))) ∧
  (∀ s : Nat → Int32, pb_gf (rm s) 12 25 = some (.int (s 25))) ∧
  (∀ (s : Nat → Int32) (v : Int32), pb_pf (rm s) 12 25 (.int v) = some (rm (upd s 25 v))) ∧
  (∀ s : Nat → Int32, pb_gf (rm s) 12 26 = some (.int (s 26))) ∧
  (∀ (s : Nat → Int32) (v : Int32), pb_pf (rm s) 12 26 (.int v) = some (rm (upd s 26 v))) ∧
  (∀ s : Nat → Int32, pb_gf (rm s) 12 27 = some (.int (s 27))) ∧
  (∀ (s : Nat → Int32) (v : Int32), pb_pf (rm s) 12 27 (.int v) = some (rm (upd s 27 v))) ∧
  (∀ s : Nat → Int32, pb_gf (rm s) 12 28 = some (.ref 75)) ∧
  (∀ s : Nat → Int32, pb_gf (rm s) 12 29 = some (.ref 76)) ∧
  (∀ s : Nat → Int32, pb_gf (rm s) 12 30 = some (.ref 77)) ∧
  (∀ s : Nat → Int32, pb_gf (rm s) 12 31 = some (.ref 78)) ∧
  (∀ s : Nat → Int32, pb_gf (rm s) 12 32 = some (.ref 79)) ∧
  (∀ s : Nat → Int32, pb_gf (rm s) 12 33 = some (.ref 80)) ∧
  (∀ s : Nat → Int32, pb_gf (rm s) 12 34 = some (.int (s 34))) ∧
  (∀ (s : Nat → Int32) (v : Int32), pb_pf (rm s) 12 34 (.int v) = some (rm (upd s 34 v))) ∧
  (∀ s : Nat → Int32, pb_gf (rm s) 12 35 = some (.int (s 35))) ∧
  (∀ (s : Nat → Int32) (v : Int32), pb_pf (rm s) 12 35 (.int v) = some (rm (upd s 35 v))) ∧
  (∀ s : Nat → Int32, pb_gf (rm s) 12 36 = some (.ref 81)) ∧
  (∀ s : Nat → Int32, pb_gf (rm s) 12 37 = some (.ref 82)) ∧
  (∀ s : Nat → Int32, pb_is0 (rm s) 12 = true) := ⟨
  fun _ => rfl,
  fun _ => rfl,
  fun _ => rfl,
  fun _ => rfl,
  fun _ _ => pb_pf_eq (Nat.le_of_ble_eq_true rfl) rfl rfl,
  fun _ => rfl,
  fun _ _ => pb_pf_eq (Nat.le_of_ble_eq_true rfl) rfl rfl,
  fun _ => rfl,
  fun _ _ => pb_pf_eq (Nat.le_of_ble_eq_true rfl) rfl rfl,
  fun _ => rfl,
  fun _ => rfl,
  fun _ _ => pb_pf_eq (Nat.le_of_ble_eq_true rfl) rfl rfl,
  fun _ => rfl,
  fun _ _ => pb_pf_eq (Nat.le_of_ble_eq_true rfl) rfl rfl,
  fun _ => rfl,
  fun _ _ => pb_pf_eq (Nat.le_of_ble_eq_true rfl) rfl rfl,
  fun _ => rfl,
  fun _ => rfl,
  fun _ => rfl,
  fun _ => rfl,
  fun _ => rfl,
  fun _ => pb_pf_eq (Nat.le_of_ble_eq_true rfl) rfl rfl,
  fun _ => pb_pf_eq (Nat.le_of_ble_eq_true rfl) rfl rfl,
  fun _ => rfl,
  fun _ _ => pb_pf_eq (Nat.le_of_ble_eq_true rfl) rfl rfl,
  fun _ => rfl,
  fun _ _ => pb_pf_eq (Nat.le_of_ble_eq_true rfl) rfl rfl,
  fun _ => rfl,
  fun _ _ => pb_pf_eq (Nat.le_of_ble_eq_true rfl) rfl rfl,
  fun _ => rfl,
  fun _ _ => pb_pf_eq (Nat.le_of_ble_eq_true rfl) rfl rfl,
  fun _ => rfl,
  fun _ => pb_pf_eq (Nat.le_of_ble_eq_true rfl) rfl rfl,
  fun _ => pb_pf_eq (Nat.le_of_ble_eq_true rfl) rfl rfl,
  fun _ => rfl,
  fun _ _ => pb_pf_eq (Nat.le_of_ble_eq_true rfl) rfl rfl,
  fun _ => rfl,
  fun _ => rfl,
  fun _ _ => pb_pf_eq (Nat.le_of_ble_eq_true rfl) rfl rfl,
  fun _ => rfl,
  fun _ _ => pb_pf_eq (Nat.le_of_ble_eq_true rfl) rfl rfl,
  fun _ => rfl,
  fun _ _ => pb_pf_eq (Nat.le_of_ble_eq_true rfl) rfl rfl,
  fun _ => rfl,
  fun _ _ => pb_pf_eq (Nat.le_of_ble_eq_true rfl) rfl rfl,
  fun _ => rfl,
  fun _ _ => pb_pf_eq (Nat.le_of_ble_eq_true rfl) rfl rfl,
  fun _ => rfl,
  fun _ _ => pb_pf_eq (Nat.le_of_ble_eq_true rfl) rfl rfl,
  fun _ => rfl,
  fun _ => rfl,
  fun _ => rfl,
  fun _ => rfl,
  fun _ => rfl,
  fun _ => rfl,
  fun _ => rfl,
  fun _ _ => pb_pf_eq (Nat.le_of_ble_eq_true rfl) rfl rfl,
  fun _ => rfl,
  fun _ _ => pb_pf_eq (Nat.le_of_ble_eq_true rfl) rfl rfl,
  fun _ => rfl,
  fun _ => rfl,
  fun _ => rfl⟩
theorem rm_sz (s t : Nat → Int32) : pb_sz (rm s) = pb_sz (rm t) := rfl
/-- the numbers' array, limbs below 65536 -/
def cN (G : Nat → Nat) : pb_E := ci 123420 (fun k => nI (G k))
def un (G : Nat → Nat) (k x : Nat) : Nat → Nat := fun i => if i = k then x else G i
theorem un_same (G : Nat → Nat) (k x : Nat) : un G k x k = x := if_pos rfl
theorem un_ne (G : Nat → Nat) {k x i : Nat} (h : i ≠ k) : un G k x i = G i := if_neg h
def RB (G : Nat → Nat) : Prop := ∀ k, G k < 65536
theorem RB_un {G : Nat → Nat} {k x : Nat} (h : RB G) (hx : x < 65536) : RB (un G k x) := by
  intro i
  unfold un
  split
  · exact hx
  · exact h i
theorem cN_get {G : Nat → Nat} {j : Nat} (h : j < 123420) : pb_ai (cN G) (nI j) = some (nI (G j)) := pb_ai_eq (Or.inl rfl) h (by omega)
theorem cN_set {G : Nat → Nat} {j x : Nat} (h : j < 123420) : pb_si (cN G) (nI j) (nI x) = some (cN (un G j x)) := by
  unfold cN
  rw [pb_si_eq h (by omega)]
  congr 5
  funext i
  unfold upd un
  split <;> rfl
theorem cN_sz (G H : Nat → Nat) : pb_sz (cN G) = pb_sz (cN H) := rfl
/-- n limbs from o on -/
def rn (G : Nat → Nat) (o : Nat) : Nat → Nat
  | 0 => 0
  | n + 1 => rn G o n + G (o + n) * 65536 ^ n
theorem rn_lt {G : Nat → Nat} (h : RB G) (o : Nat) : ∀ n, rn G o n < 65536 ^ n
  | 0 => by show 0 < 1; omega
  | n + 1 => by
    have h1 := rn_lt h o n
    have h2 := h (o + n)
    show rn G o n + G (o + n) * 65536 ^ n < 65536 ^ n * 65536
    have h3 : G (o + n) * 65536 ^ n ≤ 65535 * 65536 ^ n := Nat.mul_le_mul_right _ (by omega)
    rw [Nat.mul_comm (65536 ^ n)]
    generalize 65536 ^ n = P at *
    omega
theorem rn_congr {G H : Nat → Nat} {o p : Nat} : ∀ {n : Nat}, (∀ i, i < n → G (o + i) = H (p + i)) → rn G o n = rn H p n
  | 0, _ => rfl
  | n + 1, h => by
    show rn G o n + G (o + n) * 65536 ^ n = rn H p n + H (p + n) * 65536 ^ n
    rw [rn_congr (fun i hi => h i (by omega)), h n (by omega)]
theorem rn_zero {G : Nat → Nat} {o : Nat} : ∀ {n : Nat}, rn G o n = 0 → ∀ i, i < n → G (o + i) = 0
  | 0, _, i, hi => by omega
  | n + 1, h, i, hi => by
    have h' : rn G o n + G (o + n) * 65536 ^ n = 0 := h
    have hP : 0 < 65536 ^ n := Nat.pow_pos (by omega)
    by_cases e : i = n
    · subst e
      rcases Nat.eq_zero_or_pos (G (o + i)) with q | q
      · exact q
      · have := Nat.mul_le_mul_right (65536 ^ i) q
        rw [Nat.one_mul] at this
        omega
    · exact rn_zero (n := n) (by omega) i (by omega)
theorem rn_of_zero {G : Nat → Nat} {o : Nat} : ∀ {n : Nat}, (∀ i, i < n → G (o + i) = 0) → rn G o n = 0
  | 0, _ => rfl
  | n + 1, h => by
    show rn G o n + G (o + n) * 65536 ^ n = 0
    rw [rn_of_zero (fun i hi => h i (by omega)), h n (by omega), Nat.zero_mul]
theorem rn_split (G : Nat → Nat) (o m : Nat) : ∀ n, rn G o (m + n) = rn G o m + 65536 ^ m * rn G (o + m) n
  | 0 => by show rn G o m = rn G o m + 65536 ^ m * 0; rw [Nat.mul_zero, Nat.add_zero]
  | n + 1 => by
    show rn G o (m + n) + G (o + (m + n)) * 65536 ^ (m + n) = rn G o m + 65536 ^ m * (rn G (o + m) n + G (o + m + n) * 65536 ^ n)
    rw [rn_split G o m n, Nat.mul_add, Nat.pow_add, show o + (m + n) = o + m + n by omega, Nat.mul_left_comm (G (o + m + n))]
    omega
theorem rn_cut {G : Nat → Nat} {o k n : Nat} (hk : k ≤ n) (h : ∀ i, k ≤ i → i < n → G (o + i) = 0) : rn G o n = rn G o k := by
  obtain ⟨c, rfl⟩ : ∃ c, n = k + c := ⟨n - k, by omega⟩
  rw [rn_split, rn_of_zero (o := o + k) (fun i hi => by rw [show o + k + i = o + (k + i) by omega]; exact h _ (by omega) (by omega)), Nat.mul_zero, Nat.add_zero]
/-- nothing but the block has changed -/
def bo (o n : Nat) (G G' : Nat → Nat) : Prop := ∀ k, k < o ∨ o + n ≤ k → G' k = G k
theorem bo_refl (o n : Nat) (G : Nat → Nat) : bo o n G G := fun _ _ => rfl
theorem bo_trans {o n : Nat} {G G' G'' : Nat → Nat} (a : bo o n G G') (b : bo o n G' G'') : bo o n G G'' := fun k hk => (b k hk).trans (a k hk)
theorem bo_rn {o n p m : Nat} {G G' : Nat → Nat} (h : bo o n G G') (hd : p + m ≤ o ∨ o + n ≤ p) : rn G' p m = rn G p m := rn_congr (fun i hi => h _ (by omega))
theorem bo_un {o n : Nat} {G : Nat → Nat} {k x : Nat} (h1 : o ≤ k) (h2 : k < o + n) : bo o n G (un G k x) := fun i hi => un_ne G (by omega)
theorem nI20 : (20 : Int32) = nI 20 := rfl
theorem sh16 {n : Nat} (h : n < 2 ^ 31) : nI n >>> ((16 : Int32) &&& 31) = nI (n / 65536) := pk_shrN h _ 16 (by decide)
theorem an16 {n : Nat} (h : n < 2 ^ 32) : nI n &&& 65535 = nI (n % 65536) := pk_andN h 16 (by decide)
