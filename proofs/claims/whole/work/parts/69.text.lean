/-! Bytes; the reader of TOKENS -/
/-- the reader at 5; c: its bytes; s: its ints by their field -/
def cx (c : Value) (s : Nat → Int32) : pb_E := .inr (8, [c, .int (s 1), .int (s 2), .int (s 3), .int (s 4), .int (s 5), .int (s 6), .int (s 7), .int (s 8)])
set_option maxRecDepth 100000 in
theorem pb_gx : (∀ (c : Value) (s : Nat → Int32), pb_gf (cx c s) 8 0 = some (c)) ∧
  (∀ (c : Value) (s : Nat → Int32) (v : Nat), pb_pf (cx c s) 8 0 (.ref v) = some (cx (.ref v) s)) ∧
  (∀ (c : Value) (s : Nat → Int32), pb_gf (cx c s) 8 1 = some (.int (s 1))) ∧
  (∀ (c : Value) (s : Nat → Int32) (v : Int32), pb_pf (cx c s) 8 1 (.int v) = some (cx c (upd s 1 v))) ∧
  (∀ (c : Value) (s : Nat → Int32), pb_gf (cx c s) 8 2 = some (.int (s 2))) ∧
  (∀ (c : Value) (s : Nat → Int32) (v : Int32), pb_pf (cx c s) 8 2 (.int v) = some (cx c (upd s 2 v))) ∧
  (∀ (c : Value) (s : Nat → Int32), pb_gf (cx c s) 8 3 = some (.int (s 3))) ∧
  (∀ (c : Value) (s : Nat → Int32) (v : Int32), pb_pf (cx c s) 8 3 (.int v) = some (cx c (upd s 3 v))) ∧
  (∀ (c : Value) (s : Nat → Int32), pb_gf (cx c s) 8 4 = some (.int (s 4))) ∧
  (∀ (c : Value) (s : Nat → Int32) (v : Int32), pb_pf (cx c s) 8 4 (.int v) = some (cx c (upd s 4 v))) ∧
  (∀ (c : Value) (s : Nat → Int32), pb_gf (cx c s) 8 5 = some (.int (s 5))) ∧
  (∀ (c : Value) (s : Nat → Int32) (v : Int32), pb_pf (cx c s) 8 5 (.int v) = some (cx c (upd s 5 v))) ∧
  (∀ (c : Value) (s : Nat → Int32), pb_gf (cx c s) 8 6 = some (.int (s 6))) ∧
  (∀ (c : Value) (s : Nat → Int32) (v : Int32), pb_pf (cx c s) 8 6 (.int v) = some (cx c (upd s 6 v))) ∧
  (∀ (c : Value) (s : Nat → Int32), pb_gf (cx c s) 8 7 = some (.int (s 7))) ∧
  (∀ (c : Value) (s : Nat → Int32) (v : Int32), pb_pf (cx c s) 8 7 (.int v) = some (cx c (upd s 7 v))) ∧
  (∀ (c : Value) (s : Nat → Int32), pb_gf (cx c s) 8 8 = some (.int (s 8))) ∧
  (∀ (c : Value) (s : Nat → Int32) (v : Int32), pb_pf (cx c s) 8 8 (.int v) = some (cx c (upd s 8 v))) ∧
  (∀ (c : Value) (s : Nat → Int32), pb_is0 (cx c s) 8 = true) := ⟨
  fun _ _ => rfl,
  fun _ _ _ => pb_pf_eq (Nat.le_of_ble_eq_true rfl) rfl rfl,
  fun _ _ => rfl,
  fun _ _ _ => pb_pf_eq (Nat.le_of_ble_eq_true rfl) rfl rfl,
  fun _ _ => rfl,
  fun _ _ _ => pb_pf_eq (Nat.le_of_ble_eq_true rfl) rfl rfl,
  fun _ _ => rfl,
  fun _ _ _ => pb_pf_eq (Nat.le_of_ble_eq_true rfl) rfl rfl,
  fun _ _ => rfl,
  fun _ _ _ => pb_pf_eq (Nat.le_of_ble_eq_true rfl) rfl rfl,
  fun _ _ => rfl,
  fun _ _ _ => pb_pf_eq (Nat.le_of_ble_eq_true rfl) rfl rfl,
  fun _ _ => rfl,
  fun _ _ _ => pb_pf_eq (Nat.le_of_ble_eq_true rfl) rfl rfl,
  fun _ _ => rfl,
  fun _ _ _ => pb_pf_eq (Nat.le_of_ble_eq_true rfl) rfl rfl,
  fun _ _ => rfl,
  fun _ _ _ => pb_pf_eq (Nat.le_of_ble_eq_true rfl) rfl rfl,
  fun _ _ => rfl⟩
/-- a byte as it is stored -/
def sB (n : Nat) : Int32 := if n < 128 then nI n else nI n - nI 256
/-- an array of bytes -/
def cb (N : Nat) (b : Nat → Nat) : pb_E := .inl (1, N, .inl (fun k => sB (b k)))
set_option maxRecDepth 100000 in
theorem sB_255 : ∀ n, n < 256 → sB n &&& 255 = nI n := by decide
set_option maxRecDepth 100000 in
theorem i8_sB : ∀ n, n < 256 → (nI n).toInt8.toInt32 = sB n := by decide
theorem nar_byte (x : Int32) : vp_nar .byte x = sB (wu x % 256) := by
  have h1 : x.toInt8 = (nI (wu x % 256)).toInt8 := by
    apply Int8.toBitVec_inj.mp
    rw [Int32.toBitVec_toInt8, Int32.toBitVec_toInt8, BitVec.signExtend_eq_setWidth_of_le _ (by omega), BitVec.signExtend_eq_setWidth_of_le _ (by omega)]
    apply BitVec.eq_of_toNat_eq
    rw [BitVec.toNat_setWidth, BitVec.toNat_setWidth]
    show wu x % 2 ^ 8 = wu (nI (wu x % 256)) % 2 ^ 8
    rw [wu_nI]
    omega
  have h2 := i8_sB (wu x % 256) (Nat.mod_lt _ (by omega))
  rw [← h1] at h2
  exact h2
theorem cb_get {N j : Nat} {b : Nat → Nat} (h : j < N) (hN : N < 2 ^ 31) : pb_ab (cb N b) (nI j) = some (sB (b j)) := by
  have h1 : ¬ (nI j < 0 ∨ N ≤ (nI j).toNatClampNeg) := nI_in h hN
  have h2 : (nI j).toNatClampNeg = j := nI_clamp (by omega)
  show (if _ then _ else _) = _
  rw [if_pos ⟨rfl, h1⟩, h2]
theorem cb_set {N j : Nat} {b : Nat → Nat} {x : Int32} (h : j < N) (hN : N < 2 ^ 31) : pb_sb (cb N b) (nI j) x = some (cb N (un b j (wu x % 256))) := by
  have h1 : ¬ (nI j < 0 ∨ N ≤ (nI j).toNatClampNeg) := nI_in h hN
  have h2 : (nI j).toNatClampNeg = j := nI_clamp (by omega)
  show (if _ then _ else _) = _
  rw [if_pos ⟨rfl, h1⟩, h2, nar_byte]
  unfold cb
  congr 5
  funext i
  unfold upd un
  split <;> rfl
/-- the byte at i, 256 beyond the end -/
def sb (b : Nat → Nat) (n i : Nat) : Nat := if i < n then b i else 256
abbrev dgt (x : Nat) : Prop := 48 ≤ x ∧ x ≤ 57
abbrev blk (x : Nat) : Prop := x = 32 ∨ x = 10 ∨ x = 9
abbrev prt (x : Nat) : Prop := 32 ≤ x ∧ x ≤ 126
abbrev sow (x : Nat) : Prop := x = 42 ∨ x = 43 ∨ x = 45 ∨ x = 59 ∨ x = 61 ∨ x = 99 ∨ x = 100 ∨ x = 112 ∨ x = 115 ∨ x = 117 ∨ x = 119
/-- behind blanks and notes -/
def skp (b : Nat → Nat) : Nat → Nat → Bool → Nat
  | 0, i, _ => i
  | f + 1, i, nt => if b i = 35 then skp b f (i + 1) true else if blk (b i) ∨ (nt = true ∧ prt (b i)) then skp b f (i + 1) (nt && decide (b i ≠ 10)) else i
theorem skp_le (b : Nat → Nat) : ∀ f i nt, skp b f i nt ≤ i + f
  | 0, i, _ => Nat.le_refl _
  | f + 1, i, nt => by
    unfold skp
    split
    · have := skp_le b f (i + 1) true; omega
    · split
      · have := skp_le b f (i + 1) (nt && decide (b i ≠ 10)); omega
      · omega
theorem skp_ge (b : Nat → Nat) : ∀ f i nt, i ≤ skp b f i nt
  | 0, i, _ => Nat.le_refl _
  | f + 1, i, nt => by
    unfold skp
    split
    · have := skp_ge b f (i + 1) true; omega
    · split
      · have := skp_ge b f (i + 1) (nt && decide (b i ≠ 10)); omega
      · omega
def den (b : Nat → Nat) : Nat → Nat → Nat
  | 0, i => i
  | f + 1, i => if dgt (b i) then den b f (i + 1) else i
theorem den_le (b : Nat → Nat) : ∀ f i, den b f i ≤ i + f ∧ i ≤ den b f i
  | 0, i => ⟨Nat.le_refl _, Nat.le_refl _⟩
  | f + 1, i => by
    unfold den
    split
    · have := den_le b f (i + 1); omega
    · omega
theorem den_dgt (b : Nat → Nat) : ∀ f i k, i ≤ k → k < den b f i → dgt (b k)
  | 0, i, k, h1, h2 => by
    have : den b 0 i = i := rfl
    omega
  | f + 1, i, k, h1, h2 => by
    unfold den at h2
    split at h2
    · rename_i c
      by_cases e : k = i
      · rw [e]; exact c
      · exact den_dgt b f (i + 1) k (by omega) h2
    · omega
/-- where a literal's digits begin -/
def tkd (b : Nat → Nat) (st : Nat) : Nat := if b st = 120 then st + 1 else st + 2
/-- the TOKEN's kind at st -/
def tkk (b : Nat → Nat) (n st : Nat) : Nat :=
  if n ≤ st then 0 else if dgt (b st) then (if den b (n - (st + 1)) (st + 1) - st ≤ 60 then 48 else 1)
  else if b st = 120 then (if dgt (sb b n (st + 1)) then 120 else 1)
  else if b st = 126 ∧ sb b n (st + 1) = 120 then (if dgt (sb b n (st + 2)) then 120 else 1)
  else if b st = 62 ∨ b st = 60 then (if sb b n (st + 1) = 61 then b st else 1)
  else if sow (b st) then b st else 1
/-- its end -/
def tke (b : Nat → Nat) (n st : Nat) : Nat :=
  if n ≤ st then st else if dgt (b st) then den b (n - (st + 1)) (st + 1)
  else if b st = 120 then (if dgt (sb b n (st + 1)) then (if dgt (sb b n (st + 2)) then st + 3 else st + 2) else st + 1)
  else if b st = 126 ∧ sb b n (st + 1) = 120 then (if dgt (sb b n (st + 2)) then (if dgt (sb b n (st + 3)) then st + 4 else st + 3) else st + 1)
  else if b st = 62 ∨ b st = 60 then st + 2
  else st + 1
/-- its VARIABLE -/
def tkw (b : Nat → Nat) (n st : Nat) : Nat := if dgt (sb b n (tkd b st + 1)) then (b (tkd b st) - 48) * 10 + (b (tkd b st + 1) - 48) else b (tkd b st) - 48
theorem bA_dgt {b : Nat → Nat} {n i : Nat} (h : dgt (sb b n i)) : i < n ∧ sb b n i = b i := by
  unfold sb at h ⊢
  by_cases c : i < n
  · rw [if_pos c]; exact ⟨c, rfl⟩
  · rw [if_neg c] at h; omega
