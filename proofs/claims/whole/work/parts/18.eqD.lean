/-! 150: PlaneBenchModel.compare(II)I -/
theorem pb_u_150 : pb_t 150 = pb_t150 := rfl
theorem pb_ci_150 : pb_ci 150 = 12 := by decide +kernel
set_option maxRecDepth 100000 in
theorem pb_q150_3 (l0 l1 l2 : Option Value) (st : List Value) (h : pb_H) (Q : Option Value → pb_H → Prop) (x : Int32) : pb_R 150 3 [l0, l1, l2, some (.int x)] [] st h Q ↔ pb_R 150 4 [l0, l1, l2, some (.int x)] [] (.int x :: st) h Q := pf_S pb_u_150 rfl rfl
set_option maxRecDepth 100000 in
theorem pb_e150 : (∀ (L : pb_L) (J : pb_J) (st : List Value) (h : pb_H) (Q : Option Value → pb_H → Prop), pb_R 150 0 L J st h Q ↔ pb_R 150 2 L J (.int (19 : Int32) :: st) h Q) ∧
  (∀ (l0 l1 l2 l3 : Option Value) (st : List Value) (h : pb_H) (Q : Option Value → pb_H → Prop) (x : Int32), pb_R 150 2 [l0, l1, l2, l3] [] (.int x :: st) h Q ↔ pb_R 150 3 [l0, l1, l2, some (.int x)] [] st h Q) ∧
  (∀ (L : pb_L) (J : pb_J) (st : List Value) (h : pb_H) (Q : Option Value → pb_H → Prop) (x : Int32), pb_R 150 4 L J (.int x :: st) h Q ↔ if x < 0 then pb_R 150 57 L J st h Q else pb_R 150 7 L J st h Q) ∧
  (∀ (l1 l2 l3 : Option Value) (st : List Value) (h : pb_H) (Q : Option Value → pb_H → Prop) (x : Nat), pb_R 150 7 [some (.ref x), l1, l2, l3] [] st h Q ↔ pb_R 150 8 [some (.ref x), l1, l2, l3] [] (.ref x :: st) h Q) ∧
  (∀ (l1 l2 l3 : Option Value) (st : List Value) (h : pb_H) (Q : Option Value → pb_H → Prop), pb_R 150 7 [some .null, l1, l2, l3] [] st h Q ↔ pb_R 150 8 [some .null, l1, l2, l3] [] (.null :: st) h Q) ∧
  (∀ (L : pb_L) (J : pb_J) (st : List Value) (h : pb_H) (Q : Option Value → pb_H → Prop) (a : Nat), pb_R 150 8 L J (.ref a :: st) h Q ↔ pb_o (pb_gf (h.2 a) 12 0) (fun v => pb_R 150 11 L J (v :: st) h Q)) ∧
  (∀ (l0 l2 l3 : Option Value) (st : List Value) (h : pb_H) (Q : Option Value → pb_H → Prop) (x : Int32), pb_R 150 11 [l0, some (.int x), l2, l3] [] st h Q ↔ pb_R 150 12 [l0, some (.int x), l2, l3] [] (.int x :: st) h Q) ∧
  (∀ (l0 l1 l2 : Option Value) (st : List Value) (h : pb_H) (Q : Option Value → pb_H → Prop) (x : Int32), pb_R 150 12 [l0, l1, l2, some (.int x)] [] st h Q ↔ pb_R 150 13 [l0, l1, l2, some (.int x)] [] (.int x :: st) h Q) ∧
  (∀ (L : pb_L) (J : pb_J) (st : List Value) (x y : Int32) (h : pb_H) (Q : Option Value → pb_H → Prop), pb_R 150 13 L J (.int y :: .int x :: st) h Q ↔ pb_R 150 14 L J (.int (x + y) :: st) h Q) ∧
  (∀ (L : pb_L) (J : pb_J) (st : List Value) (h : pb_H) (Q : Option Value → pb_H → Prop) (a : Nat) (i : Int32), pb_R 150 14 L J (.int i :: .ref a :: st) h Q ↔ pb_o (pb_ai (h.2 a) i) (fun v => pb_R 150 15 L J (.int v :: st) h Q)) ∧
  (∀ (l1 l2 l3 : Option Value) (st : List Value) (h : pb_H) (Q : Option Value → pb_H → Prop) (x : Nat), pb_R 150 15 [some (.ref x), l1, l2, l3] [] st h Q ↔ pb_R 150 16 [some (.ref x), l1, l2, l3] [] (.ref x :: st) h Q) ∧
  (∀ (l1 l2 l3 : Option Value) (st : List Value) (h : pb_H) (Q : Option Value → pb_H → Prop), pb_R 150 15 [some .null, l1, l2, l3] [] st h Q ↔ pb_R 150 16 [some .null, l1, l2, l3] [] (.null :: st) h Q) ∧
  (∀ (L : pb_L) (J : pb_J) (st : List Value) (h : pb_H) (Q : Option Value → pb_H → Prop) (a : Nat), pb_R 150 16 L J (.ref a :: st) h Q ↔ pb_o (pb_gf (h.2 a) 12 0) (fun v => pb_R 150 19 L J (v :: st) h Q)) ∧
  (∀ (l0 l1 l3 : Option Value) (st : List Value) (h : pb_H) (Q : Option Value → pb_H → Prop) (x : Int32), pb_R 150 19 [l0, l1, some (.int x), l3] [] st h Q ↔ pb_R 150 20 [l0, l1, some (.int x), l3] [] (.int x :: st) h Q) ∧
  (∀ (l0 l1 l2 : Option Value) (st : List Value) (h : pb_H) (Q : Option Value → pb_H → Prop) (x : Int32), pb_R 150 20 [l0, l1, l2, some (.int x)] [] st h Q ↔ pb_R 150 21 [l0, l1, l2, some (.int x)] [] (.int x :: st) h Q) ∧
  (∀ (L : pb_L) (J : pb_J) (st : List Value) (x y : Int32) (h : pb_H) (Q : Option Value → pb_H → Prop), pb_R 150 21 L J (.int y :: .int x :: st) h Q ↔ pb_R 150 22 L J (.int (x + y) :: st) h Q) ∧
  (∀ (L : pb_L) (J : pb_J) (st : List Value) (h : pb_H) (Q : Option Value → pb_H → Prop) (a : Nat) (i : Int32), pb_R 150 22 L J (.int i :: .ref a :: st) h Q ↔ pb_o (pb_ai (h.2 a) i) (fun v => pb_R 150 23 L J (.int v :: st) h Q)) ∧
  (∀ (L : pb_L) (J : pb_J) (st : List Value) (h : pb_H) (Q : Option Value → pb_H → Prop) (x y : Int32), pb_R 150 23 L J (.int y :: .int x :: st) h Q ↔ if x = y then pb_R 150 51 L J st h Q else pb_R 150 26 L J st h Q) ∧
  (∀ (l1 l2 l3 : Option Value) (st : List Value) (h : pb_H) (Q : Option Value → pb_H → Prop) (x : Nat), pb_R 150 26 [some (.ref x), l1, l2, l3] [] st h Q ↔ pb_R 150 27 [some (.ref x), l1, l2, l3] [] (.ref x :: st) h Q) ∧
  (∀ (l1 l2 l3 : Option Value) (st : List Value) (h : pb_H) (Q : Option Value → pb_H → Prop), pb_R 150 26 [some .null, l1, l2, l3] [] st h Q ↔ pb_R 150 27 [some .null, l1, l2, l3] [] (.null :: st) h Q) ∧
  (∀ (L : pb_L) (J : pb_J) (st : List Value) (h : pb_H) (Q : Option Value → pb_H → Prop) (a : Nat), pb_R 150 27 L J (.ref a :: st) h Q ↔ pb_o (pb_gf (h.2 a) 12 0) (fun v => pb_R 150 30 L J (v :: st) h Q)) ∧
  (∀ (l0 l2 l3 : Option Value) (st : List Value) (h : pb_H) (Q : Option Value → pb_H → Prop) (x : Int32), pb_R 150 30 [l0, some (.int x), l2, l3] [] st h Q ↔ pb_R 150 31 [l0, some (.int x), l2, l3] [] (.int x :: st) h Q) ∧
  (∀ (l0 l1 l2 : Option Value) (st : List Value) (h : pb_H) (Q : Option Value → pb_H → Prop) (x : Int32), pb_R 150 31 [l0, l1, l2, some (.int x)] [] st h Q ↔ pb_R 150 32 [l0, l1, l2, some (.int x)] [] (.int x :: st) h Q) ∧
  (∀ (L : pb_L) (J : pb_J) (st : List Value) (x y : Int32) (h : pb_H) (Q : Option Value → pb_H → Prop), pb_R 150 32 L J (.int y :: .int x :: st) h Q ↔ pb_R 150 33 L J (.int (x + y) :: st) h Q) ∧
  (∀ (L : pb_L) (J : pb_J) (st : List Value) (h : pb_H) (Q : Option Value → pb_H → Prop) (a : Nat) (i : Int32), pb_R 150 33 L J (.int i :: .ref a :: st) h Q ↔ pb_o (pb_ai (h.2 a) i) (fun v => pb_R 150 34 L J (.int v :: st) h Q)) ∧
  (∀ (l1 l2 l3 : Option Value) (st : List Value) (h : pb_H) (Q : Option Value → pb_H → Prop) (x : Nat), pb_R 150 34 [some (.ref x), l1, l2, l3] [] st h Q ↔ pb_R 150 35 [some (.ref x), l1, l2, l3] [] (.ref x :: st) h Q) ∧
  (∀ (l1 l2 l3 : Option Value) (st : List Value) (h : pb_H) (Q : Option Value → pb_H → Prop), pb_R 150 34 [some .null, l1, l2, l3] [] st h Q ↔ pb_R 150 35 [some .null, l1, l2, l3] [] (.null :: st) h Q) ∧
  (∀ (L : pb_L) (J : pb_J) (st : List Value) (h : pb_H) (Q : Option Value → pb_H → Prop) (a : Nat), pb_R 150 35 L J (.ref a :: st) h Q ↔ pb_o (pb_gf (h.2 a) 12 0) (fun v => pb_R 150 38 L J (v :: st) h Q)) ∧
  (∀ (l0 l1 l3 : Option Value) (st : List Value) (h : pb_H) (Q : Option Value → pb_H → Prop) (x : Int32), pb_R 150 38 [l0, l1, some (.int x), l3] [] st h Q ↔ pb_R 150 39 [l0, l1, some (.int x), l3] [] (.int x :: st) h Q) ∧
  (∀ (l0 l1 l2 : Option Value) (st : List Value) (h : pb_H) (Q : Option Value → pb_H → Prop) (x : Int32), pb_R 150 39 [l0, l1, l2, some (.int x)] [] st h Q ↔ pb_R 150 40 [l0, l1, l2, some (.int x)] [] (.int x :: st) h Q) ∧
  (∀ (L : pb_L) (J : pb_J) (st : List Value) (x y : Int32) (h : pb_H) (Q : Option Value → pb_H → Prop), pb_R 150 40 L J (.int y :: .int x :: st) h Q ↔ pb_R 150 41 L J (.int (x + y) :: st) h Q) ∧
  (∀ (L : pb_L) (J : pb_J) (st : List Value) (h : pb_H) (Q : Option Value → pb_H → Prop) (a : Nat) (i : Int32), pb_R 150 41 L J (.int i :: .ref a :: st) h Q ↔ pb_o (pb_ai (h.2 a) i) (fun v => pb_R 150 42 L J (.int v :: st) h Q)) ∧
  (∀ (L : pb_L) (J : pb_J) (st : List Value) (h : pb_H) (Q : Option Value → pb_H → Prop) (x y : Int32), pb_R 150 42 L J (.int y :: .int x :: st) h Q ↔ if y ≤ x then pb_R 150 49 L J st h Q else pb_R 150 45 L J st h Q) ∧
  (∀ (L : pb_L) (J : pb_J) (st : List Value) (h : pb_H) (Q : Option Value → pb_H → Prop), pb_R 150 45 L J st h Q ↔ pb_R 150 46 L J (.int (-1 : Int32) :: st) h Q) ∧
  (∀ (L : pb_L) (J : pb_J) (st : List Value) (h : pb_H) (Q : Option Value → pb_H → Prop), pb_R 150 46 L J st h Q ↔ pb_R 150 50 L J st h Q) ∧
  (∀ (L : pb_L) (J : pb_J) (st : List Value) (h : pb_H) (Q : Option Value → pb_H → Prop), pb_R 150 49 L J st h Q ↔ pb_R 150 50 L J (.int (1 : Int32) :: st) h Q) ∧
  (∀ (L : pb_L) (J : pb_J) (h : pb_H) (Q : Option Value → pb_H → Prop) (x : Int32), pb_R 150 50 L J [.int x] h Q ↔ Q (some (.int x)) h) ∧
  (∀ (l0 l1 l2 : Option Value) (st : List Value) (h : pb_H) (Q : Option Value → pb_H → Prop) (x : Int32), pb_R 150 51 [l0, l1, l2, some (.int x)] [] st h Q ↔ pb_R 150 54 [l0, l1, l2, some (.int (x + (-1 : Int32)))] [] st h Q) ∧
  (∀ (L : pb_L) (J : pb_J) (st : List Value) (h : pb_H) (Q : Option Value → pb_H → Prop), pb_R 150 54 L J st h Q ↔ pb_R 150 3 L J st h Q) ∧
  (∀ (L : pb_L) (J : pb_J) (st : List Value) (h : pb_H) (Q : Option Value → pb_H → Prop), pb_R 150 57 L J st h Q ↔ pb_R 150 58 L J (.int (0 : Int32) :: st) h Q) ∧
  (∀ (L : pb_L) (J : pb_J) (h : pb_H) (Q : Option Value → pb_H → Prop) (x : Int32), pb_R 150 58 L J [.int x] h Q ↔ Q (some (.int x)) h) := ⟨
  fun L J st h Q => pf_S pb_u_150 rfl rfl,
  fun l0 l1 l2 l3 st h Q x => pf_S pb_u_150 rfl rfl,
  fun L J st h Q x => pf_ii pb_u_150 rfl rfl rfl,
  fun l1 l2 l3 st h Q x => pf_S pb_u_150 rfl rfl,
  fun l1 l2 l3 st h Q => pf_S pb_u_150 rfl rfl,
  fun L J st h Q a => pf_gf pb_u_150 rfl rfl,
  fun l0 l2 l3 st h Q x => pf_S pb_u_150 rfl rfl,
  fun l0 l1 l2 st h Q x => pf_S pb_u_150 rfl rfl,
  fun L J st x y h Q => pf_S pb_u_150 rfl rfl,
  fun L J st h Q a i => pf_ai pb_u_150 rfl rfl,
  fun l1 l2 l3 st h Q x => pf_S pb_u_150 rfl rfl,
  fun l1 l2 l3 st h Q => pf_S pb_u_150 rfl rfl,
  fun L J st h Q a => pf_gf pb_u_150 rfl rfl,
  fun l0 l1 l3 st h Q x => pf_S pb_u_150 rfl rfl,
  fun l0 l1 l2 st h Q x => pf_S pb_u_150 rfl rfl,
  fun L J st x y h Q => pf_S pb_u_150 rfl rfl,
  fun L J st h Q a i => pf_ai pb_u_150 rfl rfl,
  fun L J st h Q x y => pf_ic pb_u_150 rfl rfl rfl,
  fun l1 l2 l3 st h Q x => pf_S pb_u_150 rfl rfl,
  fun l1 l2 l3 st h Q => pf_S pb_u_150 rfl rfl,
  fun L J st h Q a => pf_gf pb_u_150 rfl rfl,
  fun l0 l2 l3 st h Q x => pf_S pb_u_150 rfl rfl,
  fun l0 l1 l2 st h Q x => pf_S pb_u_150 rfl rfl,
  fun L J st x y h Q => pf_S pb_u_150 rfl rfl,
  fun L J st h Q a i => pf_ai pb_u_150 rfl rfl,
  fun l1 l2 l3 st h Q x => pf_S pb_u_150 rfl rfl,
  fun l1 l2 l3 st h Q => pf_S pb_u_150 rfl rfl,
  fun L J st h Q a => pf_gf pb_u_150 rfl rfl,
  fun l0 l1 l3 st h Q x => pf_S pb_u_150 rfl rfl,
  fun l0 l1 l2 st h Q x => pf_S pb_u_150 rfl rfl,
  fun L J st x y h Q => pf_S pb_u_150 rfl rfl,
  fun L J st h Q a i => pf_ai pb_u_150 rfl rfl,
  fun L J st h Q x y => pf_ic pb_u_150 rfl rfl rfl,
  fun L J st h Q => pf_S pb_u_150 rfl rfl,
  fun L J st h Q => pf_S pb_u_150 rfl rfl,
  fun L J st h Q => pf_S pb_u_150 rfl rfl,
  fun L J h Q x => pf_ri pb_u_150 rfl rfl,
  fun l0 l1 l2 st h Q x => pf_S pb_u_150 rfl rfl,
  fun L J st h Q => pf_S pb_u_150 rfl rfl,
  fun L J st h Q => pf_S pb_u_150 rfl rfl,
  fun L J h Q x => pf_ri pb_u_150 rfl rfl⟩
theorem pb_c150 (x0 : Nat) (x1 : Int32) (x2 : Int32) (h : pb_H) (Q : Option Value → pb_H → Prop) : pb_call 150 [.ref x0, .int x1, .int x2] h Q ↔ pb_R 150 0 [some (.ref x0), some (.int x1), some (.int x2), none] [] [] h Q := Iff.rfl
/-! 151: PlaneBenchModel.plus(II)V -/
theorem pb_u_151 : pb_t 151 = pb_t151 := rfl
theorem pb_ci_151 : pb_ci 151 = 12 := by decide +kernel
set_option maxRecDepth 100000 in
theorem pb_q151_5 (l0 l1 l2 l3 l5 : Option Value) (st : List Value) (h : pb_H) (Q : Option Value → pb_H → Prop) (x : Int32) : pb_R 151 5 [l0, l1, l2, l3, some (.int x), l5] [] st h Q ↔ pb_R 151 7 [l0, l1, l2, l3, some (.int x), l5] [] (.int x :: st) h Q := pf_S pb_u_151 rfl rfl
set_option maxRecDepth 100000 in
theorem pb_e151 : (∀ (L : pb_L) (J : pb_J) (st : List Value) (h : pb_H) (Q : Option Value → pb_H → Prop), pb_R 151 0 L J st h Q ↔ pb_R 151 1 L J (.int (0 : Int32) :: st) h Q) ∧
  (∀ (l0 l1 l2 l3 l4 l5 : Option Value) (st : List Value) (h : pb_H) (Q : Option Value → pb_H → Prop) (x : Int32), pb_R 151 1 [l0, l1, l2, l3, l4, l5] [] (.int x :: st) h Q ↔ pb_R 151 2 [l0, l1, l2, some (.int x), l4, l5] [] st h Q) ∧
  (∀ (L : pb_L) (J : pb_J) (st : List Value) (h : pb_H) (Q : Option Value → pb_H → Prop), pb_R 151 2 L J st h Q ↔ pb_R 151 3 L J (.int (0 : Int32) :: st) h Q) ∧
  (∀ (l0 l1 l2 l3 l4 l5 : Option Value) (st : List Value) (h : pb_H) (Q : Option Value → pb_H → Prop) (x : Int32), pb_R 151 3 [l0, l1, l2, l3, l4, l5] [] (.int x :: st) h Q ↔ pb_R 151 5 [l0, l1, l2, l3, some (.int x), l5] [] st h Q) ∧
  (∀ (L : pb_L) (J : pb_J) (st : List Value) (h : pb_H) (Q : Option Value → pb_H → Prop), pb_R 151 7 L J st h Q ↔ pb_R 151 9 L J (.int (20 : Int32) :: st) h Q) ∧
  (∀ (L : pb_L) (J : pb_J) (st : List Value) (h : pb_H) (Q : Option Value → pb_H → Prop) (x y : Int32), pb_R 151 9 L J (.int y :: .int x :: st) h Q ↔ if y ≤ x then pb_R 151 61 L J st h Q else pb_R 151 12 L J st h Q) ∧
  (∀ (l1 l2 l3 l4 l5 : Option Value) (st : List Value) (h : pb_H) (Q : Option Value → pb_H → Prop) (x : Nat), pb_R 151 12 [some (.ref x), l1, l2, l3, l4, l5] [] st h Q ↔ pb_R 151 13 [some (.ref x), l1, l2, l3, l4, l5] [] (.ref x :: st) h Q) ∧
  (∀ (l1 l2 l3 l4 l5 : Option Value) (st : List Value) (h : pb_H) (Q : Option Value → pb_H → Prop), pb_R 151 12 [some .null, l1, l2, l3, l4, l5] [] st h Q ↔ pb_R 151 13 [some .null, l1, l2, l3, l4, l5] [] (.null :: st) h Q) ∧
  (∀ (L : pb_L) (J : pb_J) (st : List Value) (h : pb_H) (Q : Option Value → pb_H → Prop) (a : Nat), pb_R 151 13 L J (.ref a :: st) h Q ↔ pb_o (pb_gf (h.2 a) 12 0) (fun v => pb_R 151 16 L J (v :: st) h Q)) ∧
  (∀ (l0 l2 l3 l4 l5 : Option Value) (st : List Value) (h : pb_H) (Q : Option Value → pb_H → Prop) (x : Int32), pb_R 151 16 [l0, some (.int x), l2, l3, l4, l5] [] st h Q ↔ pb_R 151 17 [l0, some (.int x), l2, l3, l4, l5] [] (.int x :: st) h Q) ∧
  (∀ (l0 l1 l2 l3 l5 : Option Value) (st : List Value) (h : pb_H) (Q : Option Value → pb_H → Prop) (x : Int32), pb_R 151 17 [l0, l1, l2, l3, some (.int x), l5] [] st h Q ↔ pb_R 151 19 [l0, l1, l2, l3, some (.int x), l5] [] (.int x :: st) h Q) ∧
  (∀ (L : pb_L) (J : pb_J) (st : List Value) (x y : Int32) (h : pb_H) (Q : Option Value → pb_H → Prop), pb_R 151 19 L J (.int y :: .int x :: st) h Q ↔ pb_R 151 20 L J (.int (x + y) :: st) h Q) ∧
  (∀ (L : pb_L) (J : pb_J) (st : List Value) (h : pb_H) (Q : Option Value → pb_H → Prop) (a : Nat) (i : Int32), pb_R 151 20 L J (.int i :: .ref a :: st) h Q ↔ pb_o (pb_ai (h.2 a) i) (fun v => pb_R 151 21 L J (.int v :: st) h Q)) ∧
  (∀ (l1 l2 l3 l4 l5 : Option Value) (st : List Value) (h : pb_H) (Q : Option Value → pb_H → Prop) (x : Nat), pb_R 151 21 [some (.ref x), l1, l2, l3, l4, l5] [] st h Q ↔ pb_R 151 22 [some (.ref x), l1, l2, l3, l4, l5] [] (.ref x :: st) h Q) ∧
  (∀ (l1 l2 l3 l4 l5 : Option Value) (st : List Value) (h : pb_H) (Q : Option Value → pb_H → Prop), pb_R 151 21 [some .null, l1, l2, l3, l4, l5] [] st h Q ↔ pb_R 151 22 [some .null, l1, l2, l3, l4, l5] [] (.null :: st) h Q) ∧
  (∀ (L : pb_L) (J : pb_J) (st : List Value) (h : pb_H) (Q : Option Value → pb_H → Prop) (a : Nat), pb_R 151 22 L J (.ref a :: st) h Q ↔ pb_o (pb_gf (h.2 a) 12 0) (fun v => pb_R 151 25 L J (v :: st) h Q)) ∧
  (∀ (l0 l1 l3 l4 l5 : Option Value) (st : List Value) (h : pb_H) (Q : Option Value → pb_H → Prop) (x : Int32), pb_R 151 25 [l0, l1, some (.int x), l3, l4, l5] [] st h Q ↔ pb_R 151 26 [l0, l1, some (.int x), l3, l4, l5] [] (.int x :: st) h Q) ∧
  (∀ (l0 l1 l2 l3 l5 : Option Value) (st : List Value) (h : pb_H) (Q : Option Value → pb_H → Prop) (x : Int32), pb_R 151 26 [l0, l1, l2, l3, some (.int x), l5] [] st h Q ↔ pb_R 151 28 [l0, l1, l2, l3, some (.int x), l5] [] (.int x :: st) h Q) ∧
  (∀ (L : pb_L) (J : pb_J) (st : List Value) (x y : Int32) (h : pb_H) (Q : Option Value → pb_H → Prop), pb_R 151 28 L J (.int y :: .int x :: st) h Q ↔ pb_R 151 29 L J (.int (x + y) :: st) h Q) ∧
  (∀ (L : pb_L) (J : pb_J) (st : List Value) (h : pb_H) (Q : Option Value → pb_H → Prop) (a : Nat) (i : Int32), pb_R 151 29 L J (.int i :: .ref a :: st) h Q ↔ pb_o (pb_ai (h.2 a) i) (fun v => pb_R 151 30 L J (.int v :: st) h Q)) ∧
  (∀ (L : pb_L) (J : pb_J) (st : List Value) (x y : Int32) (h : pb_H) (Q : Option Value → pb_H → Prop), pb_R 151 30 L J (.int y :: .int x :: st) h Q ↔ pb_R 151 31 L J (.int (x + y) :: st) h Q) ∧
  (∀ (l0 l1 l2 l4 l5 : Option Value) (st : List Value) (h : pb_H) (Q : Option Value → pb_H → Prop) (x : Int32), pb_R 151 31 [l0, l1, l2, some (.int x), l4, l5] [] st h Q ↔ pb_R 151 32 [l0, l1, l2, some (.int x), l4, l5] [] (.int x :: st) h Q) ∧
  (∀ (L : pb_L) (J : pb_J) (st : List Value) (x y : Int32) (h : pb_H) (Q : Option Value → pb_H → Prop), pb_R 151 32 L J (.int y :: .int x :: st) h Q ↔ pb_R 151 33 L J (.int (x + y) :: st) h Q) ∧
  (∀ (l0 l1 l2 l3 l4 l5 : Option Value) (st : List Value) (h : pb_H) (Q : Option Value → pb_H → Prop) (x : Int32), pb_R 151 33 [l0, l1, l2, l3, l4, l5] [] (.int x :: st) h Q ↔ pb_R 151 35 [l0, l1, l2, l3, l4, some (.int x)] [] st h Q) ∧
  (∀ (l1 l2 l3 l4 l5 : Option Value) (st : List Value) (h : pb_H) (Q : Option Value → pb_H → Prop) (x : Nat), pb_R 151 35 [some (.ref x), l1, l2, l3, l4, l5] [] st h Q ↔ pb_R 151 36 [some (.ref x), l1, l2, l3, l4, l5] [] (.ref x :: st) h Q) ∧
  (∀ (l1 l2 l3 l4 l5 : Option Value) (st : List Value) (h : pb_H) (Q : Option Value → pb_H → Prop), pb_R 151 35 [some .null, l1, l2, l3, l4, l5] [] st h Q ↔ pb_R 151 36 [some .null, l1, l2, l3, l4, l5] [] (.null :: st) h Q) ∧
  (∀ (L : pb_L) (J : pb_J) (st : List Value) (h : pb_H) (Q : Option Value → pb_H → Prop) (a : Nat), pb_R 151 36 L J (.ref a :: st) h Q ↔ pb_o (pb_gf (h.2 a) 12 0) (fun v => pb_R 151 39 L J (v :: st) h Q)) ∧
  (∀ (l0 l2 l3 l4 l5 : Option Value) (st : List Value) (h : pb_H) (Q : Option Value → pb_H → Prop) (x : Int32), pb_R 151 39 [l0, some (.int x), l2, l3, l4, l5] [] st h Q ↔ pb_R 151 40 [l0, some (.int x), l2, l3, l4, l5] [] (.int x :: st) h Q) ∧
  (∀ (l0 l1 l2 l3 l5 : Option Value) (st : List Value) (h : pb_H) (Q : Option Value → pb_H → Prop) (x : Int32), pb_R 151 40 [l0, l1, l2, l3, some (.int x), l5] [] st h Q ↔ pb_R 151 42 [l0, l1, l2, l3, some (.int x), l5] [] (.int x :: st) h Q) ∧
  (∀ (L : pb_L) (J : pb_J) (st : List Value) (x y : Int32) (h : pb_H) (Q : Option Value → pb_H → Prop), pb_R 151 42 L J (.int y :: .int x :: st) h Q ↔ pb_R 151 43 L J (.int (x + y) :: st) h Q) ∧
  (∀ (l0 l1 l2 l3 l4 : Option Value) (st : List Value) (h : pb_H) (Q : Option Value → pb_H → Prop) (x : Int32), pb_R 151 43 [l0, l1, l2, l3, l4, some (.int x)] [] st h Q ↔ pb_R 151 45 [l0, l1, l2, l3, l4, some (.int x)] [] (.int x :: st) h Q) ∧
  (∀ (L : pb_L) (J : pb_J) (st : List Value) (h : pb_H) (Q : Option Value → pb_H → Prop), pb_R 151 45 L J st h Q ↔ pb_R 151 47 L J (.int (65535 : Int32) :: st) h Q) ∧
  (∀ (L : pb_L) (J : pb_J) (st : List Value) (x y : Int32) (h : pb_H) (Q : Option Value → pb_H → Prop), pb_R 151 47 L J (.int y :: .int x :: st) h Q ↔ pb_R 151 48 L J (.int (x &&& y) :: st) h Q) ∧
  (∀ (L : pb_L) (J : pb_J) (st : List Value) (h : pb_H) (Q : Option Value → pb_H → Prop) (a : Nat) (i x : Int32), pb_R 151 48 L J (.int x :: .int i :: .ref a :: st) h Q ↔ pb_o (pb_si (h.2 a) i x) (fun c => pb_R 151 49 L J st (pb_set h a c) Q)) ∧
  (∀ (l0 l1 l2 l3 l4 : Option Value) (st : List Value) (h : pb_H) (Q : Option Value → pb_H → Prop) (x : Int32), pb_R 151 49 [l0, l1, l2, l3, l4, some (.int x)] [] st h Q ↔ pb_R 151 51 [l0, l1, l2, l3, l4, some (.int x)] [] (.int x :: st) h Q) ∧
  (∀ (L : pb_L) (J : pb_J) (st : List Value) (h : pb_H) (Q : Option Value → pb_H → Prop), pb_R 151 51 L J st h Q ↔ pb_R 151 53 L J (.int (16 : Int32) :: st) h Q) ∧
  (∀ (L : pb_L) (J : pb_J) (st : List Value) (x y : Int32) (h : pb_H) (Q : Option Value → pb_H → Prop), pb_R 151 53 L J (.int y :: .int x :: st) h Q ↔ pb_R 151 54 L J (.int (x >>> (y &&& 31)) :: st) h Q) ∧
  (∀ (l0 l1 l2 l3 l4 l5 : Option Value) (st : List Value) (h : pb_H) (Q : Option Value → pb_H → Prop) (x : Int32), pb_R 151 54 [l0, l1, l2, l3, l4, l5] [] (.int x :: st) h Q ↔ pb_R 151 55 [l0, l1, l2, some (.int x), l4, l5] [] st h Q) ∧
  (∀ (l0 l1 l2 l3 l5 : Option Value) (st : List Value) (h : pb_H) (Q : Option Value → pb_H → Prop) (x : Int32), pb_R 151 55 [l0, l1, l2, l3, some (.int x), l5] [] st h Q ↔ pb_R 151 58 [l0, l1, l2, l3, some (.int (x + (1 : Int32))), l5] [] st h Q) ∧
  (∀ (L : pb_L) (J : pb_J) (st : List Value) (h : pb_H) (Q : Option Value → pb_H → Prop), pb_R 151 58 L J st h Q ↔ pb_R 151 5 L J st h Q) ∧
  (∀ (L : pb_L) (J : pb_J) (h : pb_H) (Q : Option Value → pb_H → Prop), pb_R 151 61 L J [] h Q ↔ Q none h) := ⟨
  fun L J st h Q => pf_S pb_u_151 rfl rfl,
  fun l0 l1 l2 l3 l4 l5 st h Q x => pf_S pb_u_151 rfl rfl,
  fun L J st h Q => pf_S pb_u_151 rfl rfl,
  fun l0 l1 l2 l3 l4 l5 st h Q x => pf_S pb_u_151 rfl rfl,
  fun L J st h Q => pf_S pb_u_151 rfl rfl,
  fun L J st h Q x y => pf_ic pb_u_151 rfl rfl rfl,
  fun l1 l2 l3 l4 l5 st h Q x => pf_S pb_u_151 rfl rfl,
  fun l1 l2 l3 l4 l5 st h Q => pf_S pb_u_151 rfl rfl,
  fun L J st h Q a => pf_gf pb_u_151 rfl rfl,
  fun l0 l2 l3 l4 l5 st h Q x => pf_S pb_u_151 rfl rfl,
  fun l0 l1 l2 l3 l5 st h Q x => pf_S pb_u_151 rfl rfl,
  fun L J st x y h Q => pf_S pb_u_151 rfl rfl,
  fun L J st h Q a i => pf_ai pb_u_151 rfl rfl,
  fun l1 l2 l3 l4 l5 st h Q x => pf_S pb_u_151 rfl rfl,
  fun l1 l2 l3 l4 l5 st h Q => pf_S pb_u_151 rfl rfl,
  fun L J st h Q a => pf_gf pb_u_151 rfl rfl,
  fun l0 l1 l3 l4 l5 st h Q x => pf_S pb_u_151 rfl rfl,
  fun l0 l1 l2 l3 l5 st h Q x => pf_S pb_u_151 rfl rfl,
  fun L J st x y h Q => pf_S pb_u_151 rfl rfl,
  fun L J st h Q a i => pf_ai pb_u_151 rfl rfl,
  fun L J st x y h Q => pf_S pb_u_151 rfl rfl,
  fun l0 l1 l2 l4 l5 st h Q x => pf_S pb_u_151 rfl rfl,
  fun L J st x y h Q => pf_S pb_u_151 rfl rfl,
  fun l0 l1 l2 l3 l4 l5 st h Q x => pf_S pb_u_151 rfl rfl,
  fun l1 l2 l3 l4 l5 st h Q x => pf_S pb_u_151 rfl rfl,
  fun l1 l2 l3 l4 l5 st h Q => pf_S pb_u_151 rfl rfl,
  fun L J st h Q a => pf_gf pb_u_151 rfl rfl,
  fun l0 l2 l3 l4 l5 st h Q x => pf_S pb_u_151 rfl rfl,
  fun l0 l1 l2 l3 l5 st h Q x => pf_S pb_u_151 rfl rfl,
  fun L J st x y h Q => pf_S pb_u_151 rfl rfl,
  fun l0 l1 l2 l3 l4 st h Q x => pf_S pb_u_151 rfl rfl,
  fun L J st h Q => pf_S pb_u_151 rfl rfl,
  fun L J st x y h Q => pf_S pb_u_151 rfl rfl,
  fun L J st h Q a i x => pf_si pb_u_151 rfl rfl,
  fun l0 l1 l2 l3 l4 st h Q x => pf_S pb_u_151 rfl rfl,
  fun L J st h Q => pf_S pb_u_151 rfl rfl,
  fun L J st x y h Q => pf_S pb_u_151 rfl rfl,
  fun l0 l1 l2 l3 l4 l5 st h Q x => pf_S pb_u_151 rfl rfl,
  fun l0 l1 l2 l3 l5 st h Q x => pf_S pb_u_151 rfl rfl,
  fun L J st h Q => pf_S pb_u_151 rfl rfl,
  fun L J h Q => pf_rv pb_u_151 rfl rfl⟩
theorem pb_c151 (x0 : Nat) (x1 : Int32) (x2 : Int32) (h : pb_H) (Q : Option Value → pb_H → Prop) : pb_call 151 [.ref x0, .int x1, .int x2] h Q ↔ pb_R 151 0 [some (.ref x0), some (.int x1), some (.int x2), none, none, none] [] [] h Q := Iff.rfl
/-! 152: PlaneBenchModel.minus(II)V -/
theorem pb_u_152 : pb_t 152 = pb_t152 := rfl
theorem pb_ci_152 : pb_ci 152 = 12 := by decide +kernel
set_option maxRecDepth 100000 in
theorem pb_q152_5 (l0 l1 l2 l3 l5 : Option Value) (st : List Value) (h : pb_H) (Q : Option Value → pb_H → Prop) (x : Int32) : pb_R 152 5 [l0, l1, l2, l3, some (.int x), l5] [] st h Q ↔ pb_R 152 7 [l0, l1, l2, l3, some (.int x), l5] [] (.int x :: st) h Q := pf_S pb_u_152 rfl rfl
set_option maxRecDepth 100000 in
theorem pb_e152 : (∀ (L : pb_L) (J : pb_J) (st : List Value) (h : pb_H) (Q : Option Value → pb_H → Prop), pb_R 152 0 L J st h Q ↔ pb_R 152 1 L J (.int (0 : Int32) :: st) h Q) ∧
  (∀ (l0 l1 l2 l3 l4 l5 : Option Value) (st : List Value) (h : pb_H) (Q : Option Value → pb_H → Prop) (x : Int32), pb_R 152 1 [l0, l1, l2, l3, l4, l5] [] (.int x :: st) h Q ↔ pb_R 152 2 [l0, l1, l2, some (.int x), l4, l5] [] st h Q) ∧
  (∀ (L : pb_L) (J : pb_J) (st : List Value) (h : pb_H) (Q : Option Value → pb_H → Prop), pb_R 152 2 L J st h Q ↔ pb_R 152 3 L J (.int (0 : Int32) :: st) h Q) ∧
  (∀ (l0 l1 l2 l3 l4 l5 : Option Value) (st : List Value) (h : pb_H) (Q : Option Value → pb_H → Prop) (x : Int32), pb_R 152 3 [l0, l1, l2, l3, l4, l5] [] (.int x :: st) h Q ↔ pb_R 152 5 [l0, l1, l2, l3, some (.int x), l5] [] st h Q) ∧
  (∀ (L : pb_L) (J : pb_J) (st : List Value) (h : pb_H) (Q : Option Value → pb_H → Prop), pb_R 152 7 L J st h Q ↔ pb_R 152 9 L J (.int (20 : Int32) :: st) h Q) ∧
  (∀ (L : pb_L) (J : pb_J) (st : List Value) (h : pb_H) (Q : Option Value → pb_H → Prop) (x y : Int32), pb_R 152 9 L J (.int y :: .int x :: st) h Q ↔ if y ≤ x then pb_R 152 66 L J st h Q else pb_R 152 12 L J st h Q) ∧
  (∀ (l1 l2 l3 l4 l5 : Option Value) (st : List Value) (h : pb_H) (Q : Option Value → pb_H → Prop) (x : Nat), pb_R 152 12 [some (.ref x), l1, l2, l3, l4, l5] [] st h Q ↔ pb_R 152 13 [some (.ref x), l1, l2, l3, l4, l5] [] (.ref x :: st) h Q) ∧
  (∀ (l1 l2 l3 l4 l5 : Option Value) (st : List Value) (h : pb_H) (Q : Option Value → pb_H → Prop), pb_R 152 12 [some .null, l1, l2, l3, l4, l5] [] st h Q ↔ pb_R 152 13 [some .null, l1, l2, l3, l4, l5] [] (.null :: st) h Q) ∧
  (∀ (L : pb_L) (J : pb_J) (st : List Value) (h : pb_H) (Q : Option Value → pb_H → Prop) (a : Nat), pb_R 152 13 L J (.ref a :: st) h Q ↔ pb_o (pb_gf (h.2 a) 12 0) (fun v => pb_R 152 16 L J (v :: st) h Q)) ∧
  (∀ (l0 l2 l3 l4 l5 : Option Value) (st : List Value) (h : pb_H) (Q : Option Value → pb_H → Prop) (x : Int32), pb_R 152 16 [l0, some (.int x), l2, l3, l4, l5] [] st h Q ↔ pb_R 152 17 [l0, some (.int x), l2, l3, l4, l5] [] (.int x :: st) h Q) ∧
  (∀ (l0 l1 l2 l3 l5 : Option Value) (st : List Value) (h : pb_H) (Q : Option Value → pb_H → Prop) (x : Int32), pb_R 152 17 [l0, l1, l2, l3, some (.int x), l5] [] st h Q ↔ pb_R 152 19 [l0, l1, l2, l3, some (.int x), l5] [] (.int x :: st) h Q) ∧
  (∀ (L : pb_L) (J : pb_J) (st : List Value) (x y : Int32) (h : pb_H) (Q : Option Value → pb_H → Prop), pb_R 152 19 L J (.int y :: .int x :: st) h Q ↔ pb_R 152 20 L J (.int (x + y) :: st) h Q) ∧
  (∀ (L : pb_L) (J : pb_J) (st : List Value) (h : pb_H) (Q : Option Value → pb_H → Prop) (a : Nat) (i : Int32), pb_R 152 20 L J (.int i :: .ref a :: st) h Q ↔ pb_o (pb_ai (h.2 a) i) (fun v => pb_R 152 21 L J (.int v :: st) h Q)) ∧
  (∀ (l1 l2 l3 l4 l5 : Option Value) (st : List Value) (h : pb_H) (Q : Option Value → pb_H → Prop) (x : Nat), pb_R 152 21 [some (.ref x), l1, l2, l3, l4, l5] [] st h Q ↔ pb_R 152 22 [some (.ref x), l1, l2, l3, l4, l5] [] (.ref x :: st) h Q) ∧
  (∀ (l1 l2 l3 l4 l5 : Option Value) (st : List Value) (h : pb_H) (Q : Option Value → pb_H → Prop), pb_R 152 21 [some .null, l1, l2, l3, l4, l5] [] st h Q ↔ pb_R 152 22 [some .null, l1, l2, l3, l4, l5] [] (.null :: st) h Q) ∧
  (∀ (L : pb_L) (J : pb_J) (st : List Value) (h : pb_H) (Q : Option Value → pb_H → Prop) (a : Nat), pb_R 152 22 L J (.ref a :: st) h Q ↔ pb_o (pb_gf (h.2 a) 12 0) (fun v => pb_R 152 25 L J (v :: st) h Q)) ∧
  (∀ (l0 l1 l3 l4 l5 : Option Value) (st : List Value) (h : pb_H) (Q : Option Value → pb_H → Prop) (x : Int32), pb_R 152 25 [l0, l1, some (.int x), l3, l4, l5] [] st h Q ↔ pb_R 152 26 [l0, l1, some (.int x), l3, l4, l5] [] (.int x :: st) h Q) ∧
  (∀ (l0 l1 l2 l3 l5 : Option Value) (st : List Value) (h : pb_H) (Q : Option Value → pb_H → Prop) (x : Int32), pb_R 152 26 [l0, l1, l2, l3, some (.int x), l5] [] st h Q ↔ pb_R 152 28 [l0, l1, l2, l3, some (.int x), l5] [] (.int x :: st) h Q) ∧
  (∀ (L : pb_L) (J : pb_J) (st : List Value) (x y : Int32) (h : pb_H) (Q : Option Value → pb_H → Prop), pb_R 152 28 L J (.int y :: .int x :: st) h Q ↔ pb_R 152 29 L J (.int (x + y) :: st) h Q) ∧
  (∀ (L : pb_L) (J : pb_J) (st : List Value) (h : pb_H) (Q : Option Value → pb_H → Prop) (a : Nat) (i : Int32), pb_R 152 29 L J (.int i :: .ref a :: st) h Q ↔ pb_o (pb_ai (h.2 a) i) (fun v => pb_R 152 30 L J (.int v :: st) h Q)) ∧
  (∀ (L : pb_L) (J : pb_J) (st : List Value) (x y : Int32) (h : pb_H) (Q : Option Value → pb_H → Prop), pb_R 152 30 L J (.int y :: .int x :: st) h Q ↔ pb_R 152 31 L J (.int (x - y) :: st) h Q) ∧
  (∀ (l0 l1 l2 l4 l5 : Option Value) (st : List Value) (h : pb_H) (Q : Option Value → pb_H → Prop) (x : Int32), pb_R 152 31 [l0, l1, l2, some (.int x), l4, l5] [] st h Q ↔ pb_R 152 32 [l0, l1, l2, some (.int x), l4, l5] [] (.int x :: st) h Q) ∧
  (∀ (L : pb_L) (J : pb_J) (st : List Value) (x y : Int32) (h : pb_H) (Q : Option Value → pb_H → Prop), pb_R 152 32 L J (.int y :: .int x :: st) h Q ↔ pb_R 152 33 L J (.int (x - y) :: st) h Q) ∧
  (∀ (l0 l1 l2 l3 l4 l5 : Option Value) (st : List Value) (h : pb_H) (Q : Option Value → pb_H → Prop) (x : Int32), pb_R 152 33 [l0, l1, l2, l3, l4, l5] [] (.int x :: st) h Q ↔ pb_R 152 35 [l0, l1, l2, l3, l4, some (.int x)] [] st h Q) ∧
  (∀ (l1 l2 l3 l4 l5 : Option Value) (st : List Value) (h : pb_H) (Q : Option Value → pb_H → Prop) (x : Nat), pb_R 152 35 [some (.ref x), l1, l2, l3, l4, l5] [] st h Q ↔ pb_R 152 36 [some (.ref x), l1, l2, l3, l4, l5] [] (.ref x :: st) h Q) ∧
  (∀ (l1 l2 l3 l4 l5 : Option Value) (st : List Value) (h : pb_H) (Q : Option Value → pb_H → Prop), pb_R 152 35 [some .null, l1, l2, l3, l4, l5] [] st h Q ↔ pb_R 152 36 [some .null, l1, l2, l3, l4, l5] [] (.null :: st) h Q) ∧
  (∀ (L : pb_L) (J : pb_J) (st : List Value) (h : pb_H) (Q : Option Value → pb_H → Prop) (a : Nat), pb_R 152 36 L J (.ref a :: st) h Q ↔ pb_o (pb_gf (h.2 a) 12 0) (fun v => pb_R 152 39 L J (v :: st) h Q)) ∧
  (∀ (l0 l2 l3 l4 l5 : Option Value) (st : List Value) (h : pb_H) (Q : Option Value → pb_H → Prop) (x : Int32), pb_R 152 39 [l0, some (.int x), l2, l3, l4, l5] [] st h Q ↔ pb_R 152 40 [l0, some (.int x), l2, l3, l4, l5] [] (.int x :: st) h Q) ∧
  (∀ (l0 l1 l2 l3 l5 : Option Value) (st : List Value) (h : pb_H) (Q : Option Value → pb_H → Prop) (x : Int32), pb_R 152 40 [l0, l1, l2, l3, some (.int x), l5] [] st h Q ↔ pb_R 152 42 [l0, l1, l2, l3, some (.int x), l5] [] (.int x :: st) h Q) ∧
  (∀ (L : pb_L) (J : pb_J) (st : List Value) (x y : Int32) (h : pb_H) (Q : Option Value → pb_H → Prop), pb_R 152 42 L J (.int y :: .int x :: st) h Q ↔ pb_R 152 43 L J (.int (x + y) :: st) h Q) ∧
  (∀ (l0 l1 l2 l3 l4 : Option Value) (st : List Value) (h : pb_H) (Q : Option Value → pb_H → Prop) (x : Int32), pb_R 152 43 [l0, l1, l2, l3, l4, some (.int x)] [] st h Q ↔ pb_R 152 45 [l0, l1, l2, l3, l4, some (.int x)] [] (.int x :: st) h Q) ∧
  (∀ (L : pb_L) (J : pb_J) (st : List Value) (h : pb_H) (Q : Option Value → pb_H → Prop), pb_R 152 45 L J st h Q ↔ pb_R 152 47 L J (.int (65535 : Int32) :: st) h Q) ∧
  (∀ (L : pb_L) (J : pb_J) (st : List Value) (x y : Int32) (h : pb_H) (Q : Option Value → pb_H → Prop), pb_R 152 47 L J (.int y :: .int x :: st) h Q ↔ pb_R 152 48 L J (.int (x &&& y) :: st) h Q) ∧
  (∀ (L : pb_L) (J : pb_J) (st : List Value) (h : pb_H) (Q : Option Value → pb_H → Prop) (a : Nat) (i x : Int32), pb_R 152 48 L J (.int x :: .int i :: .ref a :: st) h Q ↔ pb_o (pb_si (h.2 a) i x) (fun c => pb_R 152 49 L J st (pb_set h a c) Q)) ∧
  (∀ (l0 l1 l2 l3 l4 : Option Value) (st : List Value) (h : pb_H) (Q : Option Value → pb_H → Prop) (x : Int32), pb_R 152 49 [l0, l1, l2, l3, l4, some (.int x)] [] st h Q ↔ pb_R 152 51 [l0, l1, l2, l3, l4, some (.int x)] [] (.int x :: st) h Q) ∧
  (∀ (L : pb_L) (J : pb_J) (st : List Value) (h : pb_H) (Q : Option Value → pb_H → Prop) (x : Int32), pb_R 152 51 L J (.int x :: st) h Q ↔ if 0 ≤ x then pb_R 152 58 L J st h Q else pb_R 152 54 L J st h Q) ∧
  (∀ (L : pb_L) (J : pb_J) (st : List Value) (h : pb_H) (Q : Option Value → pb_H → Prop), pb_R 152 54 L J st h Q ↔ pb_R 152 55 L J (.int (1 : Int32) :: st) h Q) ∧
  (∀ (L : pb_L) (J : pb_J) (st : List Value) (h : pb_H) (Q : Option Value → pb_H → Prop), pb_R 152 55 L J st h Q ↔ pb_R 152 59 L J st h Q) ∧
  (∀ (L : pb_L) (J : pb_J) (st : List Value) (h : pb_H) (Q : Option Value → pb_H → Prop), pb_R 152 58 L J st h Q ↔ pb_R 152 59 L J (.int (0 : Int32) :: st) h Q) ∧
  (∀ (l0 l1 l2 l3 l4 l5 : Option Value) (st : List Value) (h : pb_H) (Q : Option Value → pb_H → Prop) (x : Int32), pb_R 152 59 [l0, l1, l2, l3, l4, l5] [] (.int x :: st) h Q ↔ pb_R 152 60 [l0, l1, l2, some (.int x), l4, l5] [] st h Q) ∧
  (∀ (l0 l1 l2 l3 l5 : Option Value) (st : List Value) (h : pb_H) (Q : Option Value → pb_H → Prop) (x : Int32), pb_R 152 60 [l0, l1, l2, l3, some (.int x), l5] [] st h Q ↔ pb_R 152 63 [l0, l1, l2, l3, some (.int (x + (1 : Int32))), l5] [] st h Q) ∧
  (∀ (L : pb_L) (J : pb_J) (st : List Value) (h : pb_H) (Q : Option Value → pb_H → Prop), pb_R 152 63 L J st h Q ↔ pb_R 152 5 L J st h Q) ∧
  (∀ (L : pb_L) (J : pb_J) (h : pb_H) (Q : Option Value → pb_H → Prop), pb_R 152 66 L J [] h Q ↔ Q none h) := ⟨
  fun L J st h Q => pf_S pb_u_152 rfl rfl,
  fun l0 l1 l2 l3 l4 l5 st h Q x => pf_S pb_u_152 rfl rfl,
  fun L J st h Q => pf_S pb_u_152 rfl rfl,
  fun l0 l1 l2 l3 l4 l5 st h Q x => pf_S pb_u_152 rfl rfl,
  fun L J st h Q => pf_S pb_u_152 rfl rfl,
  fun L J st h Q x y => pf_ic pb_u_152 rfl rfl rfl,
  fun l1 l2 l3 l4 l5 st h Q x => pf_S pb_u_152 rfl rfl,
  fun l1 l2 l3 l4 l5 st h Q => pf_S pb_u_152 rfl rfl,
  fun L J st h Q a => pf_gf pb_u_152 rfl rfl,
  fun l0 l2 l3 l4 l5 st h Q x => pf_S pb_u_152 rfl rfl,
  fun l0 l1 l2 l3 l5 st h Q x => pf_S pb_u_152 rfl rfl,
  fun L J st x y h Q => pf_S pb_u_152 rfl rfl,
  fun L J st h Q a i => pf_ai pb_u_152 rfl rfl,
  fun l1 l2 l3 l4 l5 st h Q x => pf_S pb_u_152 rfl rfl,
  fun l1 l2 l3 l4 l5 st h Q => pf_S pb_u_152 rfl rfl,
  fun L J st h Q a => pf_gf pb_u_152 rfl rfl,
  fun l0 l1 l3 l4 l5 st h Q x => pf_S pb_u_152 rfl rfl,
  fun l0 l1 l2 l3 l5 st h Q x => pf_S pb_u_152 rfl rfl,
  fun L J st x y h Q => pf_S pb_u_152 rfl rfl,
  fun L J st h Q a i => pf_ai pb_u_152 rfl rfl,
  fun L J st x y h Q => pf_S pb_u_152 rfl rfl,
  fun l0 l1 l2 l4 l5 st h Q x => pf_S pb_u_152 rfl rfl,
  fun L J st x y h Q => pf_S pb_u_152 rfl rfl,
  fun l0 l1 l2 l3 l4 l5 st h Q x => pf_S pb_u_152 rfl rfl,
  fun l1 l2 l3 l4 l5 st h Q x => pf_S pb_u_152 rfl rfl,
  fun l1 l2 l3 l4 l5 st h Q => pf_S pb_u_152 rfl rfl,
  fun L J st h Q a => pf_gf pb_u_152 rfl rfl,
  fun l0 l2 l3 l4 l5 st h Q x => pf_S pb_u_152 rfl rfl,
  fun l0 l1 l2 l3 l5 st h Q x => pf_S pb_u_152 rfl rfl,
  fun L J st x y h Q => pf_S pb_u_152 rfl rfl,
  fun l0 l1 l2 l3 l4 st h Q x => pf_S pb_u_152 rfl rfl,
  fun L J st h Q => pf_S pb_u_152 rfl rfl,
  fun L J st x y h Q => pf_S pb_u_152 rfl rfl,
  fun L J st h Q a i x => pf_si pb_u_152 rfl rfl,
  fun l0 l1 l2 l3 l4 st h Q x => pf_S pb_u_152 rfl rfl,
  fun L J st h Q x => pf_ii pb_u_152 rfl rfl rfl,
  fun L J st h Q => pf_S pb_u_152 rfl rfl,
  fun L J st h Q => pf_S pb_u_152 rfl rfl,
  fun L J st h Q => pf_S pb_u_152 rfl rfl,
  fun l0 l1 l2 l3 l4 l5 st h Q x => pf_S pb_u_152 rfl rfl,
  fun l0 l1 l2 l3 l5 st h Q x => pf_S pb_u_152 rfl rfl,
  fun L J st h Q => pf_S pb_u_152 rfl rfl,
  fun L J h Q => pf_rv pb_u_152 rfl rfl⟩
theorem pb_c152 (x0 : Nat) (x1 : Int32) (x2 : Int32) (h : pb_H) (Q : Option Value → pb_H → Prop) : pb_call 152 [.ref x0, .int x1, .int x2] h Q ↔ pb_R 152 0 [some (.ref x0), some (.int x1), some (.int x2), none, none, none] [] [] h Q := Iff.rfl
/-! 153: PlaneBenchModel.less(II)V -/
theorem pb_u_153 : pb_t 153 = pb_t153 := rfl
theorem pb_ci_153 : pb_ci 153 = 12 := by decide +kernel
set_option maxRecDepth 100000 in
theorem pb_e153 : (∀ (l1 l2 : Option Value) (st : List Value) (h : pb_H) (Q : Option Value → pb_H → Prop) (x : Nat), pb_R 153 0 [some (.ref x), l1, l2] [] st h Q ↔ pb_R 153 1 [some (.ref x), l1, l2] [] (.ref x :: st) h Q) ∧
  (∀ (l1 l2 : Option Value) (st : List Value) (h : pb_H) (Q : Option Value → pb_H → Prop), pb_R 153 0 [some .null, l1, l2] [] st h Q ↔ pb_R 153 1 [some .null, l1, l2] [] (.null :: st) h Q) ∧
  (∀ (l0 l2 : Option Value) (st : List Value) (h : pb_H) (Q : Option Value → pb_H → Prop) (x : Int32), pb_R 153 1 [l0, some (.int x), l2] [] st h Q ↔ pb_R 153 2 [l0, some (.int x), l2] [] (.int x :: st) h Q) ∧
  (∀ (l0 l1 : Option Value) (st : List Value) (h : pb_H) (Q : Option Value → pb_H → Prop) (x : Int32), pb_R 153 2 [l0, l1, some (.int x)] [] st h Q ↔ pb_R 153 3 [l0, l1, some (.int x)] [] (.int x :: st) h Q) ∧
  (∀ (L : pb_L) (J : pb_J) (h : pb_H) (Q : Option Value → pb_H → Prop) (x0 : Int32) (x1 : Int32) (x2 : Nat), pb_R 153 3 L J [.int x0, .int x1, .ref x2] h Q ↔ pb_is0 (h.2 x2) 12 = true ∧ pb_call 150 [.ref x2, .int x1, .int x0] h (fun v t => pb_R 153 6 L J (v.toList ++ []) t Q)) ∧
  (∀ (L : pb_L) (J : pb_J) (st : List Value) (h : pb_H) (Q : Option Value → pb_H → Prop) (x : Int32), pb_R 153 6 L J (.int x :: st) h Q ↔ if 0 < x then pb_R 153 17 L J st h Q else pb_R 153 9 L J st h Q) ∧
  (∀ (l1 l2 : Option Value) (st : List Value) (h : pb_H) (Q : Option Value → pb_H → Prop) (x : Nat), pb_R 153 9 [some (.ref x), l1, l2] [] st h Q ↔ pb_R 153 10 [some (.ref x), l1, l2] [] (.ref x :: st) h Q) ∧
  (∀ (l1 l2 : Option Value) (st : List Value) (h : pb_H) (Q : Option Value → pb_H → Prop), pb_R 153 9 [some .null, l1, l2] [] st h Q ↔ pb_R 153 10 [some .null, l1, l2] [] (.null :: st) h Q) ∧
  (∀ (l0 l2 : Option Value) (st : List Value) (h : pb_H) (Q : Option Value → pb_H → Prop) (x : Int32), pb_R 153 10 [l0, some (.int x), l2] [] st h Q ↔ pb_R 153 11 [l0, some (.int x), l2] [] (.int x :: st) h Q) ∧
  (∀ (L : pb_L) (J : pb_J) (h : pb_H) (Q : Option Value → pb_H → Prop) (x0 : Int32) (x1 : Nat), pb_R 153 11 L J [.int x0, .ref x1] h Q ↔ pb_is0 (h.2 x1) 12 = true ∧ pb_call 144 [.ref x1, .int x0] h (fun v t => pb_R 153 14 L J (v.toList ++ []) t Q)) ∧
  (∀ (L : pb_L) (J : pb_J) (st : List Value) (h : pb_H) (Q : Option Value → pb_H → Prop), pb_R 153 14 L J st h Q ↔ pb_R 153 23 L J st h Q) ∧
  (∀ (l1 l2 : Option Value) (st : List Value) (h : pb_H) (Q : Option Value → pb_H → Prop) (x : Nat), pb_R 153 17 [some (.ref x), l1, l2] [] st h Q ↔ pb_R 153 18 [some (.ref x), l1, l2] [] (.ref x :: st) h Q) ∧
  (∀ (l1 l2 : Option Value) (st : List Value) (h : pb_H) (Q : Option Value → pb_H → Prop), pb_R 153 17 [some .null, l1, l2] [] st h Q ↔ pb_R 153 18 [some .null, l1, l2] [] (.null :: st) h Q) ∧
  (∀ (l0 l2 : Option Value) (st : List Value) (h : pb_H) (Q : Option Value → pb_H → Prop) (x : Int32), pb_R 153 18 [l0, some (.int x), l2] [] st h Q ↔ pb_R 153 19 [l0, some (.int x), l2] [] (.int x :: st) h Q) ∧
  (∀ (l0 l1 : Option Value) (st : List Value) (h : pb_H) (Q : Option Value → pb_H → Prop) (x : Int32), pb_R 153 19 [l0, l1, some (.int x)] [] st h Q ↔ pb_R 153 20 [l0, l1, some (.int x)] [] (.int x :: st) h Q) ∧
  (∀ (L : pb_L) (J : pb_J) (h : pb_H) (Q : Option Value → pb_H → Prop) (x0 : Int32) (x1 : Int32) (x2 : Nat), pb_R 153 20 L J [.int x0, .int x1, .ref x2] h Q ↔ pb_is0 (h.2 x2) 12 = true ∧ pb_call 152 [.ref x2, .int x1, .int x0] h (fun v t => pb_R 153 23 L J (v.toList ++ []) t Q)) ∧
  (∀ (L : pb_L) (J : pb_J) (h : pb_H) (Q : Option Value → pb_H → Prop), pb_R 153 23 L J [] h Q ↔ Q none h) := ⟨
  fun l1 l2 st h Q x => pf_S pb_u_153 rfl rfl,
  fun l1 l2 st h Q => pf_S pb_u_153 rfl rfl,
  fun l0 l2 st h Q x => pf_S pb_u_153 rfl rfl,
  fun l0 l1 st h Q x => pf_S pb_u_153 rfl rfl,
  fun L J h Q x0 x1 x2 => pf_kv pb_u_153 rfl pb_ci_150 rfl ⟨Nat.le_of_ble_eq_true rfl, Nat.le_of_ble_eq_true rfl, Nat.le_of_ble_eq_true rfl, Nat.le_of_ble_eq_true rfl, rfl⟩ rfl rfl,
  fun L J st h Q x => pf_ii pb_u_153 rfl rfl rfl,
  fun l1 l2 st h Q x => pf_S pb_u_153 rfl rfl,
  fun l1 l2 st h Q => pf_S pb_u_153 rfl rfl,
  fun l0 l2 st h Q x => pf_S pb_u_153 rfl rfl,
  fun L J h Q x0 x1 => pf_kv pb_u_153 rfl pb_ci_144 rfl ⟨Nat.le_of_ble_eq_true rfl, Nat.le_of_ble_eq_true rfl, Nat.le_of_ble_eq_true rfl, Nat.le_of_ble_eq_true rfl, rfl⟩ rfl rfl,
  fun L J st h Q => pf_S pb_u_153 rfl rfl,
  fun l1 l2 st h Q x => pf_S pb_u_153 rfl rfl,
  fun l1 l2 st h Q => pf_S pb_u_153 rfl rfl,
  fun l0 l2 st h Q x => pf_S pb_u_153 rfl rfl,
  fun l0 l1 st h Q x => pf_S pb_u_153 rfl rfl,
  fun L J h Q x0 x1 x2 => pf_kv pb_u_153 rfl pb_ci_152 rfl ⟨Nat.le_of_ble_eq_true rfl, Nat.le_of_ble_eq_true rfl, Nat.le_of_ble_eq_true rfl, Nat.le_of_ble_eq_true rfl, rfl⟩ rfl rfl,
  fun L J h Q => pf_rv pb_u_153 rfl rfl⟩
theorem pb_c153 (x0 : Nat) (x1 : Int32) (x2 : Int32) (h : pb_H) (Q : Option Value → pb_H → Prop) : pb_call 153 [.ref x0, .int x1, .int x2] h Q ↔ pb_R 153 0 [some (.ref x0), some (.int x1), some (.int x2)] [] [] h Q := Iff.rfl
/-! 154: PlaneBenchModel.isGreat(I)Z -/
theorem pb_u_154 : pb_t 154 = pb_t154 := rfl
theorem pb_ci_154 : pb_ci 154 = 12 := by decide +kernel
set_option maxRecDepth 100000 in
theorem pb_e154 : (∀ (l1 : Option Value) (st : List Value) (h : pb_H) (Q : Option Value → pb_H → Prop) (x : Nat), pb_R 154 0 [some (.ref x), l1] [] st h Q ↔ pb_R 154 1 [some (.ref x), l1] [] (.ref x :: st) h Q) ∧
  (∀ (l1 : Option Value) (st : List Value) (h : pb_H) (Q : Option Value → pb_H → Prop), pb_R 154 0 [some .null, l1] [] st h Q ↔ pb_R 154 1 [some .null, l1] [] (.null :: st) h Q) ∧
  (∀ (l0 : Option Value) (st : List Value) (h : pb_H) (Q : Option Value → pb_H → Prop) (x : Int32), pb_R 154 1 [l0, some (.int x)] [] st h Q ↔ pb_R 154 2 [l0, some (.int x)] [] (.int x :: st) h Q) ∧
  (∀ (L : pb_L) (J : pb_J) (h : pb_H) (Q : Option Value → pb_H → Prop) (x0 : Int32) (x1 : Nat), pb_R 154 2 L J [.int x0, .ref x1] h Q ↔ pb_is0 (h.2 x1) 12 = true ∧ pb_call 148 [.ref x1, .int x0] h (fun v t => pb_R 154 5 L J (v.toList ++ []) t Q)) ∧
  (∀ (L : pb_L) (J : pb_J) (st : List Value) (h : pb_H) (Q : Option Value → pb_H → Prop), pb_R 154 5 L J st h Q ↔ pb_R 154 7 L J (.int (16 : Int32) :: st) h Q) ∧
  (∀ (L : pb_L) (J : pb_J) (st : List Value) (h : pb_H) (Q : Option Value → pb_H → Prop) (x y : Int32), pb_R 154 7 L J (.int y :: .int x :: st) h Q ↔ if x ≤ y then pb_R 154 14 L J st h Q else pb_R 154 10 L J st h Q) ∧
  (∀ (L : pb_L) (J : pb_J) (st : List Value) (h : pb_H) (Q : Option Value → pb_H → Prop), pb_R 154 10 L J st h Q ↔ pb_R 154 11 L J (.int (1 : Int32) :: st) h Q) ∧
  (∀ (L : pb_L) (J : pb_J) (st : List Value) (h : pb_H) (Q : Option Value → pb_H → Prop), pb_R 154 11 L J st h Q ↔ pb_R 154 15 L J st h Q) ∧
  (∀ (L : pb_L) (J : pb_J) (st : List Value) (h : pb_H) (Q : Option Value → pb_H → Prop), pb_R 154 14 L J st h Q ↔ pb_R 154 15 L J (.int (0 : Int32) :: st) h Q) ∧
  (∀ (L : pb_L) (J : pb_J) (h : pb_H) (Q : Option Value → pb_H → Prop) (x : Int32), pb_R 154 15 L J [.int x] h Q ↔ narrow .boolean (.int x) = .int x ∧ Q (some (.int x)) h) := ⟨
  fun l1 st h Q x => pf_S pb_u_154 rfl rfl,
  fun l1 st h Q => pf_S pb_u_154 rfl rfl,
  fun l0 st h Q x => pf_S pb_u_154 rfl rfl,
  fun L J h Q x0 x1 => pf_kv pb_u_154 rfl pb_ci_148 rfl ⟨Nat.le_of_ble_eq_true rfl, Nat.le_of_ble_eq_true rfl, Nat.le_of_ble_eq_true rfl, Nat.le_of_ble_eq_true rfl, rfl⟩ rfl rfl,
  fun L J st h Q => pf_S pb_u_154 rfl rfl,
  fun L J st h Q x y => pf_ic pb_u_154 rfl rfl rfl,
  fun L J st h Q => pf_S pb_u_154 rfl rfl,
  fun L J st h Q => pf_S pb_u_154 rfl rfl,
  fun L J st h Q => pf_S pb_u_154 rfl rfl,
  fun L J h Q x => pf_rz pb_u_154 rfl rfl⟩
theorem pb_c154 (x0 : Nat) (x1 : Int32) (h : pb_H) (Q : Option Value → pb_H → Prop) : pb_call 154 [.ref x0, .int x1] h Q ↔ pb_R 154 0 [some (.ref x0), some (.int x1)] [] [] h Q := Iff.rfl
/-! 155: PlaneBenchModel.product(II)Z -/
theorem pb_u_155 : pb_t 155 = pb_t155 := rfl
theorem pb_ci_155 : pb_ci 155 = 12 := by decide +kernel
set_option maxRecDepth 100000 in
theorem pb_q155_2 (l0 l1 l2 l4 l5 l6 l7 l8 l9 l10 : Option Value) (j0 j1 j2 j3 j4 j5 j6 j7 j8 j9 j10 : Option Int64) (st : List Value) (h : pb_H) (Q : Option Value → pb_H → Prop) (x : Int32) : pb_R 155 2 [l0, l1, l2, some (.int x), l4, l5, l6, l7, l8, l9, l10] [j0, j1, j2, j3, j4, j5, j6, j7, j8, j9, j10] st h Q ↔ pb_R 155 3 [l0, l1, l2, some (.int x), l4, l5, l6, l7, l8, l9, l10] [j0, j1, j2, j3, j4, j5, j6, j7, j8, j9, j10] (.int x :: st) h Q := pf_S pb_u_155 rfl rfl
set_option maxRecDepth 100000 in
theorem pb_q155_37 (l0 l1 l2 l3 l4 l6 l7 l8 l9 l10 : Option Value) (j0 j1 j2 j3 j4 j5 j6 j7 j8 j9 j10 : Option Int64) (st : List Value) (h : pb_H) (Q : Option Value → pb_H → Prop) (x : Int32) : pb_R 155 37 [l0, l1, l2, l3, l4, some (.int x), l6, l7, l8, l9, l10] [j0, j1, j2, j3, j4, j5, j6, j7, j8, j9, j10] st h Q ↔ pb_R 155 39 [l0, l1, l2, l3, l4, some (.int x), l6, l7, l8, l9, l10] [j0, j1, j2, j3, j4, j5, j6, j7, j8, j9, j10] (.int x :: st) h Q := pf_S pb_u_155 rfl rfl
set_option maxRecDepth 100000 in
theorem pb_q155_50 (l0 l1 l2 l3 l4 l5 l6 l7 l9 l10 : Option Value) (j0 j1 j2 j3 j4 j5 j6 j7 j8 j9 j10 : Option Int64) (st : List Value) (h : pb_H) (Q : Option Value → pb_H → Prop) (x : Int32) : pb_R 155 50 [l0, l1, l2, l3, l4, l5, l6, l7, some (.int x), l9, l10] [j0, j1, j2, j3, j4, j5, j6, j7, j8, j9, j10] st h Q ↔ pb_R 155 52 [l0, l1, l2, l3, l4, l5, l6, l7, some (.int x), l9, l10] [j0, j1, j2, j3, j4, j5, j6, j7, j8, j9, j10] (.int x :: st) h Q := pf_S pb_u_155 rfl rfl
set_option maxRecDepth 100000 in
theorem pb_q155_146 (l0 l1 l2 l3 l4 l6 l7 l8 l9 l10 : Option Value) (j0 j1 j2 j3 j4 j5 j6 j7 j8 j9 j10 : Option Int64) (st : List Value) (h : pb_H) (Q : Option Value → pb_H → Prop) (x : Int32) : pb_R 155 146 [l0, l1, l2, l3, l4, some (.int x), l6, l7, l8, l9, l10] [j0, j1, j2, j3, j4, j5, j6, j7, j8, j9, j10] st h Q ↔ pb_R 155 148 [l0, l1, l2, l3, l4, some (.int x), l6, l7, l8, l9, l10] [j0, j1, j2, j3, j4, j5, j6, j7, j8, j9, j10] (.int x :: st) h Q := pf_S pb_u_155 rfl rfl
set_option maxRecDepth 100000 in
theorem pb_q155_174 (l0 l1 l2 l3 l4 l6 l7 l8 l9 l10 : Option Value) (j0 j1 j2 j3 j4 j5 j6 j7 j8 j9 j10 : Option Int64) (st : List Value) (h : pb_H) (Q : Option Value → pb_H → Prop) (x : Int32) : pb_R 155 174 [l0, l1, l2, l3, l4, some (.int x), l6, l7, l8, l9, l10] [j0, j1, j2, j3, j4, j5, j6, j7, j8, j9, j10] st h Q ↔ pb_R 155 176 [l0, l1, l2, l3, l4, some (.int x), l6, l7, l8, l9, l10] [j0, j1, j2, j3, j4, j5, j6, j7, j8, j9, j10] (.int x :: st) h Q := pf_S pb_u_155 rfl rfl
set_option maxRecDepth 100000 in
theorem pb_e155 : (∀ (L : pb_L) (J : pb_J) (st : List Value) (h : pb_H) (Q : Option Value → pb_H → Prop), pb_R 155 0 L J st h Q ↔ pb_R 155 1 L J (.int (0 : Int32) :: st) h Q) ∧
  (∀ (l0 l1 l2 l3 l4 l5 l6 l7 l8 l9 l10 : Option Value) (j0 j1 j2 j3 j4 j5 j6 j7 j8 j9 j10 : Option Int64) (st : List Value) (h : pb_H) (Q : Option Value → pb_H → Prop) (x : Int32), pb_R 155 1 [l0, l1, l2, l3, l4, l5, l6, l7, l8, l9, l10] [j0, j1, j2, j3, j4, j5, j6, j7, j8, j9, j10] (.int x :: st) h Q ↔ pb_R 155 2 [l0, l1, l2, some (.int x), l4, l5, l6, l7, l8, l9, l10] [j0, j1, none, none, j4, j5, j6, j7, j8, j9, j10] st h Q) ∧
  (∀ (L : pb_L) (J : pb_J) (st : List Value) (h : pb_H) (Q : Option Value → pb_H → Prop), pb_R 155 3 L J st h Q ↔ pb_R 155 5 L J (.int (42 : Int32) :: st) h Q) ∧
  (∀ (L : pb_L) (J : pb_J) (st : List Value) (h : pb_H) (Q : Option Value → pb_H → Prop) (x y : Int32), pb_R 155 5 L J (.int y :: .int x :: st) h Q ↔ if y ≤ x then pb_R 155 21 L J st h Q else pb_R 155 8 L J st h Q) ∧
  (∀ (l1 l2 l3 l4 l5 l6 l7 l8 l9 l10 : Option Value) (j0 j1 j2 j3 j4 j5 j6 j7 j8 j9 j10 : Option Int64) (st : List Value) (h : pb_H) (Q : Option Value → pb_H → Prop) (x : Nat), pb_R 155 8 [some (.ref x), l1, l2, l3, l4, l5, l6, l7, l8, l9, l10] [j0, j1, j2, j3, j4, j5, j6, j7, j8, j9, j10] st h Q ↔ pb_R 155 9 [some (.ref x), l1, l2, l3, l4, l5, l6, l7, l8, l9, l10] [j0, j1, j2, j3, j4, j5, j6, j7, j8, j9, j10] (.ref x :: st) h Q) ∧
  (∀ (l1 l2 l3 l4 l5 l6 l7 l8 l9 l10 : Option Value) (j0 j1 j2 j3 j4 j5 j6 j7 j8 j9 j10 : Option Int64) (st : List Value) (h : pb_H) (Q : Option Value → pb_H → Prop), pb_R 155 8 [some .null, l1, l2, l3, l4, l5, l6, l7, l8, l9, l10] [j0, j1, j2, j3, j4, j5, j6, j7, j8, j9, j10] st h Q ↔ pb_R 155 9 [some .null, l1, l2, l3, l4, l5, l6, l7, l8, l9, l10] [j0, j1, j2, j3, j4, j5, j6, j7, j8, j9, j10] (.null :: st) h Q) ∧
  (∀ (L : pb_L) (J : pb_J) (st : List Value) (h : pb_H) (Q : Option Value → pb_H → Prop) (a : Nat), pb_R 155 9 L J (.ref a :: st) h Q ↔ pb_o (pb_gf (h.2 a) 12 10) (fun v => pb_R 155 12 L J (v :: st) h Q)) ∧
  (∀ (l0 l1 l2 l4 l5 l6 l7 l8 l9 l10 : Option Value) (j0 j1 j2 j3 j4 j5 j6 j7 j8 j9 j10 : Option Int64) (st : List Value) (h : pb_H) (Q : Option Value → pb_H → Prop) (x : Int32), pb_R 155 12 [l0, l1, l2, some (.int x), l4, l5, l6, l7, l8, l9, l10] [j0, j1, j2, j3, j4, j5, j6, j7, j8, j9, j10] st h Q ↔ pb_R 155 13 [l0, l1, l2, some (.int x), l4, l5, l6, l7, l8, l9, l10] [j0, j1, j2, j3, j4, j5, j6, j7, j8, j9, j10] (.int x :: st) h Q) ∧
  (∀ (L : pb_L) (J : pb_J) (st : List Value) (h : pb_H) (Q : Option Value → pb_H → Prop), pb_R 155 13 L J st h Q ↔ pb_R 155 14 L J (.int (0 : Int32) :: st) h Q) ∧
  (∀ (L : pb_L) (J : pb_J) (st : List Value) (h : pb_H) (Q : Option Value → pb_H → Prop) (a : Nat) (i x : Int32), pb_R 155 14 L J (.int x :: .int i :: .ref a :: st) h Q ↔ pb_o (pb_si (h.2 a) i x) (fun c => pb_R 155 15 L J st (pb_set h a c) Q)) ∧
  (∀ (l0 l1 l2 l4 l5 l6 l7 l8 l9 l10 : Option Value) (j0 j1 j2 j3 j4 j5 j6 j7 j8 j9 j10 : Option Int64) (st : List Value) (h : pb_H) (Q : Option Value → pb_H → Prop) (x : Int32), pb_R 155 15 [l0, l1, l2, some (.int x), l4, l5, l6, l7, l8, l9, l10] [j0, j1, j2, j3, j4, j5, j6, j7, j8, j9, j10] st h Q ↔ pb_R 155 18 [l0, l1, l2, some (.int (x + (1 : Int32))), l4, l5, l6, l7, l8, l9, l10] [j0, j1, none, none, j4, j5, j6, j7, j8, j9, j10] st h Q) ∧
  (∀ (L : pb_L) (J : pb_J) (st : List Value) (h : pb_H) (Q : Option Value → pb_H → Prop), pb_R 155 18 L J st h Q ↔ pb_R 155 2 L J st h Q) ∧
  (∀ (l1 l2 l3 l4 l5 l6 l7 l8 l9 l10 : Option Value) (j0 j1 j2 j3 j4 j5 j6 j7 j8 j9 j10 : Option Int64) (st : List Value) (h : pb_H) (Q : Option Value → pb_H → Prop) (x : Nat), pb_R 155 21 [some (.ref x), l1, l2, l3, l4, l5, l6, l7, l8, l9, l10] [j0, j1, j2, j3, j4, j5, j6, j7, j8, j9, j10] st h Q ↔ pb_R 155 22 [some (.ref x), l1, l2, l3, l4, l5, l6, l7, l8, l9, l10] [j0, j1, j2, j3, j4, j5, j6, j7, j8, j9, j10] (.ref x :: st) h Q) ∧
  (∀ (l1 l2 l3 l4 l5 l6 l7 l8 l9 l10 : Option Value) (j0 j1 j2 j3 j4 j5 j6 j7 j8 j9 j10 : Option Int64) (st : List Value) (h : pb_H) (Q : Option Value → pb_H → Prop), pb_R 155 21 [some .null, l1, l2, l3, l4, l5, l6, l7, l8, l9, l10] [j0, j1, j2, j3, j4, j5, j6, j7, j8, j9, j10] st h Q ↔ pb_R 155 22 [some .null, l1, l2, l3, l4, l5, l6, l7, l8, l9, l10] [j0, j1, j2, j3, j4, j5, j6, j7, j8, j9, j10] (.null :: st) h Q) ∧
  (∀ (l0 l1 l3 l4 l5 l6 l7 l8 l9 l10 : Option Value) (j0 j1 j2 j3 j4 j5 j6 j7 j8 j9 j10 : Option Int64) (st : List Value) (h : pb_H) (Q : Option Value → pb_H → Prop) (x : Int32), pb_R 155 22 [l0, l1, some (.int x), l3, l4, l5, l6, l7, l8, l9, l10] [j0, j1, j2, j3, j4, j5, j6, j7, j8, j9, j10] st h Q ↔ pb_R 155 23 [l0, l1, some (.int x), l3, l4, l5, l6, l7, l8, l9, l10] [j0, j1, j2, j3, j4, j5, j6, j7, j8, j9, j10] (.int x :: st) h Q) ∧
  (∀ (L : pb_L) (J : pb_J) (h : pb_H) (Q : Option Value → pb_H → Prop) (x0 : Int32) (x1 : Nat), pb_R 155 23 L J [.int x0, .ref x1] h Q ↔ pb_is0 (h.2 x1) 12 = true ∧ pb_call 148 [.ref x1, .int x0] h (fun v t => pb_R 155 26 L J (v.toList ++ []) t Q)) ∧
  (∀ (l0 l1 l2 l3 l4 l5 l6 l7 l8 l9 l10 : Option Value) (j0 j1 j2 j3 j4 j5 j6 j7 j8 j9 j10 : Option Int64) (st : List Value) (h : pb_H) (Q : Option Value → pb_H → Prop) (x : Int32), pb_R 155 26 [l0, l1, l2, l3, l4, l5, l6, l7, l8, l9, l10] [j0, j1, j2, j3, j4, j5, j6, j7, j8, j9, j10] (.int x :: st) h Q ↔ pb_R 155 27 [l0, l1, l2, some (.int x), l4, l5, l6, l7, l8, l9, l10] [j0, j1, none, none, j4, j5, j6, j7, j8, j9, j10] st h Q) ∧
  (∀ (l1 l2 l3 l4 l5 l6 l7 l8 l9 l10 : Option Value) (j0 j1 j2 j3 j4 j5 j6 j7 j8 j9 j10 : Option Int64) (st : List Value) (h : pb_H) (Q : Option Value → pb_H → Prop) (x : Nat), pb_R 155 27 [some (.ref x), l1, l2, l3, l4, l5, l6, l7, l8, l9, l10] [j0, j1, j2, j3, j4, j5, j6, j7, j8, j9, j10] st h Q ↔ pb_R 155 28 [some (.ref x), l1, l2, l3, l4, l5, l6, l7, l8, l9, l10] [j0, j1, j2, j3, j4, j5, j6, j7, j8, j9, j10] (.ref x :: st) h Q) ∧
  (∀ (l1 l2 l3 l4 l5 l6 l7 l8 l9 l10 : Option Value) (j0 j1 j2 j3 j4 j5 j6 j7 j8 j9 j10 : Option Int64) (st : List Value) (h : pb_H) (Q : Option Value → pb_H → Prop), pb_R 155 27 [some .null, l1, l2, l3, l4, l5, l6, l7, l8, l9, l10] [j0, j1, j2, j3, j4, j5, j6, j7, j8, j9, j10] st h Q ↔ pb_R 155 28 [some .null, l1, l2, l3, l4, l5, l6, l7, l8, l9, l10] [j0, j1, j2, j3, j4, j5, j6, j7, j8, j9, j10] (.null :: st) h Q) ∧
  (∀ (l0 l2 l3 l4 l5 l6 l7 l8 l9 l10 : Option Value) (j0 j1 j2 j3 j4 j5 j6 j7 j8 j9 j10 : Option Int64) (st : List Value) (h : pb_H) (Q : Option Value → pb_H → Prop) (x : Int32), pb_R 155 28 [l0, some (.int x), l2, l3, l4, l5, l6, l7, l8, l9, l10] [j0, j1, j2, j3, j4, j5, j6, j7, j8, j9, j10] st h Q ↔ pb_R 155 29 [l0, some (.int x), l2, l3, l4, l5, l6, l7, l8, l9, l10] [j0, j1, j2, j3, j4, j5, j6, j7, j8, j9, j10] (.int x :: st) h Q) ∧
  (∀ (L : pb_L) (J : pb_J) (h : pb_H) (Q : Option Value → pb_H → Prop) (x0 : Int32) (x1 : Nat), pb_R 155 29 L J [.int x0, .ref x1] h Q ↔ pb_is0 (h.2 x1) 12 = true ∧ pb_call 148 [.ref x1, .int x0] h (fun v t => pb_R 155 32 L J (v.toList ++ []) t Q)) ∧
  (∀ (l0 l1 l2 l3 l4 l5 l6 l7 l8 l9 l10 : Option Value) (j0 j1 j2 j3 j4 j5 j6 j7 j8 j9 j10 : Option Int64) (st : List Value) (h : pb_H) (Q : Option Value → pb_H → Prop) (x : Int32), pb_R 155 32 [l0, l1, l2, l3, l4, l5, l6, l7, l8, l9, l10] [j0, j1, j2, j3, j4, j5, j6, j7, j8, j9, j10] (.int x :: st) h Q ↔ pb_R 155 34 [l0, l1, l2, l3, some (.int x), l5, l6, l7, l8, l9, l10] [j0, j1, j2, none, none, j5, j6, j7, j8, j9, j10] st h Q) ∧
  (∀ (L : pb_L) (J : pb_J) (st : List Value) (h : pb_H) (Q : Option Value → pb_H → Prop), pb_R 155 34 L J st h Q ↔ pb_R 155 35 L J (.int (0 : Int32) :: st) h Q) ∧
  (∀ (l0 l1 l2 l3 l4 l5 l6 l7 l8 l9 l10 : Option Value) (j0 j1 j2 j3 j4 j5 j6 j7 j8 j9 j10 : Option Int64) (st : List Value) (h : pb_H) (Q : Option Value → pb_H → Prop) (x : Int32), pb_R 155 35 [l0, l1, l2, l3, l4, l5, l6, l7, l8, l9, l10] [j0, j1, j2, j3, j4, j5, j6, j7, j8, j9, j10] (.int x :: st) h Q ↔ pb_R 155 37 [l0, l1, l2, l3, l4, some (.int x), l6, l7, l8, l9, l10] [j0, j1, j2, j3, none, none, j6, j7, j8, j9, j10] st h Q) ∧
  (∀ (l0 l1 l2 l3 l5 l6 l7 l8 l9 l10 : Option Value) (j0 j1 j2 j3 j4 j5 j6 j7 j8 j9 j10 : Option Int64) (st : List Value) (h : pb_H) (Q : Option Value → pb_H → Prop) (x : Int32), pb_R 155 39 [l0, l1, l2, l3, some (.int x), l5, l6, l7, l8, l9, l10] [j0, j1, j2, j3, j4, j5, j6, j7, j8, j9, j10] st h Q ↔ pb_R 155 41 [l0, l1, l2, l3, some (.int x), l5, l6, l7, l8, l9, l10] [j0, j1, j2, j3, j4, j5, j6, j7, j8, j9, j10] (.int x :: st) h Q) ∧
  (∀ (L : pb_L) (J : pb_J) (st : List Value) (h : pb_H) (Q : Option Value → pb_H → Prop) (x y : Int32), pb_R 155 41 L J (.int y :: .int x :: st) h Q ↔ if y ≤ x then pb_R 155 142 L J st h Q else pb_R 155 44 L J st h Q) ∧
  (∀ (L : pb_L) (J : pb_J) (st : List Value) (h : pb_H) (Q : Option Value → pb_H → Prop), pb_R 155 44 L J st h Q ↔ pb_R 155 45 L J (.long (0 : Int64) :: st) h Q) ∧
  (∀ (l0 l1 l2 l3 l4 l5 l6 l7 l8 l9 l10 : Option Value) (j0 j1 j2 j3 j4 j5 j6 j7 j8 j9 j10 : Option Int64) (st : List Value) (h : pb_H) (Q : Option Value → pb_H → Prop) (x : Int64), pb_R 155 45 [l0, l1, l2, l3, l4, l5, l6, l7, l8, l9, l10] [j0, j1, j2, j3, j4, j5, j6, j7, j8, j9, j10] (.long x :: st) h Q ↔ pb_R 155 47 [l0, l1, l2, l3, l4, l5, none, none, l8, l9, l10] [j0, j1, j2, j3, j4, none, some x, none, j8, j9, j10] st h Q) ∧
  (∀ (L : pb_L) (J : pb_J) (st : List Value) (h : pb_H) (Q : Option Value → pb_H → Prop), pb_R 155 47 L J st h Q ↔ pb_R 155 48 L J (.int (0 : Int32) :: st) h Q) ∧
  (∀ (l0 l1 l2 l3 l4 l5 l6 l7 l8 l9 l10 : Option Value) (j0 j1 j2 j3 j4 j5 j6 j7 j8 j9 j10 : Option Int64) (st : List Value) (h : pb_H) (Q : Option Value → pb_H → Prop) (x : Int32), pb_R 155 48 [l0, l1, l2, l3, l4, l5, l6, l7, l8, l9, l10] [j0, j1, j2, j3, j4, j5, j6, j7, j8, j9, j10] (.int x :: st) h Q ↔ pb_R 155 50 [l0, l1, l2, l3, l4, l5, l6, l7, some (.int x), l9, l10] [j0, j1, j2, j3, j4, j5, j6, none, none, j9, j10] st h Q) ∧
  (∀ (l0 l1 l2 l4 l5 l6 l7 l8 l9 l10 : Option Value) (j0 j1 j2 j3 j4 j5 j6 j7 j8 j9 j10 : Option Int64) (st : List Value) (h : pb_H) (Q : Option Value → pb_H → Prop) (x : Int32), pb_R 155 52 [l0, l1, l2, some (.int x), l4, l5, l6, l7, l8, l9, l10] [j0, j1, j2, j3, j4, j5, j6, j7, j8, j9, j10] st h Q ↔ pb_R 155 53 [l0, l1, l2, some (.int x), l4, l5, l6, l7, l8, l9, l10] [j0, j1, j2, j3, j4, j5, j6, j7, j8, j9, j10] (.int x :: st) h Q) ∧
  (∀ (L : pb_L) (J : pb_J) (st : List Value) (h : pb_H) (Q : Option Value → pb_H → Prop) (x y : Int32), pb_R 155 53 L J (.int y :: .int x :: st) h Q ↔ if y ≤ x then pb_R 155 124 L J st h Q else pb_R 155 56 L J st h Q) ∧
  (∀ (l1 l2 l3 l4 l5 l6 l7 l8 l9 l10 : Option Value) (j0 j1 j2 j3 j4 j5 j6 j7 j8 j9 j10 : Option Int64) (st : List Value) (h : pb_H) (Q : Option Value → pb_H → Prop) (x : Nat), pb_R 155 56 [some (.ref x), l1, l2, l3, l4, l5, l6, l7, l8, l9, l10] [j0, j1, j2, j3, j4, j5, j6, j7, j8, j9, j10] st h Q ↔ pb_R 155 57 [some (.ref x), l1, l2, l3, l4, l5, l6, l7, l8, l9, l10] [j0, j1, j2, j3, j4, j5, j6, j7, j8, j9, j10] (.ref x :: st) h Q) ∧
  (∀ (l1 l2 l3 l4 l5 l6 l7 l8 l9 l10 : Option Value) (j0 j1 j2 j3 j4 j5 j6 j7 j8 j9 j10 : Option Int64) (st : List Value) (h : pb_H) (Q : Option Value → pb_H → Prop), pb_R 155 56 [some .null, l1, l2, l3, l4, l5, l6, l7, l8, l9, l10] [j0, j1, j2, j3, j4, j5, j6, j7, j8, j9, j10] st h Q ↔ pb_R 155 57 [some .null, l1, l2, l3, l4, l5, l6, l7, l8, l9, l10] [j0, j1, j2, j3, j4, j5, j6, j7, j8, j9, j10] (.null :: st) h Q) ∧
  (∀ (L : pb_L) (J : pb_J) (st : List Value) (h : pb_H) (Q : Option Value → pb_H → Prop) (a : Nat), pb_R 155 57 L J (.ref a :: st) h Q ↔ pb_o (pb_gf (h.2 a) 12 0) (fun v => pb_R 155 60 L J (v :: st) h Q)) ∧
  (∀ (l0 l2 l3 l4 l5 l6 l7 l8 l9 l10 : Option Value) (j0 j1 j2 j3 j4 j5 j6 j7 j8 j9 j10 : Option Int64) (st : List Value) (h : pb_H) (Q : Option Value → pb_H → Prop) (x : Int32), pb_R 155 60 [l0, some (.int x), l2, l3, l4, l5, l6, l7, l8, l9, l10] [j0, j1, j2, j3, j4, j5, j6, j7, j8, j9, j10] st h Q ↔ pb_R 155 61 [l0, some (.int x), l2, l3, l4, l5, l6, l7, l8, l9, l10] [j0, j1, j2, j3, j4, j5, j6, j7, j8, j9, j10] (.int x :: st) h Q) ∧
  (∀ (l0 l1 l2 l3 l4 l6 l7 l8 l9 l10 : Option Value) (j0 j1 j2 j3 j4 j5 j6 j7 j8 j9 j10 : Option Int64) (st : List Value) (h : pb_H) (Q : Option Value → pb_H → Prop) (x : Int32), pb_R 155 61 [l0, l1, l2, l3, l4, some (.int x), l6, l7, l8, l9, l10] [j0, j1, j2, j3, j4, j5, j6, j7, j8, j9, j10] st h Q ↔ pb_R 155 63 [l0, l1, l2, l3, l4, some (.int x), l6, l7, l8, l9, l10] [j0, j1, j2, j3, j4, j5, j6, j7, j8, j9, j10] (.int x :: st) h Q) ∧
  (∀ (L : pb_L) (J : pb_J) (st : List Value) (x y : Int32) (h : pb_H) (Q : Option Value → pb_H → Prop), pb_R 155 63 L J (.int y :: .int x :: st) h Q ↔ pb_R 155 64 L J (.int (x + y) :: st) h Q) ∧
  (∀ (L : pb_L) (J : pb_J) (st : List Value) (h : pb_H) (Q : Option Value → pb_H → Prop) (a : Nat) (i : Int32), pb_R 155 64 L J (.int i :: .ref a :: st) h Q ↔ pb_o (pb_ai (h.2 a) i) (fun v => pb_R 155 65 L J (.int v :: st) h Q)) ∧
  (∀ (L : pb_L) (J : pb_J) (st : List Value) (x : Int32) (h : pb_H) (Q : Option Value → pb_H → Prop), pb_R 155 65 L J (.int x :: st) h Q ↔ pb_R 155 66 L J (.long x.toInt64 :: st) h Q) ∧
  (∀ (l1 l2 l3 l4 l5 l6 l7 l8 l9 l10 : Option Value) (j0 j1 j2 j3 j4 j5 j6 j7 j8 j9 j10 : Option Int64) (st : List Value) (h : pb_H) (Q : Option Value → pb_H → Prop) (x : Nat), pb_R 155 66 [some (.ref x), l1, l2, l3, l4, l5, l6, l7, l8, l9, l10] [j0, j1, j2, j3, j4, j5, j6, j7, j8, j9, j10] st h Q ↔ pb_R 155 67 [some (.ref x), l1, l2, l3, l4, l5, l6, l7, l8, l9, l10] [j0, j1, j2, j3, j4, j5, j6, j7, j8, j9, j10] (.ref x :: st) h Q) ∧
  (∀ (l1 l2 l3 l4 l5 l6 l7 l8 l9 l10 : Option Value) (j0 j1 j2 j3 j4 j5 j6 j7 j8 j9 j10 : Option Int64) (st : List Value) (h : pb_H) (Q : Option Value → pb_H → Prop), pb_R 155 66 [some .null, l1, l2, l3, l4, l5, l6, l7, l8, l9, l10] [j0, j1, j2, j3, j4, j5, j6, j7, j8, j9, j10] st h Q ↔ pb_R 155 67 [some .null, l1, l2, l3, l4, l5, l6, l7, l8, l9, l10] [j0, j1, j2, j3, j4, j5, j6, j7, j8, j9, j10] (.null :: st) h Q) ∧
  (∀ (L : pb_L) (J : pb_J) (st : List Value) (h : pb_H) (Q : Option Value → pb_H → Prop) (a : Nat), pb_R 155 67 L J (.ref a :: st) h Q ↔ pb_o (pb_gf (h.2 a) 12 0) (fun v => pb_R 155 70 L J (v :: st) h Q)) ∧
  (∀ (l0 l1 l3 l4 l5 l6 l7 l8 l9 l10 : Option Value) (j0 j1 j2 j3 j4 j5 j6 j7 j8 j9 j10 : Option Int64) (st : List Value) (h : pb_H) (Q : Option Value → pb_H → Prop) (x : Int32), pb_R 155 70 [l0, l1, some (.int x), l3, l4, l5, l6, l7, l8, l9, l10] [j0, j1, j2, j3, j4, j5, j6, j7, j8, j9, j10] st h Q ↔ pb_R 155 71 [l0, l1, some (.int x), l3, l4, l5, l6, l7, l8, l9, l10] [j0, j1, j2, j3, j4, j5, j6, j7, j8, j9, j10] (.int x :: st) h Q) ∧
  (∀ (l0 l1 l2 l3 l4 l5 l6 l7 l9 l10 : Option Value) (j0 j1 j2 j3 j4 j5 j6 j7 j8 j9 j10 : Option Int64) (st : List Value) (h : pb_H) (Q : Option Value → pb_H → Prop) (x : Int32), pb_R 155 71 [l0, l1, l2, l3, l4, l5, l6, l7, some (.int x), l9, l10] [j0, j1, j2, j3, j4, j5, j6, j7, j8, j9, j10] st h Q ↔ pb_R 155 73 [l0, l1, l2, l3, l4, l5, l6, l7, some (.int x), l9, l10] [j0, j1, j2, j3, j4, j5, j6, j7, j8, j9, j10] (.int x :: st) h Q) ∧
  (∀ (L : pb_L) (J : pb_J) (st : List Value) (x y : Int32) (h : pb_H) (Q : Option Value → pb_H → Prop), pb_R 155 73 L J (.int y :: .int x :: st) h Q ↔ pb_R 155 74 L J (.int (x + y) :: st) h Q) ∧
  (∀ (L : pb_L) (J : pb_J) (st : List Value) (h : pb_H) (Q : Option Value → pb_H → Prop) (a : Nat) (i : Int32), pb_R 155 74 L J (.int i :: .ref a :: st) h Q ↔ pb_o (pb_ai (h.2 a) i) (fun v => pb_R 155 75 L J (.int v :: st) h Q)) ∧
  (∀ (L : pb_L) (J : pb_J) (st : List Value) (x : Int32) (h : pb_H) (Q : Option Value → pb_H → Prop), pb_R 155 75 L J (.int x :: st) h Q ↔ pb_R 155 76 L J (.long x.toInt64 :: st) h Q) ∧
  (∀ (L : pb_L) (J : pb_J) (st : List Value) (x y : Int64) (h : pb_H) (Q : Option Value → pb_H → Prop), pb_R 155 76 L J (.long y :: .long x :: st) h Q ↔ pb_R 155 77 L J (.long (x * y) :: st) h Q) ∧
  (∀ (l1 l2 l3 l4 l5 l6 l7 l8 l9 l10 : Option Value) (j0 j1 j2 j3 j4 j5 j6 j7 j8 j9 j10 : Option Int64) (st : List Value) (h : pb_H) (Q : Option Value → pb_H → Prop) (x : Nat), pb_R 155 77 [some (.ref x), l1, l2, l3, l4, l5, l6, l7, l8, l9, l10] [j0, j1, j2, j3, j4, j5, j6, j7, j8, j9, j10] st h Q ↔ pb_R 155 78 [some (.ref x), l1, l2, l3, l4, l5, l6, l7, l8, l9, l10] [j0, j1, j2, j3, j4, j5, j6, j7, j8, j9, j10] (.ref x :: st) h Q) ∧
  (∀ (l1 l2 l3 l4 l5 l6 l7 l8 l9 l10 : Option Value) (j0 j1 j2 j3 j4 j5 j6 j7 j8 j9 j10 : Option Int64) (st : List Value) (h : pb_H) (Q : Option Value → pb_H → Prop), pb_R 155 77 [some .null, l1, l2, l3, l4, l5, l6, l7, l8, l9, l10] [j0, j1, j2, j3, j4, j5, j6, j7, j8, j9, j10] st h Q ↔ pb_R 155 78 [some .null, l1, l2, l3, l4, l5, l6, l7, l8, l9, l10] [j0, j1, j2, j3, j4, j5, j6, j7, j8, j9, j10] (.null :: st) h Q) ∧
  (∀ (L : pb_L) (J : pb_J) (st : List Value) (h : pb_H) (Q : Option Value → pb_H → Prop) (a : Nat), pb_R 155 78 L J (.ref a :: st) h Q ↔ pb_o (pb_gf (h.2 a) 12 10) (fun v => pb_R 155 81 L J (v :: st) h Q)) ∧
  (∀ (l0 l1 l2 l3 l4 l6 l7 l8 l9 l10 : Option Value) (j0 j1 j2 j3 j4 j5 j6 j7 j8 j9 j10 : Option Int64) (st : List Value) (h : pb_H) (Q : Option Value → pb_H → Prop) (x : Int32), pb_R 155 81 [l0, l1, l2, l3, l4, some (.int x), l6, l7, l8, l9, l10] [j0, j1, j2, j3, j4, j5, j6, j7, j8, j9, j10] st h Q ↔ pb_R 155 83 [l0, l1, l2, l3, l4, some (.int x), l6, l7, l8, l9, l10] [j0, j1, j2, j3, j4, j5, j6, j7, j8, j9, j10] (.int x :: st) h Q) ∧
  (∀ (l0 l1 l2 l3 l4 l5 l6 l7 l9 l10 : Option Value) (j0 j1 j2 j3 j4 j5 j6 j7 j8 j9 j10 : Option Int64) (st : List Value) (h : pb_H) (Q : Option Value → pb_H → Prop) (x : Int32), pb_R 155 83 [l0, l1, l2, l3, l4, l5, l6, l7, some (.int x), l9, l10] [j0, j1, j2, j3, j4, j5, j6, j7, j8, j9, j10] st h Q ↔ pb_R 155 85 [l0, l1, l2, l3, l4, l5, l6, l7, some (.int x), l9, l10] [j0, j1, j2, j3, j4, j5, j6, j7, j8, j9, j10] (.int x :: st) h Q) ∧
  (∀ (L : pb_L) (J : pb_J) (st : List Value) (x y : Int32) (h : pb_H) (Q : Option Value → pb_H → Prop), pb_R 155 85 L J (.int y :: .int x :: st) h Q ↔ pb_R 155 86 L J (.int (x + y) :: st) h Q) ∧
  (∀ (L : pb_L) (J : pb_J) (st : List Value) (h : pb_H) (Q : Option Value → pb_H → Prop) (a : Nat) (i : Int32), pb_R 155 86 L J (.int i :: .ref a :: st) h Q ↔ pb_o (pb_ai (h.2 a) i) (fun v => pb_R 155 87 L J (.int v :: st) h Q)) ∧
  (∀ (L : pb_L) (J : pb_J) (st : List Value) (x : Int32) (h : pb_H) (Q : Option Value → pb_H → Prop), pb_R 155 87 L J (.int x :: st) h Q ↔ pb_R 155 88 L J (.long x.toInt64 :: st) h Q) ∧
  (∀ (L : pb_L) (J : pb_J) (st : List Value) (x y : Int64) (h : pb_H) (Q : Option Value → pb_H → Prop), pb_R 155 88 L J (.long y :: .long x :: st) h Q ↔ pb_R 155 89 L J (.long (x + y) :: st) h Q) ∧
  (∀ (l0 l1 l2 l3 l4 l5 l6 l7 l8 l9 l10 : Option Value) (j0 j1 j2 j3 j4 j5 j7 j8 j9 j10 : Option Int64) (st : List Value) (h : pb_H) (Q : Option Value → pb_H → Prop) (x : Int64), pb_R 155 89 [l0, l1, l2, l3, l4, l5, l6, l7, l8, l9, l10] [j0, j1, j2, j3, j4, j5, some x, j7, j8, j9, j10] st h Q ↔ pb_R 155 91 [l0, l1, l2, l3, l4, l5, l6, l7, l8, l9, l10] [j0, j1, j2, j3, j4, j5, some x, j7, j8, j9, j10] (.long x :: st) h Q) ∧
  (∀ (L : pb_L) (J : pb_J) (st : List Value) (x y : Int64) (h : pb_H) (Q : Option Value → pb_H → Prop), pb_R 155 91 L J (.long y :: .long x :: st) h Q ↔ pb_R 155 92 L J (.long (x + y) :: st) h Q) ∧
  (∀ (l0 l1 l2 l3 l4 l5 l6 l7 l8 l9 l10 : Option Value) (j0 j1 j2 j3 j4 j5 j6 j7 j8 j9 j10 : Option Int64) (st : List Value) (h : pb_H) (Q : Option Value → pb_H → Prop) (x : Int64), pb_R 155 92 [l0, l1, l2, l3, l4, l5, l6, l7, l8, l9, l10] [j0, j1, j2, j3, j4, j5, j6, j7, j8, j9, j10] (.long x :: st) h Q ↔ pb_R 155 94 [l0, l1, l2, l3, l4, l5, l6, l7, l8, none, none] [j0, j1, j2, j3, j4, j5, j6, j7, none, some x, none] st h Q) ∧
  (∀ (l1 l2 l3 l4 l5 l6 l7 l8 l9 l10 : Option Value) (j0 j1 j2 j3 j4 j5 j6 j7 j8 j9 j10 : Option Int64) (st : List Value) (h : pb_H) (Q : Option Value → pb_H → Prop) (x : Nat), pb_R 155 94 [some (.ref x), l1, l2, l3, l4, l5, l6, l7, l8, l9, l10] [j0, j1, j2, j3, j4, j5, j6, j7, j8, j9, j10] st h Q ↔ pb_R 155 95 [some (.ref x), l1, l2, l3, l4, l5, l6, l7, l8, l9, l10] [j0, j1, j2, j3, j4, j5, j6, j7, j8, j9, j10] (.ref x :: st) h Q) ∧
  (∀ (l1 l2 l3 l4 l5 l6 l7 l8 l9 l10 : Option Value) (j0 j1 j2 j3 j4 j5 j6 j7 j8 j9 j10 : Option Int64) (st : List Value) (h : pb_H) (Q : Option Value → pb_H → Prop), pb_R 155 94 [some .null, l1, l2, l3, l4, l5, l6, l7, l8, l9, l10] [j0, j1, j2, j3, j4, j5, j6, j7, j8, j9, j10] st h Q ↔ pb_R 155 95 [some .null, l1, l2, l3, l4, l5, l6, l7, l8, l9, l10] [j0, j1, j2, j3, j4, j5, j6, j7, j8, j9, j10] (.null :: st) h Q) ∧
  (∀ (L : pb_L) (J : pb_J) (st : List Value) (h : pb_H) (Q : Option Value → pb_H → Prop) (a : Nat), pb_R 155 95 L J (.ref a :: st) h Q ↔ pb_o (pb_gf (h.2 a) 12 10) (fun v => pb_R 155 98 L J (v :: st) h Q)) ∧
  (∀ (l0 l1 l2 l3 l4 l6 l7 l8 l9 l10 : Option Value) (j0 j1 j2 j3 j4 j5 j6 j7 j8 j9 j10 : Option Int64) (st : List Value) (h : pb_H) (Q : Option Value → pb_H → Prop) (x : Int32), pb_R 155 98 [l0, l1, l2, l3, l4, some (.int x), l6, l7, l8, l9, l10] [j0, j1, j2, j3, j4, j5, j6, j7, j8, j9, j10] st h Q ↔ pb_R 155 100 [l0, l1, l2, l3, l4, some (.int x), l6, l7, l8, l9, l10] [j0, j1, j2, j3, j4, j5, j6, j7, j8, j9, j10] (.int x :: st) h Q) ∧
  (∀ (l0 l1 l2 l3 l4 l5 l6 l7 l9 l10 : Option Value) (j0 j1 j2 j3 j4 j5 j6 j7 j8 j9 j10 : Option Int64) (st : List Value) (h : pb_H) (Q : Option Value → pb_H → Prop) (x : Int32), pb_R 155 100 [l0, l1, l2, l3, l4, l5, l6, l7, some (.int x), l9, l10] [j0, j1, j2, j3, j4, j5, j6, j7, j8, j9, j10] st h Q ↔ pb_R 155 102 [l0, l1, l2, l3, l4, l5, l6, l7, some (.int x), l9, l10] [j0, j1, j2, j3, j4, j5, j6, j7, j8, j9, j10] (.int x :: st) h Q) ∧
  (∀ (L : pb_L) (J : pb_J) (st : List Value) (x y : Int32) (h : pb_H) (Q : Option Value → pb_H → Prop), pb_R 155 102 L J (.int y :: .int x :: st) h Q ↔ pb_R 155 103 L J (.int (x + y) :: st) h Q) ∧
  (∀ (l0 l1 l2 l3 l4 l5 l6 l7 l8 l9 l10 : Option Value) (j0 j1 j2 j3 j4 j5 j6 j7 j8 j10 : Option Int64) (st : List Value) (h : pb_H) (Q : Option Value → pb_H → Prop) (x : Int64), pb_R 155 103 [l0, l1, l2, l3, l4, l5, l6, l7, l8, l9, l10] [j0, j1, j2, j3, j4, j5, j6, j7, j8, some x, j10] st h Q ↔ pb_R 155 105 [l0, l1, l2, l3, l4, l5, l6, l7, l8, l9, l10] [j0, j1, j2, j3, j4, j5, j6, j7, j8, some x, j10] (.long x :: st) h Q) ∧
  (∀ (L : pb_L) (J : pb_J) (st : List Value) (h : pb_H) (Q : Option Value → pb_H → Prop), pb_R 155 105 L J st h Q ↔ pb_R 155 108 L J (.long (65535 : Int64) :: st) h Q) ∧
  (∀ (L : pb_L) (J : pb_J) (st : List Value) (x y : Int64) (h : pb_H) (Q : Option Value → pb_H → Prop), pb_R 155 108 L J (.long y :: .long x :: st) h Q ↔ pb_R 155 109 L J (.long (x &&& y) :: st) h Q) ∧
  (∀ (L : pb_L) (J : pb_J) (st : List Value) (x : Int64) (h : pb_H) (Q : Option Value → pb_H → Prop), pb_R 155 109 L J (.long x :: st) h Q ↔ pb_R 155 110 L J (.int x.toInt32 :: st) h Q) ∧
  (∀ (L : pb_L) (J : pb_J) (st : List Value) (h : pb_H) (Q : Option Value → pb_H → Prop) (a : Nat) (i x : Int32), pb_R 155 110 L J (.int x :: .int i :: .ref a :: st) h Q ↔ pb_o (pb_si (h.2 a) i x) (fun c => pb_R 155 111 L J st (pb_set h a c) Q)) ∧
  (∀ (l0 l1 l2 l3 l4 l5 l6 l7 l8 l9 l10 : Option Value) (j0 j1 j2 j3 j4 j5 j6 j7 j8 j10 : Option Int64) (st : List Value) (h : pb_H) (Q : Option Value → pb_H → Prop) (x : Int64), pb_R 155 111 [l0, l1, l2, l3, l4, l5, l6, l7, l8, l9, l10] [j0, j1, j2, j3, j4, j5, j6, j7, j8, some x, j10] st h Q ↔ pb_R 155 113 [l0, l1, l2, l3, l4, l5, l6, l7, l8, l9, l10] [j0, j1, j2, j3, j4, j5, j6, j7, j8, some x, j10] (.long x :: st) h Q) ∧
  (∀ (L : pb_L) (J : pb_J) (st : List Value) (h : pb_H) (Q : Option Value → pb_H → Prop), pb_R 155 113 L J st h Q ↔ pb_R 155 115 L J (.int (16 : Int32) :: st) h Q) ∧
  (∀ (L : pb_L) (J : pb_J) (st : List Value) (x : Int64) (y : Int32) (h : pb_H) (Q : Option Value → pb_H → Prop), pb_R 155 115 L J (.int y :: .long x :: st) h Q ↔ pb_R 155 116 L J (.long (x >>> (y.toInt64 &&& 63)) :: st) h Q) ∧
  (∀ (l0 l1 l2 l3 l4 l5 l6 l7 l8 l9 l10 : Option Value) (j0 j1 j2 j3 j4 j5 j6 j7 j8 j9 j10 : Option Int64) (st : List Value) (h : pb_H) (Q : Option Value → pb_H → Prop) (x : Int64), pb_R 155 116 [l0, l1, l2, l3, l4, l5, l6, l7, l8, l9, l10] [j0, j1, j2, j3, j4, j5, j6, j7, j8, j9, j10] (.long x :: st) h Q ↔ pb_R 155 118 [l0, l1, l2, l3, l4, l5, none, none, l8, l9, l10] [j0, j1, j2, j3, j4, none, some x, none, j8, j9, j10] st h Q) ∧
  (∀ (l0 l1 l2 l3 l4 l5 l6 l7 l9 l10 : Option Value) (j0 j1 j2 j3 j4 j5 j6 j7 j8 j9 j10 : Option Int64) (st : List Value) (h : pb_H) (Q : Option Value → pb_H → Prop) (x : Int32), pb_R 155 118 [l0, l1, l2, l3, l4, l5, l6, l7, some (.int x), l9, l10] [j0, j1, j2, j3, j4, j5, j6, j7, j8, j9, j10] st h Q ↔ pb_R 155 121 [l0, l1, l2, l3, l4, l5, l6, l7, some (.int (x + (1 : Int32))), l9, l10] [j0, j1, j2, j3, j4, j5, j6, none, none, j9, j10] st h Q) ∧
  (∀ (L : pb_L) (J : pb_J) (st : List Value) (h : pb_H) (Q : Option Value → pb_H → Prop), pb_R 155 121 L J st h Q ↔ pb_R 155 50 L J st h Q) ∧
  (∀ (l1 l2 l3 l4 l5 l6 l7 l8 l9 l10 : Option Value) (j0 j1 j2 j3 j4 j5 j6 j7 j8 j9 j10 : Option Int64) (st : List Value) (h : pb_H) (Q : Option Value → pb_H → Prop) (x : Nat), pb_R 155 124 [some (.ref x), l1, l2, l3, l4, l5, l6, l7, l8, l9, l10] [j0, j1, j2, j3, j4, j5, j6, j7, j8, j9, j10] st h Q ↔ pb_R 155 125 [some (.ref x), l1, l2, l3, l4, l5, l6, l7, l8, l9, l10] [j0, j1, j2, j3, j4, j5, j6, j7, j8, j9, j10] (.ref x :: st) h Q) ∧
  (∀ (l1 l2 l3 l4 l5 l6 l7 l8 l9 l10 : Option Value) (j0 j1 j2 j3 j4 j5 j6 j7 j8 j9 j10 : Option Int64) (st : List Value) (h : pb_H) (Q : Option Value → pb_H → Prop), pb_R 155 124 [some .null, l1, l2, l3, l4, l5, l6, l7, l8, l9, l10] [j0, j1, j2, j3, j4, j5, j6, j7, j8, j9, j10] st h Q ↔ pb_R 155 125 [some .null, l1, l2, l3, l4, l5, l6, l7, l8, l9, l10] [j0, j1, j2, j3, j4, j5, j6, j7, j8, j9, j10] (.null :: st) h Q) ∧
  (∀ (L : pb_L) (J : pb_J) (st : List Value) (h : pb_H) (Q : Option Value → pb_H → Prop) (a : Nat), pb_R 155 125 L J (.ref a :: st) h Q ↔ pb_o (pb_gf (h.2 a) 12 10) (fun v => pb_R 155 128 L J (v :: st) h Q)) ∧
  (∀ (l0 l1 l2 l3 l4 l6 l7 l8 l9 l10 : Option Value) (j0 j1 j2 j3 j4 j5 j6 j7 j8 j9 j10 : Option Int64) (st : List Value) (h : pb_H) (Q : Option Value → pb_H → Prop) (x : Int32), pb_R 155 128 [l0, l1, l2, l3, l4, some (.int x), l6, l7, l8, l9, l10] [j0, j1, j2, j3, j4, j5, j6, j7, j8, j9, j10] st h Q ↔ pb_R 155 130 [l0, l1, l2, l3, l4, some (.int x), l6, l7, l8, l9, l10] [j0, j1, j2, j3, j4, j5, j6, j7, j8, j9, j10] (.int x :: st) h Q) ∧
  (∀ (l0 l1 l2 l4 l5 l6 l7 l8 l9 l10 : Option Value) (j0 j1 j2 j3 j4 j5 j6 j7 j8 j9 j10 : Option Int64) (st : List Value) (h : pb_H) (Q : Option Value → pb_H → Prop) (x : Int32), pb_R 155 130 [l0, l1, l2, some (.int x), l4, l5, l6, l7, l8, l9, l10] [j0, j1, j2, j3, j4, j5, j6, j7, j8, j9, j10] st h Q ↔ pb_R 155 131 [l0, l1, l2, some (.int x), l4, l5, l6, l7, l8, l9, l10] [j0, j1, j2, j3, j4, j5, j6, j7, j8, j9, j10] (.int x :: st) h Q) ∧
  (∀ (L : pb_L) (J : pb_J) (st : List Value) (x y : Int32) (h : pb_H) (Q : Option Value → pb_H → Prop), pb_R 155 131 L J (.int y :: .int x :: st) h Q ↔ pb_R 155 132 L J (.int (x + y) :: st) h Q) ∧
  (∀ (l0 l1 l2 l3 l4 l5 l6 l7 l8 l9 l10 : Option Value) (j0 j1 j2 j3 j4 j5 j7 j8 j9 j10 : Option Int64) (st : List Value) (h : pb_H) (Q : Option Value → pb_H → Prop) (x : Int64), pb_R 155 132 [l0, l1, l2, l3, l4, l5, l6, l7, l8, l9, l10] [j0, j1, j2, j3, j4, j5, some x, j7, j8, j9, j10] st h Q ↔ pb_R 155 134 [l0, l1, l2, l3, l4, l5, l6, l7, l8, l9, l10] [j0, j1, j2, j3, j4, j5, some x, j7, j8, j9, j10] (.long x :: st) h Q) ∧
  (∀ (L : pb_L) (J : pb_J) (st : List Value) (x : Int64) (h : pb_H) (Q : Option Value → pb_H → Prop), pb_R 155 134 L J (.long x :: st) h Q ↔ pb_R 155 135 L J (.int x.toInt32 :: st) h Q) ∧
  (∀ (L : pb_L) (J : pb_J) (st : List Value) (h : pb_H) (Q : Option Value → pb_H → Prop) (a : Nat) (i x : Int32), pb_R 155 135 L J (.int x :: .int i :: .ref a :: st) h Q ↔ pb_o (pb_si (h.2 a) i x) (fun c => pb_R 155 136 L J st (pb_set h a c) Q)) ∧
  (∀ (l0 l1 l2 l3 l4 l6 l7 l8 l9 l10 : Option Value) (j0 j1 j2 j3 j4 j5 j6 j7 j8 j9 j10 : Option Int64) (st : List Value) (h : pb_H) (Q : Option Value → pb_H → Prop) (x : Int32), pb_R 155 136 [l0, l1, l2, l3, l4, some (.int x), l6, l7, l8, l9, l10] [j0, j1, j2, j3, j4, j5, j6, j7, j8, j9, j10] st h Q ↔ pb_R 155 139 [l0, l1, l2, l3, l4, some (.int (x + (1 : Int32))), l6, l7, l8, l9, l10] [j0, j1, j2, j3, none, none, j6, j7, j8, j9, j10] st h Q) ∧
  (∀ (L : pb_L) (J : pb_J) (st : List Value) (h : pb_H) (Q : Option Value → pb_H → Prop), pb_R 155 139 L J st h Q ↔ pb_R 155 37 L J st h Q) ∧
  (∀ (L : pb_L) (J : pb_J) (st : List Value) (h : pb_H) (Q : Option Value → pb_H → Prop), pb_R 155 142 L J st h Q ↔ pb_R 155 144 L J (.int (16 : Int32) :: st) h Q) ∧
  (∀ (l0 l1 l2 l3 l4 l5 l6 l7 l8 l9 l10 : Option Value) (j0 j1 j2 j3 j4 j5 j6 j7 j8 j9 j10 : Option Int64) (st : List Value) (h : pb_H) (Q : Option Value → pb_H → Prop) (x : Int32), pb_R 155 144 [l0, l1, l2, l3, l4, l5, l6, l7, l8, l9, l10] [j0, j1, j2, j3, j4, j5, j6, j7, j8, j9, j10] (.int x :: st) h Q ↔ pb_R 155 146 [l0, l1, l2, l3, l4, some (.int x), l6, l7, l8, l9, l10] [j0, j1, j2, j3, none, none, j6, j7, j8, j9, j10] st h Q) ∧
  (∀ (L : pb_L) (J : pb_J) (st : List Value) (h : pb_H) (Q : Option Value → pb_H → Prop), pb_R 155 148 L J st h Q ↔ pb_R 155 150 L J (.int (42 : Int32) :: st) h Q) ∧
  (∀ (L : pb_L) (J : pb_J) (st : List Value) (h : pb_H) (Q : Option Value → pb_H → Prop) (x y : Int32), pb_R 155 150 L J (.int y :: .int x :: st) h Q ↔ if y ≤ x then pb_R 155 171 L J st h Q else pb_R 155 153 L J st h Q) ∧
  (∀ (l1 l2 l3 l4 l5 l6 l7 l8 l9 l10 : Option Value) (j0 j1 j2 j3 j4 j5 j6 j7 j8 j9 j10 : Option Int64) (st : List Value) (h : pb_H) (Q : Option Value → pb_H → Prop) (x : Nat), pb_R 155 153 [some (.ref x), l1, l2, l3, l4, l5, l6, l7, l8, l9, l10] [j0, j1, j2, j3, j4, j5, j6, j7, j8, j9, j10] st h Q ↔ pb_R 155 154 [some (.ref x), l1, l2, l3, l4, l5, l6, l7, l8, l9, l10] [j0, j1, j2, j3, j4, j5, j6, j7, j8, j9, j10] (.ref x :: st) h Q) ∧
  (∀ (l1 l2 l3 l4 l5 l6 l7 l8 l9 l10 : Option Value) (j0 j1 j2 j3 j4 j5 j6 j7 j8 j9 j10 : Option Int64) (st : List Value) (h : pb_H) (Q : Option Value → pb_H → Prop), pb_R 155 153 [some .null, l1, l2, l3, l4, l5, l6, l7, l8, l9, l10] [j0, j1, j2, j3, j4, j5, j6, j7, j8, j9, j10] st h Q ↔ pb_R 155 154 [some .null, l1, l2, l3, l4, l5, l6, l7, l8, l9, l10] [j0, j1, j2, j3, j4, j5, j6, j7, j8, j9, j10] (.null :: st) h Q) ∧
  (∀ (L : pb_L) (J : pb_J) (st : List Value) (h : pb_H) (Q : Option Value → pb_H → Prop) (a : Nat), pb_R 155 154 L J (.ref a :: st) h Q ↔ pb_o (pb_gf (h.2 a) 12 10) (fun v => pb_R 155 157 L J (v :: st) h Q)) ∧
  (∀ (l0 l1 l2 l3 l4 l6 l7 l8 l9 l10 : Option Value) (j0 j1 j2 j3 j4 j5 j6 j7 j8 j9 j10 : Option Int64) (st : List Value) (h : pb_H) (Q : Option Value → pb_H → Prop) (x : Int32), pb_R 155 157 [l0, l1, l2, l3, l4, some (.int x), l6, l7, l8, l9, l10] [j0, j1, j2, j3, j4, j5, j6, j7, j8, j9, j10] st h Q ↔ pb_R 155 159 [l0, l1, l2, l3, l4, some (.int x), l6, l7, l8, l9, l10] [j0, j1, j2, j3, j4, j5, j6, j7, j8, j9, j10] (.int x :: st) h Q) ∧
  (∀ (L : pb_L) (J : pb_J) (st : List Value) (h : pb_H) (Q : Option Value → pb_H → Prop) (a : Nat) (i : Int32), pb_R 155 159 L J (.int i :: .ref a :: st) h Q ↔ pb_o (pb_ai (h.2 a) i) (fun v => pb_R 155 160 L J (.int v :: st) h Q)) ∧
  (∀ (L : pb_L) (J : pb_J) (st : List Value) (h : pb_H) (Q : Option Value → pb_H → Prop) (x : Int32), pb_R 155 160 L J (.int x :: st) h Q ↔ if x = 0 then pb_R 155 165 L J st h Q else pb_R 155 163 L J st h Q) ∧
  (∀ (L : pb_L) (J : pb_J) (st : List Value) (h : pb_H) (Q : Option Value → pb_H → Prop), pb_R 155 163 L J st h Q ↔ pb_R 155 164 L J (.int (0 : Int32) :: st) h Q) ∧
  (∀ (L : pb_L) (J : pb_J) (h : pb_H) (Q : Option Value → pb_H → Prop) (x : Int32), pb_R 155 164 L J [.int x] h Q ↔ narrow .boolean (.int x) = .int x ∧ Q (some (.int x)) h) ∧
  (∀ (l0 l1 l2 l3 l4 l6 l7 l8 l9 l10 : Option Value) (j0 j1 j2 j3 j4 j5 j6 j7 j8 j9 j10 : Option Int64) (st : List Value) (h : pb_H) (Q : Option Value → pb_H → Prop) (x : Int32), pb_R 155 165 [l0, l1, l2, l3, l4, some (.int x), l6, l7, l8, l9, l10] [j0, j1, j2, j3, j4, j5, j6, j7, j8, j9, j10] st h Q ↔ pb_R 155 168 [l0, l1, l2, l3, l4, some (.int (x + (1 : Int32))), l6, l7, l8, l9, l10] [j0, j1, j2, j3, none, none, j6, j7, j8, j9, j10] st h Q) ∧
  (∀ (L : pb_L) (J : pb_J) (st : List Value) (h : pb_H) (Q : Option Value → pb_H → Prop), pb_R 155 168 L J st h Q ↔ pb_R 155 146 L J st h Q) ∧
  (∀ (L : pb_L) (J : pb_J) (st : List Value) (h : pb_H) (Q : Option Value → pb_H → Prop), pb_R 155 171 L J st h Q ↔ pb_R 155 172 L J (.int (0 : Int32) :: st) h Q) ∧
  (∀ (l0 l1 l2 l3 l4 l5 l6 l7 l8 l9 l10 : Option Value) (j0 j1 j2 j3 j4 j5 j6 j7 j8 j9 j10 : Option Int64) (st : List Value) (h : pb_H) (Q : Option Value → pb_H → Prop) (x : Int32), pb_R 155 172 [l0, l1, l2, l3, l4, l5, l6, l7, l8, l9, l10] [j0, j1, j2, j3, j4, j5, j6, j7, j8, j9, j10] (.int x :: st) h Q ↔ pb_R 155 174 [l0, l1, l2, l3, l4, some (.int x), l6, l7, l8, l9, l10] [j0, j1, j2, j3, none, none, j6, j7, j8, j9, j10] st h Q) ∧
  (∀ (L : pb_L) (J : pb_J) (st : List Value) (h : pb_H) (Q : Option Value → pb_H → Prop), pb_R 155 176 L J st h Q ↔ pb_R 155 178 L J (.int (20 : Int32) :: st) h Q) ∧
  (∀ (L : pb_L) (J : pb_J) (st : List Value) (h : pb_H) (Q : Option Value → pb_H → Prop) (x y : Int32), pb_R 155 178 L J (.int y :: .int x :: st) h Q ↔ if y ≤ x then pb_R 155 203 L J st h Q else pb_R 155 181 L J st h Q) ∧
  (∀ (l1 l2 l3 l4 l5 l6 l7 l8 l9 l10 : Option Value) (j0 j1 j2 j3 j4 j5 j6 j7 j8 j9 j10 : Option Int64) (st : List Value) (h : pb_H) (Q : Option Value → pb_H → Prop) (x : Nat), pb_R 155 181 [some (.ref x), l1, l2, l3, l4, l5, l6, l7, l8, l9, l10] [j0, j1, j2, j3, j4, j5, j6, j7, j8, j9, j10] st h Q ↔ pb_R 155 182 [some (.ref x), l1, l2, l3, l4, l5, l6, l7, l8, l9, l10] [j0, j1, j2, j3, j4, j5, j6, j7, j8, j9, j10] (.ref x :: st) h Q) ∧
  (∀ (l1 l2 l3 l4 l5 l6 l7 l8 l9 l10 : Option Value) (j0 j1 j2 j3 j4 j5 j6 j7 j8 j9 j10 : Option Int64) (st : List Value) (h : pb_H) (Q : Option Value → pb_H → Prop), pb_R 155 181 [some .null, l1, l2, l3, l4, l5, l6, l7, l8, l9, l10] [j0, j1, j2, j3, j4, j5, j6, j7, j8, j9, j10] st h Q ↔ pb_R 155 182 [some .null, l1, l2, l3, l4, l5, l6, l7, l8, l9, l10] [j0, j1, j2, j3, j4, j5, j6, j7, j8, j9, j10] (.null :: st) h Q) ∧
  (∀ (L : pb_L) (J : pb_J) (st : List Value) (h : pb_H) (Q : Option Value → pb_H → Prop) (a : Nat), pb_R 155 182 L J (.ref a :: st) h Q ↔ pb_o (pb_gf (h.2 a) 12 0) (fun v => pb_R 155 185 L J (v :: st) h Q)) ∧
  (∀ (l0 l2 l3 l4 l5 l6 l7 l8 l9 l10 : Option Value) (j0 j1 j2 j3 j4 j5 j6 j7 j8 j9 j10 : Option Int64) (st : List Value) (h : pb_H) (Q : Option Value → pb_H → Prop) (x : Int32), pb_R 155 185 [l0, some (.int x), l2, l3, l4, l5, l6, l7, l8, l9, l10] [j0, j1, j2, j3, j4, j5, j6, j7, j8, j9, j10] st h Q ↔ pb_R 155 186 [l0, some (.int x), l2, l3, l4, l5, l6, l7, l8, l9, l10] [j0, j1, j2, j3, j4, j5, j6, j7, j8, j9, j10] (.int x :: st) h Q) ∧
  (∀ (l0 l1 l2 l3 l4 l6 l7 l8 l9 l10 : Option Value) (j0 j1 j2 j3 j4 j5 j6 j7 j8 j9 j10 : Option Int64) (st : List Value) (h : pb_H) (Q : Option Value → pb_H → Prop) (x : Int32), pb_R 155 186 [l0, l1, l2, l3, l4, some (.int x), l6, l7, l8, l9, l10] [j0, j1, j2, j3, j4, j5, j6, j7, j8, j9, j10] st h Q ↔ pb_R 155 188 [l0, l1, l2, l3, l4, some (.int x), l6, l7, l8, l9, l10] [j0, j1, j2, j3, j4, j5, j6, j7, j8, j9, j10] (.int x :: st) h Q) ∧
  (∀ (L : pb_L) (J : pb_J) (st : List Value) (x y : Int32) (h : pb_H) (Q : Option Value → pb_H → Prop), pb_R 155 188 L J (.int y :: .int x :: st) h Q ↔ pb_R 155 189 L J (.int (x + y) :: st) h Q) ∧
  (∀ (l1 l2 l3 l4 l5 l6 l7 l8 l9 l10 : Option Value) (j0 j1 j2 j3 j4 j5 j6 j7 j8 j9 j10 : Option Int64) (st : List Value) (h : pb_H) (Q : Option Value → pb_H → Prop) (x : Nat), pb_R 155 189 [some (.ref x), l1, l2, l3, l4, l5, l6, l7, l8, l9, l10] [j0, j1, j2, j3, j4, j5, j6, j7, j8, j9, j10] st h Q ↔ pb_R 155 190 [some (.ref x), l1, l2, l3, l4, l5, l6, l7, l8, l9, l10] [j0, j1, j2, j3, j4, j5, j6, j7, j8, j9, j10] (.ref x :: st) h Q) ∧
  (∀ (l1 l2 l3 l4 l5 l6 l7 l8 l9 l10 : Option Value) (j0 j1 j2 j3 j4 j5 j6 j7 j8 j9 j10 : Option Int64) (st : List Value) (h : pb_H) (Q : Option Value → pb_H → Prop), pb_R 155 189 [some .null, l1, l2, l3, l4, l5, l6, l7, l8, l9, l10] [j0, j1, j2, j3, j4, j5, j6, j7, j8, j9, j10] st h Q ↔ pb_R 155 190 [some .null, l1, l2, l3, l4, l5, l6, l7, l8, l9, l10] [j0, j1, j2, j3, j4, j5, j6, j7, j8, j9, j10] (.null :: st) h Q) ∧
  (∀ (L : pb_L) (J : pb_J) (st : List Value) (h : pb_H) (Q : Option Value → pb_H → Prop) (a : Nat), pb_R 155 190 L J (.ref a :: st) h Q ↔ pb_o (pb_gf (h.2 a) 12 10) (fun v => pb_R 155 193 L J (v :: st) h Q)) ∧
  (∀ (l0 l1 l2 l3 l4 l6 l7 l8 l9 l10 : Option Value) (j0 j1 j2 j3 j4 j5 j6 j7 j8 j9 j10 : Option Int64) (st : List Value) (h : pb_H) (Q : Option Value → pb_H → Prop) (x : Int32), pb_R 155 193 [l0, l1, l2, l3, l4, some (.int x), l6, l7, l8, l9, l10] [j0, j1, j2, j3, j4, j5, j6, j7, j8, j9, j10] st h Q ↔ pb_R 155 195 [l0, l1, l2, l3, l4, some (.int x), l6, l7, l8, l9, l10] [j0, j1, j2, j3, j4, j5, j6, j7, j8, j9, j10] (.int x :: st) h Q) ∧
  (∀ (L : pb_L) (J : pb_J) (st : List Value) (h : pb_H) (Q : Option Value → pb_H → Prop) (a : Nat) (i : Int32), pb_R 155 195 L J (.int i :: .ref a :: st) h Q ↔ pb_o (pb_ai (h.2 a) i) (fun v => pb_R 155 196 L J (.int v :: st) h Q)) ∧
  (∀ (L : pb_L) (J : pb_J) (st : List Value) (h : pb_H) (Q : Option Value → pb_H → Prop) (a : Nat) (i x : Int32), pb_R 155 196 L J (.int x :: .int i :: .ref a :: st) h Q ↔ pb_o (pb_si (h.2 a) i x) (fun c => pb_R 155 197 L J st (pb_set h a c) Q)) ∧
  (∀ (l0 l1 l2 l3 l4 l6 l7 l8 l9 l10 : Option Value) (j0 j1 j2 j3 j4 j5 j6 j7 j8 j9 j10 : Option Int64) (st : List Value) (h : pb_H) (Q : Option Value → pb_H → Prop) (x : Int32), pb_R 155 197 [l0, l1, l2, l3, l4, some (.int x), l6, l7, l8, l9, l10] [j0, j1, j2, j3, j4, j5, j6, j7, j8, j9, j10] st h Q ↔ pb_R 155 200 [l0, l1, l2, l3, l4, some (.int (x + (1 : Int32))), l6, l7, l8, l9, l10] [j0, j1, j2, j3, none, none, j6, j7, j8, j9, j10] st h Q) ∧
  (∀ (L : pb_L) (J : pb_J) (st : List Value) (h : pb_H) (Q : Option Value → pb_H → Prop), pb_R 155 200 L J st h Q ↔ pb_R 155 174 L J st h Q) ∧
  (∀ (L : pb_L) (J : pb_J) (st : List Value) (h : pb_H) (Q : Option Value → pb_H → Prop), pb_R 155 203 L J st h Q ↔ pb_R 155 204 L J (.int (1 : Int32) :: st) h Q) ∧
  (∀ (L : pb_L) (J : pb_J) (h : pb_H) (Q : Option Value → pb_H → Prop) (x : Int32), pb_R 155 204 L J [.int x] h Q ↔ narrow .boolean (.int x) = .int x ∧ Q (some (.int x)) h) := ⟨
  fun L J st h Q => pf_S pb_u_155 rfl rfl,
  fun l0 l1 l2 l3 l4 l5 l6 l7 l8 l9 l10 j0 j1 j2 j3 j4 j5 j6 j7 j8 j9 j10 st h Q x => pf_S pb_u_155 rfl rfl,
  fun L J st h Q => pf_S pb_u_155 rfl rfl,
  fun L J st h Q x y => pf_ic pb_u_155 rfl rfl rfl,
  fun l1 l2 l3 l4 l5 l6 l7 l8 l9 l10 j0 j1 j2 j3 j4 j5 j6 j7 j8 j9 j10 st h Q x => pf_S pb_u_155 rfl rfl,
  fun l1 l2 l3 l4 l5 l6 l7 l8 l9 l10 j0 j1 j2 j3 j4 j5 j6 j7 j8 j9 j10 st h Q => pf_S pb_u_155 rfl rfl,
  fun L J st h Q a => pf_gf pb_u_155 rfl rfl,
  fun l0 l1 l2 l4 l5 l6 l7 l8 l9 l10 j0 j1 j2 j3 j4 j5 j6 j7 j8 j9 j10 st h Q x => pf_S pb_u_155 rfl rfl,
  fun L J st h Q => pf_S pb_u_155 rfl rfl,
  fun L J st h Q a i x => pf_si pb_u_155 rfl rfl,
  fun l0 l1 l2 l4 l5 l6 l7 l8 l9 l10 j0 j1 j2 j3 j4 j5 j6 j7 j8 j9 j10 st h Q x => pf_S pb_u_155 rfl rfl,
  fun L J st h Q => pf_S pb_u_155 rfl rfl,
  fun l1 l2 l3 l4 l5 l6 l7 l8 l9 l10 j0 j1 j2 j3 j4 j5 j6 j7 j8 j9 j10 st h Q x => pf_S pb_u_155 rfl rfl,
  fun l1 l2 l3 l4 l5 l6 l7 l8 l9 l10 j0 j1 j2 j3 j4 j5 j6 j7 j8 j9 j10 st h Q => pf_S pb_u_155 rfl rfl,
  fun l0 l1 l3 l4 l5 l6 l7 l8 l9 l10 j0 j1 j2 j3 j4 j5 j6 j7 j8 j9 j10 st h Q x => pf_S pb_u_155 rfl rfl,
  fun L J h Q x0 x1 => pf_kv pb_u_155 rfl pb_ci_148 rfl ⟨Nat.le_of_ble_eq_true rfl, Nat.le_of_ble_eq_true rfl, Nat.le_of_ble_eq_true rfl, Nat.le_of_ble_eq_true rfl, rfl⟩ rfl rfl,
  fun l0 l1 l2 l3 l4 l5 l6 l7 l8 l9 l10 j0 j1 j2 j3 j4 j5 j6 j7 j8 j9 j10 st h Q x => pf_S pb_u_155 rfl rfl,
  fun l1 l2 l3 l4 l5 l6 l7 l8 l9 l10 j0 j1 j2 j3 j4 j5 j6 j7 j8 j9 j10 st h Q x => pf_S pb_u_155 rfl rfl,
  fun l1 l2 l3 l4 l5 l6 l7 l8 l9 l10 j0 j1 j2 j3 j4 j5 j6 j7 j8 j9 j10 st h Q => pf_S pb_u_155 rfl rfl,
  fun l0 l2 l3 l4 l5 l6 l7 l8 l9 l10 j0 j1 j2 j3 j4 j5 j6 j7 j8 j9 j10 st h Q x => pf_S pb_u_155 rfl rfl,
  fun L J h Q x0 x1 => pf_kv pb_u_155 rfl pb_ci_148 rfl ⟨Nat.le_of_ble_eq_true rfl, Nat.le_of_ble_eq_true rfl, Nat.le_of_ble_eq_true rfl, Nat.le_of_ble_eq_true rfl, rfl⟩ rfl rfl,
  fun l0 l1 l2 l3 l4 l5 l6 l7 l8 l9 l10 j0 j1 j2 j3 j4 j5 j6 j7 j8 j9 j10 st h Q x => pf_S pb_u_155 rfl rfl,
  fun L J st h Q => pf_S pb_u_155 rfl rfl,
  fun l0 l1 l2 l3 l4 l5 l6 l7 l8 l9 l10 j0 j1 j2 j3 j4 j5 j6 j7 j8 j9 j10 st h Q x => pf_S pb_u_155 rfl rfl,
  fun l0 l1 l2 l3 l5 l6 l7 l8 l9 l10 j0 j1 j2 j3 j4 j5 j6 j7 j8 j9 j10 st h Q x => pf_S pb_u_155 rfl rfl,
  fun L J st h Q x y => pf_ic pb_u_155 rfl rfl rfl,
  fun L J st h Q => pf_S pb_u_155 rfl rfl,
  fun l0 l1 l2 l3 l4 l5 l6 l7 l8 l9 l10 j0 j1 j2 j3 j4 j5 j6 j7 j8 j9 j10 st h Q x => pf_S pb_u_155 rfl rfl,
  fun L J st h Q => pf_S pb_u_155 rfl rfl,
  fun l0 l1 l2 l3 l4 l5 l6 l7 l8 l9 l10 j0 j1 j2 j3 j4 j5 j6 j7 j8 j9 j10 st h Q x => pf_S pb_u_155 rfl rfl,
  fun l0 l1 l2 l4 l5 l6 l7 l8 l9 l10 j0 j1 j2 j3 j4 j5 j6 j7 j8 j9 j10 st h Q x => pf_S pb_u_155 rfl rfl,
  fun L J st h Q x y => pf_ic pb_u_155 rfl rfl rfl,
  fun l1 l2 l3 l4 l5 l6 l7 l8 l9 l10 j0 j1 j2 j3 j4 j5 j6 j7 j8 j9 j10 st h Q x => pf_S pb_u_155 rfl rfl,
  fun l1 l2 l3 l4 l5 l6 l7 l8 l9 l10 j0 j1 j2 j3 j4 j5 j6 j7 j8 j9 j10 st h Q => pf_S pb_u_155 rfl rfl,
  fun L J st h Q a => pf_gf pb_u_155 rfl rfl,
  fun l0 l2 l3 l4 l5 l6 l7 l8 l9 l10 j0 j1 j2 j3 j4 j5 j6 j7 j8 j9 j10 st h Q x => pf_S pb_u_155 rfl rfl,
  fun l0 l1 l2 l3 l4 l6 l7 l8 l9 l10 j0 j1 j2 j3 j4 j5 j6 j7 j8 j9 j10 st h Q x => pf_S pb_u_155 rfl rfl,
  fun L J st x y h Q => pf_S pb_u_155 rfl rfl,
  fun L J st h Q a i => pf_ai pb_u_155 rfl rfl,
  fun L J st x h Q => pf_S pb_u_155 rfl rfl,
  fun l1 l2 l3 l4 l5 l6 l7 l8 l9 l10 j0 j1 j2 j3 j4 j5 j6 j7 j8 j9 j10 st h Q x => pf_S pb_u_155 rfl rfl,
  fun l1 l2 l3 l4 l5 l6 l7 l8 l9 l10 j0 j1 j2 j3 j4 j5 j6 j7 j8 j9 j10 st h Q => pf_S pb_u_155 rfl rfl,
  fun L J st h Q a => pf_gf pb_u_155 rfl rfl,
  fun l0 l1 l3 l4 l5 l6 l7 l8 l9 l10 j0 j1 j2 j3 j4 j5 j6 j7 j8 j9 j10 st h Q x => pf_S pb_u_155 rfl rfl,
  fun l0 l1 l2 l3 l4 l5 l6 l7 l9 l10 j0 j1 j2 j3 j4 j5 j6 j7 j8 j9 j10 st h Q x => pf_S pb_u_155 rfl rfl,
  fun L J st x y h Q => pf_S pb_u_155 rfl rfl,
  fun L J st h Q a i => pf_ai pb_u_155 rfl rfl,
  fun L J st x h Q => pf_S pb_u_155 rfl rfl,
  fun L J st x y h Q => pf_S pb_u_155 rfl rfl,
  fun l1 l2 l3 l4 l5 l6 l7 l8 l9 l10 j0 j1 j2 j3 j4 j5 j6 j7 j8 j9 j10 st h Q x => pf_S pb_u_155 rfl rfl,
  fun l1 l2 l3 l4 l5 l6 l7 l8 l9 l10 j0 j1 j2 j3 j4 j5 j6 j7 j8 j9 j10 st h Q => pf_S pb_u_155 rfl rfl,
  fun L J st h Q a => pf_gf pb_u_155 rfl rfl,
  fun l0 l1 l2 l3 l4 l6 l7 l8 l9 l10 j0 j1 j2 j3 j4 j5 j6 j7 j8 j9 j10 st h Q x => pf_S pb_u_155 rfl rfl,
  fun l0 l1 l2 l3 l4 l5 l6 l7 l9 l10 j0 j1 j2 j3 j4 j5 j6 j7 j8 j9 j10 st h Q x => pf_S pb_u_155 rfl rfl,
  fun L J st x y h Q => pf_S pb_u_155 rfl rfl,
  fun L J st h Q a i => pf_ai pb_u_155 rfl rfl,
  fun L J st x h Q => pf_S pb_u_155 rfl rfl,
  fun L J st x y h Q => pf_S pb_u_155 rfl rfl,
  fun l0 l1 l2 l3 l4 l5 l6 l7 l8 l9 l10 j0 j1 j2 j3 j4 j5 j7 j8 j9 j10 st h Q x => pf_S pb_u_155 rfl rfl,
  fun L J st x y h Q => pf_S pb_u_155 rfl rfl,
  fun l0 l1 l2 l3 l4 l5 l6 l7 l8 l9 l10 j0 j1 j2 j3 j4 j5 j6 j7 j8 j9 j10 st h Q x => pf_S pb_u_155 rfl rfl,
  fun l1 l2 l3 l4 l5 l6 l7 l8 l9 l10 j0 j1 j2 j3 j4 j5 j6 j7 j8 j9 j10 st h Q x => pf_S pb_u_155 rfl rfl,
  fun l1 l2 l3 l4 l5 l6 l7 l8 l9 l10 j0 j1 j2 j3 j4 j5 j6 j7 j8 j9 j10 st h Q => pf_S pb_u_155 rfl rfl,
  fun L J st h Q a => pf_gf pb_u_155 rfl rfl,
  fun l0 l1 l2 l3 l4 l6 l7 l8 l9 l10 j0 j1 j2 j3 j4 j5 j6 j7 j8 j9 j10 st h Q x => pf_S pb_u_155 rfl rfl,
  fun l0 l1 l2 l3 l4 l5 l6 l7 l9 l10 j0 j1 j2 j3 j4 j5 j6 j7 j8 j9 j10 st h Q x => pf_S pb_u_155 rfl rfl,
  fun L J st x y h Q => pf_S pb_u_155 rfl rfl,
  fun l0 l1 l2 l3 l4 l5 l6 l7 l8 l9 l10 j0 j1 j2 j3 j4 j5 j6 j7 j8 j10 st h Q x => pf_S pb_u_155 rfl rfl,
  fun L J st h Q => pf_S pb_u_155 rfl rfl,
  fun L J st x y h Q => pf_S pb_u_155 rfl rfl,
  fun L J st x h Q => pf_S pb_u_155 rfl rfl,
  fun L J st h Q a i x => pf_si pb_u_155 rfl rfl,
  fun l0 l1 l2 l3 l4 l5 l6 l7 l8 l9 l10 j0 j1 j2 j3 j4 j5 j6 j7 j8 j10 st h Q x => pf_S pb_u_155 rfl rfl,
  fun L J st h Q => pf_S pb_u_155 rfl rfl,
  fun L J st x y h Q => pf_S pb_u_155 rfl rfl,
  fun l0 l1 l2 l3 l4 l5 l6 l7 l8 l9 l10 j0 j1 j2 j3 j4 j5 j6 j7 j8 j9 j10 st h Q x => pf_S pb_u_155 rfl rfl,
  fun l0 l1 l2 l3 l4 l5 l6 l7 l9 l10 j0 j1 j2 j3 j4 j5 j6 j7 j8 j9 j10 st h Q x => pf_S pb_u_155 rfl rfl,
  fun L J st h Q => pf_S pb_u_155 rfl rfl,
  fun l1 l2 l3 l4 l5 l6 l7 l8 l9 l10 j0 j1 j2 j3 j4 j5 j6 j7 j8 j9 j10 st h Q x => pf_S pb_u_155 rfl rfl,
  fun l1 l2 l3 l4 l5 l6 l7 l8 l9 l10 j0 j1 j2 j3 j4 j5 j6 j7 j8 j9 j10 st h Q => pf_S pb_u_155 rfl rfl,
  fun L J st h Q a => pf_gf pb_u_155 rfl rfl,
  fun l0 l1 l2 l3 l4 l6 l7 l8 l9 l10 j0 j1 j2 j3 j4 j5 j6 j7 j8 j9 j10 st h Q x => pf_S pb_u_155 rfl rfl,
  fun l0 l1 l2 l4 l5 l6 l7 l8 l9 l10 j0 j1 j2 j3 j4 j5 j6 j7 j8 j9 j10 st h Q x => pf_S pb_u_155 rfl rfl,
  fun L J st x y h Q => pf_S pb_u_155 rfl rfl,
  fun l0 l1 l2 l3 l4 l5 l6 l7 l8 l9 l10 j0 j1 j2 j3 j4 j5 j7 j8 j9 j10 st h Q x => pf_S pb_u_155 rfl rfl,
  fun L J st x h Q => pf_S pb_u_155 rfl rfl,
  fun L J st h Q a i x => pf_si pb_u_155 rfl rfl,
  fun l0 l1 l2 l3 l4 l6 l7 l8 l9 l10 j0 j1 j2 j3 j4 j5 j6 j7 j8 j9 j10 st h Q x => pf_S pb_u_155 rfl rfl,
  fun L J st h Q => pf_S pb_u_155 rfl rfl,
  fun L J st h Q => pf_S pb_u_155 rfl rfl,
  fun l0 l1 l2 l3 l4 l5 l6 l7 l8 l9 l10 j0 j1 j2 j3 j4 j5 j6 j7 j8 j9 j10 st h Q x => pf_S pb_u_155 rfl rfl,
  fun L J st h Q => pf_S pb_u_155 rfl rfl,
  fun L J st h Q x y => pf_ic pb_u_155 rfl rfl rfl,
  fun l1 l2 l3 l4 l5 l6 l7 l8 l9 l10 j0 j1 j2 j3 j4 j5 j6 j7 j8 j9 j10 st h Q x => pf_S pb_u_155 rfl rfl,
  fun l1 l2 l3 l4 l5 l6 l7 l8 l9 l10 j0 j1 j2 j3 j4 j5 j6 j7 j8 j9 j10 st h Q => pf_S pb_u_155 rfl rfl,
  fun L J st h Q a => pf_gf pb_u_155 rfl rfl,
  fun l0 l1 l2 l3 l4 l6 l7 l8 l9 l10 j0 j1 j2 j3 j4 j5 j6 j7 j8 j9 j10 st h Q x => pf_S pb_u_155 rfl rfl,
  fun L J st h Q a i => pf_ai pb_u_155 rfl rfl,
  fun L J st h Q x => pf_ii pb_u_155 rfl rfl rfl,
  fun L J st h Q => pf_S pb_u_155 rfl rfl,
  fun L J h Q x => pf_rz pb_u_155 rfl rfl,
  fun l0 l1 l2 l3 l4 l6 l7 l8 l9 l10 j0 j1 j2 j3 j4 j5 j6 j7 j8 j9 j10 st h Q x => pf_S pb_u_155 rfl rfl,
  fun L J st h Q => pf_S pb_u_155 rfl rfl,
  fun L J st h Q => pf_S pb_u_155 rfl rfl,
  fun l0 l1 l2 l3 l4 l5 l6 l7 l8 l9 l10 j0 j1 j2 j3 j4 j5 j6 j7 j8 j9 j10 st h Q x => pf_S pb_u_155 rfl rfl,
  fun L J st h Q => pf_S pb_u_155 rfl rfl,
  fun L J st h Q x y => pf_ic pb_u_155 rfl rfl rfl,
  fun l1 l2 l3 l4 l5 l6 l7 l8 l9 l10 j0 j1 j2 j3 j4 j5 j6 j7 j8 j9 j10 st h Q x => pf_S pb_u_155 rfl rfl,
  fun l1 l2 l3 l4 l5 l6 l7 l8 l9 l10 j0 j1 j2 j3 j4 j5 j6 j7 j8 j9 j10 st h Q => pf_S pb_u_155 rfl rfl,
  fun L J st h Q a => pf_gf pb_u_155 rfl rfl,
  fun l0 l2 l3 l4 l5 l6 l7 l8 l9 l10 j0 j1 j2 j3 j4 j5 j6 j7 j8 j9 j10 st h Q x => pf_S pb_u_155 rfl rfl,
  fun l0 l1 l2 l3 l4 l6 l7 l8 l9 l10 j0 j1 j2 j3 j4 j5 j6 j7 j8 j9 j10 st h Q x => pf_S pb_u_155 rfl rfl,
  fun L J st x y h Q => pf_S pb_u_155 rfl rfl,
  fun l1 l2 l3 l4 l5 l6 l7 l8 l9 l10 j0 j1 j2 j3 j4 j5 j6 j7 j8 j9 j10 st h Q x => pf_S pb_u_155 rfl rfl,
  fun l1 l2 l3 l4 l5 l6 l7 l8 l9 l10 j0 j1 j2 j3 j4 j5 j6 j7 j8 j9 j10 st h Q => pf_S pb_u_155 rfl rfl,
  fun L J st h Q a => pf_gf pb_u_155 rfl rfl,
  fun l0 l1 l2 l3 l4 l6 l7 l8 l9 l10 j0 j1 j2 j3 j4 j5 j6 j7 j8 j9 j10 st h Q x => pf_S pb_u_155 rfl rfl,
  fun L J st h Q a i => pf_ai pb_u_155 rfl rfl,
  fun L J st h Q a i x => pf_si pb_u_155 rfl rfl,
  fun l0 l1 l2 l3 l4 l6 l7 l8 l9 l10 j0 j1 j2 j3 j4 j5 j6 j7 j8 j9 j10 st h Q x => pf_S pb_u_155 rfl rfl,
  fun L J st h Q => pf_S pb_u_155 rfl rfl,
  fun L J st h Q => pf_S pb_u_155 rfl rfl,
  fun L J h Q x => pf_rz pb_u_155 rfl rfl⟩
theorem pb_c155 (x0 : Nat) (x1 : Int32) (x2 : Int32) (h : pb_H) (Q : Option Value → pb_H → Prop) : pb_call 155 [.ref x0, .int x1, .int x2] h Q ↔ pb_R 155 0 [some (.ref x0), some (.int x1), some (.int x2), none, none, none, none, none, none, none, none] [none, none, none, none, none, none, none, none, none, none, none] [] h Q := Iff.rfl
/-! 156: PlaneBenchModel.moveUp([III)V -/
theorem pb_u_156 : pb_t 156 = pb_t156 := rfl
set_option maxRecDepth 100000 in
theorem pb_q156_5 (l0 l1 l2 l3 l5 : Option Value) (st : List Value) (h : pb_H) (Q : Option Value → pb_H → Prop) (x : Int32) : pb_R 156 5 [l0, l1, l2, l3, some (.int x), l5] [] st h Q ↔ pb_R 156 7 [l0, l1, l2, l3, some (.int x), l5] [] (.int x :: st) h Q := pf_S pb_u_156 rfl rfl
set_option maxRecDepth 100000 in
theorem pb_e156 : (∀ (L : pb_L) (J : pb_J) (st : List Value) (h : pb_H) (Q : Option Value → pb_H → Prop), pb_R 156 0 L J st h Q ↔ pb_R 156 1 L J (.int (0 : Int32) :: st) h Q) ∧
  (∀ (l0 l1 l2 l3 l4 l5 : Option Value) (st : List Value) (h : pb_H) (Q : Option Value → pb_H → Prop) (x : Int32), pb_R 156 1 [l0, l1, l2, l3, l4, l5] [] (.int x :: st) h Q ↔ pb_R 156 2 [l0, l1, l2, some (.int x), l4, l5] [] st h Q) ∧
  (∀ (L : pb_L) (J : pb_J) (st : List Value) (h : pb_H) (Q : Option Value → pb_H → Prop), pb_R 156 2 L J st h Q ↔ pb_R 156 3 L J (.int (0 : Int32) :: st) h Q) ∧
  (∀ (l0 l1 l2 l3 l4 l5 : Option Value) (st : List Value) (h : pb_H) (Q : Option Value → pb_H → Prop) (x : Int32), pb_R 156 3 [l0, l1, l2, l3, l4, l5] [] (.int x :: st) h Q ↔ pb_R 156 5 [l0, l1, l2, l3, some (.int x), l5] [] st h Q) ∧
  (∀ (l0 l2 l3 l4 l5 : Option Value) (st : List Value) (h : pb_H) (Q : Option Value → pb_H → Prop) (x : Int32), pb_R 156 7 [l0, some (.int x), l2, l3, l4, l5] [] st h Q ↔ pb_R 156 8 [l0, some (.int x), l2, l3, l4, l5] [] (.int x :: st) h Q) ∧
  (∀ (L : pb_L) (J : pb_J) (st : List Value) (h : pb_H) (Q : Option Value → pb_H → Prop) (x y : Int32), pb_R 156 8 L J (.int y :: .int x :: st) h Q ↔ if y ≤ x then pb_R 156 42 L J st h Q else pb_R 156 11 L J st h Q) ∧
  (∀ (l1 l2 l3 l4 l5 : Option Value) (st : List Value) (h : pb_H) (Q : Option Value → pb_H → Prop) (x : Nat), pb_R 156 11 [some (.ref x), l1, l2, l3, l4, l5] [] st h Q ↔ pb_R 156 12 [some (.ref x), l1, l2, l3, l4, l5] [] (.ref x :: st) h Q) ∧
  (∀ (l1 l2 l3 l4 l5 : Option Value) (st : List Value) (h : pb_H) (Q : Option Value → pb_H → Prop), pb_R 156 11 [some .null, l1, l2, l3, l4, l5] [] st h Q ↔ pb_R 156 12 [some .null, l1, l2, l3, l4, l5] [] (.null :: st) h Q) ∧
  (∀ (l0 l1 l2 l3 l5 : Option Value) (st : List Value) (h : pb_H) (Q : Option Value → pb_H → Prop) (x : Int32), pb_R 156 12 [l0, l1, l2, l3, some (.int x), l5] [] st h Q ↔ pb_R 156 14 [l0, l1, l2, l3, some (.int x), l5] [] (.int x :: st) h Q) ∧
  (∀ (L : pb_L) (J : pb_J) (st : List Value) (h : pb_H) (Q : Option Value → pb_H → Prop) (a : Nat) (i : Int32), pb_R 156 14 L J (.int i :: .ref a :: st) h Q ↔ pb_o (pb_ai (h.2 a) i) (fun v => pb_R 156 15 L J (.int v :: st) h Q)) ∧
  (∀ (l0 l1 l3 l4 l5 : Option Value) (st : List Value) (h : pb_H) (Q : Option Value → pb_H → Prop) (x : Int32), pb_R 156 15 [l0, l1, some (.int x), l3, l4, l5] [] st h Q ↔ pb_R 156 16 [l0, l1, some (.int x), l3, l4, l5] [] (.int x :: st) h Q) ∧
  (∀ (L : pb_L) (J : pb_J) (st : List Value) (x y : Int32) (h : pb_H) (Q : Option Value → pb_H → Prop), pb_R 156 16 L J (.int y :: .int x :: st) h Q ↔ pb_R 156 17 L J (.int (x <<< (y &&& 31)) :: st) h Q) ∧
  (∀ (l0 l1 l2 l4 l5 : Option Value) (st : List Value) (h : pb_H) (Q : Option Value → pb_H → Prop) (x : Int32), pb_R 156 17 [l0, l1, l2, some (.int x), l4, l5] [] st h Q ↔ pb_R 156 18 [l0, l1, l2, some (.int x), l4, l5] [] (.int x :: st) h Q) ∧
  (∀ (L : pb_L) (J : pb_J) (st : List Value) (x y : Int32) (h : pb_H) (Q : Option Value → pb_H → Prop), pb_R 156 18 L J (.int y :: .int x :: st) h Q ↔ pb_R 156 19 L J (.int (x ||| y) :: st) h Q) ∧
  (∀ (l0 l1 l2 l3 l4 l5 : Option Value) (st : List Value) (h : pb_H) (Q : Option Value → pb_H → Prop) (x : Int32), pb_R 156 19 [l0, l1, l2, l3, l4, l5] [] (.int x :: st) h Q ↔ pb_R 156 21 [l0, l1, l2, l3, l4, some (.int x)] [] st h Q) ∧
  (∀ (l1 l2 l3 l4 l5 : Option Value) (st : List Value) (h : pb_H) (Q : Option Value → pb_H → Prop) (x : Nat), pb_R 156 21 [some (.ref x), l1, l2, l3, l4, l5] [] st h Q ↔ pb_R 156 22 [some (.ref x), l1, l2, l3, l4, l5] [] (.ref x :: st) h Q) ∧
  (∀ (l1 l2 l3 l4 l5 : Option Value) (st : List Value) (h : pb_H) (Q : Option Value → pb_H → Prop), pb_R 156 21 [some .null, l1, l2, l3, l4, l5] [] st h Q ↔ pb_R 156 22 [some .null, l1, l2, l3, l4, l5] [] (.null :: st) h Q) ∧
  (∀ (l0 l1 l2 l3 l5 : Option Value) (st : List Value) (h : pb_H) (Q : Option Value → pb_H → Prop) (x : Int32), pb_R 156 22 [l0, l1, l2, l3, some (.int x), l5] [] st h Q ↔ pb_R 156 24 [l0, l1, l2, l3, some (.int x), l5] [] (.int x :: st) h Q) ∧
  (∀ (l0 l1 l2 l3 l4 : Option Value) (st : List Value) (h : pb_H) (Q : Option Value → pb_H → Prop) (x : Int32), pb_R 156 24 [l0, l1, l2, l3, l4, some (.int x)] [] st h Q ↔ pb_R 156 26 [l0, l1, l2, l3, l4, some (.int x)] [] (.int x :: st) h Q) ∧
  (∀ (L : pb_L) (J : pb_J) (st : List Value) (h : pb_H) (Q : Option Value → pb_H → Prop), pb_R 156 26 L J st h Q ↔ pb_R 156 28 L J (.int (65535 : Int32) :: st) h Q) ∧
  (∀ (L : pb_L) (J : pb_J) (st : List Value) (x y : Int32) (h : pb_H) (Q : Option Value → pb_H → Prop), pb_R 156 28 L J (.int y :: .int x :: st) h Q ↔ pb_R 156 29 L J (.int (x &&& y) :: st) h Q) ∧
  (∀ (L : pb_L) (J : pb_J) (st : List Value) (h : pb_H) (Q : Option Value → pb_H → Prop) (a : Nat) (i x : Int32), pb_R 156 29 L J (.int x :: .int i :: .ref a :: st) h Q ↔ pb_o (pb_si (h.2 a) i x) (fun c => pb_R 156 30 L J st (pb_set h a c) Q)) ∧
  (∀ (l0 l1 l2 l3 l4 : Option Value) (st : List Value) (h : pb_H) (Q : Option Value → pb_H → Prop) (x : Int32), pb_R 156 30 [l0, l1, l2, l3, l4, some (.int x)] [] st h Q ↔ pb_R 156 32 [l0, l1, l2, l3, l4, some (.int x)] [] (.int x :: st) h Q) ∧
  (∀ (L : pb_L) (J : pb_J) (st : List Value) (h : pb_H) (Q : Option Value → pb_H → Prop), pb_R 156 32 L J st h Q ↔ pb_R 156 34 L J (.int (16 : Int32) :: st) h Q) ∧
  (∀ (L : pb_L) (J : pb_J) (st : List Value) (x y : Int32) (h : pb_H) (Q : Option Value → pb_H → Prop), pb_R 156 34 L J (.int y :: .int x :: st) h Q ↔ pb_R 156 35 L J (.int (x.toUInt32 >>> (y.toUInt32 &&& Int32.toUInt32 31)).toInt32 :: st) h Q) ∧
  (∀ (l0 l1 l2 l3 l4 l5 : Option Value) (st : List Value) (h : pb_H) (Q : Option Value → pb_H → Prop) (x : Int32), pb_R 156 35 [l0, l1, l2, l3, l4, l5] [] (.int x :: st) h Q ↔ pb_R 156 36 [l0, l1, l2, some (.int x), l4, l5] [] st h Q) ∧
  (∀ (l0 l1 l2 l3 l5 : Option Value) (st : List Value) (h : pb_H) (Q : Option Value → pb_H → Prop) (x : Int32), pb_R 156 36 [l0, l1, l2, l3, some (.int x), l5] [] st h Q ↔ pb_R 156 39 [l0, l1, l2, l3, some (.int (x + (1 : Int32))), l5] [] st h Q) ∧
  (∀ (L : pb_L) (J : pb_J) (st : List Value) (h : pb_H) (Q : Option Value → pb_H → Prop), pb_R 156 39 L J st h Q ↔ pb_R 156 5 L J st h Q) ∧
  (∀ (L : pb_L) (J : pb_J) (h : pb_H) (Q : Option Value → pb_H → Prop), pb_R 156 42 L J [] h Q ↔ Q none h) := ⟨
  fun L J st h Q => pf_S pb_u_156 rfl rfl,
  fun l0 l1 l2 l3 l4 l5 st h Q x => pf_S pb_u_156 rfl rfl,
  fun L J st h Q => pf_S pb_u_156 rfl rfl,
  fun l0 l1 l2 l3 l4 l5 st h Q x => pf_S pb_u_156 rfl rfl,
  fun l0 l2 l3 l4 l5 st h Q x => pf_S pb_u_156 rfl rfl,
  fun L J st h Q x y => pf_ic pb_u_156 rfl rfl rfl,
  fun l1 l2 l3 l4 l5 st h Q x => pf_S pb_u_156 rfl rfl,
  fun l1 l2 l3 l4 l5 st h Q => pf_S pb_u_156 rfl rfl,
  fun l0 l1 l2 l3 l5 st h Q x => pf_S pb_u_156 rfl rfl,
  fun L J st h Q a i => pf_ai pb_u_156 rfl rfl,
  fun l0 l1 l3 l4 l5 st h Q x => pf_S pb_u_156 rfl rfl,
  fun L J st x y h Q => pf_S pb_u_156 rfl rfl,
  fun l0 l1 l2 l4 l5 st h Q x => pf_S pb_u_156 rfl rfl,
  fun L J st x y h Q => pf_S pb_u_156 rfl rfl,
  fun l0 l1 l2 l3 l4 l5 st h Q x => pf_S pb_u_156 rfl rfl,
  fun l1 l2 l3 l4 l5 st h Q x => pf_S pb_u_156 rfl rfl,
  fun l1 l2 l3 l4 l5 st h Q => pf_S pb_u_156 rfl rfl,
  fun l0 l1 l2 l3 l5 st h Q x => pf_S pb_u_156 rfl rfl,
  fun l0 l1 l2 l3 l4 st h Q x => pf_S pb_u_156 rfl rfl,
  fun L J st h Q => pf_S pb_u_156 rfl rfl,
  fun L J st x y h Q => pf_S pb_u_156 rfl rfl,
  fun L J st h Q a i x => pf_si pb_u_156 rfl rfl,
  fun l0 l1 l2 l3 l4 st h Q x => pf_S pb_u_156 rfl rfl,
  fun L J st h Q => pf_S pb_u_156 rfl rfl,
  fun L J st x y h Q => pf_S pb_u_156 rfl rfl,
  fun l0 l1 l2 l3 l4 l5 st h Q x => pf_S pb_u_156 rfl rfl,
  fun l0 l1 l2 l3 l5 st h Q x => pf_S pb_u_156 rfl rfl,
  fun L J st h Q => pf_S pb_u_156 rfl rfl,
  fun L J h Q => pf_rv pb_u_156 rfl rfl⟩
theorem pb_c156 (x0 : Nat) (x1 : Int32) (x2 : Int32) (h : pb_H) (Q : Option Value → pb_H → Prop) : pb_call 156 [.ref x0, .int x1, .int x2] h Q ↔ pb_R 156 0 [some (.ref x0), some (.int x1), some (.int x2), none, none, none] [] [] h Q := Iff.rfl
/-! 157: PlaneBenchModel.digit(II)I -/
theorem pb_u_157 : pb_t 157 = pb_t157 := rfl
theorem pb_ci_157 : pb_ci 157 = 12 := by decide +kernel
set_option maxRecDepth 100000 in
theorem pb_q157_52 (l0 l1 l2 l3 l4 l5 l6 l7 l8 l9 l10 l11 l12 l13 l14 l15 l16 l17 : Option Value) (j0 j1 j2 j3 j4 j5 j6 j8 j9 j10 j11 j12 j13 j14 j15 j16 j17 : Option Int64) (st : List Value) (h : pb_H) (Q : Option Value → pb_H → Prop) (x : Int64) : pb_R 157 52 [l0, l1, l2, l3, l4, l5, l6, l7, l8, l9, l10, l11, l12, l13, l14, l15, l16, l17] [j0, j1, j2, j3, j4, j5, j6, some x, j8, j9, j10, j11, j12, j13, j14, j15, j16, j17] st h Q ↔ pb_R 157 54 [l0, l1, l2, l3, l4, l5, l6, l7, l8, l9, l10, l11, l12, l13, l14, l15, l16, l17] [j0, j1, j2, j3, j4, j5, j6, some x, j8, j9, j10, j11, j12, j13, j14, j15, j16, j17] (.long x :: st) h Q := pf_S pb_u_157 rfl rfl
set_option maxRecDepth 100000 in
theorem pb_q157_136 (l0 l1 l2 l3 l4 l5 l6 l7 l8 l9 l10 l11 l12 l14 l15 l16 l17 : Option Value) (j0 j1 j2 j3 j4 j5 j6 j7 j8 j9 j10 j11 j12 j13 j14 j15 j16 j17 : Option Int64) (st : List Value) (h : pb_H) (Q : Option Value → pb_H → Prop) (x : Int32) : pb_R 157 136 [l0, l1, l2, l3, l4, l5, l6, l7, l8, l9, l10, l11, l12, some (.int x), l14, l15, l16, l17] [j0, j1, j2, j3, j4, j5, j6, j7, j8, j9, j10, j11, j12, j13, j14, j15, j16, j17] st h Q ↔ pb_R 157 138 [l0, l1, l2, l3, l4, l5, l6, l7, l8, l9, l10, l11, l12, some (.int x), l14, l15, l16, l17] [j0, j1, j2, j3, j4, j5, j6, j7, j8, j9, j10, j11, j12, j13, j14, j15, j16, j17] (.int x :: st) h Q := pf_S pb_u_157 rfl rfl
set_option maxRecDepth 100000 in
theorem pb_q157_274 (l0 l1 l2 l3 l4 l5 l6 l7 l8 l9 l10 l11 l12 l13 l14 l15 l17 : Option Value) (j0 j1 j2 j3 j4 j5 j6 j7 j8 j9 j10 j11 j12 j13 j14 j15 j16 j17 : Option Int64) (st : List Value) (h : pb_H) (Q : Option Value → pb_H → Prop) (x : Int32) : pb_R 157 274 [l0, l1, l2, l3, l4, l5, l6, l7, l8, l9, l10, l11, l12, l13, l14, l15, some (.int x), l17] [j0, j1, j2, j3, j4, j5, j6, j7, j8, j9, j10, j11, j12, j13, j14, j15, j16, j17] st h Q ↔ pb_R 157 276 [l0, l1, l2, l3, l4, l5, l6, l7, l8, l9, l10, l11, l12, l13, l14, l15, some (.int x), l17] [j0, j1, j2, j3, j4, j5, j6, j7, j8, j9, j10, j11, j12, j13, j14, j15, j16, j17] (.int x :: st) h Q := pf_S pb_u_157 rfl rfl
set_option maxRecDepth 100000 in
theorem pb_e157 : (∀ (l1 l2 l3 l4 l5 l6 l7 l8 l9 l10 l11 l12 l13 l14 l15 l16 l17 : Option Value) (j0 j1 j2 j3 j4 j5 j6 j7 j8 j9 j10 j11 j12 j13 j14 j15 j16 j17 : Option Int64) (st : List Value) (h : pb_H) (Q : Option Value → pb_H → Prop) (x : Nat), pb_R 157 0 [some (.ref x), l1, l2, l3, l4, l5, l6, l7, l8, l9, l10, l11, l12, l13, l14, l15, l16, l17] [j0, j1, j2, j3, j4, j5, j6, j7, j8, j9, j10, j11, j12, j13, j14, j15, j16, j17] st h Q ↔ pb_R 157 1 [some (.ref x), l1, l2, l3, l4, l5, l6, l7, l8, l9, l10, l11, l12, l13, l14, l15, l16, l17] [j0, j1, j2, j3, j4, j5, j6, j7, j8, j9, j10, j11, j12, j13, j14, j15, j16, j17] (.ref x :: st) h Q) ∧
  (∀ (l1 l2 l3 l4 l5 l6 l7 l8 l9 l10 l11 l12 l13 l14 l15 l16 l17 : Option Value) (j0 j1 j2 j3 j4 j5 j6 j7 j8 j9 j10 j11 j12 j13 j14 j15 j16 j17 : Option Int64) (st : List Value) (h : pb_H) (Q : Option Value → pb_H → Prop), pb_R 157 0 [some .null, l1, l2, l3, l4, l5, l6, l7, l8, l9, l10, l11, l12, l13, l14, l15, l16, l17] [j0, j1, j2, j3, j4, j5, j6, j7, j8, j9, j10, j11, j12, j13, j14, j15, j16, j17] st h Q ↔ pb_R 157 1 [some .null, l1, l2, l3, l4, l5, l6, l7, l8, l9, l10, l11, l12, l13, l14, l15, l16, l17] [j0, j1, j2, j3, j4, j5, j6, j7, j8, j9, j10, j11, j12, j13, j14, j15, j16, j17] (.null :: st) h Q) ∧
  (∀ (L : pb_L) (J : pb_J) (st : List Value) (h : pb_H) (Q : Option Value → pb_H → Prop) (a : Nat), pb_R 157 1 L J (.ref a :: st) h Q ↔ pb_o (pb_gf (h.2 a) 12 12) (fun v => pb_R 157 4 L J (v :: st) h Q)) ∧
  (∀ (l0 l2 l3 l4 l5 l6 l7 l8 l9 l10 l11 l12 l13 l14 l15 l16 l17 : Option Value) (j0 j1 j2 j3 j4 j5 j6 j7 j8 j9 j10 j11 j12 j13 j14 j15 j16 j17 : Option Int64) (st : List Value) (h : pb_H) (Q : Option Value → pb_H → Prop) (x : Int32), pb_R 157 4 [l0, some (.int x), l2, l3, l4, l5, l6, l7, l8, l9, l10, l11, l12, l13, l14, l15, l16, l17] [j0, j1, j2, j3, j4, j5, j6, j7, j8, j9, j10, j11, j12, j13, j14, j15, j16, j17] st h Q ↔ pb_R 157 5 [l0, some (.int x), l2, l3, l4, l5, l6, l7, l8, l9, l10, l11, l12, l13, l14, l15, l16, l17] [j0, j1, j2, j3, j4, j5, j6, j7, j8, j9, j10, j11, j12, j13, j14, j15, j16, j17] (.int x :: st) h Q) ∧
  (∀ (l0 l1 l3 l4 l5 l6 l7 l8 l9 l10 l11 l12 l13 l14 l15 l16 l17 : Option Value) (j0 j1 j2 j3 j4 j5 j6 j7 j8 j9 j10 j11 j12 j13 j14 j15 j16 j17 : Option Int64) (st : List Value) (h : pb_H) (Q : Option Value → pb_H → Prop) (x : Int32), pb_R 157 5 [l0, l1, some (.int x), l3, l4, l5, l6, l7, l8, l9, l10, l11, l12, l13, l14, l15, l16, l17] [j0, j1, j2, j3, j4, j5, j6, j7, j8, j9, j10, j11, j12, j13, j14, j15, j16, j17] st h Q ↔ pb_R 157 6 [l0, l1, some (.int x), l3, l4, l5, l6, l7, l8, l9, l10, l11, l12, l13, l14, l15, l16, l17] [j0, j1, j2, j3, j4, j5, j6, j7, j8, j9, j10, j11, j12, j13, j14, j15, j16, j17] (.int x :: st) h Q) ∧
  (∀ (L : pb_L) (J : pb_J) (st : List Value) (x y : Int32) (h : pb_H) (Q : Option Value → pb_H → Prop), pb_R 157 6 L J (.int y :: .int x :: st) h Q ↔ pb_R 157 7 L J (.int (x + y) :: st) h Q) ∧
  (∀ (L : pb_L) (J : pb_J) (st : List Value) (h : pb_H) (Q : Option Value → pb_H → Prop) (a : Nat) (i : Int32), pb_R 157 7 L J (.int i :: .ref a :: st) h Q ↔ pb_o (pb_ai (h.2 a) i) (fun v => pb_R 157 8 L J (.int v :: st) h Q)) ∧
  (∀ (L : pb_L) (J : pb_J) (st : List Value) (x : Int32) (h : pb_H) (Q : Option Value → pb_H → Prop), pb_R 157 8 L J (.int x :: st) h Q ↔ pb_R 157 9 L J (.long x.toInt64 :: st) h Q) ∧
  (∀ (L : pb_L) (J : pb_J) (st : List Value) (h : pb_H) (Q : Option Value → pb_H → Prop), pb_R 157 9 L J st h Q ↔ pb_R 157 12 L J (.long (65536 : Int64) :: st) h Q) ∧
  (∀ (L : pb_L) (J : pb_J) (st : List Value) (x y : Int64) (h : pb_H) (Q : Option Value → pb_H → Prop), pb_R 157 12 L J (.long y :: .long x :: st) h Q ↔ pb_R 157 13 L J (.long (x * y) :: st) h Q) ∧
  (∀ (l1 l2 l3 l4 l5 l6 l7 l8 l9 l10 l11 l12 l13 l14 l15 l16 l17 : Option Value) (j0 j1 j2 j3 j4 j5 j6 j7 j8 j9 j10 j11 j12 j13 j14 j15 j16 j17 : Option Int64) (st : List Value) (h : pb_H) (Q : Option Value → pb_H → Prop) (x : Nat), pb_R 157 13 [some (.ref x), l1, l2, l3, l4, l5, l6, l7, l8, l9, l10, l11, l12, l13, l14, l15, l16, l17] [j0, j1, j2, j3, j4, j5, j6, j7, j8, j9, j10, j11, j12, j13, j14, j15, j16, j17] st h Q ↔ pb_R 157 14 [some (.ref x), l1, l2, l3, l4, l5, l6, l7, l8, l9, l10, l11, l12, l13, l14, l15, l16, l17] [j0, j1, j2, j3, j4, j5, j6, j7, j8, j9, j10, j11, j12, j13, j14, j15, j16, j17] (.ref x :: st) h Q) ∧
  (∀ (l1 l2 l3 l4 l5 l6 l7 l8 l9 l10 l11 l12 l13 l14 l15 l16 l17 : Option Value) (j0 j1 j2 j3 j4 j5 j6 j7 j8 j9 j10 j11 j12 j13 j14 j15 j16 j17 : Option Int64) (st : List Value) (h : pb_H) (Q : Option Value → pb_H → Prop), pb_R 157 13 [some .null, l1, l2, l3, l4, l5, l6, l7, l8, l9, l10, l11, l12, l13, l14, l15, l16, l17] [j0, j1, j2, j3, j4, j5, j6, j7, j8, j9, j10, j11, j12, j13, j14, j15, j16, j17] st h Q ↔ pb_R 157 14 [some .null, l1, l2, l3, l4, l5, l6, l7, l8, l9, l10, l11, l12, l13, l14, l15, l16, l17] [j0, j1, j2, j3, j4, j5, j6, j7, j8, j9, j10, j11, j12, j13, j14, j15, j16, j17] (.null :: st) h Q) ∧
  (∀ (L : pb_L) (J : pb_J) (st : List Value) (h : pb_H) (Q : Option Value → pb_H → Prop) (a : Nat), pb_R 157 14 L J (.ref a :: st) h Q ↔ pb_o (pb_gf (h.2 a) 12 12) (fun v => pb_R 157 17 L J (v :: st) h Q)) ∧
  (∀ (l0 l2 l3 l4 l5 l6 l7 l8 l9 l10 l11 l12 l13 l14 l15 l16 l17 : Option Value) (j0 j1 j2 j3 j4 j5 j6 j7 j8 j9 j10 j11 j12 j13 j14 j15 j16 j17 : Option Int64) (st : List Value) (h : pb_H) (Q : Option Value → pb_H → Prop) (x : Int32), pb_R 157 17 [l0, some (.int x), l2, l3, l4, l5, l6, l7, l8, l9, l10, l11, l12, l13, l14, l15, l16, l17] [j0, j1, j2, j3, j4, j5, j6, j7, j8, j9, j10, j11, j12, j13, j14, j15, j16, j17] st h Q ↔ pb_R 157 18 [l0, some (.int x), l2, l3, l4, l5, l6, l7, l8, l9, l10, l11, l12, l13, l14, l15, l16, l17] [j0, j1, j2, j3, j4, j5, j6, j7, j8, j9, j10, j11, j12, j13, j14, j15, j16, j17] (.int x :: st) h Q) ∧
  (∀ (l0 l1 l3 l4 l5 l6 l7 l8 l9 l10 l11 l12 l13 l14 l15 l16 l17 : Option Value) (j0 j1 j2 j3 j4 j5 j6 j7 j8 j9 j10 j11 j12 j13 j14 j15 j16 j17 : Option Int64) (st : List Value) (h : pb_H) (Q : Option Value → pb_H → Prop) (x : Int32), pb_R 157 18 [l0, l1, some (.int x), l3, l4, l5, l6, l7, l8, l9, l10, l11, l12, l13, l14, l15, l16, l17] [j0, j1, j2, j3, j4, j5, j6, j7, j8, j9, j10, j11, j12, j13, j14, j15, j16, j17] st h Q ↔ pb_R 157 19 [l0, l1, some (.int x), l3, l4, l5, l6, l7, l8, l9, l10, l11, l12, l13, l14, l15, l16, l17] [j0, j1, j2, j3, j4, j5, j6, j7, j8, j9, j10, j11, j12, j13, j14, j15, j16, j17] (.int x :: st) h Q) ∧
  (∀ (L : pb_L) (J : pb_J) (st : List Value) (x y : Int32) (h : pb_H) (Q : Option Value → pb_H → Prop), pb_R 157 19 L J (.int y :: .int x :: st) h Q ↔ pb_R 157 20 L J (.int (x + y) :: st) h Q) ∧
  (∀ (L : pb_L) (J : pb_J) (st : List Value) (h : pb_H) (Q : Option Value → pb_H → Prop), pb_R 157 20 L J st h Q ↔ pb_R 157 21 L J (.int (1 : Int32) :: st) h Q) ∧
  (∀ (L : pb_L) (J : pb_J) (st : List Value) (x y : Int32) (h : pb_H) (Q : Option Value → pb_H → Prop), pb_R 157 21 L J (.int y :: .int x :: st) h Q ↔ pb_R 157 22 L J (.int (x - y) :: st) h Q) ∧
  (∀ (L : pb_L) (J : pb_J) (st : List Value) (h : pb_H) (Q : Option Value → pb_H → Prop) (a : Nat) (i : Int32), pb_R 157 22 L J (.int i :: .ref a :: st) h Q ↔ pb_o (pb_ai (h.2 a) i) (fun v => pb_R 157 23 L J (.int v :: st) h Q)) ∧
  (∀ (L : pb_L) (J : pb_J) (st : List Value) (x : Int32) (h : pb_H) (Q : Option Value → pb_H → Prop), pb_R 157 23 L J (.int x :: st) h Q ↔ pb_R 157 24 L J (.long x.toInt64 :: st) h Q) ∧
  (∀ (L : pb_L) (J : pb_J) (st : List Value) (x y : Int64) (h : pb_H) (Q : Option Value → pb_H → Prop), pb_R 157 24 L J (.long y :: .long x :: st) h Q ↔ pb_R 157 25 L J (.long (x + y) :: st) h Q) ∧
  (∀ (l0 l1 l2 l3 l4 l5 l6 l7 l8 l9 l10 l11 l12 l13 l14 l15 l16 l17 : Option Value) (j0 j1 j2 j3 j4 j5 j6 j7 j8 j9 j10 j11 j12 j13 j14 j15 j16 j17 : Option Int64) (st : List Value) (h : pb_H) (Q : Option Value → pb_H → Prop) (x : Int64), pb_R 157 25 [l0, l1, l2, l3, l4, l5, l6, l7, l8, l9, l10, l11, l12, l13, l14, l15, l16, l17] [j0, j1, j2, j3, j4, j5, j6, j7, j8, j9, j10, j11, j12, j13, j14, j15, j16, j17] (.long x :: st) h Q ↔ pb_R 157 26 [l0, l1, l2, none, none, l5, l6, l7, l8, l9, l10, l11, l12, l13, l14, l15, l16, l17] [j0, j1, none, some x, none, j5, j6, j7, j8, j9, j10, j11, j12, j13, j14, j15, j16, j17] st h Q) ∧
  (∀ (l0 l1 l2 l3 l4 l5 l6 l7 l8 l9 l10 l11 l12 l13 l14 l15 l16 l17 : Option Value) (j0 j1 j2 j4 j5 j6 j7 j8 j9 j10 j11 j12 j13 j14 j15 j16 j17 : Option Int64) (st : List Value) (h : pb_H) (Q : Option Value → pb_H → Prop) (x : Int64), pb_R 157 26 [l0, l1, l2, l3, l4, l5, l6, l7, l8, l9, l10, l11, l12, l13, l14, l15, l16, l17] [j0, j1, j2, some x, j4, j5, j6, j7, j8, j9, j10, j11, j12, j13, j14, j15, j16, j17] st h Q ↔ pb_R 157 27 [l0, l1, l2, l3, l4, l5, l6, l7, l8, l9, l10, l11, l12, l13, l14, l15, l16, l17] [j0, j1, j2, some x, j4, j5, j6, j7, j8, j9, j10, j11, j12, j13, j14, j15, j16, j17] (.long x :: st) h Q) ∧
  (∀ (l1 l2 l3 l4 l5 l6 l7 l8 l9 l10 l11 l12 l13 l14 l15 l16 l17 : Option Value) (j0 j1 j2 j3 j4 j5 j6 j7 j8 j9 j10 j11 j12 j13 j14 j15 j16 j17 : Option Int64) (st : List Value) (h : pb_H) (Q : Option Value → pb_H → Prop) (x : Nat), pb_R 157 27 [some (.ref x), l1, l2, l3, l4, l5, l6, l7, l8, l9, l10, l11, l12, l13, l14, l15, l16, l17] [j0, j1, j2, j3, j4, j5, j6, j7, j8, j9, j10, j11, j12, j13, j14, j15, j16, j17] st h Q ↔ pb_R 157 28 [some (.ref x), l1, l2, l3, l4, l5, l6, l7, l8, l9, l10, l11, l12, l13, l14, l15, l16, l17] [j0, j1, j2, j3, j4, j5, j6, j7, j8, j9, j10, j11, j12, j13, j14, j15, j16, j17] (.ref x :: st) h Q) ∧
  (∀ (l1 l2 l3 l4 l5 l6 l7 l8 l9 l10 l11 l12 l13 l14 l15 l16 l17 : Option Value) (j0 j1 j2 j3 j4 j5 j6 j7 j8 j9 j10 j11 j12 j13 j14 j15 j16 j17 : Option Int64) (st : List Value) (h : pb_H) (Q : Option Value → pb_H → Prop), pb_R 157 27 [some .null, l1, l2, l3, l4, l5, l6, l7, l8, l9, l10, l11, l12, l13, l14, l15, l16, l17] [j0, j1, j2, j3, j4, j5, j6, j7, j8, j9, j10, j11, j12, j13, j14, j15, j16, j17] st h Q ↔ pb_R 157 28 [some .null, l1, l2, l3, l4, l5, l6, l7, l8, l9, l10, l11, l12, l13, l14, l15, l16, l17] [j0, j1, j2, j3, j4, j5, j6, j7, j8, j9, j10, j11, j12, j13, j14, j15, j16, j17] (.null :: st) h Q) ∧
  (∀ (L : pb_L) (J : pb_J) (st : List Value) (h : pb_H) (Q : Option Value → pb_H → Prop) (a : Nat), pb_R 157 28 L J (.ref a :: st) h Q ↔ pb_o (pb_gf (h.2 a) 12 13) (fun v => pb_R 157 31 L J (v :: st) h Q)) ∧
  (∀ (l0 l1 l3 l4 l5 l6 l7 l8 l9 l10 l11 l12 l13 l14 l15 l16 l17 : Option Value) (j0 j1 j2 j3 j4 j5 j6 j7 j8 j9 j10 j11 j12 j13 j14 j15 j16 j17 : Option Int64) (st : List Value) (h : pb_H) (Q : Option Value → pb_H → Prop) (x : Int32), pb_R 157 31 [l0, l1, some (.int x), l3, l4, l5, l6, l7, l8, l9, l10, l11, l12, l13, l14, l15, l16, l17] [j0, j1, j2, j3, j4, j5, j6, j7, j8, j9, j10, j11, j12, j13, j14, j15, j16, j17] st h Q ↔ pb_R 157 32 [l0, l1, some (.int x), l3, l4, l5, l6, l7, l8, l9, l10, l11, l12, l13, l14, l15, l16, l17] [j0, j1, j2, j3, j4, j5, j6, j7, j8, j9, j10, j11, j12, j13, j14, j15, j16, j17] (.int x :: st) h Q) ∧
  (∀ (L : pb_L) (J : pb_J) (st : List Value) (h : pb_H) (Q : Option Value → pb_H → Prop), pb_R 157 32 L J st h Q ↔ pb_R 157 33 L J (.int (1 : Int32) :: st) h Q) ∧
  (∀ (L : pb_L) (J : pb_J) (st : List Value) (x y : Int32) (h : pb_H) (Q : Option Value → pb_H → Prop), pb_R 157 33 L J (.int y :: .int x :: st) h Q ↔ pb_R 157 34 L J (.int (x - y) :: st) h Q) ∧
  (∀ (L : pb_L) (J : pb_J) (st : List Value) (h : pb_H) (Q : Option Value → pb_H → Prop) (a : Nat) (i : Int32), pb_R 157 34 L J (.int i :: .ref a :: st) h Q ↔ pb_o (pb_ai (h.2 a) i) (fun v => pb_R 157 35 L J (.int v :: st) h Q)) ∧
  (∀ (L : pb_L) (J : pb_J) (st : List Value) (x : Int32) (h : pb_H) (Q : Option Value → pb_H → Prop), pb_R 157 35 L J (.int x :: st) h Q ↔ pb_R 157 36 L J (.long x.toInt64 :: st) h Q) ∧
  (∀ (L : pb_L) (J : pb_J) (st : List Value) (h : pb_H) (Q : Option Value → pb_H → Prop) (x y : Int64), pb_R 157 36 L J (.long y :: .long x :: st) h Q ↔ (¬ y = 0) ∧ pb_R 157 37 L J (.long (x / y) :: st) h Q) ∧
  (∀ (l0 l1 l2 l3 l4 l5 l6 l7 l8 l9 l10 l11 l12 l13 l14 l15 l16 l17 : Option Value) (j0 j1 j2 j3 j4 j5 j6 j7 j8 j9 j10 j11 j12 j13 j14 j15 j16 j17 : Option Int64) (st : List Value) (h : pb_H) (Q : Option Value → pb_H → Prop) (x : Int64), pb_R 157 37 [l0, l1, l2, l3, l4, l5, l6, l7, l8, l9, l10, l11, l12, l13, l14, l15, l16, l17] [j0, j1, j2, j3, j4, j5, j6, j7, j8, j9, j10, j11, j12, j13, j14, j15, j16, j17] (.long x :: st) h Q ↔ pb_R 157 39 [l0, l1, l2, l3, l4, none, none, l7, l8, l9, l10, l11, l12, l13, l14, l15, l16, l17] [j0, j1, j2, j3, none, some x, none, j7, j8, j9, j10, j11, j12, j13, j14, j15, j16, j17] st h Q) ∧
  (∀ (l0 l1 l2 l3 l4 l5 l6 l7 l8 l9 l10 l11 l12 l13 l14 l15 l16 l17 : Option Value) (j0 j1 j2 j4 j5 j6 j7 j8 j9 j10 j11 j12 j13 j14 j15 j16 j17 : Option Int64) (st : List Value) (h : pb_H) (Q : Option Value → pb_H → Prop) (x : Int64), pb_R 157 39 [l0, l1, l2, l3, l4, l5, l6, l7, l8, l9, l10, l11, l12, l13, l14, l15, l16, l17] [j0, j1, j2, some x, j4, j5, j6, j7, j8, j9, j10, j11, j12, j13, j14, j15, j16, j17] st h Q ↔ pb_R 157 40 [l0, l1, l2, l3, l4, l5, l6, l7, l8, l9, l10, l11, l12, l13, l14, l15, l16, l17] [j0, j1, j2, some x, j4, j5, j6, j7, j8, j9, j10, j11, j12, j13, j14, j15, j16, j17] (.long x :: st) h Q) ∧
  (∀ (l1 l2 l3 l4 l5 l6 l7 l8 l9 l10 l11 l12 l13 l14 l15 l16 l17 : Option Value) (j0 j1 j2 j3 j4 j5 j6 j7 j8 j9 j10 j11 j12 j13 j14 j15 j16 j17 : Option Int64) (st : List Value) (h : pb_H) (Q : Option Value → pb_H → Prop) (x : Nat), pb_R 157 40 [some (.ref x), l1, l2, l3, l4, l5, l6, l7, l8, l9, l10, l11, l12, l13, l14, l15, l16, l17] [j0, j1, j2, j3, j4, j5, j6, j7, j8, j9, j10, j11, j12, j13, j14, j15, j16, j17] st h Q ↔ pb_R 157 41 [some (.ref x), l1, l2, l3, l4, l5, l6, l7, l8, l9, l10, l11, l12, l13, l14, l15, l16, l17] [j0, j1, j2, j3, j4, j5, j6, j7, j8, j9, j10, j11, j12, j13, j14, j15, j16, j17] (.ref x :: st) h Q) ∧
  (∀ (l1 l2 l3 l4 l5 l6 l7 l8 l9 l10 l11 l12 l13 l14 l15 l16 l17 : Option Value) (j0 j1 j2 j3 j4 j5 j6 j7 j8 j9 j10 j11 j12 j13 j14 j15 j16 j17 : Option Int64) (st : List Value) (h : pb_H) (Q : Option Value → pb_H → Prop), pb_R 157 40 [some .null, l1, l2, l3, l4, l5, l6, l7, l8, l9, l10, l11, l12, l13, l14, l15, l16, l17] [j0, j1, j2, j3, j4, j5, j6, j7, j8, j9, j10, j11, j12, j13, j14, j15, j16, j17] st h Q ↔ pb_R 157 41 [some .null, l1, l2, l3, l4, l5, l6, l7, l8, l9, l10, l11, l12, l13, l14, l15, l16, l17] [j0, j1, j2, j3, j4, j5, j6, j7, j8, j9, j10, j11, j12, j13, j14, j15, j16, j17] (.null :: st) h Q) ∧
  (∀ (L : pb_L) (J : pb_J) (st : List Value) (h : pb_H) (Q : Option Value → pb_H → Prop) (a : Nat), pb_R 157 41 L J (.ref a :: st) h Q ↔ pb_o (pb_gf (h.2 a) 12 13) (fun v => pb_R 157 44 L J (v :: st) h Q)) ∧
  (∀ (l0 l1 l3 l4 l5 l6 l7 l8 l9 l10 l11 l12 l13 l14 l15 l16 l17 : Option Value) (j0 j1 j2 j3 j4 j5 j6 j7 j8 j9 j10 j11 j12 j13 j14 j15 j16 j17 : Option Int64) (st : List Value) (h : pb_H) (Q : Option Value → pb_H → Prop) (x : Int32), pb_R 157 44 [l0, l1, some (.int x), l3, l4, l5, l6, l7, l8, l9, l10, l11, l12, l13, l14, l15, l16, l17] [j0, j1, j2, j3, j4, j5, j6, j7, j8, j9, j10, j11, j12, j13, j14, j15, j16, j17] st h Q ↔ pb_R 157 45 [l0, l1, some (.int x), l3, l4, l5, l6, l7, l8, l9, l10, l11, l12, l13, l14, l15, l16, l17] [j0, j1, j2, j3, j4, j5, j6, j7, j8, j9, j10, j11, j12, j13, j14, j15, j16, j17] (.int x :: st) h Q) ∧
  (∀ (L : pb_L) (J : pb_J) (st : List Value) (h : pb_H) (Q : Option Value → pb_H → Prop), pb_R 157 45 L J st h Q ↔ pb_R 157 46 L J (.int (1 : Int32) :: st) h Q) ∧
  (∀ (L : pb_L) (J : pb_J) (st : List Value) (x y : Int32) (h : pb_H) (Q : Option Value → pb_H → Prop), pb_R 157 46 L J (.int y :: .int x :: st) h Q ↔ pb_R 157 47 L J (.int (x - y) :: st) h Q) ∧
  (∀ (L : pb_L) (J : pb_J) (st : List Value) (h : pb_H) (Q : Option Value → pb_H → Prop) (a : Nat) (i : Int32), pb_R 157 47 L J (.int i :: .ref a :: st) h Q ↔ pb_o (pb_ai (h.2 a) i) (fun v => pb_R 157 48 L J (.int v :: st) h Q)) ∧
  (∀ (L : pb_L) (J : pb_J) (st : List Value) (x : Int32) (h : pb_H) (Q : Option Value → pb_H → Prop), pb_R 157 48 L J (.int x :: st) h Q ↔ pb_R 157 49 L J (.long x.toInt64 :: st) h Q) ∧
  (∀ (L : pb_L) (J : pb_J) (st : List Value) (h : pb_H) (Q : Option Value → pb_H → Prop) (x y : Int64), pb_R 157 49 L J (.long y :: .long x :: st) h Q ↔ (¬ y = 0) ∧ pb_R 157 50 L J (.long (x - x / y * y) :: st) h Q) ∧
  (∀ (l0 l1 l2 l3 l4 l5 l6 l7 l8 l9 l10 l11 l12 l13 l14 l15 l16 l17 : Option Value) (j0 j1 j2 j3 j4 j5 j6 j7 j8 j9 j10 j11 j12 j13 j14 j15 j16 j17 : Option Int64) (st : List Value) (h : pb_H) (Q : Option Value → pb_H → Prop) (x : Int64), pb_R 157 50 [l0, l1, l2, l3, l4, l5, l6, l7, l8, l9, l10, l11, l12, l13, l14, l15, l16, l17] [j0, j1, j2, j3, j4, j5, j6, j7, j8, j9, j10, j11, j12, j13, j14, j15, j16, j17] (.long x :: st) h Q ↔ pb_R 157 52 [l0, l1, l2, l3, l4, l5, l6, none, none, l9, l10, l11, l12, l13, l14, l15, l16, l17] [j0, j1, j2, j3, j4, j5, none, some x, none, j9, j10, j11, j12, j13, j14, j15, j16, j17] st h Q) ∧
  (∀ (L : pb_L) (J : pb_J) (st : List Value) (h : pb_H) (Q : Option Value → pb_H → Prop), pb_R 157 54 L J st h Q ↔ pb_R 157 57 L J (.long (65536 : Int64) :: st) h Q) ∧
  (∀ (L : pb_L) (J : pb_J) (st : List Value) (x y : Int64) (h : pb_H) (Q : Option Value → pb_H → Prop), pb_R 157 57 L J (.long y :: .long x :: st) h Q ↔ pb_R 157 58 L J (.int (lg_cmp x y) :: st) h Q) ∧
  (∀ (L : pb_L) (J : pb_J) (st : List Value) (h : pb_H) (Q : Option Value → pb_H → Prop) (x : Int32), pb_R 157 58 L J (.int x :: st) h Q ↔ if 0 ≤ x then pb_R 157 127 L J st h Q else pb_R 157 61 L J st h Q) ∧
  (∀ (l0 l1 l2 l3 l4 l5 l6 l7 l8 l9 l10 l11 l12 l13 l14 l15 l16 l17 : Option Value) (j0 j1 j2 j3 j4 j6 j7 j8 j9 j10 j11 j12 j13 j14 j15 j16 j17 : Option Int64) (st : List Value) (h : pb_H) (Q : Option Value → pb_H → Prop) (x : Int64), pb_R 157 61 [l0, l1, l2, l3, l4, l5, l6, l7, l8, l9, l10, l11, l12, l13, l14, l15, l16, l17] [j0, j1, j2, j3, j4, some x, j6, j7, j8, j9, j10, j11, j12, j13, j14, j15, j16, j17] st h Q ↔ pb_R 157 63 [l0, l1, l2, l3, l4, l5, l6, l7, l8, l9, l10, l11, l12, l13, l14, l15, l16, l17] [j0, j1, j2, j3, j4, some x, j6, j7, j8, j9, j10, j11, j12, j13, j14, j15, j16, j17] (.long x :: st) h Q) ∧
  (∀ (L : pb_L) (J : pb_J) (st : List Value) (h : pb_H) (Q : Option Value → pb_H → Prop), pb_R 157 63 L J st h Q ↔ pb_R 157 66 L J (.long (65536 : Int64) :: st) h Q) ∧
  (∀ (L : pb_L) (J : pb_J) (st : List Value) (x y : Int64) (h : pb_H) (Q : Option Value → pb_H → Prop), pb_R 157 66 L J (.long y :: .long x :: st) h Q ↔ pb_R 157 67 L J (.int (lg_cmp x y) :: st) h Q) ∧
  (∀ (L : pb_L) (J : pb_J) (st : List Value) (h : pb_H) (Q : Option Value → pb_H → Prop) (x : Int32), pb_R 157 67 L J (.int x :: st) h Q ↔ if 0 ≤ x then pb_R 157 104 L J st h Q else pb_R 157 70 L J st h Q) ∧
  (∀ (l0 l1 l2 l3 l4 l5 l6 l7 l8 l9 l10 l11 l12 l13 l14 l15 l16 l17 : Option Value) (j0 j1 j2 j3 j4 j6 j7 j8 j9 j10 j11 j12 j13 j14 j15 j16 j17 : Option Int64) (st : List Value) (h : pb_H) (Q : Option Value → pb_H → Prop) (x : Int64), pb_R 157 70 [l0, l1, l2, l3, l4, l5, l6, l7, l8, l9, l10, l11, l12, l13, l14, l15, l16, l17] [j0, j1, j2, j3, j4, some x, j6, j7, j8, j9, j10, j11, j12, j13, j14, j15, j16, j17] st h Q ↔ pb_R 157 72 [l0, l1, l2, l3, l4, l5, l6, l7, l8, l9, l10, l11, l12, l13, l14, l15, l16, l17] [j0, j1, j2, j3, j4, some x, j6, j7, j8, j9, j10, j11, j12, j13, j14, j15, j16, j17] (.long x :: st) h Q) ∧
  (∀ (l1 l2 l3 l4 l5 l6 l7 l8 l9 l10 l11 l12 l13 l14 l15 l16 l17 : Option Value) (j0 j1 j2 j3 j4 j5 j6 j7 j8 j9 j10 j11 j12 j13 j14 j15 j16 j17 : Option Int64) (st : List Value) (h : pb_H) (Q : Option Value → pb_H → Prop) (x : Nat), pb_R 157 72 [some (.ref x), l1, l2, l3, l4, l5, l6, l7, l8, l9, l10, l11, l12, l13, l14, l15, l16, l17] [j0, j1, j2, j3, j4, j5, j6, j7, j8, j9, j10, j11, j12, j13, j14, j15, j16, j17] st h Q ↔ pb_R 157 73 [some (.ref x), l1, l2, l3, l4, l5, l6, l7, l8, l9, l10, l11, l12, l13, l14, l15, l16, l17] [j0, j1, j2, j3, j4, j5, j6, j7, j8, j9, j10, j11, j12, j13, j14, j15, j16, j17] (.ref x :: st) h Q) ∧
  (∀ (l1 l2 l3 l4 l5 l6 l7 l8 l9 l10 l11 l12 l13 l14 l15 l16 l17 : Option Value) (j0 j1 j2 j3 j4 j5 j6 j7 j8 j9 j10 j11 j12 j13 j14 j15 j16 j17 : Option Int64) (st : List Value) (h : pb_H) (Q : Option Value → pb_H → Prop), pb_R 157 72 [some .null, l1, l2, l3, l4, l5, l6, l7, l8, l9, l10, l11, l12, l13, l14, l15, l16, l17] [j0, j1, j2, j3, j4, j5, j6, j7, j8, j9, j10, j11, j12, j13, j14, j15, j16, j17] st h Q ↔ pb_R 157 73 [some .null, l1, l2, l3, l4, l5, l6, l7, l8, l9, l10, l11, l12, l13, l14, l15, l16, l17] [j0, j1, j2, j3, j4, j5, j6, j7, j8, j9, j10, j11, j12, j13, j14, j15, j16, j17] (.null :: st) h Q) ∧
  (∀ (L : pb_L) (J : pb_J) (st : List Value) (h : pb_H) (Q : Option Value → pb_H → Prop) (a : Nat), pb_R 157 73 L J (.ref a :: st) h Q ↔ pb_o (pb_gf (h.2 a) 12 13) (fun v => pb_R 157 76 L J (v :: st) h Q)) ∧
  (∀ (l0 l1 l3 l4 l5 l6 l7 l8 l9 l10 l11 l12 l13 l14 l15 l16 l17 : Option Value) (j0 j1 j2 j3 j4 j5 j6 j7 j8 j9 j10 j11 j12 j13 j14 j15 j16 j17 : Option Int64) (st : List Value) (h : pb_H) (Q : Option Value → pb_H → Prop) (x : Int32), pb_R 157 76 [l0, l1, some (.int x), l3, l4, l5, l6, l7, l8, l9, l10, l11, l12, l13, l14, l15, l16, l17] [j0, j1, j2, j3, j4, j5, j6, j7, j8, j9, j10, j11, j12, j13, j14, j15, j16, j17] st h Q ↔ pb_R 157 77 [l0, l1, some (.int x), l3, l4, l5, l6, l7, l8, l9, l10, l11, l12, l13, l14, l15, l16, l17] [j0, j1, j2, j3, j4, j5, j6, j7, j8, j9, j10, j11, j12, j13, j14, j15, j16, j17] (.int x :: st) h Q) ∧
  (∀ (L : pb_L) (J : pb_J) (st : List Value) (h : pb_H) (Q : Option Value → pb_H → Prop), pb_R 157 77 L J st h Q ↔ pb_R 157 78 L J (.int (2 : Int32) :: st) h Q) ∧
  (∀ (L : pb_L) (J : pb_J) (st : List Value) (x y : Int32) (h : pb_H) (Q : Option Value → pb_H → Prop), pb_R 157 78 L J (.int y :: .int x :: st) h Q ↔ pb_R 157 79 L J (.int (x - y) :: st) h Q) ∧
  (∀ (L : pb_L) (J : pb_J) (st : List Value) (h : pb_H) (Q : Option Value → pb_H → Prop) (a : Nat) (i : Int32), pb_R 157 79 L J (.int i :: .ref a :: st) h Q ↔ pb_o (pb_ai (h.2 a) i) (fun v => pb_R 157 80 L J (.int v :: st) h Q)) ∧
  (∀ (L : pb_L) (J : pb_J) (st : List Value) (x : Int32) (h : pb_H) (Q : Option Value → pb_H → Prop), pb_R 157 80 L J (.int x :: st) h Q ↔ pb_R 157 81 L J (.long x.toInt64 :: st) h Q) ∧
  (∀ (L : pb_L) (J : pb_J) (st : List Value) (x y : Int64) (h : pb_H) (Q : Option Value → pb_H → Prop), pb_R 157 81 L J (.long y :: .long x :: st) h Q ↔ pb_R 157 82 L J (.long (x * y) :: st) h Q) ∧
  (∀ (l0 l1 l2 l3 l4 l5 l6 l7 l8 l9 l10 l11 l12 l13 l14 l15 l16 l17 : Option Value) (j0 j1 j2 j3 j4 j5 j6 j8 j9 j10 j11 j12 j13 j14 j15 j16 j17 : Option Int64) (st : List Value) (h : pb_H) (Q : Option Value → pb_H → Prop) (x : Int64), pb_R 157 82 [l0, l1, l2, l3, l4, l5, l6, l7, l8, l9, l10, l11, l12, l13, l14, l15, l16, l17] [j0, j1, j2, j3, j4, j5, j6, some x, j8, j9, j10, j11, j12, j13, j14, j15, j16, j17] st h Q ↔ pb_R 157 84 [l0, l1, l2, l3, l4, l5, l6, l7, l8, l9, l10, l11, l12, l13, l14, l15, l16, l17] [j0, j1, j2, j3, j4, j5, j6, some x, j8, j9, j10, j11, j12, j13, j14, j15, j16, j17] (.long x :: st) h Q) ∧
  (∀ (L : pb_L) (J : pb_J) (st : List Value) (h : pb_H) (Q : Option Value → pb_H → Prop), pb_R 157 84 L J st h Q ↔ pb_R 157 87 L J (.long (65536 : Int64) :: st) h Q) ∧
  (∀ (L : pb_L) (J : pb_J) (st : List Value) (x y : Int64) (h : pb_H) (Q : Option Value → pb_H → Prop), pb_R 157 87 L J (.long y :: .long x :: st) h Q ↔ pb_R 157 88 L J (.long (x * y) :: st) h Q) ∧
  (∀ (l1 l2 l3 l4 l5 l6 l7 l8 l9 l10 l11 l12 l13 l14 l15 l16 l17 : Option Value) (j0 j1 j2 j3 j4 j5 j6 j7 j8 j9 j10 j11 j12 j13 j14 j15 j16 j17 : Option Int64) (st : List Value) (h : pb_H) (Q : Option Value → pb_H → Prop) (x : Nat), pb_R 157 88 [some (.ref x), l1, l2, l3, l4, l5, l6, l7, l8, l9, l10, l11, l12, l13, l14, l15, l16, l17] [j0, j1, j2, j3, j4, j5, j6, j7, j8, j9, j10, j11, j12, j13, j14, j15, j16, j17] st h Q ↔ pb_R 157 89 [some (.ref x), l1, l2, l3, l4, l5, l6, l7, l8, l9, l10, l11, l12, l13, l14, l15, l16, l17] [j0, j1, j2, j3, j4, j5, j6, j7, j8, j9, j10, j11, j12, j13, j14, j15, j16, j17] (.ref x :: st) h Q) ∧
  (∀ (l1 l2 l3 l4 l5 l6 l7 l8 l9 l10 l11 l12 l13 l14 l15 l16 l17 : Option Value) (j0 j1 j2 j3 j4 j5 j6 j7 j8 j9 j10 j11 j12 j13 j14 j15 j16 j17 : Option Int64) (st : List Value) (h : pb_H) (Q : Option Value → pb_H → Prop), pb_R 157 88 [some .null, l1, l2, l3, l4, l5, l6, l7, l8, l9, l10, l11, l12, l13, l14, l15, l16, l17] [j0, j1, j2, j3, j4, j5, j6, j7, j8, j9, j10, j11, j12, j13, j14, j15, j16, j17] st h Q ↔ pb_R 157 89 [some .null, l1, l2, l3, l4, l5, l6, l7, l8, l9, l10, l11, l12, l13, l14, l15, l16, l17] [j0, j1, j2, j3, j4, j5, j6, j7, j8, j9, j10, j11, j12, j13, j14, j15, j16, j17] (.null :: st) h Q) ∧
  (∀ (L : pb_L) (J : pb_J) (st : List Value) (h : pb_H) (Q : Option Value → pb_H → Prop) (a : Nat), pb_R 157 89 L J (.ref a :: st) h Q ↔ pb_o (pb_gf (h.2 a) 12 12) (fun v => pb_R 157 92 L J (v :: st) h Q)) ∧
  (∀ (l0 l2 l3 l4 l5 l6 l7 l8 l9 l10 l11 l12 l13 l14 l15 l16 l17 : Option Value) (j0 j1 j2 j3 j4 j5 j6 j7 j8 j9 j10 j11 j12 j13 j14 j15 j16 j17 : Option Int64) (st : List Value) (h : pb_H) (Q : Option Value → pb_H → Prop) (x : Int32), pb_R 157 92 [l0, some (.int x), l2, l3, l4, l5, l6, l7, l8, l9, l10, l11, l12, l13, l14, l15, l16, l17] [j0, j1, j2, j3, j4, j5, j6, j7, j8, j9, j10, j11, j12, j13, j14, j15, j16, j17] st h Q ↔ pb_R 157 93 [l0, some (.int x), l2, l3, l4, l5, l6, l7, l8, l9, l10, l11, l12, l13, l14, l15, l16, l17] [j0, j1, j2, j3, j4, j5, j6, j7, j8, j9, j10, j11, j12, j13, j14, j15, j16, j17] (.int x :: st) h Q) ∧
  (∀ (l0 l1 l3 l4 l5 l6 l7 l8 l9 l10 l11 l12 l13 l14 l15 l16 l17 : Option Value) (j0 j1 j2 j3 j4 j5 j6 j7 j8 j9 j10 j11 j12 j13 j14 j15 j16 j17 : Option Int64) (st : List Value) (h : pb_H) (Q : Option Value → pb_H → Prop) (x : Int32), pb_R 157 93 [l0, l1, some (.int x), l3, l4, l5, l6, l7, l8, l9, l10, l11, l12, l13, l14, l15, l16, l17] [j0, j1, j2, j3, j4, j5, j6, j7, j8, j9, j10, j11, j12, j13, j14, j15, j16, j17] st h Q ↔ pb_R 157 94 [l0, l1, some (.int x), l3, l4, l5, l6, l7, l8, l9, l10, l11, l12, l13, l14, l15, l16, l17] [j0, j1, j2, j3, j4, j5, j6, j7, j8, j9, j10, j11, j12, j13, j14, j15, j16, j17] (.int x :: st) h Q) ∧
  (∀ (L : pb_L) (J : pb_J) (st : List Value) (x y : Int32) (h : pb_H) (Q : Option Value → pb_H → Prop), pb_R 157 94 L J (.int y :: .int x :: st) h Q ↔ pb_R 157 95 L J (.int (x + y) :: st) h Q) ∧
  (∀ (L : pb_L) (J : pb_J) (st : List Value) (h : pb_H) (Q : Option Value → pb_H → Prop), pb_R 157 95 L J st h Q ↔ pb_R 157 96 L J (.int (2 : Int32) :: st) h Q) ∧
  (∀ (L : pb_L) (J : pb_J) (st : List Value) (x y : Int32) (h : pb_H) (Q : Option Value → pb_H → Prop), pb_R 157 96 L J (.int y :: .int x :: st) h Q ↔ pb_R 157 97 L J (.int (x - y) :: st) h Q) ∧
  (∀ (L : pb_L) (J : pb_J) (st : List Value) (h : pb_H) (Q : Option Value → pb_H → Prop) (a : Nat) (i : Int32), pb_R 157 97 L J (.int i :: .ref a :: st) h Q ↔ pb_o (pb_ai (h.2 a) i) (fun v => pb_R 157 98 L J (.int v :: st) h Q)) ∧
  (∀ (L : pb_L) (J : pb_J) (st : List Value) (x : Int32) (h : pb_H) (Q : Option Value → pb_H → Prop), pb_R 157 98 L J (.int x :: st) h Q ↔ pb_R 157 99 L J (.long x.toInt64 :: st) h Q) ∧
  (∀ (L : pb_L) (J : pb_J) (st : List Value) (x y : Int64) (h : pb_H) (Q : Option Value → pb_H → Prop), pb_R 157 99 L J (.long y :: .long x :: st) h Q ↔ pb_R 157 100 L J (.long (x + y) :: st) h Q) ∧
  (∀ (L : pb_L) (J : pb_J) (st : List Value) (x y : Int64) (h : pb_H) (Q : Option Value → pb_H → Prop), pb_R 157 100 L J (.long y :: .long x :: st) h Q ↔ pb_R 157 101 L J (.int (lg_cmp x y) :: st) h Q) ∧
  (∀ (L : pb_L) (J : pb_J) (st : List Value) (h : pb_H) (Q : Option Value → pb_H → Prop) (x : Int32), pb_R 157 101 L J (.int x :: st) h Q ↔ if x ≤ 0 then pb_R 157 127 L J st h Q else pb_R 157 104 L J st h Q) ∧
  (∀ (l0 l1 l2 l3 l4 l5 l6 l7 l8 l9 l10 l11 l12 l13 l14 l15 l16 l17 : Option Value) (j0 j1 j2 j3 j4 j6 j7 j8 j9 j10 j11 j12 j13 j14 j15 j16 j17 : Option Int64) (st : List Value) (h : pb_H) (Q : Option Value → pb_H → Prop) (x : Int64), pb_R 157 104 [l0, l1, l2, l3, l4, l5, l6, l7, l8, l9, l10, l11, l12, l13, l14, l15, l16, l17] [j0, j1, j2, j3, j4, some x, j6, j7, j8, j9, j10, j11, j12, j13, j14, j15, j16, j17] st h Q ↔ pb_R 157 106 [l0, l1, l2, l3, l4, l5, l6, l7, l8, l9, l10, l11, l12, l13, l14, l15, l16, l17] [j0, j1, j2, j3, j4, some x, j6, j7, j8, j9, j10, j11, j12, j13, j14, j15, j16, j17] (.long x :: st) h Q) ∧
  (∀ (L : pb_L) (J : pb_J) (st : List Value) (h : pb_H) (Q : Option Value → pb_H → Prop), pb_R 157 106 L J st h Q ↔ pb_R 157 107 L J (.long (1 : Int64) :: st) h Q) ∧
  (∀ (L : pb_L) (J : pb_J) (st : List Value) (x y : Int64) (h : pb_H) (Q : Option Value → pb_H → Prop), pb_R 157 107 L J (.long y :: .long x :: st) h Q ↔ pb_R 157 108 L J (.long (x - y) :: st) h Q) ∧
  (∀ (l0 l1 l2 l3 l4 l5 l6 l7 l8 l9 l10 l11 l12 l13 l14 l15 l16 l17 : Option Value) (j0 j1 j2 j3 j4 j5 j6 j7 j8 j9 j10 j11 j12 j13 j14 j15 j16 j17 : Option Int64) (st : List Value) (h : pb_H) (Q : Option Value → pb_H → Prop) (x : Int64), pb_R 157 108 [l0, l1, l2, l3, l4, l5, l6, l7, l8, l9, l10, l11, l12, l13, l14, l15, l16, l17] [j0, j1, j2, j3, j4, j5, j6, j7, j8, j9, j10, j11, j12, j13, j14, j15, j16, j17] (.long x :: st) h Q ↔ pb_R 157 110 [l0, l1, l2, l3, l4, none, none, l7, l8, l9, l10, l11, l12, l13, l14, l15, l16, l17] [j0, j1, j2, j3, none, some x, none, j7, j8, j9, j10, j11, j12, j13, j14, j15, j16, j17] st h Q) ∧
  (∀ (l0 l1 l2 l3 l4 l5 l6 l7 l8 l9 l10 l11 l12 l13 l14 l15 l16 l17 : Option Value) (j0 j1 j2 j3 j4 j5 j6 j8 j9 j10 j11 j12 j13 j14 j15 j16 j17 : Option Int64) (st : List Value) (h : pb_H) (Q : Option Value → pb_H → Prop) (x : Int64), pb_R 157 110 [l0, l1, l2, l3, l4, l5, l6, l7, l8, l9, l10, l11, l12, l13, l14, l15, l16, l17] [j0, j1, j2, j3, j4, j5, j6, some x, j8, j9, j10, j11, j12, j13, j14, j15, j16, j17] st h Q ↔ pb_R 157 112 [l0, l1, l2, l3, l4, l5, l6, l7, l8, l9, l10, l11, l12, l13, l14, l15, l16, l17] [j0, j1, j2, j3, j4, j5, j6, some x, j8, j9, j10, j11, j12, j13, j14, j15, j16, j17] (.long x :: st) h Q) ∧
  (∀ (l1 l2 l3 l4 l5 l6 l7 l8 l9 l10 l11 l12 l13 l14 l15 l16 l17 : Option Value) (j0 j1 j2 j3 j4 j5 j6 j7 j8 j9 j10 j11 j12 j13 j14 j15 j16 j17 : Option Int64) (st : List Value) (h : pb_H) (Q : Option Value → pb_H → Prop) (x : Nat), pb_R 157 112 [some (.ref x), l1, l2, l3, l4, l5, l6, l7, l8, l9, l10, l11, l12, l13, l14, l15, l16, l17] [j0, j1, j2, j3, j4, j5, j6, j7, j8, j9, j10, j11, j12, j13, j14, j15, j16, j17] st h Q ↔ pb_R 157 113 [some (.ref x), l1, l2, l3, l4, l5, l6, l7, l8, l9, l10, l11, l12, l13, l14, l15, l16, l17] [j0, j1, j2, j3, j4, j5, j6, j7, j8, j9, j10, j11, j12, j13, j14, j15, j16, j17] (.ref x :: st) h Q) ∧
  (∀ (l1 l2 l3 l4 l5 l6 l7 l8 l9 l10 l11 l12 l13 l14 l15 l16 l17 : Option Value) (j0 j1 j2 j3 j4 j5 j6 j7 j8 j9 j10 j11 j12 j13 j14 j15 j16 j17 : Option Int64) (st : List Value) (h : pb_H) (Q : Option Value → pb_H → Prop), pb_R 157 112 [some .null, l1, l2, l3, l4, l5, l6, l7, l8, l9, l10, l11, l12, l13, l14, l15, l16, l17] [j0, j1, j2, j3, j4, j5, j6, j7, j8, j9, j10, j11, j12, j13, j14, j15, j16, j17] st h Q ↔ pb_R 157 113 [some .null, l1, l2, l3, l4, l5, l6, l7, l8, l9, l10, l11, l12, l13, l14, l15, l16, l17] [j0, j1, j2, j3, j4, j5, j6, j7, j8, j9, j10, j11, j12, j13, j14, j15, j16, j17] (.null :: st) h Q) ∧
  (∀ (L : pb_L) (J : pb_J) (st : List Value) (h : pb_H) (Q : Option Value → pb_H → Prop) (a : Nat), pb_R 157 113 L J (.ref a :: st) h Q ↔ pb_o (pb_gf (h.2 a) 12 13) (fun v => pb_R 157 116 L J (v :: st) h Q)) ∧
  (∀ (l0 l1 l3 l4 l5 l6 l7 l8 l9 l10 l11 l12 l13 l14 l15 l16 l17 : Option Value) (j0 j1 j2 j3 j4 j5 j6 j7 j8 j9 j10 j11 j12 j13 j14 j15 j16 j17 : Option Int64) (st : List Value) (h : pb_H) (Q : Option Value → pb_H → Prop) (x : Int32), pb_R 157 116 [l0, l1, some (.int x), l3, l4, l5, l6, l7, l8, l9, l10, l11, l12, l13, l14, l15, l16, l17] [j0, j1, j2, j3, j4, j5, j6, j7, j8, j9, j10, j11, j12, j13, j14, j15, j16, j17] st h Q ↔ pb_R 157 117 [l0, l1, some (.int x), l3, l4, l5, l6, l7, l8, l9, l10, l11, l12, l13, l14, l15, l16, l17] [j0, j1, j2, j3, j4, j5, j6, j7, j8, j9, j10, j11, j12, j13, j14, j15, j16, j17] (.int x :: st) h Q) ∧
  (∀ (L : pb_L) (J : pb_J) (st : List Value) (h : pb_H) (Q : Option Value → pb_H → Prop), pb_R 157 117 L J st h Q ↔ pb_R 157 118 L J (.int (1 : Int32) :: st) h Q) ∧
  (∀ (L : pb_L) (J : pb_J) (st : List Value) (x y : Int32) (h : pb_H) (Q : Option Value → pb_H → Prop), pb_R 157 118 L J (.int y :: .int x :: st) h Q ↔ pb_R 157 119 L J (.int (x - y) :: st) h Q) ∧
  (∀ (L : pb_L) (J : pb_J) (st : List Value) (h : pb_H) (Q : Option Value → pb_H → Prop) (a : Nat) (i : Int32), pb_R 157 119 L J (.int i :: .ref a :: st) h Q ↔ pb_o (pb_ai (h.2 a) i) (fun v => pb_R 157 120 L J (.int v :: st) h Q)) ∧
  (∀ (L : pb_L) (J : pb_J) (st : List Value) (x : Int32) (h : pb_H) (Q : Option Value → pb_H → Prop), pb_R 157 120 L J (.int x :: st) h Q ↔ pb_R 157 121 L J (.long x.toInt64 :: st) h Q) ∧
  (∀ (L : pb_L) (J : pb_J) (st : List Value) (x y : Int64) (h : pb_H) (Q : Option Value → pb_H → Prop), pb_R 157 121 L J (.long y :: .long x :: st) h Q ↔ pb_R 157 122 L J (.long (x + y) :: st) h Q) ∧
  (∀ (l0 l1 l2 l3 l4 l5 l6 l7 l8 l9 l10 l11 l12 l13 l14 l15 l16 l17 : Option Value) (j0 j1 j2 j3 j4 j5 j6 j7 j8 j9 j10 j11 j12 j13 j14 j15 j16 j17 : Option Int64) (st : List Value) (h : pb_H) (Q : Option Value → pb_H → Prop) (x : Int64), pb_R 157 122 [l0, l1, l2, l3, l4, l5, l6, l7, l8, l9, l10, l11, l12, l13, l14, l15, l16, l17] [j0, j1, j2, j3, j4, j5, j6, j7, j8, j9, j10, j11, j12, j13, j14, j15, j16, j17] (.long x :: st) h Q ↔ pb_R 157 124 [l0, l1, l2, l3, l4, l5, l6, none, none, l9, l10, l11, l12, l13, l14, l15, l16, l17] [j0, j1, j2, j3, j4, j5, none, some x, none, j9, j10, j11, j12, j13, j14, j15, j16, j17] st h Q) ∧
  (∀ (L : pb_L) (J : pb_J) (st : List Value) (h : pb_H) (Q : Option Value → pb_H → Prop), pb_R 157 124 L J st h Q ↔ pb_R 157 52 L J st h Q) ∧
  (∀ (L : pb_L) (J : pb_J) (st : List Value) (h : pb_H) (Q : Option Value → pb_H → Prop), pb_R 157 127 L J st h Q ↔ pb_R 157 128 L J (.long (0 : Int64) :: st) h Q) ∧
  (∀ (l0 l1 l2 l3 l4 l5 l6 l7 l8 l9 l10 l11 l12 l13 l14 l15 l16 l17 : Option Value) (j0 j1 j2 j3 j4 j5 j6 j7 j8 j9 j10 j11 j12 j13 j14 j15 j16 j17 : Option Int64) (st : List Value) (h : pb_H) (Q : Option Value → pb_H → Prop) (x : Int64), pb_R 157 128 [l0, l1, l2, l3, l4, l5, l6, l7, l8, l9, l10, l11, l12, l13, l14, l15, l16, l17] [j0, j1, j2, j3, j4, j5, j6, j7, j8, j9, j10, j11, j12, j13, j14, j15, j16, j17] (.long x :: st) h Q ↔ pb_R 157 130 [l0, l1, l2, l3, l4, l5, l6, l7, l8, none, none, l11, l12, l13, l14, l15, l16, l17] [j0, j1, j2, j3, j4, j5, j6, j7, none, some x, none, j11, j12, j13, j14, j15, j16, j17] st h Q) ∧
  (∀ (L : pb_L) (J : pb_J) (st : List Value) (h : pb_H) (Q : Option Value → pb_H → Prop), pb_R 157 130 L J st h Q ↔ pb_R 157 131 L J (.long (0 : Int64) :: st) h Q) ∧
  (∀ (l0 l1 l2 l3 l4 l5 l6 l7 l8 l9 l10 l11 l12 l13 l14 l15 l16 l17 : Option Value) (j0 j1 j2 j3 j4 j5 j6 j7 j8 j9 j10 j11 j12 j13 j14 j15 j16 j17 : Option Int64) (st : List Value) (h : pb_H) (Q : Option Value → pb_H → Prop) (x : Int64), pb_R 157 131 [l0, l1, l2, l3, l4, l5, l6, l7, l8, l9, l10, l11, l12, l13, l14, l15, l16, l17] [j0, j1, j2, j3, j4, j5, j6, j7, j8, j9, j10, j11, j12, j13, j14, j15, j16, j17] (.long x :: st) h Q ↔ pb_R 157 133 [l0, l1, l2, l3, l4, l5, l6, l7, l8, l9, l10, none, none, l13, l14, l15, l16, l17] [j0, j1, j2, j3, j4, j5, j6, j7, j8, j9, none, some x, none, j13, j14, j15, j16, j17] st h Q) ∧
  (∀ (L : pb_L) (J : pb_J) (st : List Value) (h : pb_H) (Q : Option Value → pb_H → Prop), pb_R 157 133 L J st h Q ↔ pb_R 157 134 L J (.int (0 : Int32) :: st) h Q) ∧
  (∀ (l0 l1 l2 l3 l4 l5 l6 l7 l8 l9 l10 l11 l12 l13 l14 l15 l16 l17 : Option Value) (j0 j1 j2 j3 j4 j5 j6 j7 j8 j9 j10 j11 j12 j13 j14 j15 j16 j17 : Option Int64) (st : List Value) (h : pb_H) (Q : Option Value → pb_H → Prop) (x : Int32), pb_R 157 134 [l0, l1, l2, l3, l4, l5, l6, l7, l8, l9, l10, l11, l12, l13, l14, l15, l16, l17] [j0, j1, j2, j3, j4, j5, j6, j7, j8, j9, j10, j11, j12, j13, j14, j15, j16, j17] (.int x :: st) h Q ↔ pb_R 157 136 [l0, l1, l2, l3, l4, l5, l6, l7, l8, l9, l10, l11, l12, some (.int x), l14, l15, l16, l17] [j0, j1, j2, j3, j4, j5, j6, j7, j8, j9, j10, j11, none, none, j14, j15, j16, j17] st h Q) ∧
  (∀ (l0 l1 l3 l4 l5 l6 l7 l8 l9 l10 l11 l12 l13 l14 l15 l16 l17 : Option Value) (j0 j1 j2 j3 j4 j5 j6 j7 j8 j9 j10 j11 j12 j13 j14 j15 j16 j17 : Option Int64) (st : List Value) (h : pb_H) (Q : Option Value → pb_H → Prop) (x : Int32), pb_R 157 138 [l0, l1, some (.int x), l3, l4, l5, l6, l7, l8, l9, l10, l11, l12, l13, l14, l15, l16, l17] [j0, j1, j2, j3, j4, j5, j6, j7, j8, j9, j10, j11, j12, j13, j14, j15, j16, j17] st h Q ↔ pb_R 157 139 [l0, l1, some (.int x), l3, l4, l5, l6, l7, l8, l9, l10, l11, l12, l13, l14, l15, l16, l17] [j0, j1, j2, j3, j4, j5, j6, j7, j8, j9, j10, j11, j12, j13, j14, j15, j16, j17] (.int x :: st) h Q) ∧
  (∀ (L : pb_L) (J : pb_J) (st : List Value) (h : pb_H) (Q : Option Value → pb_H → Prop) (x y : Int32), pb_R 157 139 L J (.int y :: .int x :: st) h Q ↔ if y ≤ x then pb_R 157 223 L J st h Q else pb_R 157 142 L J st h Q) ∧
  (∀ (l0 l1 l2 l3 l4 l5 l6 l7 l8 l9 l10 l11 l12 l13 l14 l15 l16 l17 : Option Value) (j0 j1 j2 j3 j4 j6 j7 j8 j9 j10 j11 j12 j13 j14 j15 j16 j17 : Option Int64) (st : List Value) (h : pb_H) (Q : Option Value → pb_H → Prop) (x : Int64), pb_R 157 142 [l0, l1, l2, l3, l4, l5, l6, l7, l8, l9, l10, l11, l12, l13, l14, l15, l16, l17] [j0, j1, j2, j3, j4, some x, j6, j7, j8, j9, j10, j11, j12, j13, j14, j15, j16, j17] st h Q ↔ pb_R 157 144 [l0, l1, l2, l3, l4, l5, l6, l7, l8, l9, l10, l11, l12, l13, l14, l15, l16, l17] [j0, j1, j2, j3, j4, some x, j6, j7, j8, j9, j10, j11, j12, j13, j14, j15, j16, j17] (.long x :: st) h Q) ∧
  (∀ (l1 l2 l3 l4 l5 l6 l7 l8 l9 l10 l11 l12 l13 l14 l15 l16 l17 : Option Value) (j0 j1 j2 j3 j4 j5 j6 j7 j8 j9 j10 j11 j12 j13 j14 j15 j16 j17 : Option Int64) (st : List Value) (h : pb_H) (Q : Option Value → pb_H → Prop) (x : Nat), pb_R 157 144 [some (.ref x), l1, l2, l3, l4, l5, l6, l7, l8, l9, l10, l11, l12, l13, l14, l15, l16, l17] [j0, j1, j2, j3, j4, j5, j6, j7, j8, j9, j10, j11, j12, j13, j14, j15, j16, j17] st h Q ↔ pb_R 157 145 [some (.ref x), l1, l2, l3, l4, l5, l6, l7, l8, l9, l10, l11, l12, l13, l14, l15, l16, l17] [j0, j1, j2, j3, j4, j5, j6, j7, j8, j9, j10, j11, j12, j13, j14, j15, j16, j17] (.ref x :: st) h Q) ∧
  (∀ (l1 l2 l3 l4 l5 l6 l7 l8 l9 l10 l11 l12 l13 l14 l15 l16 l17 : Option Value) (j0 j1 j2 j3 j4 j5 j6 j7 j8 j9 j10 j11 j12 j13 j14 j15 j16 j17 : Option Int64) (st : List Value) (h : pb_H) (Q : Option Value → pb_H → Prop), pb_R 157 144 [some .null, l1, l2, l3, l4, l5, l6, l7, l8, l9, l10, l11, l12, l13, l14, l15, l16, l17] [j0, j1, j2, j3, j4, j5, j6, j7, j8, j9, j10, j11, j12, j13, j14, j15, j16, j17] st h Q ↔ pb_R 157 145 [some .null, l1, l2, l3, l4, l5, l6, l7, l8, l9, l10, l11, l12, l13, l14, l15, l16, l17] [j0, j1, j2, j3, j4, j5, j6, j7, j8, j9, j10, j11, j12, j13, j14, j15, j16, j17] (.null :: st) h Q) ∧
  (∀ (L : pb_L) (J : pb_J) (st : List Value) (h : pb_H) (Q : Option Value → pb_H → Prop) (a : Nat), pb_R 157 145 L J (.ref a :: st) h Q ↔ pb_o (pb_gf (h.2 a) 12 13) (fun v => pb_R 157 148 L J (v :: st) h Q)) ∧
  (∀ (l0 l1 l2 l3 l4 l5 l6 l7 l8 l9 l10 l11 l12 l14 l15 l16 l17 : Option Value) (j0 j1 j2 j3 j4 j5 j6 j7 j8 j9 j10 j11 j12 j13 j14 j15 j16 j17 : Option Int64) (st : List Value) (h : pb_H) (Q : Option Value → pb_H → Prop) (x : Int32), pb_R 157 148 [l0, l1, l2, l3, l4, l5, l6, l7, l8, l9, l10, l11, l12, some (.int x), l14, l15, l16, l17] [j0, j1, j2, j3, j4, j5, j6, j7, j8, j9, j10, j11, j12, j13, j14, j15, j16, j17] st h Q ↔ pb_R 157 150 [l0, l1, l2, l3, l4, l5, l6, l7, l8, l9, l10, l11, l12, some (.int x), l14, l15, l16, l17] [j0, j1, j2, j3, j4, j5, j6, j7, j8, j9, j10, j11, j12, j13, j14, j15, j16, j17] (.int x :: st) h Q) ∧
  (∀ (L : pb_L) (J : pb_J) (st : List Value) (h : pb_H) (Q : Option Value → pb_H → Prop) (a : Nat) (i : Int32), pb_R 157 150 L J (.int i :: .ref a :: st) h Q ↔ pb_o (pb_ai (h.2 a) i) (fun v => pb_R 157 151 L J (.int v :: st) h Q)) ∧
  (∀ (L : pb_L) (J : pb_J) (st : List Value) (x : Int32) (h : pb_H) (Q : Option Value → pb_H → Prop), pb_R 157 151 L J (.int x :: st) h Q ↔ pb_R 157 152 L J (.long x.toInt64 :: st) h Q) ∧
  (∀ (L : pb_L) (J : pb_J) (st : List Value) (x y : Int64) (h : pb_H) (Q : Option Value → pb_H → Prop), pb_R 157 152 L J (.long y :: .long x :: st) h Q ↔ pb_R 157 153 L J (.long (x * y) :: st) h Q) ∧
  (∀ (l0 l1 l2 l3 l4 l5 l6 l7 l8 l9 l10 l11 l12 l13 l14 l15 l16 l17 : Option Value) (j0 j1 j2 j3 j4 j5 j6 j7 j8 j10 j11 j12 j13 j14 j15 j16 j17 : Option Int64) (st : List Value) (h : pb_H) (Q : Option Value → pb_H → Prop) (x : Int64), pb_R 157 153 [l0, l1, l2, l3, l4, l5, l6, l7, l8, l9, l10, l11, l12, l13, l14, l15, l16, l17] [j0, j1, j2, j3, j4, j5, j6, j7, j8, some x, j10, j11, j12, j13, j14, j15, j16, j17] st h Q ↔ pb_R 157 155 [l0, l1, l2, l3, l4, l5, l6, l7, l8, l9, l10, l11, l12, l13, l14, l15, l16, l17] [j0, j1, j2, j3, j4, j5, j6, j7, j8, some x, j10, j11, j12, j13, j14, j15, j16, j17] (.long x :: st) h Q) ∧
  (∀ (L : pb_L) (J : pb_J) (st : List Value) (x y : Int64) (h : pb_H) (Q : Option Value → pb_H → Prop), pb_R 157 155 L J (.long y :: .long x :: st) h Q ↔ pb_R 157 156 L J (.long (x + y) :: st) h Q) ∧
  (∀ (l0 l1 l2 l3 l4 l5 l6 l7 l8 l9 l10 l11 l12 l13 l14 l15 l16 l17 : Option Value) (j0 j1 j2 j3 j4 j5 j6 j7 j8 j9 j10 j11 j12 j13 j14 j15 j16 j17 : Option Int64) (st : List Value) (h : pb_H) (Q : Option Value → pb_H → Prop) (x : Int64), pb_R 157 156 [l0, l1, l2, l3, l4, l5, l6, l7, l8, l9, l10, l11, l12, l13, l14, l15, l16, l17] [j0, j1, j2, j3, j4, j5, j6, j7, j8, j9, j10, j11, j12, j13, j14, j15, j16, j17] (.long x :: st) h Q ↔ pb_R 157 158 [l0, l1, l2, l3, l4, l5, l6, l7, l8, l9, l10, l11, l12, l13, none, none, l16, l17] [j0, j1, j2, j3, j4, j5, j6, j7, j8, j9, j10, j11, j12, none, some x, none, j16, j17] st h Q) ∧
  (∀ (l0 l1 l2 l3 l4 l5 l6 l7 l8 l9 l10 l11 l12 l13 l14 l15 l16 l17 : Option Value) (j0 j1 j2 j3 j4 j5 j6 j7 j8 j9 j10 j11 j12 j13 j15 j16 j17 : Option Int64) (st : List Value) (h : pb_H) (Q : Option Value → pb_H → Prop) (x : Int64), pb_R 157 158 [l0, l1, l2, l3, l4, l5, l6, l7, l8, l9, l10, l11, l12, l13, l14, l15, l16, l17] [j0, j1, j2, j3, j4, j5, j6, j7, j8, j9, j10, j11, j12, j13, some x, j15, j16, j17] st h Q ↔ pb_R 157 160 [l0, l1, l2, l3, l4, l5, l6, l7, l8, l9, l10, l11, l12, l13, l14, l15, l16, l17] [j0, j1, j2, j3, j4, j5, j6, j7, j8, j9, j10, j11, j12, j13, some x, j15, j16, j17] (.long x :: st) h Q) ∧
  (∀ (L : pb_L) (J : pb_J) (st : List Value) (h : pb_H) (Q : Option Value → pb_H → Prop), pb_R 157 160 L J st h Q ↔ pb_R 157 162 L J (.int (16 : Int32) :: st) h Q) ∧
  (∀ (L : pb_L) (J : pb_J) (st : List Value) (x : Int64) (y : Int32) (h : pb_H) (Q : Option Value → pb_H → Prop), pb_R 157 162 L J (.int y :: .long x :: st) h Q ↔ pb_R 157 163 L J (.long (x >>> (y.toInt64 &&& 63)) :: st) h Q) ∧
  (∀ (l0 l1 l2 l3 l4 l5 l6 l7 l8 l9 l10 l11 l12 l13 l14 l15 l16 l17 : Option Value) (j0 j1 j2 j3 j4 j5 j6 j7 j8 j9 j10 j11 j12 j13 j14 j15 j16 j17 : Option Int64) (st : List Value) (h : pb_H) (Q : Option Value → pb_H → Prop) (x : Int64), pb_R 157 163 [l0, l1, l2, l3, l4, l5, l6, l7, l8, l9, l10, l11, l12, l13, l14, l15, l16, l17] [j0, j1, j2, j3, j4, j5, j6, j7, j8, j9, j10, j11, j12, j13, j14, j15, j16, j17] (.long x :: st) h Q ↔ pb_R 157 165 [l0, l1, l2, l3, l4, l5, l6, l7, l8, none, none, l11, l12, l13, l14, l15, l16, l17] [j0, j1, j2, j3, j4, j5, j6, j7, none, some x, none, j11, j12, j13, j14, j15, j16, j17] st h Q) ∧
  (∀ (l1 l2 l3 l4 l5 l6 l7 l8 l9 l10 l11 l12 l13 l14 l15 l16 l17 : Option Value) (j0 j1 j2 j3 j4 j5 j6 j7 j8 j9 j10 j11 j12 j13 j14 j15 j16 j17 : Option Int64) (st : List Value) (h : pb_H) (Q : Option Value → pb_H → Prop) (x : Nat), pb_R 157 165 [some (.ref x), l1, l2, l3, l4, l5, l6, l7, l8, l9, l10, l11, l12, l13, l14, l15, l16, l17] [j0, j1, j2, j3, j4, j5, j6, j7, j8, j9, j10, j11, j12, j13, j14, j15, j16, j17] st h Q ↔ pb_R 157 166 [some (.ref x), l1, l2, l3, l4, l5, l6, l7, l8, l9, l10, l11, l12, l13, l14, l15, l16, l17] [j0, j1, j2, j3, j4, j5, j6, j7, j8, j9, j10, j11, j12, j13, j14, j15, j16, j17] (.ref x :: st) h Q) ∧
  (∀ (l1 l2 l3 l4 l5 l6 l7 l8 l9 l10 l11 l12 l13 l14 l15 l16 l17 : Option Value) (j0 j1 j2 j3 j4 j5 j6 j7 j8 j9 j10 j11 j12 j13 j14 j15 j16 j17 : Option Int64) (st : List Value) (h : pb_H) (Q : Option Value → pb_H → Prop), pb_R 157 165 [some .null, l1, l2, l3, l4, l5, l6, l7, l8, l9, l10, l11, l12, l13, l14, l15, l16, l17] [j0, j1, j2, j3, j4, j5, j6, j7, j8, j9, j10, j11, j12, j13, j14, j15, j16, j17] st h Q ↔ pb_R 157 166 [some .null, l1, l2, l3, l4, l5, l6, l7, l8, l9, l10, l11, l12, l13, l14, l15, l16, l17] [j0, j1, j2, j3, j4, j5, j6, j7, j8, j9, j10, j11, j12, j13, j14, j15, j16, j17] (.null :: st) h Q) ∧
  (∀ (L : pb_L) (J : pb_J) (st : List Value) (h : pb_H) (Q : Option Value → pb_H → Prop) (a : Nat), pb_R 157 166 L J (.ref a :: st) h Q ↔ pb_o (pb_gf (h.2 a) 12 12) (fun v => pb_R 157 169 L J (v :: st) h Q)) ∧
  (∀ (l0 l1 l2 l3 l4 l5 l6 l7 l8 l9 l10 l11 l12 l14 l15 l16 l17 : Option Value) (j0 j1 j2 j3 j4 j5 j6 j7 j8 j9 j10 j11 j12 j13 j14 j15 j16 j17 : Option Int64) (st : List Value) (h : pb_H) (Q : Option Value → pb_H → Prop) (x : Int32), pb_R 157 169 [l0, l1, l2, l3, l4, l5, l6, l7, l8, l9, l10, l11, l12, some (.int x), l14, l15, l16, l17] [j0, j1, j2, j3, j4, j5, j6, j7, j8, j9, j10, j11, j12, j13, j14, j15, j16, j17] st h Q ↔ pb_R 157 171 [l0, l1, l2, l3, l4, l5, l6, l7, l8, l9, l10, l11, l12, some (.int x), l14, l15, l16, l17] [j0, j1, j2, j3, j4, j5, j6, j7, j8, j9, j10, j11, j12, j13, j14, j15, j16, j17] (.int x :: st) h Q) ∧
  (∀ (l0 l2 l3 l4 l5 l6 l7 l8 l9 l10 l11 l12 l13 l14 l15 l16 l17 : Option Value) (j0 j1 j2 j3 j4 j5 j6 j7 j8 j9 j10 j11 j12 j13 j14 j15 j16 j17 : Option Int64) (st : List Value) (h : pb_H) (Q : Option Value → pb_H → Prop) (x : Int32), pb_R 157 171 [l0, some (.int x), l2, l3, l4, l5, l6, l7, l8, l9, l10, l11, l12, l13, l14, l15, l16, l17] [j0, j1, j2, j3, j4, j5, j6, j7, j8, j9, j10, j11, j12, j13, j14, j15, j16, j17] st h Q ↔ pb_R 157 172 [l0, some (.int x), l2, l3, l4, l5, l6, l7, l8, l9, l10, l11, l12, l13, l14, l15, l16, l17] [j0, j1, j2, j3, j4, j5, j6, j7, j8, j9, j10, j11, j12, j13, j14, j15, j16, j17] (.int x :: st) h Q) ∧
  (∀ (L : pb_L) (J : pb_J) (st : List Value) (x y : Int32) (h : pb_H) (Q : Option Value → pb_H → Prop), pb_R 157 172 L J (.int y :: .int x :: st) h Q ↔ pb_R 157 173 L J (.int (x + y) :: st) h Q) ∧
  (∀ (L : pb_L) (J : pb_J) (st : List Value) (h : pb_H) (Q : Option Value → pb_H → Prop) (a : Nat) (i : Int32), pb_R 157 173 L J (.int i :: .ref a :: st) h Q ↔ pb_o (pb_ai (h.2 a) i) (fun v => pb_R 157 174 L J (.int v :: st) h Q)) ∧
  (∀ (L : pb_L) (J : pb_J) (st : List Value) (x : Int32) (h : pb_H) (Q : Option Value → pb_H → Prop), pb_R 157 174 L J (.int x :: st) h Q ↔ pb_R 157 175 L J (.long x.toInt64 :: st) h Q) ∧
  (∀ (l0 l1 l2 l3 l4 l5 l6 l7 l8 l9 l10 l11 l12 l13 l14 l15 l16 l17 : Option Value) (j0 j1 j2 j3 j4 j5 j6 j7 j8 j9 j10 j11 j12 j13 j15 j16 j17 : Option Int64) (st : List Value) (h : pb_H) (Q : Option Value → pb_H → Prop) (x : Int64), pb_R 157 175 [l0, l1, l2, l3, l4, l5, l6, l7, l8, l9, l10, l11, l12, l13, l14, l15, l16, l17] [j0, j1, j2, j3, j4, j5, j6, j7, j8, j9, j10, j11, j12, j13, some x, j15, j16, j17] st h Q ↔ pb_R 157 177 [l0, l1, l2, l3, l4, l5, l6, l7, l8, l9, l10, l11, l12, l13, l14, l15, l16, l17] [j0, j1, j2, j3, j4, j5, j6, j7, j8, j9, j10, j11, j12, j13, some x, j15, j16, j17] (.long x :: st) h Q) ∧
  (∀ (L : pb_L) (J : pb_J) (st : List Value) (h : pb_H) (Q : Option Value → pb_H → Prop), pb_R 157 177 L J st h Q ↔ pb_R 157 180 L J (.long (65535 : Int64) :: st) h Q) ∧
  (∀ (L : pb_L) (J : pb_J) (st : List Value) (x y : Int64) (h : pb_H) (Q : Option Value → pb_H → Prop), pb_R 157 180 L J (.long y :: .long x :: st) h Q ↔ pb_R 157 181 L J (.long (x &&& y) :: st) h Q) ∧
  (∀ (L : pb_L) (J : pb_J) (st : List Value) (x y : Int64) (h : pb_H) (Q : Option Value → pb_H → Prop), pb_R 157 181 L J (.long y :: .long x :: st) h Q ↔ pb_R 157 182 L J (.long (x - y) :: st) h Q) ∧
  (∀ (l0 l1 l2 l3 l4 l5 l6 l7 l8 l9 l10 l11 l12 l13 l14 l15 l16 l17 : Option Value) (j0 j1 j2 j3 j4 j5 j6 j7 j8 j9 j10 j12 j13 j14 j15 j16 j17 : Option Int64) (st : List Value) (h : pb_H) (Q : Option Value → pb_H → Prop) (x : Int64), pb_R 157 182 [l0, l1, l2, l3, l4, l5, l6, l7, l8, l9, l10, l11, l12, l13, l14, l15, l16, l17] [j0, j1, j2, j3, j4, j5, j6, j7, j8, j9, j10, some x, j12, j13, j14, j15, j16, j17] st h Q ↔ pb_R 157 184 [l0, l1, l2, l3, l4, l5, l6, l7, l8, l9, l10, l11, l12, l13, l14, l15, l16, l17] [j0, j1, j2, j3, j4, j5, j6, j7, j8, j9, j10, some x, j12, j13, j14, j15, j16, j17] (.long x :: st) h Q) ∧
  (∀ (L : pb_L) (J : pb_J) (st : List Value) (x y : Int64) (h : pb_H) (Q : Option Value → pb_H → Prop), pb_R 157 184 L J (.long y :: .long x :: st) h Q ↔ pb_R 157 185 L J (.long (x - y) :: st) h Q) ∧
  (∀ (l0 l1 l2 l3 l4 l5 l6 l7 l8 l9 l10 l11 l12 l13 l14 l15 l16 l17 : Option Value) (j0 j1 j2 j3 j4 j5 j6 j7 j8 j9 j10 j11 j12 j13 j14 j15 j16 j17 : Option Int64) (st : List Value) (h : pb_H) (Q : Option Value → pb_H → Prop) (x : Int64), pb_R 157 185 [l0, l1, l2, l3, l4, l5, l6, l7, l8, l9, l10, l11, l12, l13, l14, l15, l16, l17] [j0, j1, j2, j3, j4, j5, j6, j7, j8, j9, j10, j11, j12, j13, j14, j15, j16, j17] (.long x :: st) h Q ↔ pb_R 157 187 [l0, l1, l2, l3, l4, l5, l6, l7, l8, l9, l10, l11, l12, l13, l14, l15, none, none] [j0, j1, j2, j3, j4, j5, j6, j7, j8, j9, j10, j11, j12, j13, j14, none, some x, none] st h Q) ∧
  (∀ (l1 l2 l3 l4 l5 l6 l7 l8 l9 l10 l11 l12 l13 l14 l15 l16 l17 : Option Value) (j0 j1 j2 j3 j4 j5 j6 j7 j8 j9 j10 j11 j12 j13 j14 j15 j16 j17 : Option Int64) (st : List Value) (h : pb_H) (Q : Option Value → pb_H → Prop) (x : Nat), pb_R 157 187 [some (.ref x), l1, l2, l3, l4, l5, l6, l7, l8, l9, l10, l11, l12, l13, l14, l15, l16, l17] [j0, j1, j2, j3, j4, j5, j6, j7, j8, j9, j10, j11, j12, j13, j14, j15, j16, j17] st h Q ↔ pb_R 157 188 [some (.ref x), l1, l2, l3, l4, l5, l6, l7, l8, l9, l10, l11, l12, l13, l14, l15, l16, l17] [j0, j1, j2, j3, j4, j5, j6, j7, j8, j9, j10, j11, j12, j13, j14, j15, j16, j17] (.ref x :: st) h Q) ∧
  (∀ (l1 l2 l3 l4 l5 l6 l7 l8 l9 l10 l11 l12 l13 l14 l15 l16 l17 : Option Value) (j0 j1 j2 j3 j4 j5 j6 j7 j8 j9 j10 j11 j12 j13 j14 j15 j16 j17 : Option Int64) (st : List Value) (h : pb_H) (Q : Option Value → pb_H → Prop), pb_R 157 187 [some .null, l1, l2, l3, l4, l5, l6, l7, l8, l9, l10, l11, l12, l13, l14, l15, l16, l17] [j0, j1, j2, j3, j4, j5, j6, j7, j8, j9, j10, j11, j12, j13, j14, j15, j16, j17] st h Q ↔ pb_R 157 188 [some .null, l1, l2, l3, l4, l5, l6, l7, l8, l9, l10, l11, l12, l13, l14, l15, l16, l17] [j0, j1, j2, j3, j4, j5, j6, j7, j8, j9, j10, j11, j12, j13, j14, j15, j16, j17] (.null :: st) h Q) ∧
  (∀ (L : pb_L) (J : pb_J) (st : List Value) (h : pb_H) (Q : Option Value → pb_H → Prop) (a : Nat), pb_R 157 188 L J (.ref a :: st) h Q ↔ pb_o (pb_gf (h.2 a) 12 12) (fun v => pb_R 157 191 L J (v :: st) h Q)) ∧
  (∀ (l0 l1 l2 l3 l4 l5 l6 l7 l8 l9 l10 l11 l12 l14 l15 l16 l17 : Option Value) (j0 j1 j2 j3 j4 j5 j6 j7 j8 j9 j10 j11 j12 j13 j14 j15 j16 j17 : Option Int64) (st : List Value) (h : pb_H) (Q : Option Value → pb_H → Prop) (x : Int32), pb_R 157 191 [l0, l1, l2, l3, l4, l5, l6, l7, l8, l9, l10, l11, l12, some (.int x), l14, l15, l16, l17] [j0, j1, j2, j3, j4, j5, j6, j7, j8, j9, j10, j11, j12, j13, j14, j15, j16, j17] st h Q ↔ pb_R 157 193 [l0, l1, l2, l3, l4, l5, l6, l7, l8, l9, l10, l11, l12, some (.int x), l14, l15, l16, l17] [j0, j1, j2, j3, j4, j5, j6, j7, j8, j9, j10, j11, j12, j13, j14, j15, j16, j17] (.int x :: st) h Q) ∧
  (∀ (l0 l2 l3 l4 l5 l6 l7 l8 l9 l10 l11 l12 l13 l14 l15 l16 l17 : Option Value) (j0 j1 j2 j3 j4 j5 j6 j7 j8 j9 j10 j11 j12 j13 j14 j15 j16 j17 : Option Int64) (st : List Value) (h : pb_H) (Q : Option Value → pb_H → Prop) (x : Int32), pb_R 157 193 [l0, some (.int x), l2, l3, l4, l5, l6, l7, l8, l9, l10, l11, l12, l13, l14, l15, l16, l17] [j0, j1, j2, j3, j4, j5, j6, j7, j8, j9, j10, j11, j12, j13, j14, j15, j16, j17] st h Q ↔ pb_R 157 194 [l0, some (.int x), l2, l3, l4, l5, l6, l7, l8, l9, l10, l11, l12, l13, l14, l15, l16, l17] [j0, j1, j2, j3, j4, j5, j6, j7, j8, j9, j10, j11, j12, j13, j14, j15, j16, j17] (.int x :: st) h Q) ∧
  (∀ (L : pb_L) (J : pb_J) (st : List Value) (x y : Int32) (h : pb_H) (Q : Option Value → pb_H → Prop), pb_R 157 194 L J (.int y :: .int x :: st) h Q ↔ pb_R 157 195 L J (.int (x + y) :: st) h Q) ∧
  (∀ (l0 l1 l2 l3 l4 l5 l6 l7 l8 l9 l10 l11 l12 l13 l14 l15 l16 l17 : Option Value) (j0 j1 j2 j3 j4 j5 j6 j7 j8 j9 j10 j11 j12 j13 j14 j15 j17 : Option Int64) (st : List Value) (h : pb_H) (Q : Option Value → pb_H → Prop) (x : Int64), pb_R 157 195 [l0, l1, l2, l3, l4, l5, l6, l7, l8, l9, l10, l11, l12, l13, l14, l15, l16, l17] [j0, j1, j2, j3, j4, j5, j6, j7, j8, j9, j10, j11, j12, j13, j14, j15, some x, j17] st h Q ↔ pb_R 157 197 [l0, l1, l2, l3, l4, l5, l6, l7, l8, l9, l10, l11, l12, l13, l14, l15, l16, l17] [j0, j1, j2, j3, j4, j5, j6, j7, j8, j9, j10, j11, j12, j13, j14, j15, some x, j17] (.long x :: st) h Q) ∧
  (∀ (L : pb_L) (J : pb_J) (st : List Value) (h : pb_H) (Q : Option Value → pb_H → Prop), pb_R 157 197 L J st h Q ↔ pb_R 157 200 L J (.long (65535 : Int64) :: st) h Q) ∧
  (∀ (L : pb_L) (J : pb_J) (st : List Value) (x y : Int64) (h : pb_H) (Q : Option Value → pb_H → Prop), pb_R 157 200 L J (.long y :: .long x :: st) h Q ↔ pb_R 157 201 L J (.long (x &&& y) :: st) h Q) ∧
  (∀ (L : pb_L) (J : pb_J) (st : List Value) (x : Int64) (h : pb_H) (Q : Option Value → pb_H → Prop), pb_R 157 201 L J (.long x :: st) h Q ↔ pb_R 157 202 L J (.int x.toInt32 :: st) h Q) ∧
  (∀ (L : pb_L) (J : pb_J) (st : List Value) (h : pb_H) (Q : Option Value → pb_H → Prop) (a : Nat) (i x : Int32), pb_R 157 202 L J (.int x :: .int i :: .ref a :: st) h Q ↔ pb_o (pb_si (h.2 a) i x) (fun c => pb_R 157 203 L J st (pb_set h a c) Q)) ∧
  (∀ (l0 l1 l2 l3 l4 l5 l6 l7 l8 l9 l10 l11 l12 l13 l14 l15 l16 l17 : Option Value) (j0 j1 j2 j3 j4 j5 j6 j7 j8 j9 j10 j11 j12 j13 j14 j15 j17 : Option Int64) (st : List Value) (h : pb_H) (Q : Option Value → pb_H → Prop) (x : Int64), pb_R 157 203 [l0, l1, l2, l3, l4, l5, l6, l7, l8, l9, l10, l11, l12, l13, l14, l15, l16, l17] [j0, j1, j2, j3, j4, j5, j6, j7, j8, j9, j10, j11, j12, j13, j14, j15, some x, j17] st h Q ↔ pb_R 157 205 [l0, l1, l2, l3, l4, l5, l6, l7, l8, l9, l10, l11, l12, l13, l14, l15, l16, l17] [j0, j1, j2, j3, j4, j5, j6, j7, j8, j9, j10, j11, j12, j13, j14, j15, some x, j17] (.long x :: st) h Q) ∧
  (∀ (L : pb_L) (J : pb_J) (st : List Value) (h : pb_H) (Q : Option Value → pb_H → Prop), pb_R 157 205 L J st h Q ↔ pb_R 157 206 L J (.long (0 : Int64) :: st) h Q) ∧
  (∀ (L : pb_L) (J : pb_J) (st : List Value) (x y : Int64) (h : pb_H) (Q : Option Value → pb_H → Prop), pb_R 157 206 L J (.long y :: .long x :: st) h Q ↔ pb_R 157 207 L J (.int (lg_cmp x y) :: st) h Q) ∧
  (∀ (L : pb_L) (J : pb_J) (st : List Value) (h : pb_H) (Q : Option Value → pb_H → Prop) (x : Int32), pb_R 157 207 L J (.int x :: st) h Q ↔ if 0 ≤ x then pb_R 157 214 L J st h Q else pb_R 157 210 L J st h Q) ∧
  (∀ (L : pb_L) (J : pb_J) (st : List Value) (h : pb_H) (Q : Option Value → pb_H → Prop), pb_R 157 210 L J st h Q ↔ pb_R 157 211 L J (.long (1 : Int64) :: st) h Q) ∧
  (∀ (L : pb_L) (J : pb_J) (st : List Value) (h : pb_H) (Q : Option Value → pb_H → Prop), pb_R 157 211 L J st h Q ↔ pb_R 157 215 L J st h Q) ∧
  (∀ (L : pb_L) (J : pb_J) (st : List Value) (h : pb_H) (Q : Option Value → pb_H → Prop), pb_R 157 214 L J st h Q ↔ pb_R 157 215 L J (.long (0 : Int64) :: st) h Q) ∧
  (∀ (l0 l1 l2 l3 l4 l5 l6 l7 l8 l9 l10 l11 l12 l13 l14 l15 l16 l17 : Option Value) (j0 j1 j2 j3 j4 j5 j6 j7 j8 j9 j10 j11 j12 j13 j14 j15 j16 j17 : Option Int64) (st : List Value) (h : pb_H) (Q : Option Value → pb_H → Prop) (x : Int64), pb_R 157 215 [l0, l1, l2, l3, l4, l5, l6, l7, l8, l9, l10, l11, l12, l13, l14, l15, l16, l17] [j0, j1, j2, j3, j4, j5, j6, j7, j8, j9, j10, j11, j12, j13, j14, j15, j16, j17] (.long x :: st) h Q ↔ pb_R 157 217 [l0, l1, l2, l3, l4, l5, l6, l7, l8, l9, l10, none, none, l13, l14, l15, l16, l17] [j0, j1, j2, j3, j4, j5, j6, j7, j8, j9, none, some x, none, j13, j14, j15, j16, j17] st h Q) ∧
  (∀ (l0 l1 l2 l3 l4 l5 l6 l7 l8 l9 l10 l11 l12 l14 l15 l16 l17 : Option Value) (j0 j1 j2 j3 j4 j5 j6 j7 j8 j9 j10 j11 j12 j13 j14 j15 j16 j17 : Option Int64) (st : List Value) (h : pb_H) (Q : Option Value → pb_H → Prop) (x : Int32), pb_R 157 217 [l0, l1, l2, l3, l4, l5, l6, l7, l8, l9, l10, l11, l12, some (.int x), l14, l15, l16, l17] [j0, j1, j2, j3, j4, j5, j6, j7, j8, j9, j10, j11, j12, j13, j14, j15, j16, j17] st h Q ↔ pb_R 157 220 [l0, l1, l2, l3, l4, l5, l6, l7, l8, l9, l10, l11, l12, some (.int (x + (1 : Int32))), l14, l15, l16, l17] [j0, j1, j2, j3, j4, j5, j6, j7, j8, j9, j10, j11, none, none, j14, j15, j16, j17] st h Q) ∧
  (∀ (L : pb_L) (J : pb_J) (st : List Value) (h : pb_H) (Q : Option Value → pb_H → Prop), pb_R 157 220 L J st h Q ↔ pb_R 157 136 L J st h Q) ∧
  (∀ (l1 l2 l3 l4 l5 l6 l7 l8 l9 l10 l11 l12 l13 l14 l15 l16 l17 : Option Value) (j0 j1 j2 j3 j4 j5 j6 j7 j8 j9 j10 j11 j12 j13 j14 j15 j16 j17 : Option Int64) (st : List Value) (h : pb_H) (Q : Option Value → pb_H → Prop) (x : Nat), pb_R 157 223 [some (.ref x), l1, l2, l3, l4, l5, l6, l7, l8, l9, l10, l11, l12, l13, l14, l15, l16, l17] [j0, j1, j2, j3, j4, j5, j6, j7, j8, j9, j10, j11, j12, j13, j14, j15, j16, j17] st h Q ↔ pb_R 157 224 [some (.ref x), l1, l2, l3, l4, l5, l6, l7, l8, l9, l10, l11, l12, l13, l14, l15, l16, l17] [j0, j1, j2, j3, j4, j5, j6, j7, j8, j9, j10, j11, j12, j13, j14, j15, j16, j17] (.ref x :: st) h Q) ∧
  (∀ (l1 l2 l3 l4 l5 l6 l7 l8 l9 l10 l11 l12 l13 l14 l15 l16 l17 : Option Value) (j0 j1 j2 j3 j4 j5 j6 j7 j8 j9 j10 j11 j12 j13 j14 j15 j16 j17 : Option Int64) (st : List Value) (h : pb_H) (Q : Option Value → pb_H → Prop), pb_R 157 223 [some .null, l1, l2, l3, l4, l5, l6, l7, l8, l9, l10, l11, l12, l13, l14, l15, l16, l17] [j0, j1, j2, j3, j4, j5, j6, j7, j8, j9, j10, j11, j12, j13, j14, j15, j16, j17] st h Q ↔ pb_R 157 224 [some .null, l1, l2, l3, l4, l5, l6, l7, l8, l9, l10, l11, l12, l13, l14, l15, l16, l17] [j0, j1, j2, j3, j4, j5, j6, j7, j8, j9, j10, j11, j12, j13, j14, j15, j16, j17] (.null :: st) h Q) ∧
  (∀ (L : pb_L) (J : pb_J) (st : List Value) (h : pb_H) (Q : Option Value → pb_H → Prop) (a : Nat), pb_R 157 224 L J (.ref a :: st) h Q ↔ pb_o (pb_gf (h.2 a) 12 12) (fun v => pb_R 157 227 L J (v :: st) h Q)) ∧
  (∀ (l0 l2 l3 l4 l5 l6 l7 l8 l9 l10 l11 l12 l13 l14 l15 l16 l17 : Option Value) (j0 j1 j2 j3 j4 j5 j6 j7 j8 j9 j10 j11 j12 j13 j14 j15 j16 j17 : Option Int64) (st : List Value) (h : pb_H) (Q : Option Value → pb_H → Prop) (x : Int32), pb_R 157 227 [l0, some (.int x), l2, l3, l4, l5, l6, l7, l8, l9, l10, l11, l12, l13, l14, l15, l16, l17] [j0, j1, j2, j3, j4, j5, j6, j7, j8, j9, j10, j11, j12, j13, j14, j15, j16, j17] st h Q ↔ pb_R 157 228 [l0, some (.int x), l2, l3, l4, l5, l6, l7, l8, l9, l10, l11, l12, l13, l14, l15, l16, l17] [j0, j1, j2, j3, j4, j5, j6, j7, j8, j9, j10, j11, j12, j13, j14, j15, j16, j17] (.int x :: st) h Q) ∧
  (∀ (l0 l1 l3 l4 l5 l6 l7 l8 l9 l10 l11 l12 l13 l14 l15 l16 l17 : Option Value) (j0 j1 j2 j3 j4 j5 j6 j7 j8 j9 j10 j11 j12 j13 j14 j15 j16 j17 : Option Int64) (st : List Value) (h : pb_H) (Q : Option Value → pb_H → Prop) (x : Int32), pb_R 157 228 [l0, l1, some (.int x), l3, l4, l5, l6, l7, l8, l9, l10, l11, l12, l13, l14, l15, l16, l17] [j0, j1, j2, j3, j4, j5, j6, j7, j8, j9, j10, j11, j12, j13, j14, j15, j16, j17] st h Q ↔ pb_R 157 229 [l0, l1, some (.int x), l3, l4, l5, l6, l7, l8, l9, l10, l11, l12, l13, l14, l15, l16, l17] [j0, j1, j2, j3, j4, j5, j6, j7, j8, j9, j10, j11, j12, j13, j14, j15, j16, j17] (.int x :: st) h Q) ∧
  (∀ (L : pb_L) (J : pb_J) (st : List Value) (x y : Int32) (h : pb_H) (Q : Option Value → pb_H → Prop), pb_R 157 229 L J (.int y :: .int x :: st) h Q ↔ pb_R 157 230 L J (.int (x + y) :: st) h Q) ∧
  (∀ (L : pb_L) (J : pb_J) (st : List Value) (h : pb_H) (Q : Option Value → pb_H → Prop) (a : Nat) (i : Int32), pb_R 157 230 L J (.int i :: .ref a :: st) h Q ↔ pb_o (pb_ai (h.2 a) i) (fun v => pb_R 157 231 L J (.int v :: st) h Q)) ∧
  (∀ (L : pb_L) (J : pb_J) (st : List Value) (x : Int32) (h : pb_H) (Q : Option Value → pb_H → Prop), pb_R 157 231 L J (.int x :: st) h Q ↔ pb_R 157 232 L J (.long x.toInt64 :: st) h Q) ∧
  (∀ (l0 l1 l2 l3 l4 l5 l6 l7 l8 l9 l10 l11 l12 l13 l14 l15 l16 l17 : Option Value) (j0 j1 j2 j3 j4 j5 j6 j7 j8 j10 j11 j12 j13 j14 j15 j16 j17 : Option Int64) (st : List Value) (h : pb_H) (Q : Option Value → pb_H → Prop) (x : Int64), pb_R 157 232 [l0, l1, l2, l3, l4, l5, l6, l7, l8, l9, l10, l11, l12, l13, l14, l15, l16, l17] [j0, j1, j2, j3, j4, j5, j6, j7, j8, some x, j10, j11, j12, j13, j14, j15, j16, j17] st h Q ↔ pb_R 157 234 [l0, l1, l2, l3, l4, l5, l6, l7, l8, l9, l10, l11, l12, l13, l14, l15, l16, l17] [j0, j1, j2, j3, j4, j5, j6, j7, j8, some x, j10, j11, j12, j13, j14, j15, j16, j17] (.long x :: st) h Q) ∧
  (∀ (L : pb_L) (J : pb_J) (st : List Value) (x y : Int64) (h : pb_H) (Q : Option Value → pb_H → Prop), pb_R 157 234 L J (.long y :: .long x :: st) h Q ↔ pb_R 157 235 L J (.long (x - y) :: st) h Q) ∧
  (∀ (l0 l1 l2 l3 l4 l5 l6 l7 l8 l9 l10 l11 l12 l13 l14 l15 l16 l17 : Option Value) (j0 j1 j2 j3 j4 j5 j6 j7 j8 j9 j10 j12 j13 j14 j15 j16 j17 : Option Int64) (st : List Value) (h : pb_H) (Q : Option Value → pb_H → Prop) (x : Int64), pb_R 157 235 [l0, l1, l2, l3, l4, l5, l6, l7, l8, l9, l10, l11, l12, l13, l14, l15, l16, l17] [j0, j1, j2, j3, j4, j5, j6, j7, j8, j9, j10, some x, j12, j13, j14, j15, j16, j17] st h Q ↔ pb_R 157 237 [l0, l1, l2, l3, l4, l5, l6, l7, l8, l9, l10, l11, l12, l13, l14, l15, l16, l17] [j0, j1, j2, j3, j4, j5, j6, j7, j8, j9, j10, some x, j12, j13, j14, j15, j16, j17] (.long x :: st) h Q) ∧
  (∀ (L : pb_L) (J : pb_J) (st : List Value) (x y : Int64) (h : pb_H) (Q : Option Value → pb_H → Prop), pb_R 157 237 L J (.long y :: .long x :: st) h Q ↔ pb_R 157 238 L J (.long (x - y) :: st) h Q) ∧
  (∀ (l0 l1 l2 l3 l4 l5 l6 l7 l8 l9 l10 l11 l12 l13 l14 l15 l16 l17 : Option Value) (j0 j1 j2 j3 j4 j5 j6 j7 j8 j9 j10 j11 j12 j13 j14 j15 j16 j17 : Option Int64) (st : List Value) (h : pb_H) (Q : Option Value → pb_H → Prop) (x : Int64), pb_R 157 238 [l0, l1, l2, l3, l4, l5, l6, l7, l8, l9, l10, l11, l12, l13, l14, l15, l16, l17] [j0, j1, j2, j3, j4, j5, j6, j7, j8, j9, j10, j11, j12, j13, j14, j15, j16, j17] (.long x :: st) h Q ↔ pb_R 157 240 [l0, l1, l2, l3, l4, l5, l6, l7, l8, l9, l10, l11, l12, none, none, l15, l16, l17] [j0, j1, j2, j3, j4, j5, j6, j7, j8, j9, j10, j11, none, some x, none, j15, j16, j17] st h Q) ∧
  (∀ (l1 l2 l3 l4 l5 l6 l7 l8 l9 l10 l11 l12 l13 l14 l15 l16 l17 : Option Value) (j0 j1 j2 j3 j4 j5 j6 j7 j8 j9 j10 j11 j12 j13 j14 j15 j16 j17 : Option Int64) (st : List Value) (h : pb_H) (Q : Option Value → pb_H → Prop) (x : Nat), pb_R 157 240 [some (.ref x), l1, l2, l3, l4, l5, l6, l7, l8, l9, l10, l11, l12, l13, l14, l15, l16, l17] [j0, j1, j2, j3, j4, j5, j6, j7, j8, j9, j10, j11, j12, j13, j14, j15, j16, j17] st h Q ↔ pb_R 157 241 [some (.ref x), l1, l2, l3, l4, l5, l6, l7, l8, l9, l10, l11, l12, l13, l14, l15, l16, l17] [j0, j1, j2, j3, j4, j5, j6, j7, j8, j9, j10, j11, j12, j13, j14, j15, j16, j17] (.ref x :: st) h Q) ∧
  (∀ (l1 l2 l3 l4 l5 l6 l7 l8 l9 l10 l11 l12 l13 l14 l15 l16 l17 : Option Value) (j0 j1 j2 j3 j4 j5 j6 j7 j8 j9 j10 j11 j12 j13 j14 j15 j16 j17 : Option Int64) (st : List Value) (h : pb_H) (Q : Option Value → pb_H → Prop), pb_R 157 240 [some .null, l1, l2, l3, l4, l5, l6, l7, l8, l9, l10, l11, l12, l13, l14, l15, l16, l17] [j0, j1, j2, j3, j4, j5, j6, j7, j8, j9, j10, j11, j12, j13, j14, j15, j16, j17] st h Q ↔ pb_R 157 241 [some .null, l1, l2, l3, l4, l5, l6, l7, l8, l9, l10, l11, l12, l13, l14, l15, l16, l17] [j0, j1, j2, j3, j4, j5, j6, j7, j8, j9, j10, j11, j12, j13, j14, j15, j16, j17] (.null :: st) h Q) ∧
  (∀ (L : pb_L) (J : pb_J) (st : List Value) (h : pb_H) (Q : Option Value → pb_H → Prop) (a : Nat), pb_R 157 241 L J (.ref a :: st) h Q ↔ pb_o (pb_gf (h.2 a) 12 12) (fun v => pb_R 157 244 L J (v :: st) h Q)) ∧
  (∀ (l0 l2 l3 l4 l5 l6 l7 l8 l9 l10 l11 l12 l13 l14 l15 l16 l17 : Option Value) (j0 j1 j2 j3 j4 j5 j6 j7 j8 j9 j10 j11 j12 j13 j14 j15 j16 j17 : Option Int64) (st : List Value) (h : pb_H) (Q : Option Value → pb_H → Prop) (x : Int32), pb_R 157 244 [l0, some (.int x), l2, l3, l4, l5, l6, l7, l8, l9, l10, l11, l12, l13, l14, l15, l16, l17] [j0, j1, j2, j3, j4, j5, j6, j7, j8, j9, j10, j11, j12, j13, j14, j15, j16, j17] st h Q ↔ pb_R 157 245 [l0, some (.int x), l2, l3, l4, l5, l6, l7, l8, l9, l10, l11, l12, l13, l14, l15, l16, l17] [j0, j1, j2, j3, j4, j5, j6, j7, j8, j9, j10, j11, j12, j13, j14, j15, j16, j17] (.int x :: st) h Q) ∧
  (∀ (l0 l1 l3 l4 l5 l6 l7 l8 l9 l10 l11 l12 l13 l14 l15 l16 l17 : Option Value) (j0 j1 j2 j3 j4 j5 j6 j7 j8 j9 j10 j11 j12 j13 j14 j15 j16 j17 : Option Int64) (st : List Value) (h : pb_H) (Q : Option Value → pb_H → Prop) (x : Int32), pb_R 157 245 [l0, l1, some (.int x), l3, l4, l5, l6, l7, l8, l9, l10, l11, l12, l13, l14, l15, l16, l17] [j0, j1, j2, j3, j4, j5, j6, j7, j8, j9, j10, j11, j12, j13, j14, j15, j16, j17] st h Q ↔ pb_R 157 246 [l0, l1, some (.int x), l3, l4, l5, l6, l7, l8, l9, l10, l11, l12, l13, l14, l15, l16, l17] [j0, j1, j2, j3, j4, j5, j6, j7, j8, j9, j10, j11, j12, j13, j14, j15, j16, j17] (.int x :: st) h Q) ∧
  (∀ (L : pb_L) (J : pb_J) (st : List Value) (x y : Int32) (h : pb_H) (Q : Option Value → pb_H → Prop), pb_R 157 246 L J (.int y :: .int x :: st) h Q ↔ pb_R 157 247 L J (.int (x + y) :: st) h Q) ∧
  (∀ (l0 l1 l2 l3 l4 l5 l6 l7 l8 l9 l10 l11 l12 l13 l14 l15 l16 l17 : Option Value) (j0 j1 j2 j3 j4 j5 j6 j7 j8 j9 j10 j11 j12 j14 j15 j16 j17 : Option Int64) (st : List Value) (h : pb_H) (Q : Option Value → pb_H → Prop) (x : Int64), pb_R 157 247 [l0, l1, l2, l3, l4, l5, l6, l7, l8, l9, l10, l11, l12, l13, l14, l15, l16, l17] [j0, j1, j2, j3, j4, j5, j6, j7, j8, j9, j10, j11, j12, some x, j14, j15, j16, j17] st h Q ↔ pb_R 157 249 [l0, l1, l2, l3, l4, l5, l6, l7, l8, l9, l10, l11, l12, l13, l14, l15, l16, l17] [j0, j1, j2, j3, j4, j5, j6, j7, j8, j9, j10, j11, j12, some x, j14, j15, j16, j17] (.long x :: st) h Q) ∧
  (∀ (L : pb_L) (J : pb_J) (st : List Value) (h : pb_H) (Q : Option Value → pb_H → Prop), pb_R 157 249 L J st h Q ↔ pb_R 157 252 L J (.long (65535 : Int64) :: st) h Q) ∧
  (∀ (L : pb_L) (J : pb_J) (st : List Value) (x y : Int64) (h : pb_H) (Q : Option Value → pb_H → Prop), pb_R 157 252 L J (.long y :: .long x :: st) h Q ↔ pb_R 157 253 L J (.long (x &&& y) :: st) h Q) ∧
  (∀ (L : pb_L) (J : pb_J) (st : List Value) (x : Int64) (h : pb_H) (Q : Option Value → pb_H → Prop), pb_R 157 253 L J (.long x :: st) h Q ↔ pb_R 157 254 L J (.int x.toInt32 :: st) h Q) ∧
  (∀ (L : pb_L) (J : pb_J) (st : List Value) (h : pb_H) (Q : Option Value → pb_H → Prop) (a : Nat) (i x : Int32), pb_R 157 254 L J (.int x :: .int i :: .ref a :: st) h Q ↔ pb_o (pb_si (h.2 a) i x) (fun c => pb_R 157 255 L J st (pb_set h a c) Q)) ∧
  (∀ (l0 l1 l2 l3 l4 l5 l6 l7 l8 l9 l10 l11 l12 l13 l14 l15 l16 l17 : Option Value) (j0 j1 j2 j3 j4 j5 j6 j7 j8 j9 j10 j11 j12 j14 j15 j16 j17 : Option Int64) (st : List Value) (h : pb_H) (Q : Option Value → pb_H → Prop) (x : Int64), pb_R 157 255 [l0, l1, l2, l3, l4, l5, l6, l7, l8, l9, l10, l11, l12, l13, l14, l15, l16, l17] [j0, j1, j2, j3, j4, j5, j6, j7, j8, j9, j10, j11, j12, some x, j14, j15, j16, j17] st h Q ↔ pb_R 157 257 [l0, l1, l2, l3, l4, l5, l6, l7, l8, l9, l10, l11, l12, l13, l14, l15, l16, l17] [j0, j1, j2, j3, j4, j5, j6, j7, j8, j9, j10, j11, j12, some x, j14, j15, j16, j17] (.long x :: st) h Q) ∧
  (∀ (L : pb_L) (J : pb_J) (st : List Value) (h : pb_H) (Q : Option Value → pb_H → Prop), pb_R 157 257 L J st h Q ↔ pb_R 157 258 L J (.long (0 : Int64) :: st) h Q) ∧
  (∀ (L : pb_L) (J : pb_J) (st : List Value) (x y : Int64) (h : pb_H) (Q : Option Value → pb_H → Prop), pb_R 157 258 L J (.long y :: .long x :: st) h Q ↔ pb_R 157 259 L J (.int (lg_cmp x y) :: st) h Q) ∧
  (∀ (L : pb_L) (J : pb_J) (st : List Value) (h : pb_H) (Q : Option Value → pb_H → Prop) (x : Int32), pb_R 157 259 L J (.int x :: st) h Q ↔ if 0 ≤ x then pb_R 157 351 L J st h Q else pb_R 157 262 L J st h Q) ∧
  (∀ (l0 l1 l2 l3 l4 l5 l6 l7 l8 l9 l10 l11 l12 l13 l14 l15 l16 l17 : Option Value) (j0 j1 j2 j3 j4 j6 j7 j8 j9 j10 j11 j12 j13 j14 j15 j16 j17 : Option Int64) (st : List Value) (h : pb_H) (Q : Option Value → pb_H → Prop) (x : Int64), pb_R 157 262 [l0, l1, l2, l3, l4, l5, l6, l7, l8, l9, l10, l11, l12, l13, l14, l15, l16, l17] [j0, j1, j2, j3, j4, some x, j6, j7, j8, j9, j10, j11, j12, j13, j14, j15, j16, j17] st h Q ↔ pb_R 157 264 [l0, l1, l2, l3, l4, l5, l6, l7, l8, l9, l10, l11, l12, l13, l14, l15, l16, l17] [j0, j1, j2, j3, j4, some x, j6, j7, j8, j9, j10, j11, j12, j13, j14, j15, j16, j17] (.long x :: st) h Q) ∧
  (∀ (L : pb_L) (J : pb_J) (st : List Value) (h : pb_H) (Q : Option Value → pb_H → Prop), pb_R 157 264 L J st h Q ↔ pb_R 157 265 L J (.long (1 : Int64) :: st) h Q) ∧
  (∀ (L : pb_L) (J : pb_J) (st : List Value) (x y : Int64) (h : pb_H) (Q : Option Value → pb_H → Prop), pb_R 157 265 L J (.long y :: .long x :: st) h Q ↔ pb_R 157 266 L J (.long (x - y) :: st) h Q) ∧
  (∀ (l0 l1 l2 l3 l4 l5 l6 l7 l8 l9 l10 l11 l12 l13 l14 l15 l16 l17 : Option Value) (j0 j1 j2 j3 j4 j5 j6 j7 j8 j9 j10 j11 j12 j13 j14 j15 j16 j17 : Option Int64) (st : List Value) (h : pb_H) (Q : Option Value → pb_H → Prop) (x : Int64), pb_R 157 266 [l0, l1, l2, l3, l4, l5, l6, l7, l8, l9, l10, l11, l12, l13, l14, l15, l16, l17] [j0, j1, j2, j3, j4, j5, j6, j7, j8, j9, j10, j11, j12, j13, j14, j15, j16, j17] (.long x :: st) h Q ↔ pb_R 157 268 [l0, l1, l2, l3, l4, none, none, l7, l8, l9, l10, l11, l12, l13, l14, l15, l16, l17] [j0, j1, j2, j3, none, some x, none, j7, j8, j9, j10, j11, j12, j13, j14, j15, j16, j17] st h Q) ∧
  (∀ (L : pb_L) (J : pb_J) (st : List Value) (h : pb_H) (Q : Option Value → pb_H → Prop), pb_R 157 268 L J st h Q ↔ pb_R 157 269 L J (.int (0 : Int32) :: st) h Q) ∧
  (∀ (l0 l1 l2 l3 l4 l5 l6 l7 l8 l9 l10 l11 l12 l13 l14 l15 l16 l17 : Option Value) (j0 j1 j2 j3 j4 j5 j6 j7 j8 j9 j10 j11 j12 j13 j14 j15 j16 j17 : Option Int64) (st : List Value) (h : pb_H) (Q : Option Value → pb_H → Prop) (x : Int32), pb_R 157 269 [l0, l1, l2, l3, l4, l5, l6, l7, l8, l9, l10, l11, l12, l13, l14, l15, l16, l17] [j0, j1, j2, j3, j4, j5, j6, j7, j8, j9, j10, j11, j12, j13, j14, j15, j16, j17] (.int x :: st) h Q ↔ pb_R 157 271 [l0, l1, l2, l3, l4, l5, l6, l7, l8, l9, l10, l11, l12, l13, l14, some (.int x), l16, l17] [j0, j1, j2, j3, j4, j5, j6, j7, j8, j9, j10, j11, j12, j13, none, none, j16, j17] st h Q) ∧
  (∀ (L : pb_L) (J : pb_J) (st : List Value) (h : pb_H) (Q : Option Value → pb_H → Prop), pb_R 157 271 L J st h Q ↔ pb_R 157 272 L J (.int (0 : Int32) :: st) h Q) ∧
  (∀ (l0 l1 l2 l3 l4 l5 l6 l7 l8 l9 l10 l11 l12 l13 l14 l15 l16 l17 : Option Value) (j0 j1 j2 j3 j4 j5 j6 j7 j8 j9 j10 j11 j12 j13 j14 j15 j16 j17 : Option Int64) (st : List Value) (h : pb_H) (Q : Option Value → pb_H → Prop) (x : Int32), pb_R 157 272 [l0, l1, l2, l3, l4, l5, l6, l7, l8, l9, l10, l11, l12, l13, l14, l15, l16, l17] [j0, j1, j2, j3, j4, j5, j6, j7, j8, j9, j10, j11, j12, j13, j14, j15, j16, j17] (.int x :: st) h Q ↔ pb_R 157 274 [l0, l1, l2, l3, l4, l5, l6, l7, l8, l9, l10, l11, l12, l13, l14, l15, some (.int x), l17] [j0, j1, j2, j3, j4, j5, j6, j7, j8, j9, j10, j11, j12, j13, j14, none, none, j17] st h Q) ∧
  (∀ (l0 l1 l3 l4 l5 l6 l7 l8 l9 l10 l11 l12 l13 l14 l15 l16 l17 : Option Value) (j0 j1 j2 j3 j4 j5 j6 j7 j8 j9 j10 j11 j12 j13 j14 j15 j16 j17 : Option Int64) (st : List Value) (h : pb_H) (Q : Option Value → pb_H → Prop) (x : Int32), pb_R 157 276 [l0, l1, some (.int x), l3, l4, l5, l6, l7, l8, l9, l10, l11, l12, l13, l14, l15, l16, l17] [j0, j1, j2, j3, j4, j5, j6, j7, j8, j9, j10, j11, j12, j13, j14, j15, j16, j17] st h Q ↔ pb_R 157 277 [l0, l1, some (.int x), l3, l4, l5, l6, l7, l8, l9, l10, l11, l12, l13, l14, l15, l16, l17] [j0, j1, j2, j3, j4, j5, j6, j7, j8, j9, j10, j11, j12, j13, j14, j15, j16, j17] (.int x :: st) h Q) ∧
  (∀ (L : pb_L) (J : pb_J) (st : List Value) (h : pb_H) (Q : Option Value → pb_H → Prop) (x y : Int32), pb_R 157 277 L J (.int y :: .int x :: st) h Q ↔ if y ≤ x then pb_R 157 329 L J st h Q else pb_R 157 280 L J st h Q) ∧
  (∀ (l1 l2 l3 l4 l5 l6 l7 l8 l9 l10 l11 l12 l13 l14 l15 l16 l17 : Option Value) (j0 j1 j2 j3 j4 j5 j6 j7 j8 j9 j10 j11 j12 j13 j14 j15 j16 j17 : Option Int64) (st : List Value) (h : pb_H) (Q : Option Value → pb_H → Prop) (x : Nat), pb_R 157 280 [some (.ref x), l1, l2, l3, l4, l5, l6, l7, l8, l9, l10, l11, l12, l13, l14, l15, l16, l17] [j0, j1, j2, j3, j4, j5, j6, j7, j8, j9, j10, j11, j12, j13, j14, j15, j16, j17] st h Q ↔ pb_R 157 281 [some (.ref x), l1, l2, l3, l4, l5, l6, l7, l8, l9, l10, l11, l12, l13, l14, l15, l16, l17] [j0, j1, j2, j3, j4, j5, j6, j7, j8, j9, j10, j11, j12, j13, j14, j15, j16, j17] (.ref x :: st) h Q) ∧
  (∀ (l1 l2 l3 l4 l5 l6 l7 l8 l9 l10 l11 l12 l13 l14 l15 l16 l17 : Option Value) (j0 j1 j2 j3 j4 j5 j6 j7 j8 j9 j10 j11 j12 j13 j14 j15 j16 j17 : Option Int64) (st : List Value) (h : pb_H) (Q : Option Value → pb_H → Prop), pb_R 157 280 [some .null, l1, l2, l3, l4, l5, l6, l7, l8, l9, l10, l11, l12, l13, l14, l15, l16, l17] [j0, j1, j2, j3, j4, j5, j6, j7, j8, j9, j10, j11, j12, j13, j14, j15, j16, j17] st h Q ↔ pb_R 157 281 [some .null, l1, l2, l3, l4, l5, l6, l7, l8, l9, l10, l11, l12, l13, l14, l15, l16, l17] [j0, j1, j2, j3, j4, j5, j6, j7, j8, j9, j10, j11, j12, j13, j14, j15, j16, j17] (.null :: st) h Q) ∧
  (∀ (L : pb_L) (J : pb_J) (st : List Value) (h : pb_H) (Q : Option Value → pb_H → Prop) (a : Nat), pb_R 157 281 L J (.ref a :: st) h Q ↔ pb_o (pb_gf (h.2 a) 12 12) (fun v => pb_R 157 284 L J (v :: st) h Q)) ∧
  (∀ (l0 l1 l2 l3 l4 l5 l6 l7 l8 l9 l10 l11 l12 l13 l14 l15 l17 : Option Value) (j0 j1 j2 j3 j4 j5 j6 j7 j8 j9 j10 j11 j12 j13 j14 j15 j16 j17 : Option Int64) (st : List Value) (h : pb_H) (Q : Option Value → pb_H → Prop) (x : Int32), pb_R 157 284 [l0, l1, l2, l3, l4, l5, l6, l7, l8, l9, l10, l11, l12, l13, l14, l15, some (.int x), l17] [j0, j1, j2, j3, j4, j5, j6, j7, j8, j9, j10, j11, j12, j13, j14, j15, j16, j17] st h Q ↔ pb_R 157 286 [l0, l1, l2, l3, l4, l5, l6, l7, l8, l9, l10, l11, l12, l13, l14, l15, some (.int x), l17] [j0, j1, j2, j3, j4, j5, j6, j7, j8, j9, j10, j11, j12, j13, j14, j15, j16, j17] (.int x :: st) h Q) ∧
  (∀ (l0 l2 l3 l4 l5 l6 l7 l8 l9 l10 l11 l12 l13 l14 l15 l16 l17 : Option Value) (j0 j1 j2 j3 j4 j5 j6 j7 j8 j9 j10 j11 j12 j13 j14 j15 j16 j17 : Option Int64) (st : List Value) (h : pb_H) (Q : Option Value → pb_H → Prop) (x : Int32), pb_R 157 286 [l0, some (.int x), l2, l3, l4, l5, l6, l7, l8, l9, l10, l11, l12, l13, l14, l15, l16, l17] [j0, j1, j2, j3, j4, j5, j6, j7, j8, j9, j10, j11, j12, j13, j14, j15, j16, j17] st h Q ↔ pb_R 157 287 [l0, some (.int x), l2, l3, l4, l5, l6, l7, l8, l9, l10, l11, l12, l13, l14, l15, l16, l17] [j0, j1, j2, j3, j4, j5, j6, j7, j8, j9, j10, j11, j12, j13, j14, j15, j16, j17] (.int x :: st) h Q) ∧
  (∀ (L : pb_L) (J : pb_J) (st : List Value) (x y : Int32) (h : pb_H) (Q : Option Value → pb_H → Prop), pb_R 157 287 L J (.int y :: .int x :: st) h Q ↔ pb_R 157 288 L J (.int (x + y) :: st) h Q) ∧
  (∀ (L : pb_L) (J : pb_J) (st : List Value) (h : pb_H) (Q : Option Value → pb_H → Prop) (a : Nat) (i : Int32), pb_R 157 288 L J (.int i :: .ref a :: st) h Q ↔ pb_o (pb_ai (h.2 a) i) (fun v => pb_R 157 289 L J (.int v :: st) h Q)) ∧
  (∀ (l1 l2 l3 l4 l5 l6 l7 l8 l9 l10 l11 l12 l13 l14 l15 l16 l17 : Option Value) (j0 j1 j2 j3 j4 j5 j6 j7 j8 j9 j10 j11 j12 j13 j14 j15 j16 j17 : Option Int64) (st : List Value) (h : pb_H) (Q : Option Value → pb_H → Prop) (x : Nat), pb_R 157 289 [some (.ref x), l1, l2, l3, l4, l5, l6, l7, l8, l9, l10, l11, l12, l13, l14, l15, l16, l17] [j0, j1, j2, j3, j4, j5, j6, j7, j8, j9, j10, j11, j12, j13, j14, j15, j16, j17] st h Q ↔ pb_R 157 290 [some (.ref x), l1, l2, l3, l4, l5, l6, l7, l8, l9, l10, l11, l12, l13, l14, l15, l16, l17] [j0, j1, j2, j3, j4, j5, j6, j7, j8, j9, j10, j11, j12, j13, j14, j15, j16, j17] (.ref x :: st) h Q) ∧
  (∀ (l1 l2 l3 l4 l5 l6 l7 l8 l9 l10 l11 l12 l13 l14 l15 l16 l17 : Option Value) (j0 j1 j2 j3 j4 j5 j6 j7 j8 j9 j10 j11 j12 j13 j14 j15 j16 j17 : Option Int64) (st : List Value) (h : pb_H) (Q : Option Value → pb_H → Prop), pb_R 157 289 [some .null, l1, l2, l3, l4, l5, l6, l7, l8, l9, l10, l11, l12, l13, l14, l15, l16, l17] [j0, j1, j2, j3, j4, j5, j6, j7, j8, j9, j10, j11, j12, j13, j14, j15, j16, j17] st h Q ↔ pb_R 157 290 [some .null, l1, l2, l3, l4, l5, l6, l7, l8, l9, l10, l11, l12, l13, l14, l15, l16, l17] [j0, j1, j2, j3, j4, j5, j6, j7, j8, j9, j10, j11, j12, j13, j14, j15, j16, j17] (.null :: st) h Q) ∧
  (∀ (L : pb_L) (J : pb_J) (st : List Value) (h : pb_H) (Q : Option Value → pb_H → Prop) (a : Nat), pb_R 157 290 L J (.ref a :: st) h Q ↔ pb_o (pb_gf (h.2 a) 12 13) (fun v => pb_R 157 293 L J (v :: st) h Q)) ∧
  (∀ (l0 l1 l2 l3 l4 l5 l6 l7 l8 l9 l10 l11 l12 l13 l14 l15 l17 : Option Value) (j0 j1 j2 j3 j4 j5 j6 j7 j8 j9 j10 j11 j12 j13 j14 j15 j16 j17 : Option Int64) (st : List Value) (h : pb_H) (Q : Option Value → pb_H → Prop) (x : Int32), pb_R 157 293 [l0, l1, l2, l3, l4, l5, l6, l7, l8, l9, l10, l11, l12, l13, l14, l15, some (.int x), l17] [j0, j1, j2, j3, j4, j5, j6, j7, j8, j9, j10, j11, j12, j13, j14, j15, j16, j17] st h Q ↔ pb_R 157 295 [l0, l1, l2, l3, l4, l5, l6, l7, l8, l9, l10, l11, l12, l13, l14, l15, some (.int x), l17] [j0, j1, j2, j3, j4, j5, j6, j7, j8, j9, j10, j11, j12, j13, j14, j15, j16, j17] (.int x :: st) h Q) ∧
  (∀ (L : pb_L) (J : pb_J) (st : List Value) (h : pb_H) (Q : Option Value → pb_H → Prop) (a : Nat) (i : Int32), pb_R 157 295 L J (.int i :: .ref a :: st) h Q ↔ pb_o (pb_ai (h.2 a) i) (fun v => pb_R 157 296 L J (.int v :: st) h Q)) ∧
  (∀ (L : pb_L) (J : pb_J) (st : List Value) (x y : Int32) (h : pb_H) (Q : Option Value → pb_H → Prop), pb_R 157 296 L J (.int y :: .int x :: st) h Q ↔ pb_R 157 297 L J (.int (x + y) :: st) h Q) ∧
  (∀ (l0 l1 l2 l3 l4 l5 l6 l7 l8 l9 l10 l11 l12 l13 l14 l16 l17 : Option Value) (j0 j1 j2 j3 j4 j5 j6 j7 j8 j9 j10 j11 j12 j13 j14 j15 j16 j17 : Option Int64) (st : List Value) (h : pb_H) (Q : Option Value → pb_H → Prop) (x : Int32), pb_R 157 297 [l0, l1, l2, l3, l4, l5, l6, l7, l8, l9, l10, l11, l12, l13, l14, some (.int x), l16, l17] [j0, j1, j2, j3, j4, j5, j6, j7, j8, j9, j10, j11, j12, j13, j14, j15, j16, j17] st h Q ↔ pb_R 157 299 [l0, l1, l2, l3, l4, l5, l6, l7, l8, l9, l10, l11, l12, l13, l14, some (.int x), l16, l17] [j0, j1, j2, j3, j4, j5, j6, j7, j8, j9, j10, j11, j12, j13, j14, j15, j16, j17] (.int x :: st) h Q) ∧
  (∀ (L : pb_L) (J : pb_J) (st : List Value) (x y : Int32) (h : pb_H) (Q : Option Value → pb_H → Prop), pb_R 157 299 L J (.int y :: .int x :: st) h Q ↔ pb_R 157 300 L J (.int (x + y) :: st) h Q) ∧
  (∀ (l0 l1 l2 l3 l4 l5 l6 l7 l8 l9 l10 l11 l12 l13 l14 l15 l16 l17 : Option Value) (j0 j1 j2 j3 j4 j5 j6 j7 j8 j9 j10 j11 j12 j13 j14 j15 j16 j17 : Option Int64) (st : List Value) (h : pb_H) (Q : Option Value → pb_H → Prop) (x : Int32), pb_R 157 300 [l0, l1, l2, l3, l4, l5, l6, l7, l8, l9, l10, l11, l12, l13, l14, l15, l16, l17] [j0, j1, j2, j3, j4, j5, j6, j7, j8, j9, j10, j11, j12, j13, j14, j15, j16, j17] (.int x :: st) h Q ↔ pb_R 157 302 [l0, l1, l2, l3, l4, l5, l6, l7, l8, l9, l10, l11, l12, l13, l14, l15, l16, some (.int x)] [j0, j1, j2, j3, j4, j5, j6, j7, j8, j9, j10, j11, j12, j13, j14, j15, none, none] st h Q) ∧
  (∀ (l1 l2 l3 l4 l5 l6 l7 l8 l9 l10 l11 l12 l13 l14 l15 l16 l17 : Option Value) (j0 j1 j2 j3 j4 j5 j6 j7 j8 j9 j10 j11 j12 j13 j14 j15 j16 j17 : Option Int64) (st : List Value) (h : pb_H) (Q : Option Value → pb_H → Prop) (x : Nat), pb_R 157 302 [some (.ref x), l1, l2, l3, l4, l5, l6, l7, l8, l9, l10, l11, l12, l13, l14, l15, l16, l17] [j0, j1, j2, j3, j4, j5, j6, j7, j8, j9, j10, j11, j12, j13, j14, j15, j16, j17] st h Q ↔ pb_R 157 303 [some (.ref x), l1, l2, l3, l4, l5, l6, l7, l8, l9, l10, l11, l12, l13, l14, l15, l16, l17] [j0, j1, j2, j3, j4, j5, j6, j7, j8, j9, j10, j11, j12, j13, j14, j15, j16, j17] (.ref x :: st) h Q) ∧
  (∀ (l1 l2 l3 l4 l5 l6 l7 l8 l9 l10 l11 l12 l13 l14 l15 l16 l17 : Option Value) (j0 j1 j2 j3 j4 j5 j6 j7 j8 j9 j10 j11 j12 j13 j14 j15 j16 j17 : Option Int64) (st : List Value) (h : pb_H) (Q : Option Value → pb_H → Prop), pb_R 157 302 [some .null, l1, l2, l3, l4, l5, l6, l7, l8, l9, l10, l11, l12, l13, l14, l15, l16, l17] [j0, j1, j2, j3, j4, j5, j6, j7, j8, j9, j10, j11, j12, j13, j14, j15, j16, j17] st h Q ↔ pb_R 157 303 [some .null, l1, l2, l3, l4, l5, l6, l7, l8, l9, l10, l11, l12, l13, l14, l15, l16, l17] [j0, j1, j2, j3, j4, j5, j6, j7, j8, j9, j10, j11, j12, j13, j14, j15, j16, j17] (.null :: st) h Q) ∧
  (∀ (L : pb_L) (J : pb_J) (st : List Value) (h : pb_H) (Q : Option Value → pb_H → Prop) (a : Nat), pb_R 157 303 L J (.ref a :: st) h Q ↔ pb_o (pb_gf (h.2 a) 12 12) (fun v => pb_R 157 306 L J (v :: st) h Q)) ∧
  (∀ (l0 l1 l2 l3 l4 l5 l6 l7 l8 l9 l10 l11 l12 l13 l14 l15 l17 : Option Value) (j0 j1 j2 j3 j4 j5 j6 j7 j8 j9 j10 j11 j12 j13 j14 j15 j16 j17 : Option Int64) (st : List Value) (h : pb_H) (Q : Option Value → pb_H → Prop) (x : Int32), pb_R 157 306 [l0, l1, l2, l3, l4, l5, l6, l7, l8, l9, l10, l11, l12, l13, l14, l15, some (.int x), l17] [j0, j1, j2, j3, j4, j5, j6, j7, j8, j9, j10, j11, j12, j13, j14, j15, j16, j17] st h Q ↔ pb_R 157 308 [l0, l1, l2, l3, l4, l5, l6, l7, l8, l9, l10, l11, l12, l13, l14, l15, some (.int x), l17] [j0, j1, j2, j3, j4, j5, j6, j7, j8, j9, j10, j11, j12, j13, j14, j15, j16, j17] (.int x :: st) h Q) ∧
  (∀ (l0 l2 l3 l4 l5 l6 l7 l8 l9 l10 l11 l12 l13 l14 l15 l16 l17 : Option Value) (j0 j1 j2 j3 j4 j5 j6 j7 j8 j9 j10 j11 j12 j13 j14 j15 j16 j17 : Option Int64) (st : List Value) (h : pb_H) (Q : Option Value → pb_H → Prop) (x : Int32), pb_R 157 308 [l0, some (.int x), l2, l3, l4, l5, l6, l7, l8, l9, l10, l11, l12, l13, l14, l15, l16, l17] [j0, j1, j2, j3, j4, j5, j6, j7, j8, j9, j10, j11, j12, j13, j14, j15, j16, j17] st h Q ↔ pb_R 157 309 [l0, some (.int x), l2, l3, l4, l5, l6, l7, l8, l9, l10, l11, l12, l13, l14, l15, l16, l17] [j0, j1, j2, j3, j4, j5, j6, j7, j8, j9, j10, j11, j12, j13, j14, j15, j16, j17] (.int x :: st) h Q) ∧
  (∀ (L : pb_L) (J : pb_J) (st : List Value) (x y : Int32) (h : pb_H) (Q : Option Value → pb_H → Prop), pb_R 157 309 L J (.int y :: .int x :: st) h Q ↔ pb_R 157 310 L J (.int (x + y) :: st) h Q) ∧
  (∀ (l0 l1 l2 l3 l4 l5 l6 l7 l8 l9 l10 l11 l12 l13 l14 l15 l16 : Option Value) (j0 j1 j2 j3 j4 j5 j6 j7 j8 j9 j10 j11 j12 j13 j14 j15 j16 j17 : Option Int64) (st : List Value) (h : pb_H) (Q : Option Value → pb_H → Prop) (x : Int32), pb_R 157 310 [l0, l1, l2, l3, l4, l5, l6, l7, l8, l9, l10, l11, l12, l13, l14, l15, l16, some (.int x)] [j0, j1, j2, j3, j4, j5, j6, j7, j8, j9, j10, j11, j12, j13, j14, j15, j16, j17] st h Q ↔ pb_R 157 312 [l0, l1, l2, l3, l4, l5, l6, l7, l8, l9, l10, l11, l12, l13, l14, l15, l16, some (.int x)] [j0, j1, j2, j3, j4, j5, j6, j7, j8, j9, j10, j11, j12, j13, j14, j15, j16, j17] (.int x :: st) h Q) ∧
  (∀ (L : pb_L) (J : pb_J) (st : List Value) (h : pb_H) (Q : Option Value → pb_H → Prop), pb_R 157 312 L J st h Q ↔ pb_R 157 314 L J (.int (65535 : Int32) :: st) h Q) ∧
  (∀ (L : pb_L) (J : pb_J) (st : List Value) (x y : Int32) (h : pb_H) (Q : Option Value → pb_H → Prop), pb_R 157 314 L J (.int y :: .int x :: st) h Q ↔ pb_R 157 315 L J (.int (x &&& y) :: st) h Q) ∧
  (∀ (L : pb_L) (J : pb_J) (st : List Value) (h : pb_H) (Q : Option Value → pb_H → Prop) (a : Nat) (i x : Int32), pb_R 157 315 L J (.int x :: .int i :: .ref a :: st) h Q ↔ pb_o (pb_si (h.2 a) i x) (fun c => pb_R 157 316 L J st (pb_set h a c) Q)) ∧
  (∀ (l0 l1 l2 l3 l4 l5 l6 l7 l8 l9 l10 l11 l12 l13 l14 l15 l16 : Option Value) (j0 j1 j2 j3 j4 j5 j6 j7 j8 j9 j10 j11 j12 j13 j14 j15 j16 j17 : Option Int64) (st : List Value) (h : pb_H) (Q : Option Value → pb_H → Prop) (x : Int32), pb_R 157 316 [l0, l1, l2, l3, l4, l5, l6, l7, l8, l9, l10, l11, l12, l13, l14, l15, l16, some (.int x)] [j0, j1, j2, j3, j4, j5, j6, j7, j8, j9, j10, j11, j12, j13, j14, j15, j16, j17] st h Q ↔ pb_R 157 318 [l0, l1, l2, l3, l4, l5, l6, l7, l8, l9, l10, l11, l12, l13, l14, l15, l16, some (.int x)] [j0, j1, j2, j3, j4, j5, j6, j7, j8, j9, j10, j11, j12, j13, j14, j15, j16, j17] (.int x :: st) h Q) ∧
  (∀ (L : pb_L) (J : pb_J) (st : List Value) (h : pb_H) (Q : Option Value → pb_H → Prop), pb_R 157 318 L J st h Q ↔ pb_R 157 320 L J (.int (16 : Int32) :: st) h Q) ∧
  (∀ (L : pb_L) (J : pb_J) (st : List Value) (x y : Int32) (h : pb_H) (Q : Option Value → pb_H → Prop), pb_R 157 320 L J (.int y :: .int x :: st) h Q ↔ pb_R 157 321 L J (.int (x >>> (y &&& 31)) :: st) h Q) ∧
  (∀ (l0 l1 l2 l3 l4 l5 l6 l7 l8 l9 l10 l11 l12 l13 l14 l15 l16 l17 : Option Value) (j0 j1 j2 j3 j4 j5 j6 j7 j8 j9 j10 j11 j12 j13 j14 j15 j16 j17 : Option Int64) (st : List Value) (h : pb_H) (Q : Option Value → pb_H → Prop) (x : Int32), pb_R 157 321 [l0, l1, l2, l3, l4, l5, l6, l7, l8, l9, l10, l11, l12, l13, l14, l15, l16, l17] [j0, j1, j2, j3, j4, j5, j6, j7, j8, j9, j10, j11, j12, j13, j14, j15, j16, j17] (.int x :: st) h Q ↔ pb_R 157 323 [l0, l1, l2, l3, l4, l5, l6, l7, l8, l9, l10, l11, l12, l13, l14, some (.int x), l16, l17] [j0, j1, j2, j3, j4, j5, j6, j7, j8, j9, j10, j11, j12, j13, none, none, j16, j17] st h Q) ∧
  (∀ (l0 l1 l2 l3 l4 l5 l6 l7 l8 l9 l10 l11 l12 l13 l14 l15 l17 : Option Value) (j0 j1 j2 j3 j4 j5 j6 j7 j8 j9 j10 j11 j12 j13 j14 j15 j16 j17 : Option Int64) (st : List Value) (h : pb_H) (Q : Option Value → pb_H → Prop) (x : Int32), pb_R 157 323 [l0, l1, l2, l3, l4, l5, l6, l7, l8, l9, l10, l11, l12, l13, l14, l15, some (.int x), l17] [j0, j1, j2, j3, j4, j5, j6, j7, j8, j9, j10, j11, j12, j13, j14, j15, j16, j17] st h Q ↔ pb_R 157 326 [l0, l1, l2, l3, l4, l5, l6, l7, l8, l9, l10, l11, l12, l13, l14, l15, some (.int (x + (1 : Int32))), l17] [j0, j1, j2, j3, j4, j5, j6, j7, j8, j9, j10, j11, j12, j13, j14, none, none, j17] st h Q) ∧
  (∀ (L : pb_L) (J : pb_J) (st : List Value) (h : pb_H) (Q : Option Value → pb_H → Prop), pb_R 157 326 L J st h Q ↔ pb_R 157 274 L J st h Q) ∧
  (∀ (l1 l2 l3 l4 l5 l6 l7 l8 l9 l10 l11 l12 l13 l14 l15 l16 l17 : Option Value) (j0 j1 j2 j3 j4 j5 j6 j7 j8 j9 j10 j11 j12 j13 j14 j15 j16 j17 : Option Int64) (st : List Value) (h : pb_H) (Q : Option Value → pb_H → Prop) (x : Nat), pb_R 157 329 [some (.ref x), l1, l2, l3, l4, l5, l6, l7, l8, l9, l10, l11, l12, l13, l14, l15, l16, l17] [j0, j1, j2, j3, j4, j5, j6, j7, j8, j9, j10, j11, j12, j13, j14, j15, j16, j17] st h Q ↔ pb_R 157 330 [some (.ref x), l1, l2, l3, l4, l5, l6, l7, l8, l9, l10, l11, l12, l13, l14, l15, l16, l17] [j0, j1, j2, j3, j4, j5, j6, j7, j8, j9, j10, j11, j12, j13, j14, j15, j16, j17] (.ref x :: st) h Q) ∧
  (∀ (l1 l2 l3 l4 l5 l6 l7 l8 l9 l10 l11 l12 l13 l14 l15 l16 l17 : Option Value) (j0 j1 j2 j3 j4 j5 j6 j7 j8 j9 j10 j11 j12 j13 j14 j15 j16 j17 : Option Int64) (st : List Value) (h : pb_H) (Q : Option Value → pb_H → Prop), pb_R 157 329 [some .null, l1, l2, l3, l4, l5, l6, l7, l8, l9, l10, l11, l12, l13, l14, l15, l16, l17] [j0, j1, j2, j3, j4, j5, j6, j7, j8, j9, j10, j11, j12, j13, j14, j15, j16, j17] st h Q ↔ pb_R 157 330 [some .null, l1, l2, l3, l4, l5, l6, l7, l8, l9, l10, l11, l12, l13, l14, l15, l16, l17] [j0, j1, j2, j3, j4, j5, j6, j7, j8, j9, j10, j11, j12, j13, j14, j15, j16, j17] (.null :: st) h Q) ∧
  (∀ (L : pb_L) (J : pb_J) (st : List Value) (h : pb_H) (Q : Option Value → pb_H → Prop) (a : Nat), pb_R 157 330 L J (.ref a :: st) h Q ↔ pb_o (pb_gf (h.2 a) 12 12) (fun v => pb_R 157 333 L J (v :: st) h Q)) ∧
  (∀ (l0 l2 l3 l4 l5 l6 l7 l8 l9 l10 l11 l12 l13 l14 l15 l16 l17 : Option Value) (j0 j1 j2 j3 j4 j5 j6 j7 j8 j9 j10 j11 j12 j13 j14 j15 j16 j17 : Option Int64) (st : List Value) (h : pb_H) (Q : Option Value → pb_H → Prop) (x : Int32), pb_R 157 333 [l0, some (.int x), l2, l3, l4, l5, l6, l7, l8, l9, l10, l11, l12, l13, l14, l15, l16, l17] [j0, j1, j2, j3, j4, j5, j6, j7, j8, j9, j10, j11, j12, j13, j14, j15, j16, j17] st h Q ↔ pb_R 157 334 [l0, some (.int x), l2, l3, l4, l5, l6, l7, l8, l9, l10, l11, l12, l13, l14, l15, l16, l17] [j0, j1, j2, j3, j4, j5, j6, j7, j8, j9, j10, j11, j12, j13, j14, j15, j16, j17] (.int x :: st) h Q) ∧
  (∀ (l0 l1 l3 l4 l5 l6 l7 l8 l9 l10 l11 l12 l13 l14 l15 l16 l17 : Option Value) (j0 j1 j2 j3 j4 j5 j6 j7 j8 j9 j10 j11 j12 j13 j14 j15 j16 j17 : Option Int64) (st : List Value) (h : pb_H) (Q : Option Value → pb_H → Prop) (x : Int32), pb_R 157 334 [l0, l1, some (.int x), l3, l4, l5, l6, l7, l8, l9, l10, l11, l12, l13, l14, l15, l16, l17] [j0, j1, j2, j3, j4, j5, j6, j7, j8, j9, j10, j11, j12, j13, j14, j15, j16, j17] st h Q ↔ pb_R 157 335 [l0, l1, some (.int x), l3, l4, l5, l6, l7, l8, l9, l10, l11, l12, l13, l14, l15, l16, l17] [j0, j1, j2, j3, j4, j5, j6, j7, j8, j9, j10, j11, j12, j13, j14, j15, j16, j17] (.int x :: st) h Q) ∧
  (∀ (L : pb_L) (J : pb_J) (st : List Value) (x y : Int32) (h : pb_H) (Q : Option Value → pb_H → Prop), pb_R 157 335 L J (.int y :: .int x :: st) h Q ↔ pb_R 157 336 L J (.int (x + y) :: st) h Q) ∧
  (∀ (l1 l2 l3 l4 l5 l6 l7 l8 l9 l10 l11 l12 l13 l14 l15 l16 l17 : Option Value) (j0 j1 j2 j3 j4 j5 j6 j7 j8 j9 j10 j11 j12 j13 j14 j15 j16 j17 : Option Int64) (st : List Value) (h : pb_H) (Q : Option Value → pb_H → Prop) (x : Nat), pb_R 157 336 [some (.ref x), l1, l2, l3, l4, l5, l6, l7, l8, l9, l10, l11, l12, l13, l14, l15, l16, l17] [j0, j1, j2, j3, j4, j5, j6, j7, j8, j9, j10, j11, j12, j13, j14, j15, j16, j17] st h Q ↔ pb_R 157 337 [some (.ref x), l1, l2, l3, l4, l5, l6, l7, l8, l9, l10, l11, l12, l13, l14, l15, l16, l17] [j0, j1, j2, j3, j4, j5, j6, j7, j8, j9, j10, j11, j12, j13, j14, j15, j16, j17] (.ref x :: st) h Q) ∧
  (∀ (l1 l2 l3 l4 l5 l6 l7 l8 l9 l10 l11 l12 l13 l14 l15 l16 l17 : Option Value) (j0 j1 j2 j3 j4 j5 j6 j7 j8 j9 j10 j11 j12 j13 j14 j15 j16 j17 : Option Int64) (st : List Value) (h : pb_H) (Q : Option Value → pb_H → Prop), pb_R 157 336 [some .null, l1, l2, l3, l4, l5, l6, l7, l8, l9, l10, l11, l12, l13, l14, l15, l16, l17] [j0, j1, j2, j3, j4, j5, j6, j7, j8, j9, j10, j11, j12, j13, j14, j15, j16, j17] st h Q ↔ pb_R 157 337 [some .null, l1, l2, l3, l4, l5, l6, l7, l8, l9, l10, l11, l12, l13, l14, l15, l16, l17] [j0, j1, j2, j3, j4, j5, j6, j7, j8, j9, j10, j11, j12, j13, j14, j15, j16, j17] (.null :: st) h Q) ∧
  (∀ (L : pb_L) (J : pb_J) (st : List Value) (h : pb_H) (Q : Option Value → pb_H → Prop) (a : Nat), pb_R 157 337 L J (.ref a :: st) h Q ↔ pb_o (pb_gf (h.2 a) 12 12) (fun v => pb_R 157 340 L J (v :: st) h Q)) ∧
  (∀ (l0 l2 l3 l4 l5 l6 l7 l8 l9 l10 l11 l12 l13 l14 l15 l16 l17 : Option Value) (j0 j1 j2 j3 j4 j5 j6 j7 j8 j9 j10 j11 j12 j13 j14 j15 j16 j17 : Option Int64) (st : List Value) (h : pb_H) (Q : Option Value → pb_H → Prop) (x : Int32), pb_R 157 340 [l0, some (.int x), l2, l3, l4, l5, l6, l7, l8, l9, l10, l11, l12, l13, l14, l15, l16, l17] [j0, j1, j2, j3, j4, j5, j6, j7, j8, j9, j10, j11, j12, j13, j14, j15, j16, j17] st h Q ↔ pb_R 157 341 [l0, some (.int x), l2, l3, l4, l5, l6, l7, l8, l9, l10, l11, l12, l13, l14, l15, l16, l17] [j0, j1, j2, j3, j4, j5, j6, j7, j8, j9, j10, j11, j12, j13, j14, j15, j16, j17] (.int x :: st) h Q) ∧
  (∀ (l0 l1 l3 l4 l5 l6 l7 l8 l9 l10 l11 l12 l13 l14 l15 l16 l17 : Option Value) (j0 j1 j2 j3 j4 j5 j6 j7 j8 j9 j10 j11 j12 j13 j14 j15 j16 j17 : Option Int64) (st : List Value) (h : pb_H) (Q : Option Value → pb_H → Prop) (x : Int32), pb_R 157 341 [l0, l1, some (.int x), l3, l4, l5, l6, l7, l8, l9, l10, l11, l12, l13, l14, l15, l16, l17] [j0, j1, j2, j3, j4, j5, j6, j7, j8, j9, j10, j11, j12, j13, j14, j15, j16, j17] st h Q ↔ pb_R 157 342 [l0, l1, some (.int x), l3, l4, l5, l6, l7, l8, l9, l10, l11, l12, l13, l14, l15, l16, l17] [j0, j1, j2, j3, j4, j5, j6, j7, j8, j9, j10, j11, j12, j13, j14, j15, j16, j17] (.int x :: st) h Q) ∧
  (∀ (L : pb_L) (J : pb_J) (st : List Value) (x y : Int32) (h : pb_H) (Q : Option Value → pb_H → Prop), pb_R 157 342 L J (.int y :: .int x :: st) h Q ↔ pb_R 157 343 L J (.int (x + y) :: st) h Q) ∧
  (∀ (L : pb_L) (J : pb_J) (st : List Value) (h : pb_H) (Q : Option Value → pb_H → Prop) (a : Nat) (i : Int32), pb_R 157 343 L J (.int i :: .ref a :: st) h Q ↔ pb_o (pb_ai (h.2 a) i) (fun v => pb_R 157 344 L J (.int v :: st) h Q)) ∧
  (∀ (l0 l1 l2 l3 l4 l5 l6 l7 l8 l9 l10 l11 l12 l13 l14 l16 l17 : Option Value) (j0 j1 j2 j3 j4 j5 j6 j7 j8 j9 j10 j11 j12 j13 j14 j15 j16 j17 : Option Int64) (st : List Value) (h : pb_H) (Q : Option Value → pb_H → Prop) (x : Int32), pb_R 157 344 [l0, l1, l2, l3, l4, l5, l6, l7, l8, l9, l10, l11, l12, l13, l14, some (.int x), l16, l17] [j0, j1, j2, j3, j4, j5, j6, j7, j8, j9, j10, j11, j12, j13, j14, j15, j16, j17] st h Q ↔ pb_R 157 346 [l0, l1, l2, l3, l4, l5, l6, l7, l8, l9, l10, l11, l12, l13, l14, some (.int x), l16, l17] [j0, j1, j2, j3, j4, j5, j6, j7, j8, j9, j10, j11, j12, j13, j14, j15, j16, j17] (.int x :: st) h Q) ∧
  (∀ (L : pb_L) (J : pb_J) (st : List Value) (x y : Int32) (h : pb_H) (Q : Option Value → pb_H → Prop), pb_R 157 346 L J (.int y :: .int x :: st) h Q ↔ pb_R 157 347 L J (.int (x + y) :: st) h Q) ∧
  (∀ (L : pb_L) (J : pb_J) (st : List Value) (h : pb_H) (Q : Option Value → pb_H → Prop), pb_R 157 347 L J st h Q ↔ pb_R 157 349 L J (.int (65535 : Int32) :: st) h Q) ∧
  (∀ (L : pb_L) (J : pb_J) (st : List Value) (x y : Int32) (h : pb_H) (Q : Option Value → pb_H → Prop), pb_R 157 349 L J (.int y :: .int x :: st) h Q ↔ pb_R 157 350 L J (.int (x &&& y) :: st) h Q) ∧
  (∀ (L : pb_L) (J : pb_J) (st : List Value) (h : pb_H) (Q : Option Value → pb_H → Prop) (a : Nat) (i x : Int32), pb_R 157 350 L J (.int x :: .int i :: .ref a :: st) h Q ↔ pb_o (pb_si (h.2 a) i x) (fun c => pb_R 157 351 L J st (pb_set h a c) Q)) ∧
  (∀ (l0 l1 l2 l3 l4 l5 l6 l7 l8 l9 l10 l11 l12 l13 l14 l15 l16 l17 : Option Value) (j0 j1 j2 j3 j4 j6 j7 j8 j9 j10 j11 j12 j13 j14 j15 j16 j17 : Option Int64) (st : List Value) (h : pb_H) (Q : Option Value → pb_H → Prop) (x : Int64), pb_R 157 351 [l0, l1, l2, l3, l4, l5, l6, l7, l8, l9, l10, l11, l12, l13, l14, l15, l16, l17] [j0, j1, j2, j3, j4, some x, j6, j7, j8, j9, j10, j11, j12, j13, j14, j15, j16, j17] st h Q ↔ pb_R 157 353 [l0, l1, l2, l3, l4, l5, l6, l7, l8, l9, l10, l11, l12, l13, l14, l15, l16, l17] [j0, j1, j2, j3, j4, some x, j6, j7, j8, j9, j10, j11, j12, j13, j14, j15, j16, j17] (.long x :: st) h Q) ∧
  (∀ (L : pb_L) (J : pb_J) (st : List Value) (x : Int64) (h : pb_H) (Q : Option Value → pb_H → Prop), pb_R 157 353 L J (.long x :: st) h Q ↔ pb_R 157 354 L J (.int x.toInt32 :: st) h Q) ∧
  (∀ (L : pb_L) (J : pb_J) (h : pb_H) (Q : Option Value → pb_H → Prop) (x : Int32), pb_R 157 354 L J [.int x] h Q ↔ Q (some (.int x)) h) := ⟨
  fun l1 l2 l3 l4 l5 l6 l7 l8 l9 l10 l11 l12 l13 l14 l15 l16 l17 j0 j1 j2 j3 j4 j5 j6 j7 j8 j9 j10 j11 j12 j13 j14 j15 j16 j17 st h Q x => pf_S pb_u_157 rfl rfl,
  fun l1 l2 l3 l4 l5 l6 l7 l8 l9 l10 l11 l12 l13 l14 l15 l16 l17 j0 j1 j2 j3 j4 j5 j6 j7 j8 j9 j10 j11 j12 j13 j14 j15 j16 j17 st h Q => pf_S pb_u_157 rfl rfl,
  fun L J st h Q a => pf_gf pb_u_157 rfl rfl,
  fun l0 l2 l3 l4 l5 l6 l7 l8 l9 l10 l11 l12 l13 l14 l15 l16 l17 j0 j1 j2 j3 j4 j5 j6 j7 j8 j9 j10 j11 j12 j13 j14 j15 j16 j17 st h Q x => pf_S pb_u_157 rfl rfl,
  fun l0 l1 l3 l4 l5 l6 l7 l8 l9 l10 l11 l12 l13 l14 l15 l16 l17 j0 j1 j2 j3 j4 j5 j6 j7 j8 j9 j10 j11 j12 j13 j14 j15 j16 j17 st h Q x => pf_S pb_u_157 rfl rfl,
  fun L J st x y h Q => pf_S pb_u_157 rfl rfl,
  fun L J st h Q a i => pf_ai pb_u_157 rfl rfl,
  fun L J st x h Q => pf_S pb_u_157 rfl rfl,
  fun L J st h Q => pf_S pb_u_157 rfl rfl,
  fun L J st x y h Q => pf_S pb_u_157 rfl rfl,
  fun l1 l2 l3 l4 l5 l6 l7 l8 l9 l10 l11 l12 l13 l14 l15 l16 l17 j0 j1 j2 j3 j4 j5 j6 j7 j8 j9 j10 j11 j12 j13 j14 j15 j16 j17 st h Q x => pf_S pb_u_157 rfl rfl,
  fun l1 l2 l3 l4 l5 l6 l7 l8 l9 l10 l11 l12 l13 l14 l15 l16 l17 j0 j1 j2 j3 j4 j5 j6 j7 j8 j9 j10 j11 j12 j13 j14 j15 j16 j17 st h Q => pf_S pb_u_157 rfl rfl,
  fun L J st h Q a => pf_gf pb_u_157 rfl rfl,
  fun l0 l2 l3 l4 l5 l6 l7 l8 l9 l10 l11 l12 l13 l14 l15 l16 l17 j0 j1 j2 j3 j4 j5 j6 j7 j8 j9 j10 j11 j12 j13 j14 j15 j16 j17 st h Q x => pf_S pb_u_157 rfl rfl,
  fun l0 l1 l3 l4 l5 l6 l7 l8 l9 l10 l11 l12 l13 l14 l15 l16 l17 j0 j1 j2 j3 j4 j5 j6 j7 j8 j9 j10 j11 j12 j13 j14 j15 j16 j17 st h Q x => pf_S pb_u_157 rfl rfl,
  fun L J st x y h Q => pf_S pb_u_157 rfl rfl,
  fun L J st h Q => pf_S pb_u_157 rfl rfl,
  fun L J st x y h Q => pf_S pb_u_157 rfl rfl,
  fun L J st h Q a i => pf_ai pb_u_157 rfl rfl,
  fun L J st x h Q => pf_S pb_u_157 rfl rfl,
  fun L J st x y h Q => pf_S pb_u_157 rfl rfl,
  fun l0 l1 l2 l3 l4 l5 l6 l7 l8 l9 l10 l11 l12 l13 l14 l15 l16 l17 j0 j1 j2 j3 j4 j5 j6 j7 j8 j9 j10 j11 j12 j13 j14 j15 j16 j17 st h Q x => pf_S pb_u_157 rfl rfl,
  fun l0 l1 l2 l3 l4 l5 l6 l7 l8 l9 l10 l11 l12 l13 l14 l15 l16 l17 j0 j1 j2 j4 j5 j6 j7 j8 j9 j10 j11 j12 j13 j14 j15 j16 j17 st h Q x => pf_S pb_u_157 rfl rfl,
  fun l1 l2 l3 l4 l5 l6 l7 l8 l9 l10 l11 l12 l13 l14 l15 l16 l17 j0 j1 j2 j3 j4 j5 j6 j7 j8 j9 j10 j11 j12 j13 j14 j15 j16 j17 st h Q x => pf_S pb_u_157 rfl rfl,
  fun l1 l2 l3 l4 l5 l6 l7 l8 l9 l10 l11 l12 l13 l14 l15 l16 l17 j0 j1 j2 j3 j4 j5 j6 j7 j8 j9 j10 j11 j12 j13 j14 j15 j16 j17 st h Q => pf_S pb_u_157 rfl rfl,
  fun L J st h Q a => pf_gf pb_u_157 rfl rfl,
  fun l0 l1 l3 l4 l5 l6 l7 l8 l9 l10 l11 l12 l13 l14 l15 l16 l17 j0 j1 j2 j3 j4 j5 j6 j7 j8 j9 j10 j11 j12 j13 j14 j15 j16 j17 st h Q x => pf_S pb_u_157 rfl rfl,
  fun L J st h Q => pf_S pb_u_157 rfl rfl,
  fun L J st x y h Q => pf_S pb_u_157 rfl rfl,
  fun L J st h Q a i => pf_ai pb_u_157 rfl rfl,
  fun L J st x h Q => pf_S pb_u_157 rfl rfl,
  fun L J st h Q x y => pf_ldiv pb_u_157 rfl rfl,
  fun l0 l1 l2 l3 l4 l5 l6 l7 l8 l9 l10 l11 l12 l13 l14 l15 l16 l17 j0 j1 j2 j3 j4 j5 j6 j7 j8 j9 j10 j11 j12 j13 j14 j15 j16 j17 st h Q x => pf_S pb_u_157 rfl rfl,
  fun l0 l1 l2 l3 l4 l5 l6 l7 l8 l9 l10 l11 l12 l13 l14 l15 l16 l17 j0 j1 j2 j4 j5 j6 j7 j8 j9 j10 j11 j12 j13 j14 j15 j16 j17 st h Q x => pf_S pb_u_157 rfl rfl,
  fun l1 l2 l3 l4 l5 l6 l7 l8 l9 l10 l11 l12 l13 l14 l15 l16 l17 j0 j1 j2 j3 j4 j5 j6 j7 j8 j9 j10 j11 j12 j13 j14 j15 j16 j17 st h Q x => pf_S pb_u_157 rfl rfl,
  fun l1 l2 l3 l4 l5 l6 l7 l8 l9 l10 l11 l12 l13 l14 l15 l16 l17 j0 j1 j2 j3 j4 j5 j6 j7 j8 j9 j10 j11 j12 j13 j14 j15 j16 j17 st h Q => pf_S pb_u_157 rfl rfl,
  fun L J st h Q a => pf_gf pb_u_157 rfl rfl,
  fun l0 l1 l3 l4 l5 l6 l7 l8 l9 l10 l11 l12 l13 l14 l15 l16 l17 j0 j1 j2 j3 j4 j5 j6 j7 j8 j9 j10 j11 j12 j13 j14 j15 j16 j17 st h Q x => pf_S pb_u_157 rfl rfl,
  fun L J st h Q => pf_S pb_u_157 rfl rfl,
  fun L J st x y h Q => pf_S pb_u_157 rfl rfl,
  fun L J st h Q a i => pf_ai pb_u_157 rfl rfl,
  fun L J st x h Q => pf_S pb_u_157 rfl rfl,
  fun L J st h Q x y => pf_lrem pb_u_157 rfl rfl,
  fun l0 l1 l2 l3 l4 l5 l6 l7 l8 l9 l10 l11 l12 l13 l14 l15 l16 l17 j0 j1 j2 j3 j4 j5 j6 j7 j8 j9 j10 j11 j12 j13 j14 j15 j16 j17 st h Q x => pf_S pb_u_157 rfl rfl,
  fun L J st h Q => pf_S pb_u_157 rfl rfl,
  fun L J st x y h Q => pf_S pb_u_157 rfl rfl,
  fun L J st h Q x => pf_ii pb_u_157 rfl rfl rfl,
  fun l0 l1 l2 l3 l4 l5 l6 l7 l8 l9 l10 l11 l12 l13 l14 l15 l16 l17 j0 j1 j2 j3 j4 j6 j7 j8 j9 j10 j11 j12 j13 j14 j15 j16 j17 st h Q x => pf_S pb_u_157 rfl rfl,
  fun L J st h Q => pf_S pb_u_157 rfl rfl,
  fun L J st x y h Q => pf_S pb_u_157 rfl rfl,
  fun L J st h Q x => pf_ii pb_u_157 rfl rfl rfl,
  fun l0 l1 l2 l3 l4 l5 l6 l7 l8 l9 l10 l11 l12 l13 l14 l15 l16 l17 j0 j1 j2 j3 j4 j6 j7 j8 j9 j10 j11 j12 j13 j14 j15 j16 j17 st h Q x => pf_S pb_u_157 rfl rfl,
  fun l1 l2 l3 l4 l5 l6 l7 l8 l9 l10 l11 l12 l13 l14 l15 l16 l17 j0 j1 j2 j3 j4 j5 j6 j7 j8 j9 j10 j11 j12 j13 j14 j15 j16 j17 st h Q x => pf_S pb_u_157 rfl rfl,
  fun l1 l2 l3 l4 l5 l6 l7 l8 l9 l10 l11 l12 l13 l14 l15 l16 l17 j0 j1 j2 j3 j4 j5 j6 j7 j8 j9 j10 j11 j12 j13 j14 j15 j16 j17 st h Q => pf_S pb_u_157 rfl rfl,
  fun L J st h Q a => pf_gf pb_u_157 rfl rfl,
  fun l0 l1 l3 l4 l5 l6 l7 l8 l9 l10 l11 l12 l13 l14 l15 l16 l17 j0 j1 j2 j3 j4 j5 j6 j7 j8 j9 j10 j11 j12 j13 j14 j15 j16 j17 st h Q x => pf_S pb_u_157 rfl rfl,
  fun L J st h Q => pf_S pb_u_157 rfl rfl,
  fun L J st x y h Q => pf_S pb_u_157 rfl rfl,
  fun L J st h Q a i => pf_ai pb_u_157 rfl rfl,
  fun L J st x h Q => pf_S pb_u_157 rfl rfl,
  fun L J st x y h Q => pf_S pb_u_157 rfl rfl,
  fun l0 l1 l2 l3 l4 l5 l6 l7 l8 l9 l10 l11 l12 l13 l14 l15 l16 l17 j0 j1 j2 j3 j4 j5 j6 j8 j9 j10 j11 j12 j13 j14 j15 j16 j17 st h Q x => pf_S pb_u_157 rfl rfl,
  fun L J st h Q => pf_S pb_u_157 rfl rfl,
  fun L J st x y h Q => pf_S pb_u_157 rfl rfl,
  fun l1 l2 l3 l4 l5 l6 l7 l8 l9 l10 l11 l12 l13 l14 l15 l16 l17 j0 j1 j2 j3 j4 j5 j6 j7 j8 j9 j10 j11 j12 j13 j14 j15 j16 j17 st h Q x => pf_S pb_u_157 rfl rfl,
  fun l1 l2 l3 l4 l5 l6 l7 l8 l9 l10 l11 l12 l13 l14 l15 l16 l17 j0 j1 j2 j3 j4 j5 j6 j7 j8 j9 j10 j11 j12 j13 j14 j15 j16 j17 st h Q => pf_S pb_u_157 rfl rfl,
  fun L J st h Q a => pf_gf pb_u_157 rfl rfl,
  fun l0 l2 l3 l4 l5 l6 l7 l8 l9 l10 l11 l12 l13 l14 l15 l16 l17 j0 j1 j2 j3 j4 j5 j6 j7 j8 j9 j10 j11 j12 j13 j14 j15 j16 j17 st h Q x => pf_S pb_u_157 rfl rfl,
  fun l0 l1 l3 l4 l5 l6 l7 l8 l9 l10 l11 l12 l13 l14 l15 l16 l17 j0 j1 j2 j3 j4 j5 j6 j7 j8 j9 j10 j11 j12 j13 j14 j15 j16 j17 st h Q x => pf_S pb_u_157 rfl rfl,
  fun L J st x y h Q => pf_S pb_u_157 rfl rfl,
  fun L J st h Q => pf_S pb_u_157 rfl rfl,
  fun L J st x y h Q => pf_S pb_u_157 rfl rfl,
  fun L J st h Q a i => pf_ai pb_u_157 rfl rfl,
  fun L J st x h Q => pf_S pb_u_157 rfl rfl,
  fun L J st x y h Q => pf_S pb_u_157 rfl rfl,
  fun L J st x y h Q => pf_S pb_u_157 rfl rfl,
  fun L J st h Q x => pf_ii pb_u_157 rfl rfl rfl,
  fun l0 l1 l2 l3 l4 l5 l6 l7 l8 l9 l10 l11 l12 l13 l14 l15 l16 l17 j0 j1 j2 j3 j4 j6 j7 j8 j9 j10 j11 j12 j13 j14 j15 j16 j17 st h Q x => pf_S pb_u_157 rfl rfl,
  fun L J st h Q => pf_S pb_u_157 rfl rfl,
  fun L J st x y h Q => pf_S pb_u_157 rfl rfl,
  fun l0 l1 l2 l3 l4 l5 l6 l7 l8 l9 l10 l11 l12 l13 l14 l15 l16 l17 j0 j1 j2 j3 j4 j5 j6 j7 j8 j9 j10 j11 j12 j13 j14 j15 j16 j17 st h Q x => pf_S pb_u_157 rfl rfl,
  fun l0 l1 l2 l3 l4 l5 l6 l7 l8 l9 l10 l11 l12 l13 l14 l15 l16 l17 j0 j1 j2 j3 j4 j5 j6 j8 j9 j10 j11 j12 j13 j14 j15 j16 j17 st h Q x => pf_S pb_u_157 rfl rfl,
  fun l1 l2 l3 l4 l5 l6 l7 l8 l9 l10 l11 l12 l13 l14 l15 l16 l17 j0 j1 j2 j3 j4 j5 j6 j7 j8 j9 j10 j11 j12 j13 j14 j15 j16 j17 st h Q x => pf_S pb_u_157 rfl rfl,
  fun l1 l2 l3 l4 l5 l6 l7 l8 l9 l10 l11 l12 l13 l14 l15 l16 l17 j0 j1 j2 j3 j4 j5 j6 j7 j8 j9 j10 j11 j12 j13 j14 j15 j16 j17 st h Q => pf_S pb_u_157 rfl rfl,
  fun L J st h Q a => pf_gf pb_u_157 rfl rfl,
  fun l0 l1 l3 l4 l5 l6 l7 l8 l9 l10 l11 l12 l13 l14 l15 l16 l17 j0 j1 j2 j3 j4 j5 j6 j7 j8 j9 j10 j11 j12 j13 j14 j15 j16 j17 st h Q x => pf_S pb_u_157 rfl rfl,
  fun L J st h Q => pf_S pb_u_157 rfl rfl,
  fun L J st x y h Q => pf_S pb_u_157 rfl rfl,
  fun L J st h Q a i => pf_ai pb_u_157 rfl rfl,
  fun L J st x h Q => pf_S pb_u_157 rfl rfl,
  fun L J st x y h Q => pf_S pb_u_157 rfl rfl,
  fun l0 l1 l2 l3 l4 l5 l6 l7 l8 l9 l10 l11 l12 l13 l14 l15 l16 l17 j0 j1 j2 j3 j4 j5 j6 j7 j8 j9 j10 j11 j12 j13 j14 j15 j16 j17 st h Q x => pf_S pb_u_157 rfl rfl,
  fun L J st h Q => pf_S pb_u_157 rfl rfl,
  fun L J st h Q => pf_S pb_u_157 rfl rfl,
  fun l0 l1 l2 l3 l4 l5 l6 l7 l8 l9 l10 l11 l12 l13 l14 l15 l16 l17 j0 j1 j2 j3 j4 j5 j6 j7 j8 j9 j10 j11 j12 j13 j14 j15 j16 j17 st h Q x => pf_S pb_u_157 rfl rfl,
  fun L J st h Q => pf_S pb_u_157 rfl rfl,
  fun l0 l1 l2 l3 l4 l5 l6 l7 l8 l9 l10 l11 l12 l13 l14 l15 l16 l17 j0 j1 j2 j3 j4 j5 j6 j7 j8 j9 j10 j11 j12 j13 j14 j15 j16 j17 st h Q x => pf_S pb_u_157 rfl rfl,
  fun L J st h Q => pf_S pb_u_157 rfl rfl,
  fun l0 l1 l2 l3 l4 l5 l6 l7 l8 l9 l10 l11 l12 l13 l14 l15 l16 l17 j0 j1 j2 j3 j4 j5 j6 j7 j8 j9 j10 j11 j12 j13 j14 j15 j16 j17 st h Q x => pf_S pb_u_157 rfl rfl,
  fun l0 l1 l3 l4 l5 l6 l7 l8 l9 l10 l11 l12 l13 l14 l15 l16 l17 j0 j1 j2 j3 j4 j5 j6 j7 j8 j9 j10 j11 j12 j13 j14 j15 j16 j17 st h Q x => pf_S pb_u_157 rfl rfl,
  fun L J st h Q x y => pf_ic pb_u_157 rfl rfl rfl,
  fun l0 l1 l2 l3 l4 l5 l6 l7 l8 l9 l10 l11 l12 l13 l14 l15 l16 l17 j0 j1 j2 j3 j4 j6 j7 j8 j9 j10 j11 j12 j13 j14 j15 j16 j17 st h Q x => pf_S pb_u_157 rfl rfl,
  fun l1 l2 l3 l4 l5 l6 l7 l8 l9 l10 l11 l12 l13 l14 l15 l16 l17 j0 j1 j2 j3 j4 j5 j6 j7 j8 j9 j10 j11 j12 j13 j14 j15 j16 j17 st h Q x => pf_S pb_u_157 rfl rfl,
  fun l1 l2 l3 l4 l5 l6 l7 l8 l9 l10 l11 l12 l13 l14 l15 l16 l17 j0 j1 j2 j3 j4 j5 j6 j7 j8 j9 j10 j11 j12 j13 j14 j15 j16 j17 st h Q => pf_S pb_u_157 rfl rfl,
  fun L J st h Q a => pf_gf pb_u_157 rfl rfl,
  fun l0 l1 l2 l3 l4 l5 l6 l7 l8 l9 l10 l11 l12 l14 l15 l16 l17 j0 j1 j2 j3 j4 j5 j6 j7 j8 j9 j10 j11 j12 j13 j14 j15 j16 j17 st h Q x => pf_S pb_u_157 rfl rfl,
  fun L J st h Q a i => pf_ai pb_u_157 rfl rfl,
  fun L J st x h Q => pf_S pb_u_157 rfl rfl,
  fun L J st x y h Q => pf_S pb_u_157 rfl rfl,
  fun l0 l1 l2 l3 l4 l5 l6 l7 l8 l9 l10 l11 l12 l13 l14 l15 l16 l17 j0 j1 j2 j3 j4 j5 j6 j7 j8 j10 j11 j12 j13 j14 j15 j16 j17 st h Q x => pf_S pb_u_157 rfl rfl,
  fun L J st x y h Q => pf_S pb_u_157 rfl rfl,
  fun l0 l1 l2 l3 l4 l5 l6 l7 l8 l9 l10 l11 l12 l13 l14 l15 l16 l17 j0 j1 j2 j3 j4 j5 j6 j7 j8 j9 j10 j11 j12 j13 j14 j15 j16 j17 st h Q x => pf_S pb_u_157 rfl rfl,
  fun l0 l1 l2 l3 l4 l5 l6 l7 l8 l9 l10 l11 l12 l13 l14 l15 l16 l17 j0 j1 j2 j3 j4 j5 j6 j7 j8 j9 j10 j11 j12 j13 j15 j16 j17 st h Q x => pf_S pb_u_157 rfl rfl,
  fun L J st h Q => pf_S pb_u_157 rfl rfl,
  fun L J st x y h Q => pf_S pb_u_157 rfl rfl,
  fun l0 l1 l2 l3 l4 l5 l6 l7 l8 l9 l10 l11 l12 l13 l14 l15 l16 l17 j0 j1 j2 j3 j4 j5 j6 j7 j8 j9 j10 j11 j12 j13 j14 j15 j16 j17 st h Q x => pf_S pb_u_157 rfl rfl,
  fun l1 l2 l3 l4 l5 l6 l7 l8 l9 l10 l11 l12 l13 l14 l15 l16 l17 j0 j1 j2 j3 j4 j5 j6 j7 j8 j9 j10 j11 j12 j13 j14 j15 j16 j17 st h Q x => pf_S pb_u_157 rfl rfl,
  fun l1 l2 l3 l4 l5 l6 l7 l8 l9 l10 l11 l12 l13 l14 l15 l16 l17 j0 j1 j2 j3 j4 j5 j6 j7 j8 j9 j10 j11 j12 j13 j14 j15 j16 j17 st h Q => pf_S pb_u_157 rfl rfl,
  fun L J st h Q a => pf_gf pb_u_157 rfl rfl,
  fun l0 l1 l2 l3 l4 l5 l6 l7 l8 l9 l10 l11 l12 l14 l15 l16 l17 j0 j1 j2 j3 j4 j5 j6 j7 j8 j9 j10 j11 j12 j13 j14 j15 j16 j17 st h Q x => pf_S pb_u_157 rfl rfl,
  fun l0 l2 l3 l4 l5 l6 l7 l8 l9 l10 l11 l12 l13 l14 l15 l16 l17 j0 j1 j2 j3 j4 j5 j6 j7 j8 j9 j10 j11 j12 j13 j14 j15 j16 j17 st h Q x => pf_S pb_u_157 rfl rfl,
  fun L J st x y h Q => pf_S pb_u_157 rfl rfl,
  fun L J st h Q a i => pf_ai pb_u_157 rfl rfl,
  fun L J st x h Q => pf_S pb_u_157 rfl rfl,
  fun l0 l1 l2 l3 l4 l5 l6 l7 l8 l9 l10 l11 l12 l13 l14 l15 l16 l17 j0 j1 j2 j3 j4 j5 j6 j7 j8 j9 j10 j11 j12 j13 j15 j16 j17 st h Q x => pf_S pb_u_157 rfl rfl,
  fun L J st h Q => pf_S pb_u_157 rfl rfl,
  fun L J st x y h Q => pf_S pb_u_157 rfl rfl,
  fun L J st x y h Q => pf_S pb_u_157 rfl rfl,
  fun l0 l1 l2 l3 l4 l5 l6 l7 l8 l9 l10 l11 l12 l13 l14 l15 l16 l17 j0 j1 j2 j3 j4 j5 j6 j7 j8 j9 j10 j12 j13 j14 j15 j16 j17 st h Q x => pf_S pb_u_157 rfl rfl,
  fun L J st x y h Q => pf_S pb_u_157 rfl rfl,
  fun l0 l1 l2 l3 l4 l5 l6 l7 l8 l9 l10 l11 l12 l13 l14 l15 l16 l17 j0 j1 j2 j3 j4 j5 j6 j7 j8 j9 j10 j11 j12 j13 j14 j15 j16 j17 st h Q x => pf_S pb_u_157 rfl rfl,
  fun l1 l2 l3 l4 l5 l6 l7 l8 l9 l10 l11 l12 l13 l14 l15 l16 l17 j0 j1 j2 j3 j4 j5 j6 j7 j8 j9 j10 j11 j12 j13 j14 j15 j16 j17 st h Q x => pf_S pb_u_157 rfl rfl,
  fun l1 l2 l3 l4 l5 l6 l7 l8 l9 l10 l11 l12 l13 l14 l15 l16 l17 j0 j1 j2 j3 j4 j5 j6 j7 j8 j9 j10 j11 j12 j13 j14 j15 j16 j17 st h Q => pf_S pb_u_157 rfl rfl,
  fun L J st h Q a => pf_gf pb_u_157 rfl rfl,
  fun l0 l1 l2 l3 l4 l5 l6 l7 l8 l9 l10 l11 l12 l14 l15 l16 l17 j0 j1 j2 j3 j4 j5 j6 j7 j8 j9 j10 j11 j12 j13 j14 j15 j16 j17 st h Q x => pf_S pb_u_157 rfl rfl,
  fun l0 l2 l3 l4 l5 l6 l7 l8 l9 l10 l11 l12 l13 l14 l15 l16 l17 j0 j1 j2 j3 j4 j5 j6 j7 j8 j9 j10 j11 j12 j13 j14 j15 j16 j17 st h Q x => pf_S pb_u_157 rfl rfl,
  fun L J st x y h Q => pf_S pb_u_157 rfl rfl,
  fun l0 l1 l2 l3 l4 l5 l6 l7 l8 l9 l10 l11 l12 l13 l14 l15 l16 l17 j0 j1 j2 j3 j4 j5 j6 j7 j8 j9 j10 j11 j12 j13 j14 j15 j17 st h Q x => pf_S pb_u_157 rfl rfl,
  fun L J st h Q => pf_S pb_u_157 rfl rfl,
  fun L J st x y h Q => pf_S pb_u_157 rfl rfl,
  fun L J st x h Q => pf_S pb_u_157 rfl rfl,
  fun L J st h Q a i x => pf_si pb_u_157 rfl rfl,
  fun l0 l1 l2 l3 l4 l5 l6 l7 l8 l9 l10 l11 l12 l13 l14 l15 l16 l17 j0 j1 j2 j3 j4 j5 j6 j7 j8 j9 j10 j11 j12 j13 j14 j15 j17 st h Q x => pf_S pb_u_157 rfl rfl,
  fun L J st h Q => pf_S pb_u_157 rfl rfl,
  fun L J st x y h Q => pf_S pb_u_157 rfl rfl,
  fun L J st h Q x => pf_ii pb_u_157 rfl rfl rfl,
  fun L J st h Q => pf_S pb_u_157 rfl rfl,
  fun L J st h Q => pf_S pb_u_157 rfl rfl,
  fun L J st h Q => pf_S pb_u_157 rfl rfl,
  fun l0 l1 l2 l3 l4 l5 l6 l7 l8 l9 l10 l11 l12 l13 l14 l15 l16 l17 j0 j1 j2 j3 j4 j5 j6 j7 j8 j9 j10 j11 j12 j13 j14 j15 j16 j17 st h Q x => pf_S pb_u_157 rfl rfl,
  fun l0 l1 l2 l3 l4 l5 l6 l7 l8 l9 l10 l11 l12 l14 l15 l16 l17 j0 j1 j2 j3 j4 j5 j6 j7 j8 j9 j10 j11 j12 j13 j14 j15 j16 j17 st h Q x => pf_S pb_u_157 rfl rfl,
  fun L J st h Q => pf_S pb_u_157 rfl rfl,
  fun l1 l2 l3 l4 l5 l6 l7 l8 l9 l10 l11 l12 l13 l14 l15 l16 l17 j0 j1 j2 j3 j4 j5 j6 j7 j8 j9 j10 j11 j12 j13 j14 j15 j16 j17 st h Q x => pf_S pb_u_157 rfl rfl,
  fun l1 l2 l3 l4 l5 l6 l7 l8 l9 l10 l11 l12 l13 l14 l15 l16 l17 j0 j1 j2 j3 j4 j5 j6 j7 j8 j9 j10 j11 j12 j13 j14 j15 j16 j17 st h Q => pf_S pb_u_157 rfl rfl,
  fun L J st h Q a => pf_gf pb_u_157 rfl rfl,
  fun l0 l2 l3 l4 l5 l6 l7 l8 l9 l10 l11 l12 l13 l14 l15 l16 l17 j0 j1 j2 j3 j4 j5 j6 j7 j8 j9 j10 j11 j12 j13 j14 j15 j16 j17 st h Q x => pf_S pb_u_157 rfl rfl,
  fun l0 l1 l3 l4 l5 l6 l7 l8 l9 l10 l11 l12 l13 l14 l15 l16 l17 j0 j1 j2 j3 j4 j5 j6 j7 j8 j9 j10 j11 j12 j13 j14 j15 j16 j17 st h Q x => pf_S pb_u_157 rfl rfl,
  fun L J st x y h Q => pf_S pb_u_157 rfl rfl,
  fun L J st h Q a i => pf_ai pb_u_157 rfl rfl,
  fun L J st x h Q => pf_S pb_u_157 rfl rfl,
  fun l0 l1 l2 l3 l4 l5 l6 l7 l8 l9 l10 l11 l12 l13 l14 l15 l16 l17 j0 j1 j2 j3 j4 j5 j6 j7 j8 j10 j11 j12 j13 j14 j15 j16 j17 st h Q x => pf_S pb_u_157 rfl rfl,
  fun L J st x y h Q => pf_S pb_u_157 rfl rfl,
  fun l0 l1 l2 l3 l4 l5 l6 l7 l8 l9 l10 l11 l12 l13 l14 l15 l16 l17 j0 j1 j2 j3 j4 j5 j6 j7 j8 j9 j10 j12 j13 j14 j15 j16 j17 st h Q x => pf_S pb_u_157 rfl rfl,
  fun L J st x y h Q => pf_S pb_u_157 rfl rfl,
  fun l0 l1 l2 l3 l4 l5 l6 l7 l8 l9 l10 l11 l12 l13 l14 l15 l16 l17 j0 j1 j2 j3 j4 j5 j6 j7 j8 j9 j10 j11 j12 j13 j14 j15 j16 j17 st h Q x => pf_S pb_u_157 rfl rfl,
  fun l1 l2 l3 l4 l5 l6 l7 l8 l9 l10 l11 l12 l13 l14 l15 l16 l17 j0 j1 j2 j3 j4 j5 j6 j7 j8 j9 j10 j11 j12 j13 j14 j15 j16 j17 st h Q x => pf_S pb_u_157 rfl rfl,
  fun l1 l2 l3 l4 l5 l6 l7 l8 l9 l10 l11 l12 l13 l14 l15 l16 l17 j0 j1 j2 j3 j4 j5 j6 j7 j8 j9 j10 j11 j12 j13 j14 j15 j16 j17 st h Q => pf_S pb_u_157 rfl rfl,
  fun L J st h Q a => pf_gf pb_u_157 rfl rfl,
  fun l0 l2 l3 l4 l5 l6 l7 l8 l9 l10 l11 l12 l13 l14 l15 l16 l17 j0 j1 j2 j3 j4 j5 j6 j7 j8 j9 j10 j11 j12 j13 j14 j15 j16 j17 st h Q x => pf_S pb_u_157 rfl rfl,
  fun l0 l1 l3 l4 l5 l6 l7 l8 l9 l10 l11 l12 l13 l14 l15 l16 l17 j0 j1 j2 j3 j4 j5 j6 j7 j8 j9 j10 j11 j12 j13 j14 j15 j16 j17 st h Q x => pf_S pb_u_157 rfl rfl,
  fun L J st x y h Q => pf_S pb_u_157 rfl rfl,
  fun l0 l1 l2 l3 l4 l5 l6 l7 l8 l9 l10 l11 l12 l13 l14 l15 l16 l17 j0 j1 j2 j3 j4 j5 j6 j7 j8 j9 j10 j11 j12 j14 j15 j16 j17 st h Q x => pf_S pb_u_157 rfl rfl,
  fun L J st h Q => pf_S pb_u_157 rfl rfl,
  fun L J st x y h Q => pf_S pb_u_157 rfl rfl,
  fun L J st x h Q => pf_S pb_u_157 rfl rfl,
  fun L J st h Q a i x => pf_si pb_u_157 rfl rfl,
  fun l0 l1 l2 l3 l4 l5 l6 l7 l8 l9 l10 l11 l12 l13 l14 l15 l16 l17 j0 j1 j2 j3 j4 j5 j6 j7 j8 j9 j10 j11 j12 j14 j15 j16 j17 st h Q x => pf_S pb_u_157 rfl rfl,
  fun L J st h Q => pf_S pb_u_157 rfl rfl,
  fun L J st x y h Q => pf_S pb_u_157 rfl rfl,
  fun L J st h Q x => pf_ii pb_u_157 rfl rfl rfl,
  fun l0 l1 l2 l3 l4 l5 l6 l7 l8 l9 l10 l11 l12 l13 l14 l15 l16 l17 j0 j1 j2 j3 j4 j6 j7 j8 j9 j10 j11 j12 j13 j14 j15 j16 j17 st h Q x => pf_S pb_u_157 rfl rfl,
  fun L J st h Q => pf_S pb_u_157 rfl rfl,
  fun L J st x y h Q => pf_S pb_u_157 rfl rfl,
  fun l0 l1 l2 l3 l4 l5 l6 l7 l8 l9 l10 l11 l12 l13 l14 l15 l16 l17 j0 j1 j2 j3 j4 j5 j6 j7 j8 j9 j10 j11 j12 j13 j14 j15 j16 j17 st h Q x => pf_S pb_u_157 rfl rfl,
  fun L J st h Q => pf_S pb_u_157 rfl rfl,
  fun l0 l1 l2 l3 l4 l5 l6 l7 l8 l9 l10 l11 l12 l13 l14 l15 l16 l17 j0 j1 j2 j3 j4 j5 j6 j7 j8 j9 j10 j11 j12 j13 j14 j15 j16 j17 st h Q x => pf_S pb_u_157 rfl rfl,
  fun L J st h Q => pf_S pb_u_157 rfl rfl,
  fun l0 l1 l2 l3 l4 l5 l6 l7 l8 l9 l10 l11 l12 l13 l14 l15 l16 l17 j0 j1 j2 j3 j4 j5 j6 j7 j8 j9 j10 j11 j12 j13 j14 j15 j16 j17 st h Q x => pf_S pb_u_157 rfl rfl,
  fun l0 l1 l3 l4 l5 l6 l7 l8 l9 l10 l11 l12 l13 l14 l15 l16 l17 j0 j1 j2 j3 j4 j5 j6 j7 j8 j9 j10 j11 j12 j13 j14 j15 j16 j17 st h Q x => pf_S pb_u_157 rfl rfl,
  fun L J st h Q x y => pf_ic pb_u_157 rfl rfl rfl,
  fun l1 l2 l3 l4 l5 l6 l7 l8 l9 l10 l11 l12 l13 l14 l15 l16 l17 j0 j1 j2 j3 j4 j5 j6 j7 j8 j9 j10 j11 j12 j13 j14 j15 j16 j17 st h Q x => pf_S pb_u_157 rfl rfl,
  fun l1 l2 l3 l4 l5 l6 l7 l8 l9 l10 l11 l12 l13 l14 l15 l16 l17 j0 j1 j2 j3 j4 j5 j6 j7 j8 j9 j10 j11 j12 j13 j14 j15 j16 j17 st h Q => pf_S pb_u_157 rfl rfl,
  fun L J st h Q a => pf_gf pb_u_157 rfl rfl,
  fun l0 l1 l2 l3 l4 l5 l6 l7 l8 l9 l10 l11 l12 l13 l14 l15 l17 j0 j1 j2 j3 j4 j5 j6 j7 j8 j9 j10 j11 j12 j13 j14 j15 j16 j17 st h Q x => pf_S pb_u_157 rfl rfl,
  fun l0 l2 l3 l4 l5 l6 l7 l8 l9 l10 l11 l12 l13 l14 l15 l16 l17 j0 j1 j2 j3 j4 j5 j6 j7 j8 j9 j10 j11 j12 j13 j14 j15 j16 j17 st h Q x => pf_S pb_u_157 rfl rfl,
  fun L J st x y h Q => pf_S pb_u_157 rfl rfl,
  fun L J st h Q a i => pf_ai pb_u_157 rfl rfl,
  fun l1 l2 l3 l4 l5 l6 l7 l8 l9 l10 l11 l12 l13 l14 l15 l16 l17 j0 j1 j2 j3 j4 j5 j6 j7 j8 j9 j10 j11 j12 j13 j14 j15 j16 j17 st h Q x => pf_S pb_u_157 rfl rfl,
  fun l1 l2 l3 l4 l5 l6 l7 l8 l9 l10 l11 l12 l13 l14 l15 l16 l17 j0 j1 j2 j3 j4 j5 j6 j7 j8 j9 j10 j11 j12 j13 j14 j15 j16 j17 st h Q => pf_S pb_u_157 rfl rfl,
  fun L J st h Q a => pf_gf pb_u_157 rfl rfl,
  fun l0 l1 l2 l3 l4 l5 l6 l7 l8 l9 l10 l11 l12 l13 l14 l15 l17 j0 j1 j2 j3 j4 j5 j6 j7 j8 j9 j10 j11 j12 j13 j14 j15 j16 j17 st h Q x => pf_S pb_u_157 rfl rfl,
  fun L J st h Q a i => pf_ai pb_u_157 rfl rfl,
  fun L J st x y h Q => pf_S pb_u_157 rfl rfl,
  fun l0 l1 l2 l3 l4 l5 l6 l7 l8 l9 l10 l11 l12 l13 l14 l16 l17 j0 j1 j2 j3 j4 j5 j6 j7 j8 j9 j10 j11 j12 j13 j14 j15 j16 j17 st h Q x => pf_S pb_u_157 rfl rfl,
  fun L J st x y h Q => pf_S pb_u_157 rfl rfl,
  fun l0 l1 l2 l3 l4 l5 l6 l7 l8 l9 l10 l11 l12 l13 l14 l15 l16 l17 j0 j1 j2 j3 j4 j5 j6 j7 j8 j9 j10 j11 j12 j13 j14 j15 j16 j17 st h Q x => pf_S pb_u_157 rfl rfl,
  fun l1 l2 l3 l4 l5 l6 l7 l8 l9 l10 l11 l12 l13 l14 l15 l16 l17 j0 j1 j2 j3 j4 j5 j6 j7 j8 j9 j10 j11 j12 j13 j14 j15 j16 j17 st h Q x => pf_S pb_u_157 rfl rfl,
  fun l1 l2 l3 l4 l5 l6 l7 l8 l9 l10 l11 l12 l13 l14 l15 l16 l17 j0 j1 j2 j3 j4 j5 j6 j7 j8 j9 j10 j11 j12 j13 j14 j15 j16 j17 st h Q => pf_S pb_u_157 rfl rfl,
  fun L J st h Q a => pf_gf pb_u_157 rfl rfl,
  fun l0 l1 l2 l3 l4 l5 l6 l7 l8 l9 l10 l11 l12 l13 l14 l15 l17 j0 j1 j2 j3 j4 j5 j6 j7 j8 j9 j10 j11 j12 j13 j14 j15 j16 j17 st h Q x => pf_S pb_u_157 rfl rfl,
  fun l0 l2 l3 l4 l5 l6 l7 l8 l9 l10 l11 l12 l13 l14 l15 l16 l17 j0 j1 j2 j3 j4 j5 j6 j7 j8 j9 j10 j11 j12 j13 j14 j15 j16 j17 st h Q x => pf_S pb_u_157 rfl rfl,
  fun L J st x y h Q => pf_S pb_u_157 rfl rfl,
  fun l0 l1 l2 l3 l4 l5 l6 l7 l8 l9 l10 l11 l12 l13 l14 l15 l16 j0 j1 j2 j3 j4 j5 j6 j7 j8 j9 j10 j11 j12 j13 j14 j15 j16 j17 st h Q x => pf_S pb_u_157 rfl rfl,
  fun L J st h Q => pf_S pb_u_157 rfl rfl,
  fun L J st x y h Q => pf_S pb_u_157 rfl rfl,
  fun L J st h Q a i x => pf_si pb_u_157 rfl rfl,
  fun l0 l1 l2 l3 l4 l5 l6 l7 l8 l9 l10 l11 l12 l13 l14 l15 l16 j0 j1 j2 j3 j4 j5 j6 j7 j8 j9 j10 j11 j12 j13 j14 j15 j16 j17 st h Q x => pf_S pb_u_157 rfl rfl,
  fun L J st h Q => pf_S pb_u_157 rfl rfl,
  fun L J st x y h Q => pf_S pb_u_157 rfl rfl,
  fun l0 l1 l2 l3 l4 l5 l6 l7 l8 l9 l10 l11 l12 l13 l14 l15 l16 l17 j0 j1 j2 j3 j4 j5 j6 j7 j8 j9 j10 j11 j12 j13 j14 j15 j16 j17 st h Q x => pf_S pb_u_157 rfl rfl,
  fun l0 l1 l2 l3 l4 l5 l6 l7 l8 l9 l10 l11 l12 l13 l14 l15 l17 j0 j1 j2 j3 j4 j5 j6 j7 j8 j9 j10 j11 j12 j13 j14 j15 j16 j17 st h Q x => pf_S pb_u_157 rfl rfl,
  fun L J st h Q => pf_S pb_u_157 rfl rfl,
  fun l1 l2 l3 l4 l5 l6 l7 l8 l9 l10 l11 l12 l13 l14 l15 l16 l17 j0 j1 j2 j3 j4 j5 j6 j7 j8 j9 j10 j11 j12 j13 j14 j15 j16 j17 st h Q x => pf_S pb_u_157 rfl rfl,
  fun l1 l2 l3 l4 l5 l6 l7 l8 l9 l10 l11 l12 l13 l14 l15 l16 l17 j0 j1 j2 j3 j4 j5 j6 j7 j8 j9 j10 j11 j12 j13 j14 j15 j16 j17 st h Q => pf_S pb_u_157 rfl rfl,
  fun L J st h Q a => pf_gf pb_u_157 rfl rfl,
  fun l0 l2 l3 l4 l5 l6 l7 l8 l9 l10 l11 l12 l13 l14 l15 l16 l17 j0 j1 j2 j3 j4 j5 j6 j7 j8 j9 j10 j11 j12 j13 j14 j15 j16 j17 st h Q x => pf_S pb_u_157 rfl rfl,
  fun l0 l1 l3 l4 l5 l6 l7 l8 l9 l10 l11 l12 l13 l14 l15 l16 l17 j0 j1 j2 j3 j4 j5 j6 j7 j8 j9 j10 j11 j12 j13 j14 j15 j16 j17 st h Q x => pf_S pb_u_157 rfl rfl,
  fun L J st x y h Q => pf_S pb_u_157 rfl rfl,
  fun l1 l2 l3 l4 l5 l6 l7 l8 l9 l10 l11 l12 l13 l14 l15 l16 l17 j0 j1 j2 j3 j4 j5 j6 j7 j8 j9 j10 j11 j12 j13 j14 j15 j16 j17 st h Q x => pf_S pb_u_157 rfl rfl,
  fun l1 l2 l3 l4 l5 l6 l7 l8 l9 l10 l11 l12 l13 l14 l15 l16 l17 j0 j1 j2 j3 j4 j5 j6 j7 j8 j9 j10 j11 j12 j13 j14 j15 j16 j17 st h Q => pf_S pb_u_157 rfl rfl,
  fun L J st h Q a => pf_gf pb_u_157 rfl rfl,
  fun l0 l2 l3 l4 l5 l6 l7 l8 l9 l10 l11 l12 l13 l14 l15 l16 l17 j0 j1 j2 j3 j4 j5 j6 j7 j8 j9 j10 j11 j12 j13 j14 j15 j16 j17 st h Q x => pf_S pb_u_157 rfl rfl,
  fun l0 l1 l3 l4 l5 l6 l7 l8 l9 l10 l11 l12 l13 l14 l15 l16 l17 j0 j1 j2 j3 j4 j5 j6 j7 j8 j9 j10 j11 j12 j13 j14 j15 j16 j17 st h Q x => pf_S pb_u_157 rfl rfl,
  fun L J st x y h Q => pf_S pb_u_157 rfl rfl,
  fun L J st h Q a i => pf_ai pb_u_157 rfl rfl,
  fun l0 l1 l2 l3 l4 l5 l6 l7 l8 l9 l10 l11 l12 l13 l14 l16 l17 j0 j1 j2 j3 j4 j5 j6 j7 j8 j9 j10 j11 j12 j13 j14 j15 j16 j17 st h Q x => pf_S pb_u_157 rfl rfl,
  fun L J st x y h Q => pf_S pb_u_157 rfl rfl,
  fun L J st h Q => pf_S pb_u_157 rfl rfl,
  fun L J st x y h Q => pf_S pb_u_157 rfl rfl,
  fun L J st h Q a i x => pf_si pb_u_157 rfl rfl,
  fun l0 l1 l2 l3 l4 l5 l6 l7 l8 l9 l10 l11 l12 l13 l14 l15 l16 l17 j0 j1 j2 j3 j4 j6 j7 j8 j9 j10 j11 j12 j13 j14 j15 j16 j17 st h Q x => pf_S pb_u_157 rfl rfl,
  fun L J st x h Q => pf_S pb_u_157 rfl rfl,
  fun L J h Q x => pf_ri pb_u_157 rfl rfl⟩
theorem pb_c157 (x0 : Nat) (x1 : Int32) (x2 : Int32) (h : pb_H) (Q : Option Value → pb_H → Prop) : pb_call 157 [.ref x0, .int x1, .int x2] h Q ↔ pb_R 157 0 [some (.ref x0), some (.int x1), some (.int x2), none, none, none, none, none, none, none, none, none, none, none, none, none, none, none] [none, none, none, none, none, none, none, none, none, none, none, none, none, none, none, none, none, none] [] h Q := Iff.rfl
/-! 158: PlaneBenchModel.divide(II)V -/
theorem pb_u_158 : pb_t 158 = pb_t158 := rfl
theorem pb_ci_158 : pb_ci 158 = 12 := by decide +kernel
set_option maxRecDepth 100000 in
theorem pb_q158_16 (l0 l1 l2 l3 l4 l6 l7 l8 l9 : Option Value) (j0 j1 j2 j3 j4 j5 j6 j7 j8 j9 : Option Int64) (st : List Value) (h : pb_H) (Q : Option Value → pb_H → Prop) (x : Int32) : pb_R 158 16 [l0, l1, l2, l3, l4, some (.int x), l6, l7, l8, l9] [j0, j1, j2, j3, j4, j5, j6, j7, j8, j9] st h Q ↔ pb_R 158 18 [l0, l1, l2, l3, l4, some (.int x), l6, l7, l8, l9] [j0, j1, j2, j3, j4, j5, j6, j7, j8, j9] (.int x :: st) h Q := pf_S pb_u_158 rfl rfl
set_option maxRecDepth 100000 in
theorem pb_q158_113 (l0 l1 l2 l3 l4 l5 l6 l8 l9 : Option Value) (j0 j1 j2 j3 j4 j5 j6 j7 j8 j9 : Option Int64) (st : List Value) (h : pb_H) (Q : Option Value → pb_H → Prop) (x : Int32) : pb_R 158 113 [l0, l1, l2, l3, l4, l5, l6, some (.int x), l8, l9] [j0, j1, j2, j3, j4, j5, j6, j7, j8, j9] st h Q ↔ pb_R 158 115 [l0, l1, l2, l3, l4, l5, l6, some (.int x), l8, l9] [j0, j1, j2, j3, j4, j5, j6, j7, j8, j9] (.int x :: st) h Q := pf_S pb_u_158 rfl rfl
set_option maxRecDepth 100000 in
theorem pb_q158_191 (l1 l2 l3 l4 l5 l6 l7 l8 l9 : Option Value) (j0 j1 j2 j3 j4 j5 j6 j7 j8 j9 : Option Int64) (st : List Value) (h : pb_H) (Q : Option Value → pb_H → Prop) (x : Nat) : pb_R 158 191 [some (.ref x), l1, l2, l3, l4, l5, l6, l7, l8, l9] [j0, j1, j2, j3, j4, j5, j6, j7, j8, j9] st h Q ↔ pb_R 158 192 [some (.ref x), l1, l2, l3, l4, l5, l6, l7, l8, l9] [j0, j1, j2, j3, j4, j5, j6, j7, j8, j9] (.ref x :: st) h Q := pf_S pb_u_158 rfl rfl
set_option maxRecDepth 100000 in
theorem pb_q158_191n (l1 l2 l3 l4 l5 l6 l7 l8 l9 : Option Value) (j0 j1 j2 j3 j4 j5 j6 j7 j8 j9 : Option Int64) (st : List Value) (h : pb_H) (Q : Option Value → pb_H → Prop) : pb_R 158 191 [some .null, l1, l2, l3, l4, l5, l6, l7, l8, l9] [j0, j1, j2, j3, j4, j5, j6, j7, j8, j9] st h Q ↔ pb_R 158 192 [some .null, l1, l2, l3, l4, l5, l6, l7, l8, l9] [j0, j1, j2, j3, j4, j5, j6, j7, j8, j9] (.null :: st) h Q := pf_S pb_u_158 rfl rfl
set_option maxRecDepth 100000 in
theorem pb_q158_244 (l0 l1 l2 l3 l4 l5 l7 l8 l9 : Option Value) (j0 j1 j2 j3 j4 j5 j6 j7 j8 j9 : Option Int64) (st : List Value) (h : pb_H) (Q : Option Value → pb_H → Prop) (x : Int32) : pb_R 158 244 [l0, l1, l2, l3, l4, l5, some (.int x), l7, l8, l9] [j0, j1, j2, j3, j4, j5, j6, j7, j8, j9] st h Q ↔ pb_R 158 246 [l0, l1, l2, l3, l4, l5, some (.int x), l7, l8, l9] [j0, j1, j2, j3, j4, j5, j6, j7, j8, j9] (.int x :: st) h Q := pf_S pb_u_158 rfl rfl
set_option maxRecDepth 100000 in
theorem pb_q158_276 (l0 l1 l2 l3 l4 l5 l6 l8 l9 : Option Value) (j0 j1 j2 j3 j4 j5 j6 j7 j8 j9 : Option Int64) (st : List Value) (h : pb_H) (Q : Option Value → pb_H → Prop) (x : Int32) : pb_R 158 276 [l0, l1, l2, l3, l4, l5, l6, some (.int x), l8, l9] [j0, j1, j2, j3, j4, j5, j6, j7, j8, j9] st h Q ↔ pb_R 158 278 [l0, l1, l2, l3, l4, l5, l6, some (.int x), l8, l9] [j0, j1, j2, j3, j4, j5, j6, j7, j8, j9] (.int x :: st) h Q := pf_S pb_u_158 rfl rfl
set_option maxRecDepth 100000 in
theorem pb_e158 : (∀ (l1 l2 l3 l4 l5 l6 l7 l8 l9 : Option Value) (j0 j1 j2 j3 j4 j5 j6 j7 j8 j9 : Option Int64) (st : List Value) (h : pb_H) (Q : Option Value → pb_H → Prop) (x : Nat), pb_R 158 0 [some (.ref x), l1, l2, l3, l4, l5, l6, l7, l8, l9] [j0, j1, j2, j3, j4, j5, j6, j7, j8, j9] st h Q ↔ pb_R 158 1 [some (.ref x), l1, l2, l3, l4, l5, l6, l7, l8, l9] [j0, j1, j2, j3, j4, j5, j6, j7, j8, j9] (.ref x :: st) h Q) ∧
  (∀ (l1 l2 l3 l4 l5 l6 l7 l8 l9 : Option Value) (j0 j1 j2 j3 j4 j5 j6 j7 j8 j9 : Option Int64) (st : List Value) (h : pb_H) (Q : Option Value → pb_H → Prop), pb_R 158 0 [some .null, l1, l2, l3, l4, l5, l6, l7, l8, l9] [j0, j1, j2, j3, j4, j5, j6, j7, j8, j9] st h Q ↔ pb_R 158 1 [some .null, l1, l2, l3, l4, l5, l6, l7, l8, l9] [j0, j1, j2, j3, j4, j5, j6, j7, j8, j9] (.null :: st) h Q) ∧
  (∀ (l0 l2 l3 l4 l5 l6 l7 l8 l9 : Option Value) (j0 j1 j2 j3 j4 j5 j6 j7 j8 j9 : Option Int64) (st : List Value) (h : pb_H) (Q : Option Value → pb_H → Prop) (x : Int32), pb_R 158 1 [l0, some (.int x), l2, l3, l4, l5, l6, l7, l8, l9] [j0, j1, j2, j3, j4, j5, j6, j7, j8, j9] st h Q ↔ pb_R 158 2 [l0, some (.int x), l2, l3, l4, l5, l6, l7, l8, l9] [j0, j1, j2, j3, j4, j5, j6, j7, j8, j9] (.int x :: st) h Q) ∧
  (∀ (L : pb_L) (J : pb_J) (h : pb_H) (Q : Option Value → pb_H → Prop) (x0 : Int32) (x1 : Nat), pb_R 158 2 L J [.int x0, .ref x1] h Q ↔ pb_is0 (h.2 x1) 12 = true ∧ pb_call 148 [.ref x1, .int x0] h (fun v t => pb_R 158 5 L J (v.toList ++ []) t Q)) ∧
  (∀ (l0 l1 l2 l3 l4 l5 l6 l7 l8 l9 : Option Value) (j0 j1 j2 j3 j4 j5 j6 j7 j8 j9 : Option Int64) (st : List Value) (h : pb_H) (Q : Option Value → pb_H → Prop) (x : Int32), pb_R 158 5 [l0, l1, l2, l3, l4, l5, l6, l7, l8, l9] [j0, j1, j2, j3, j4, j5, j6, j7, j8, j9] (.int x :: st) h Q ↔ pb_R 158 6 [l0, l1, l2, some (.int x), l4, l5, l6, l7, l8, l9] [j0, j1, none, none, j4, j5, j6, j7, j8, j9] st h Q) ∧
  (∀ (l1 l2 l3 l4 l5 l6 l7 l8 l9 : Option Value) (j0 j1 j2 j3 j4 j5 j6 j7 j8 j9 : Option Int64) (st : List Value) (h : pb_H) (Q : Option Value → pb_H → Prop) (x : Nat), pb_R 158 6 [some (.ref x), l1, l2, l3, l4, l5, l6, l7, l8, l9] [j0, j1, j2, j3, j4, j5, j6, j7, j8, j9] st h Q ↔ pb_R 158 7 [some (.ref x), l1, l2, l3, l4, l5, l6, l7, l8, l9] [j0, j1, j2, j3, j4, j5, j6, j7, j8, j9] (.ref x :: st) h Q) ∧
  (∀ (l1 l2 l3 l4 l5 l6 l7 l8 l9 : Option Value) (j0 j1 j2 j3 j4 j5 j6 j7 j8 j9 : Option Int64) (st : List Value) (h : pb_H) (Q : Option Value → pb_H → Prop), pb_R 158 6 [some .null, l1, l2, l3, l4, l5, l6, l7, l8, l9] [j0, j1, j2, j3, j4, j5, j6, j7, j8, j9] st h Q ↔ pb_R 158 7 [some .null, l1, l2, l3, l4, l5, l6, l7, l8, l9] [j0, j1, j2, j3, j4, j5, j6, j7, j8, j9] (.null :: st) h Q) ∧
  (∀ (l0 l1 l3 l4 l5 l6 l7 l8 l9 : Option Value) (j0 j1 j2 j3 j4 j5 j6 j7 j8 j9 : Option Int64) (st : List Value) (h : pb_H) (Q : Option Value → pb_H → Prop) (x : Int32), pb_R 158 7 [l0, l1, some (.int x), l3, l4, l5, l6, l7, l8, l9] [j0, j1, j2, j3, j4, j5, j6, j7, j8, j9] st h Q ↔ pb_R 158 8 [l0, l1, some (.int x), l3, l4, l5, l6, l7, l8, l9] [j0, j1, j2, j3, j4, j5, j6, j7, j8, j9] (.int x :: st) h Q) ∧
  (∀ (L : pb_L) (J : pb_J) (h : pb_H) (Q : Option Value → pb_H → Prop) (x0 : Int32) (x1 : Nat), pb_R 158 8 L J [.int x0, .ref x1] h Q ↔ pb_is0 (h.2 x1) 12 = true ∧ pb_call 148 [.ref x1, .int x0] h (fun v t => pb_R 158 11 L J (v.toList ++ []) t Q)) ∧
  (∀ (l0 l1 l2 l3 l4 l5 l6 l7 l8 l9 : Option Value) (j0 j1 j2 j3 j4 j5 j6 j7 j8 j9 : Option Int64) (st : List Value) (h : pb_H) (Q : Option Value → pb_H → Prop) (x : Int32), pb_R 158 11 [l0, l1, l2, l3, l4, l5, l6, l7, l8, l9] [j0, j1, j2, j3, j4, j5, j6, j7, j8, j9] (.int x :: st) h Q ↔ pb_R 158 13 [l0, l1, l2, l3, some (.int x), l5, l6, l7, l8, l9] [j0, j1, j2, none, none, j5, j6, j7, j8, j9] st h Q) ∧
  (∀ (L : pb_L) (J : pb_J) (st : List Value) (h : pb_H) (Q : Option Value → pb_H → Prop), pb_R 158 13 L J st h Q ↔ pb_R 158 14 L J (.int (0 : Int32) :: st) h Q) ∧
  (∀ (l0 l1 l2 l3 l4 l5 l6 l7 l8 l9 : Option Value) (j0 j1 j2 j3 j4 j5 j6 j7 j8 j9 : Option Int64) (st : List Value) (h : pb_H) (Q : Option Value → pb_H → Prop) (x : Int32), pb_R 158 14 [l0, l1, l2, l3, l4, l5, l6, l7, l8, l9] [j0, j1, j2, j3, j4, j5, j6, j7, j8, j9] (.int x :: st) h Q ↔ pb_R 158 16 [l0, l1, l2, l3, l4, some (.int x), l6, l7, l8, l9] [j0, j1, j2, j3, none, none, j6, j7, j8, j9] st h Q) ∧
  (∀ (L : pb_L) (J : pb_J) (st : List Value) (h : pb_H) (Q : Option Value → pb_H → Prop), pb_R 158 18 L J st h Q ↔ pb_R 158 20 L J (.int (20 : Int32) :: st) h Q) ∧
  (∀ (L : pb_L) (J : pb_J) (st : List Value) (h : pb_H) (Q : Option Value → pb_H → Prop) (x y : Int32), pb_R 158 20 L J (.int y :: .int x :: st) h Q ↔ if y < x then pb_R 158 91 L J st h Q else pb_R 158 23 L J st h Q) ∧
  (∀ (l1 l2 l3 l4 l5 l6 l7 l8 l9 : Option Value) (j0 j1 j2 j3 j4 j5 j6 j7 j8 j9 : Option Int64) (st : List Value) (h : pb_H) (Q : Option Value → pb_H → Prop) (x : Nat), pb_R 158 23 [some (.ref x), l1, l2, l3, l4, l5, l6, l7, l8, l9] [j0, j1, j2, j3, j4, j5, j6, j7, j8, j9] st h Q ↔ pb_R 158 24 [some (.ref x), l1, l2, l3, l4, l5, l6, l7, l8, l9] [j0, j1, j2, j3, j4, j5, j6, j7, j8, j9] (.ref x :: st) h Q) ∧
  (∀ (l1 l2 l3 l4 l5 l6 l7 l8 l9 : Option Value) (j0 j1 j2 j3 j4 j5 j6 j7 j8 j9 : Option Int64) (st : List Value) (h : pb_H) (Q : Option Value → pb_H → Prop), pb_R 158 23 [some .null, l1, l2, l3, l4, l5, l6, l7, l8, l9] [j0, j1, j2, j3, j4, j5, j6, j7, j8, j9] st h Q ↔ pb_R 158 24 [some .null, l1, l2, l3, l4, l5, l6, l7, l8, l9] [j0, j1, j2, j3, j4, j5, j6, j7, j8, j9] (.null :: st) h Q) ∧
  (∀ (L : pb_L) (J : pb_J) (st : List Value) (h : pb_H) (Q : Option Value → pb_H → Prop) (a : Nat), pb_R 158 24 L J (.ref a :: st) h Q ↔ pb_o (pb_gf (h.2 a) 12 11) (fun v => pb_R 158 27 L J (v :: st) h Q)) ∧
  (∀ (l0 l1 l2 l3 l4 l6 l7 l8 l9 : Option Value) (j0 j1 j2 j3 j4 j5 j6 j7 j8 j9 : Option Int64) (st : List Value) (h : pb_H) (Q : Option Value → pb_H → Prop) (x : Int32), pb_R 158 27 [l0, l1, l2, l3, l4, some (.int x), l6, l7, l8, l9] [j0, j1, j2, j3, j4, j5, j6, j7, j8, j9] st h Q ↔ pb_R 158 29 [l0, l1, l2, l3, l4, some (.int x), l6, l7, l8, l9] [j0, j1, j2, j3, j4, j5, j6, j7, j8, j9] (.int x :: st) h Q) ∧
  (∀ (L : pb_L) (J : pb_J) (st : List Value) (h : pb_H) (Q : Option Value → pb_H → Prop), pb_R 158 29 L J st h Q ↔ pb_R 158 30 L J (.int (0 : Int32) :: st) h Q) ∧
  (∀ (L : pb_L) (J : pb_J) (st : List Value) (h : pb_H) (Q : Option Value → pb_H → Prop) (a : Nat) (i x : Int32), pb_R 158 30 L J (.int x :: .int i :: .ref a :: st) h Q ↔ pb_o (pb_si (h.2 a) i x) (fun c => pb_R 158 31 L J st (pb_set h a c) Q)) ∧
  (∀ (l1 l2 l3 l4 l5 l6 l7 l8 l9 : Option Value) (j0 j1 j2 j3 j4 j5 j6 j7 j8 j9 : Option Int64) (st : List Value) (h : pb_H) (Q : Option Value → pb_H → Prop) (x : Nat), pb_R 158 31 [some (.ref x), l1, l2, l3, l4, l5, l6, l7, l8, l9] [j0, j1, j2, j3, j4, j5, j6, j7, j8, j9] st h Q ↔ pb_R 158 32 [some (.ref x), l1, l2, l3, l4, l5, l6, l7, l8, l9] [j0, j1, j2, j3, j4, j5, j6, j7, j8, j9] (.ref x :: st) h Q) ∧
  (∀ (l1 l2 l3 l4 l5 l6 l7 l8 l9 : Option Value) (j0 j1 j2 j3 j4 j5 j6 j7 j8 j9 : Option Int64) (st : List Value) (h : pb_H) (Q : Option Value → pb_H → Prop), pb_R 158 31 [some .null, l1, l2, l3, l4, l5, l6, l7, l8, l9] [j0, j1, j2, j3, j4, j5, j6, j7, j8, j9] st h Q ↔ pb_R 158 32 [some .null, l1, l2, l3, l4, l5, l6, l7, l8, l9] [j0, j1, j2, j3, j4, j5, j6, j7, j8, j9] (.null :: st) h Q) ∧
  (∀ (L : pb_L) (J : pb_J) (st : List Value) (h : pb_H) (Q : Option Value → pb_H → Prop) (a : Nat), pb_R 158 32 L J (.ref a :: st) h Q ↔ pb_o (pb_gf (h.2 a) 12 12) (fun v => pb_R 158 35 L J (v :: st) h Q)) ∧
  (∀ (l0 l1 l2 l3 l4 l6 l7 l8 l9 : Option Value) (j0 j1 j2 j3 j4 j5 j6 j7 j8 j9 : Option Int64) (st : List Value) (h : pb_H) (Q : Option Value → pb_H → Prop) (x : Int32), pb_R 158 35 [l0, l1, l2, l3, l4, some (.int x), l6, l7, l8, l9] [j0, j1, j2, j3, j4, j5, j6, j7, j8, j9] st h Q ↔ pb_R 158 37 [l0, l1, l2, l3, l4, some (.int x), l6, l7, l8, l9] [j0, j1, j2, j3, j4, j5, j6, j7, j8, j9] (.int x :: st) h Q) ∧
  (∀ (l0 l1 l2 l3 l4 l6 l7 l8 l9 : Option Value) (j0 j1 j2 j3 j4 j5 j6 j7 j8 j9 : Option Int64) (st : List Value) (h : pb_H) (Q : Option Value → pb_H → Prop) (x : Int32), pb_R 158 37 [l0, l1, l2, l3, l4, some (.int x), l6, l7, l8, l9] [j0, j1, j2, j3, j4, j5, j6, j7, j8, j9] st h Q ↔ pb_R 158 39 [l0, l1, l2, l3, l4, some (.int x), l6, l7, l8, l9] [j0, j1, j2, j3, j4, j5, j6, j7, j8, j9] (.int x :: st) h Q) ∧
  (∀ (L : pb_L) (J : pb_J) (st : List Value) (h : pb_H) (Q : Option Value → pb_H → Prop), pb_R 158 39 L J st h Q ↔ pb_R 158 41 L J (.int (20 : Int32) :: st) h Q) ∧
  (∀ (L : pb_L) (J : pb_J) (st : List Value) (h : pb_H) (Q : Option Value → pb_H → Prop) (x y : Int32), pb_R 158 41 L J (.int y :: .int x :: st) h Q ↔ if y ≤ x then pb_R 158 56 L J st h Q else pb_R 158 44 L J st h Q) ∧
  (∀ (l1 l2 l3 l4 l5 l6 l7 l8 l9 : Option Value) (j0 j1 j2 j3 j4 j5 j6 j7 j8 j9 : Option Int64) (st : List Value) (h : pb_H) (Q : Option Value → pb_H → Prop) (x : Nat), pb_R 158 44 [some (.ref x), l1, l2, l3, l4, l5, l6, l7, l8, l9] [j0, j1, j2, j3, j4, j5, j6, j7, j8, j9] st h Q ↔ pb_R 158 45 [some (.ref x), l1, l2, l3, l4, l5, l6, l7, l8, l9] [j0, j1, j2, j3, j4, j5, j6, j7, j8, j9] (.ref x :: st) h Q) ∧
  (∀ (l1 l2 l3 l4 l5 l6 l7 l8 l9 : Option Value) (j0 j1 j2 j3 j4 j5 j6 j7 j8 j9 : Option Int64) (st : List Value) (h : pb_H) (Q : Option Value → pb_H → Prop), pb_R 158 44 [some .null, l1, l2, l3, l4, l5, l6, l7, l8, l9] [j0, j1, j2, j3, j4, j5, j6, j7, j8, j9] st h Q ↔ pb_R 158 45 [some .null, l1, l2, l3, l4, l5, l6, l7, l8, l9] [j0, j1, j2, j3, j4, j5, j6, j7, j8, j9] (.null :: st) h Q) ∧
  (∀ (L : pb_L) (J : pb_J) (st : List Value) (h : pb_H) (Q : Option Value → pb_H → Prop) (a : Nat), pb_R 158 45 L J (.ref a :: st) h Q ↔ pb_o (pb_gf (h.2 a) 12 0) (fun v => pb_R 158 48 L J (v :: st) h Q)) ∧
  (∀ (l0 l2 l3 l4 l5 l6 l7 l8 l9 : Option Value) (j0 j1 j2 j3 j4 j5 j6 j7 j8 j9 : Option Int64) (st : List Value) (h : pb_H) (Q : Option Value → pb_H → Prop) (x : Int32), pb_R 158 48 [l0, some (.int x), l2, l3, l4, l5, l6, l7, l8, l9] [j0, j1, j2, j3, j4, j5, j6, j7, j8, j9] st h Q ↔ pb_R 158 49 [l0, some (.int x), l2, l3, l4, l5, l6, l7, l8, l9] [j0, j1, j2, j3, j4, j5, j6, j7, j8, j9] (.int x :: st) h Q) ∧
  (∀ (l0 l1 l2 l3 l4 l6 l7 l8 l9 : Option Value) (j0 j1 j2 j3 j4 j5 j6 j7 j8 j9 : Option Int64) (st : List Value) (h : pb_H) (Q : Option Value → pb_H → Prop) (x : Int32), pb_R 158 49 [l0, l1, l2, l3, l4, some (.int x), l6, l7, l8, l9] [j0, j1, j2, j3, j4, j5, j6, j7, j8, j9] st h Q ↔ pb_R 158 51 [l0, l1, l2, l3, l4, some (.int x), l6, l7, l8, l9] [j0, j1, j2, j3, j4, j5, j6, j7, j8, j9] (.int x :: st) h Q) ∧
  (∀ (L : pb_L) (J : pb_J) (st : List Value) (x y : Int32) (h : pb_H) (Q : Option Value → pb_H → Prop), pb_R 158 51 L J (.int y :: .int x :: st) h Q ↔ pb_R 158 52 L J (.int (x + y) :: st) h Q) ∧
  (∀ (L : pb_L) (J : pb_J) (st : List Value) (h : pb_H) (Q : Option Value → pb_H → Prop) (a : Nat) (i : Int32), pb_R 158 52 L J (.int i :: .ref a :: st) h Q ↔ pb_o (pb_ai (h.2 a) i) (fun v => pb_R 158 53 L J (.int v :: st) h Q)) ∧
  (∀ (L : pb_L) (J : pb_J) (st : List Value) (h : pb_H) (Q : Option Value → pb_H → Prop), pb_R 158 53 L J st h Q ↔ pb_R 158 57 L J st h Q) ∧
  (∀ (L : pb_L) (J : pb_J) (st : List Value) (h : pb_H) (Q : Option Value → pb_H → Prop), pb_R 158 56 L J st h Q ↔ pb_R 158 57 L J (.int (0 : Int32) :: st) h Q) ∧
  (∀ (L : pb_L) (J : pb_J) (st : List Value) (h : pb_H) (Q : Option Value → pb_H → Prop) (a : Nat) (i x : Int32), pb_R 158 57 L J (.int x :: .int i :: .ref a :: st) h Q ↔ pb_o (pb_si (h.2 a) i x) (fun c => pb_R 158 58 L J st (pb_set h a c) Q)) ∧
  (∀ (l1 l2 l3 l4 l5 l6 l7 l8 l9 : Option Value) (j0 j1 j2 j3 j4 j5 j6 j7 j8 j9 : Option Int64) (st : List Value) (h : pb_H) (Q : Option Value → pb_H → Prop) (x : Nat), pb_R 158 58 [some (.ref x), l1, l2, l3, l4, l5, l6, l7, l8, l9] [j0, j1, j2, j3, j4, j5, j6, j7, j8, j9] st h Q ↔ pb_R 158 59 [some (.ref x), l1, l2, l3, l4, l5, l6, l7, l8, l9] [j0, j1, j2, j3, j4, j5, j6, j7, j8, j9] (.ref x :: st) h Q) ∧
  (∀ (l1 l2 l3 l4 l5 l6 l7 l8 l9 : Option Value) (j0 j1 j2 j3 j4 j5 j6 j7 j8 j9 : Option Int64) (st : List Value) (h : pb_H) (Q : Option Value → pb_H → Prop), pb_R 158 58 [some .null, l1, l2, l3, l4, l5, l6, l7, l8, l9] [j0, j1, j2, j3, j4, j5, j6, j7, j8, j9] st h Q ↔ pb_R 158 59 [some .null, l1, l2, l3, l4, l5, l6, l7, l8, l9] [j0, j1, j2, j3, j4, j5, j6, j7, j8, j9] (.null :: st) h Q) ∧
  (∀ (L : pb_L) (J : pb_J) (st : List Value) (h : pb_H) (Q : Option Value → pb_H → Prop) (a : Nat), pb_R 158 59 L J (.ref a :: st) h Q ↔ pb_o (pb_gf (h.2 a) 12 13) (fun v => pb_R 158 62 L J (v :: st) h Q)) ∧
  (∀ (l0 l1 l2 l3 l4 l6 l7 l8 l9 : Option Value) (j0 j1 j2 j3 j4 j5 j6 j7 j8 j9 : Option Int64) (st : List Value) (h : pb_H) (Q : Option Value → pb_H → Prop) (x : Int32), pb_R 158 62 [l0, l1, l2, l3, l4, some (.int x), l6, l7, l8, l9] [j0, j1, j2, j3, j4, j5, j6, j7, j8, j9] st h Q ↔ pb_R 158 64 [l0, l1, l2, l3, l4, some (.int x), l6, l7, l8, l9] [j0, j1, j2, j3, j4, j5, j6, j7, j8, j9] (.int x :: st) h Q) ∧
  (∀ (l0 l1 l2 l3 l4 l6 l7 l8 l9 : Option Value) (j0 j1 j2 j3 j4 j5 j6 j7 j8 j9 : Option Int64) (st : List Value) (h : pb_H) (Q : Option Value → pb_H → Prop) (x : Int32), pb_R 158 64 [l0, l1, l2, l3, l4, some (.int x), l6, l7, l8, l9] [j0, j1, j2, j3, j4, j5, j6, j7, j8, j9] st h Q ↔ pb_R 158 66 [l0, l1, l2, l3, l4, some (.int x), l6, l7, l8, l9] [j0, j1, j2, j3, j4, j5, j6, j7, j8, j9] (.int x :: st) h Q) ∧
  (∀ (L : pb_L) (J : pb_J) (st : List Value) (h : pb_H) (Q : Option Value → pb_H → Prop), pb_R 158 66 L J st h Q ↔ pb_R 158 68 L J (.int (20 : Int32) :: st) h Q) ∧
  (∀ (L : pb_L) (J : pb_J) (st : List Value) (h : pb_H) (Q : Option Value → pb_H → Prop) (x y : Int32), pb_R 158 68 L J (.int y :: .int x :: st) h Q ↔ if y ≤ x then pb_R 158 83 L J st h Q else pb_R 158 71 L J st h Q) ∧
  (∀ (l1 l2 l3 l4 l5 l6 l7 l8 l9 : Option Value) (j0 j1 j2 j3 j4 j5 j6 j7 j8 j9 : Option Int64) (st : List Value) (h : pb_H) (Q : Option Value → pb_H → Prop) (x : Nat), pb_R 158 71 [some (.ref x), l1, l2, l3, l4, l5, l6, l7, l8, l9] [j0, j1, j2, j3, j4, j5, j6, j7, j8, j9] st h Q ↔ pb_R 158 72 [some (.ref x), l1, l2, l3, l4, l5, l6, l7, l8, l9] [j0, j1, j2, j3, j4, j5, j6, j7, j8, j9] (.ref x :: st) h Q) ∧
  (∀ (l1 l2 l3 l4 l5 l6 l7 l8 l9 : Option Value) (j0 j1 j2 j3 j4 j5 j6 j7 j8 j9 : Option Int64) (st : List Value) (h : pb_H) (Q : Option Value → pb_H → Prop), pb_R 158 71 [some .null, l1, l2, l3, l4, l5, l6, l7, l8, l9] [j0, j1, j2, j3, j4, j5, j6, j7, j8, j9] st h Q ↔ pb_R 158 72 [some .null, l1, l2, l3, l4, l5, l6, l7, l8, l9] [j0, j1, j2, j3, j4, j5, j6, j7, j8, j9] (.null :: st) h Q) ∧
  (∀ (L : pb_L) (J : pb_J) (st : List Value) (h : pb_H) (Q : Option Value → pb_H → Prop) (a : Nat), pb_R 158 72 L J (.ref a :: st) h Q ↔ pb_o (pb_gf (h.2 a) 12 0) (fun v => pb_R 158 75 L J (v :: st) h Q)) ∧
  (∀ (l0 l1 l3 l4 l5 l6 l7 l8 l9 : Option Value) (j0 j1 j2 j3 j4 j5 j6 j7 j8 j9 : Option Int64) (st : List Value) (h : pb_H) (Q : Option Value → pb_H → Prop) (x : Int32), pb_R 158 75 [l0, l1, some (.int x), l3, l4, l5, l6, l7, l8, l9] [j0, j1, j2, j3, j4, j5, j6, j7, j8, j9] st h Q ↔ pb_R 158 76 [l0, l1, some (.int x), l3, l4, l5, l6, l7, l8, l9] [j0, j1, j2, j3, j4, j5, j6, j7, j8, j9] (.int x :: st) h Q) ∧
  (∀ (l0 l1 l2 l3 l4 l6 l7 l8 l9 : Option Value) (j0 j1 j2 j3 j4 j5 j6 j7 j8 j9 : Option Int64) (st : List Value) (h : pb_H) (Q : Option Value → pb_H → Prop) (x : Int32), pb_R 158 76 [l0, l1, l2, l3, l4, some (.int x), l6, l7, l8, l9] [j0, j1, j2, j3, j4, j5, j6, j7, j8, j9] st h Q ↔ pb_R 158 78 [l0, l1, l2, l3, l4, some (.int x), l6, l7, l8, l9] [j0, j1, j2, j3, j4, j5, j6, j7, j8, j9] (.int x :: st) h Q) ∧
  (∀ (L : pb_L) (J : pb_J) (st : List Value) (x y : Int32) (h : pb_H) (Q : Option Value → pb_H → Prop), pb_R 158 78 L J (.int y :: .int x :: st) h Q ↔ pb_R 158 79 L J (.int (x + y) :: st) h Q) ∧
  (∀ (L : pb_L) (J : pb_J) (st : List Value) (h : pb_H) (Q : Option Value → pb_H → Prop) (a : Nat) (i : Int32), pb_R 158 79 L J (.int i :: .ref a :: st) h Q ↔ pb_o (pb_ai (h.2 a) i) (fun v => pb_R 158 80 L J (.int v :: st) h Q)) ∧
  (∀ (L : pb_L) (J : pb_J) (st : List Value) (h : pb_H) (Q : Option Value → pb_H → Prop), pb_R 158 80 L J st h Q ↔ pb_R 158 84 L J st h Q) ∧
  (∀ (L : pb_L) (J : pb_J) (st : List Value) (h : pb_H) (Q : Option Value → pb_H → Prop), pb_R 158 83 L J st h Q ↔ pb_R 158 84 L J (.int (0 : Int32) :: st) h Q) ∧
  (∀ (L : pb_L) (J : pb_J) (st : List Value) (h : pb_H) (Q : Option Value → pb_H → Prop) (a : Nat) (i x : Int32), pb_R 158 84 L J (.int x :: .int i :: .ref a :: st) h Q ↔ pb_o (pb_si (h.2 a) i x) (fun c => pb_R 158 85 L J st (pb_set h a c) Q)) ∧
  (∀ (l0 l1 l2 l3 l4 l6 l7 l8 l9 : Option Value) (j0 j1 j2 j3 j4 j5 j6 j7 j8 j9 : Option Int64) (st : List Value) (h : pb_H) (Q : Option Value → pb_H → Prop) (x : Int32), pb_R 158 85 [l0, l1, l2, l3, l4, some (.int x), l6, l7, l8, l9] [j0, j1, j2, j3, j4, j5, j6, j7, j8, j9] st h Q ↔ pb_R 158 88 [l0, l1, l2, l3, l4, some (.int (x + (1 : Int32))), l6, l7, l8, l9] [j0, j1, j2, j3, none, none, j6, j7, j8, j9] st h Q) ∧
  (∀ (L : pb_L) (J : pb_J) (st : List Value) (h : pb_H) (Q : Option Value → pb_H → Prop), pb_R 158 88 L J st h Q ↔ pb_R 158 16 L J st h Q) ∧
  (∀ (l1 l2 l3 l4 l5 l6 l7 l8 l9 : Option Value) (j0 j1 j2 j3 j4 j5 j6 j7 j8 j9 : Option Int64) (st : List Value) (h : pb_H) (Q : Option Value → pb_H → Prop) (x : Nat), pb_R 158 91 [some (.ref x), l1, l2, l3, l4, l5, l6, l7, l8, l9] [j0, j1, j2, j3, j4, j5, j6, j7, j8, j9] st h Q ↔ pb_R 158 92 [some (.ref x), l1, l2, l3, l4, l5, l6, l7, l8, l9] [j0, j1, j2, j3, j4, j5, j6, j7, j8, j9] (.ref x :: st) h Q) ∧
  (∀ (l1 l2 l3 l4 l5 l6 l7 l8 l9 : Option Value) (j0 j1 j2 j3 j4 j5 j6 j7 j8 j9 : Option Int64) (st : List Value) (h : pb_H) (Q : Option Value → pb_H → Prop), pb_R 158 91 [some .null, l1, l2, l3, l4, l5, l6, l7, l8, l9] [j0, j1, j2, j3, j4, j5, j6, j7, j8, j9] st h Q ↔ pb_R 158 92 [some .null, l1, l2, l3, l4, l5, l6, l7, l8, l9] [j0, j1, j2, j3, j4, j5, j6, j7, j8, j9] (.null :: st) h Q) ∧
  (∀ (L : pb_L) (J : pb_J) (st : List Value) (h : pb_H) (Q : Option Value → pb_H → Prop) (a : Nat), pb_R 158 92 L J (.ref a :: st) h Q ↔ pb_o (pb_gf (h.2 a) 12 12) (fun v => pb_R 158 95 L J (v :: st) h Q)) ∧
  (∀ (L : pb_L) (J : pb_J) (st : List Value) (h : pb_H) (Q : Option Value → pb_H → Prop), pb_R 158 95 L J st h Q ↔ pb_R 158 97 L J (.int (21 : Int32) :: st) h Q) ∧
  (∀ (L : pb_L) (J : pb_J) (st : List Value) (h : pb_H) (Q : Option Value → pb_H → Prop), pb_R 158 97 L J st h Q ↔ pb_R 158 98 L J (.int (0 : Int32) :: st) h Q) ∧
  (∀ (L : pb_L) (J : pb_J) (st : List Value) (h : pb_H) (Q : Option Value → pb_H → Prop) (a : Nat) (i x : Int32), pb_R 158 98 L J (.int x :: .int i :: .ref a :: st) h Q ↔ pb_o (pb_si (h.2 a) i x) (fun c => pb_R 158 99 L J st (pb_set h a c) Q)) ∧
  (∀ (l0 l1 l2 l3 l5 l6 l7 l8 l9 : Option Value) (j0 j1 j2 j3 j4 j5 j6 j7 j8 j9 : Option Int64) (st : List Value) (h : pb_H) (Q : Option Value → pb_H → Prop) (x : Int32), pb_R 158 99 [l0, l1, l2, l3, some (.int x), l5, l6, l7, l8, l9] [j0, j1, j2, j3, j4, j5, j6, j7, j8, j9] st h Q ↔ pb_R 158 101 [l0, l1, l2, l3, some (.int x), l5, l6, l7, l8, l9] [j0, j1, j2, j3, j4, j5, j6, j7, j8, j9] (.int x :: st) h Q) ∧
  (∀ (L : pb_L) (J : pb_J) (st : List Value) (h : pb_H) (Q : Option Value → pb_H → Prop), pb_R 158 101 L J st h Q ↔ pb_R 158 102 L J (.int (1 : Int32) :: st) h Q) ∧
  (∀ (L : pb_L) (J : pb_J) (st : List Value) (h : pb_H) (Q : Option Value → pb_H → Prop) (x y : Int32), pb_R 158 102 L J (.int y :: .int x :: st) h Q ↔ if ¬ x = y then pb_R 158 188 L J st h Q else pb_R 158 105 L J st h Q) ∧
  (∀ (L : pb_L) (J : pb_J) (st : List Value) (h : pb_H) (Q : Option Value → pb_H → Prop), pb_R 158 105 L J st h Q ↔ pb_R 158 106 L J (.long (0 : Int64) :: st) h Q) ∧
  (∀ (l0 l1 l2 l3 l4 l5 l6 l7 l8 l9 : Option Value) (j0 j1 j2 j3 j4 j5 j6 j7 j8 j9 : Option Int64) (st : List Value) (h : pb_H) (Q : Option Value → pb_H → Prop) (x : Int64), pb_R 158 106 [l0, l1, l2, l3, l4, l5, l6, l7, l8, l9] [j0, j1, j2, j3, j4, j5, j6, j7, j8, j9] (.long x :: st) h Q ↔ pb_R 158 108 [l0, l1, l2, l3, l4, none, none, l7, l8, l9] [j0, j1, j2, j3, none, some x, none, j7, j8, j9] st h Q) ∧
  (∀ (l0 l1 l2 l4 l5 l6 l7 l8 l9 : Option Value) (j0 j1 j2 j3 j4 j5 j6 j7 j8 j9 : Option Int64) (st : List Value) (h : pb_H) (Q : Option Value → pb_H → Prop) (x : Int32), pb_R 158 108 [l0, l1, l2, some (.int x), l4, l5, l6, l7, l8, l9] [j0, j1, j2, j3, j4, j5, j6, j7, j8, j9] st h Q ↔ pb_R 158 109 [l0, l1, l2, some (.int x), l4, l5, l6, l7, l8, l9] [j0, j1, j2, j3, j4, j5, j6, j7, j8, j9] (.int x :: st) h Q) ∧
  (∀ (L : pb_L) (J : pb_J) (st : List Value) (h : pb_H) (Q : Option Value → pb_H → Prop), pb_R 158 109 L J st h Q ↔ pb_R 158 110 L J (.int (1 : Int32) :: st) h Q) ∧
  (∀ (L : pb_L) (J : pb_J) (st : List Value) (x y : Int32) (h : pb_H) (Q : Option Value → pb_H → Prop), pb_R 158 110 L J (.int y :: .int x :: st) h Q ↔ pb_R 158 111 L J (.int (x - y) :: st) h Q) ∧
  (∀ (l0 l1 l2 l3 l4 l5 l6 l7 l8 l9 : Option Value) (j0 j1 j2 j3 j4 j5 j6 j7 j8 j9 : Option Int64) (st : List Value) (h : pb_H) (Q : Option Value → pb_H → Prop) (x : Int32), pb_R 158 111 [l0, l1, l2, l3, l4, l5, l6, l7, l8, l9] [j0, j1, j2, j3, j4, j5, j6, j7, j8, j9] (.int x :: st) h Q ↔ pb_R 158 113 [l0, l1, l2, l3, l4, l5, l6, some (.int x), l8, l9] [j0, j1, j2, j3, j4, j5, none, none, j8, j9] st h Q) ∧
  (∀ (L : pb_L) (J : pb_J) (st : List Value) (h : pb_H) (Q : Option Value → pb_H → Prop) (x : Int32), pb_R 158 115 L J (.int x :: st) h Q ↔ if x < 0 then pb_R 158 171 L J st h Q else pb_R 158 118 L J st h Q) ∧
  (∀ (l0 l1 l2 l3 l4 l5 l6 l7 l8 l9 : Option Value) (j0 j1 j2 j3 j4 j6 j7 j8 j9 : Option Int64) (st : List Value) (h : pb_H) (Q : Option Value → pb_H → Prop) (x : Int64), pb_R 158 118 [l0, l1, l2, l3, l4, l5, l6, l7, l8, l9] [j0, j1, j2, j3, j4, some x, j6, j7, j8, j9] st h Q ↔ pb_R 158 120 [l0, l1, l2, l3, l4, l5, l6, l7, l8, l9] [j0, j1, j2, j3, j4, some x, j6, j7, j8, j9] (.long x :: st) h Q) ∧
  (∀ (L : pb_L) (J : pb_J) (st : List Value) (h : pb_H) (Q : Option Value → pb_H → Prop), pb_R 158 120 L J st h Q ↔ pb_R 158 123 L J (.long (65536 : Int64) :: st) h Q) ∧
  (∀ (L : pb_L) (J : pb_J) (st : List Value) (x y : Int64) (h : pb_H) (Q : Option Value → pb_H → Prop), pb_R 158 123 L J (.long y :: .long x :: st) h Q ↔ pb_R 158 124 L J (.long (x * y) :: st) h Q) ∧
  (∀ (l1 l2 l3 l4 l5 l6 l7 l8 l9 : Option Value) (j0 j1 j2 j3 j4 j5 j6 j7 j8 j9 : Option Int64) (st : List Value) (h : pb_H) (Q : Option Value → pb_H → Prop) (x : Nat), pb_R 158 124 [some (.ref x), l1, l2, l3, l4, l5, l6, l7, l8, l9] [j0, j1, j2, j3, j4, j5, j6, j7, j8, j9] st h Q ↔ pb_R 158 125 [some (.ref x), l1, l2, l3, l4, l5, l6, l7, l8, l9] [j0, j1, j2, j3, j4, j5, j6, j7, j8, j9] (.ref x :: st) h Q) ∧
  (∀ (l1 l2 l3 l4 l5 l6 l7 l8 l9 : Option Value) (j0 j1 j2 j3 j4 j5 j6 j7 j8 j9 : Option Int64) (st : List Value) (h : pb_H) (Q : Option Value → pb_H → Prop), pb_R 158 124 [some .null, l1, l2, l3, l4, l5, l6, l7, l8, l9] [j0, j1, j2, j3, j4, j5, j6, j7, j8, j9] st h Q ↔ pb_R 158 125 [some .null, l1, l2, l3, l4, l5, l6, l7, l8, l9] [j0, j1, j2, j3, j4, j5, j6, j7, j8, j9] (.null :: st) h Q) ∧
  (∀ (L : pb_L) (J : pb_J) (st : List Value) (h : pb_H) (Q : Option Value → pb_H → Prop) (a : Nat), pb_R 158 125 L J (.ref a :: st) h Q ↔ pb_o (pb_gf (h.2 a) 12 12) (fun v => pb_R 158 128 L J (v :: st) h Q)) ∧
  (∀ (l0 l1 l2 l3 l4 l5 l6 l8 l9 : Option Value) (j0 j1 j2 j3 j4 j5 j6 j7 j8 j9 : Option Int64) (st : List Value) (h : pb_H) (Q : Option Value → pb_H → Prop) (x : Int32), pb_R 158 128 [l0, l1, l2, l3, l4, l5, l6, some (.int x), l8, l9] [j0, j1, j2, j3, j4, j5, j6, j7, j8, j9] st h Q ↔ pb_R 158 130 [l0, l1, l2, l3, l4, l5, l6, some (.int x), l8, l9] [j0, j1, j2, j3, j4, j5, j6, j7, j8, j9] (.int x :: st) h Q) ∧
  (∀ (L : pb_L) (J : pb_J) (st : List Value) (h : pb_H) (Q : Option Value → pb_H → Prop) (a : Nat) (i : Int32), pb_R 158 130 L J (.int i :: .ref a :: st) h Q ↔ pb_o (pb_ai (h.2 a) i) (fun v => pb_R 158 131 L J (.int v :: st) h Q)) ∧
  (∀ (L : pb_L) (J : pb_J) (st : List Value) (x : Int32) (h : pb_H) (Q : Option Value → pb_H → Prop), pb_R 158 131 L J (.int x :: st) h Q ↔ pb_R 158 132 L J (.long x.toInt64 :: st) h Q) ∧
  (∀ (L : pb_L) (J : pb_J) (st : List Value) (x y : Int64) (h : pb_H) (Q : Option Value → pb_H → Prop), pb_R 158 132 L J (.long y :: .long x :: st) h Q ↔ pb_R 158 133 L J (.long (x + y) :: st) h Q) ∧
  (∀ (l0 l1 l2 l3 l4 l5 l6 l7 l8 l9 : Option Value) (j0 j1 j2 j3 j4 j5 j6 j7 j8 j9 : Option Int64) (st : List Value) (h : pb_H) (Q : Option Value → pb_H → Prop) (x : Int64), pb_R 158 133 [l0, l1, l2, l3, l4, l5, l6, l7, l8, l9] [j0, j1, j2, j3, j4, j5, j6, j7, j8, j9] (.long x :: st) h Q ↔ pb_R 158 135 [l0, l1, l2, l3, l4, l5, l6, l7, none, none] [j0, j1, j2, j3, j4, j5, j6, none, some x, none] st h Q) ∧
  (∀ (l1 l2 l3 l4 l5 l6 l7 l8 l9 : Option Value) (j0 j1 j2 j3 j4 j5 j6 j7 j8 j9 : Option Int64) (st : List Value) (h : pb_H) (Q : Option Value → pb_H → Prop) (x : Nat), pb_R 158 135 [some (.ref x), l1, l2, l3, l4, l5, l6, l7, l8, l9] [j0, j1, j2, j3, j4, j5, j6, j7, j8, j9] st h Q ↔ pb_R 158 136 [some (.ref x), l1, l2, l3, l4, l5, l6, l7, l8, l9] [j0, j1, j2, j3, j4, j5, j6, j7, j8, j9] (.ref x :: st) h Q) ∧
  (∀ (l1 l2 l3 l4 l5 l6 l7 l8 l9 : Option Value) (j0 j1 j2 j3 j4 j5 j6 j7 j8 j9 : Option Int64) (st : List Value) (h : pb_H) (Q : Option Value → pb_H → Prop), pb_R 158 135 [some .null, l1, l2, l3, l4, l5, l6, l7, l8, l9] [j0, j1, j2, j3, j4, j5, j6, j7, j8, j9] st h Q ↔ pb_R 158 136 [some .null, l1, l2, l3, l4, l5, l6, l7, l8, l9] [j0, j1, j2, j3, j4, j5, j6, j7, j8, j9] (.null :: st) h Q) ∧
  (∀ (L : pb_L) (J : pb_J) (st : List Value) (h : pb_H) (Q : Option Value → pb_H → Prop) (a : Nat), pb_R 158 136 L J (.ref a :: st) h Q ↔ pb_o (pb_gf (h.2 a) 12 11) (fun v => pb_R 158 139 L J (v :: st) h Q)) ∧
  (∀ (l0 l1 l2 l3 l4 l5 l6 l8 l9 : Option Value) (j0 j1 j2 j3 j4 j5 j6 j7 j8 j9 : Option Int64) (st : List Value) (h : pb_H) (Q : Option Value → pb_H → Prop) (x : Int32), pb_R 158 139 [l0, l1, l2, l3, l4, l5, l6, some (.int x), l8, l9] [j0, j1, j2, j3, j4, j5, j6, j7, j8, j9] st h Q ↔ pb_R 158 141 [l0, l1, l2, l3, l4, l5, l6, some (.int x), l8, l9] [j0, j1, j2, j3, j4, j5, j6, j7, j8, j9] (.int x :: st) h Q) ∧
  (∀ (l0 l1 l2 l3 l4 l5 l6 l7 l8 l9 : Option Value) (j0 j1 j2 j3 j4 j5 j6 j7 j9 : Option Int64) (st : List Value) (h : pb_H) (Q : Option Value → pb_H → Prop) (x : Int64), pb_R 158 141 [l0, l1, l2, l3, l4, l5, l6, l7, l8, l9] [j0, j1, j2, j3, j4, j5, j6, j7, some x, j9] st h Q ↔ pb_R 158 143 [l0, l1, l2, l3, l4, l5, l6, l7, l8, l9] [j0, j1, j2, j3, j4, j5, j6, j7, some x, j9] (.long x :: st) h Q) ∧
  (∀ (l1 l2 l3 l4 l5 l6 l7 l8 l9 : Option Value) (j0 j1 j2 j3 j4 j5 j6 j7 j8 j9 : Option Int64) (st : List Value) (h : pb_H) (Q : Option Value → pb_H → Prop) (x : Nat), pb_R 158 143 [some (.ref x), l1, l2, l3, l4, l5, l6, l7, l8, l9] [j0, j1, j2, j3, j4, j5, j6, j7, j8, j9] st h Q ↔ pb_R 158 144 [some (.ref x), l1, l2, l3, l4, l5, l6, l7, l8, l9] [j0, j1, j2, j3, j4, j5, j6, j7, j8, j9] (.ref x :: st) h Q) ∧
  (∀ (l1 l2 l3 l4 l5 l6 l7 l8 l9 : Option Value) (j0 j1 j2 j3 j4 j5 j6 j7 j8 j9 : Option Int64) (st : List Value) (h : pb_H) (Q : Option Value → pb_H → Prop), pb_R 158 143 [some .null, l1, l2, l3, l4, l5, l6, l7, l8, l9] [j0, j1, j2, j3, j4, j5, j6, j7, j8, j9] st h Q ↔ pb_R 158 144 [some .null, l1, l2, l3, l4, l5, l6, l7, l8, l9] [j0, j1, j2, j3, j4, j5, j6, j7, j8, j9] (.null :: st) h Q) ∧
  (∀ (L : pb_L) (J : pb_J) (st : List Value) (h : pb_H) (Q : Option Value → pb_H → Prop) (a : Nat), pb_R 158 144 L J (.ref a :: st) h Q ↔ pb_o (pb_gf (h.2 a) 12 13) (fun v => pb_R 158 147 L J (v :: st) h Q)) ∧
  (∀ (L : pb_L) (J : pb_J) (st : List Value) (h : pb_H) (Q : Option Value → pb_H → Prop), pb_R 158 147 L J st h Q ↔ pb_R 158 148 L J (.int (0 : Int32) :: st) h Q) ∧
  (∀ (L : pb_L) (J : pb_J) (st : List Value) (h : pb_H) (Q : Option Value → pb_H → Prop) (a : Nat) (i : Int32), pb_R 158 148 L J (.int i :: .ref a :: st) h Q ↔ pb_o (pb_ai (h.2 a) i) (fun v => pb_R 158 149 L J (.int v :: st) h Q)) ∧
  (∀ (L : pb_L) (J : pb_J) (st : List Value) (x : Int32) (h : pb_H) (Q : Option Value → pb_H → Prop), pb_R 158 149 L J (.int x :: st) h Q ↔ pb_R 158 150 L J (.long x.toInt64 :: st) h Q) ∧
  (∀ (L : pb_L) (J : pb_J) (st : List Value) (h : pb_H) (Q : Option Value → pb_H → Prop) (x y : Int64), pb_R 158 150 L J (.long y :: .long x :: st) h Q ↔ (¬ y = 0) ∧ pb_R 158 151 L J (.long (x / y) :: st) h Q) ∧
  (∀ (L : pb_L) (J : pb_J) (st : List Value) (x : Int64) (h : pb_H) (Q : Option Value → pb_H → Prop), pb_R 158 151 L J (.long x :: st) h Q ↔ pb_R 158 152 L J (.int x.toInt32 :: st) h Q) ∧
  (∀ (L : pb_L) (J : pb_J) (st : List Value) (h : pb_H) (Q : Option Value → pb_H → Prop) (a : Nat) (i x : Int32), pb_R 158 152 L J (.int x :: .int i :: .ref a :: st) h Q ↔ pb_o (pb_si (h.2 a) i x) (fun c => pb_R 158 153 L J st (pb_set h a c) Q)) ∧
  (∀ (l0 l1 l2 l3 l4 l5 l6 l7 l8 l9 : Option Value) (j0 j1 j2 j3 j4 j5 j6 j7 j9 : Option Int64) (st : List Value) (h : pb_H) (Q : Option Value → pb_H → Prop) (x : Int64), pb_R 158 153 [l0, l1, l2, l3, l4, l5, l6, l7, l8, l9] [j0, j1, j2, j3, j4, j5, j6, j7, some x, j9] st h Q ↔ pb_R 158 155 [l0, l1, l2, l3, l4, l5, l6, l7, l8, l9] [j0, j1, j2, j3, j4, j5, j6, j7, some x, j9] (.long x :: st) h Q) ∧
  (∀ (l1 l2 l3 l4 l5 l6 l7 l8 l9 : Option Value) (j0 j1 j2 j3 j4 j5 j6 j7 j8 j9 : Option Int64) (st : List Value) (h : pb_H) (Q : Option Value → pb_H → Prop) (x : Nat), pb_R 158 155 [some (.ref x), l1, l2, l3, l4, l5, l6, l7, l8, l9] [j0, j1, j2, j3, j4, j5, j6, j7, j8, j9] st h Q ↔ pb_R 158 156 [some (.ref x), l1, l2, l3, l4, l5, l6, l7, l8, l9] [j0, j1, j2, j3, j4, j5, j6, j7, j8, j9] (.ref x :: st) h Q) ∧
  (∀ (l1 l2 l3 l4 l5 l6 l7 l8 l9 : Option Value) (j0 j1 j2 j3 j4 j5 j6 j7 j8 j9 : Option Int64) (st : List Value) (h : pb_H) (Q : Option Value → pb_H → Prop), pb_R 158 155 [some .null, l1, l2, l3, l4, l5, l6, l7, l8, l9] [j0, j1, j2, j3, j4, j5, j6, j7, j8, j9] st h Q ↔ pb_R 158 156 [some .null, l1, l2, l3, l4, l5, l6, l7, l8, l9] [j0, j1, j2, j3, j4, j5, j6, j7, j8, j9] (.null :: st) h Q) ∧
  (∀ (L : pb_L) (J : pb_J) (st : List Value) (h : pb_H) (Q : Option Value → pb_H → Prop) (a : Nat), pb_R 158 156 L J (.ref a :: st) h Q ↔ pb_o (pb_gf (h.2 a) 12 13) (fun v => pb_R 158 159 L J (v :: st) h Q)) ∧
  (∀ (L : pb_L) (J : pb_J) (st : List Value) (h : pb_H) (Q : Option Value → pb_H → Prop), pb_R 158 159 L J st h Q ↔ pb_R 158 160 L J (.int (0 : Int32) :: st) h Q) ∧
  (∀ (L : pb_L) (J : pb_J) (st : List Value) (h : pb_H) (Q : Option Value → pb_H → Prop) (a : Nat) (i : Int32), pb_R 158 160 L J (.int i :: .ref a :: st) h Q ↔ pb_o (pb_ai (h.2 a) i) (fun v => pb_R 158 161 L J (.int v :: st) h Q)) ∧
  (∀ (L : pb_L) (J : pb_J) (st : List Value) (x : Int32) (h : pb_H) (Q : Option Value → pb_H → Prop), pb_R 158 161 L J (.int x :: st) h Q ↔ pb_R 158 162 L J (.long x.toInt64 :: st) h Q) ∧
  (∀ (L : pb_L) (J : pb_J) (st : List Value) (h : pb_H) (Q : Option Value → pb_H → Prop) (x y : Int64), pb_R 158 162 L J (.long y :: .long x :: st) h Q ↔ (¬ y = 0) ∧ pb_R 158 163 L J (.long (x - x / y * y) :: st) h Q) ∧
  (∀ (l0 l1 l2 l3 l4 l5 l6 l7 l8 l9 : Option Value) (j0 j1 j2 j3 j4 j5 j6 j7 j8 j9 : Option Int64) (st : List Value) (h : pb_H) (Q : Option Value → pb_H → Prop) (x : Int64), pb_R 158 163 [l0, l1, l2, l3, l4, l5, l6, l7, l8, l9] [j0, j1, j2, j3, j4, j5, j6, j7, j8, j9] (.long x :: st) h Q ↔ pb_R 158 165 [l0, l1, l2, l3, l4, none, none, l7, l8, l9] [j0, j1, j2, j3, none, some x, none, j7, j8, j9] st h Q) ∧
  (∀ (l0 l1 l2 l3 l4 l5 l6 l8 l9 : Option Value) (j0 j1 j2 j3 j4 j5 j6 j7 j8 j9 : Option Int64) (st : List Value) (h : pb_H) (Q : Option Value → pb_H → Prop) (x : Int32), pb_R 158 165 [l0, l1, l2, l3, l4, l5, l6, some (.int x), l8, l9] [j0, j1, j2, j3, j4, j5, j6, j7, j8, j9] st h Q ↔ pb_R 158 168 [l0, l1, l2, l3, l4, l5, l6, some (.int (x + (-1 : Int32))), l8, l9] [j0, j1, j2, j3, j4, j5, none, none, j8, j9] st h Q) ∧
  (∀ (L : pb_L) (J : pb_J) (st : List Value) (h : pb_H) (Q : Option Value → pb_H → Prop), pb_R 158 168 L J st h Q ↔ pb_R 158 113 L J st h Q) ∧
  (∀ (l1 l2 l3 l4 l5 l6 l7 l8 l9 : Option Value) (j0 j1 j2 j3 j4 j5 j6 j7 j8 j9 : Option Int64) (st : List Value) (h : pb_H) (Q : Option Value → pb_H → Prop) (x : Nat), pb_R 158 171 [some (.ref x), l1, l2, l3, l4, l5, l6, l7, l8, l9] [j0, j1, j2, j3, j4, j5, j6, j7, j8, j9] st h Q ↔ pb_R 158 172 [some (.ref x), l1, l2, l3, l4, l5, l6, l7, l8, l9] [j0, j1, j2, j3, j4, j5, j6, j7, j8, j9] (.ref x :: st) h Q) ∧
  (∀ (l1 l2 l3 l4 l5 l6 l7 l8 l9 : Option Value) (j0 j1 j2 j3 j4 j5 j6 j7 j8 j9 : Option Int64) (st : List Value) (h : pb_H) (Q : Option Value → pb_H → Prop), pb_R 158 171 [some .null, l1, l2, l3, l4, l5, l6, l7, l8, l9] [j0, j1, j2, j3, j4, j5, j6, j7, j8, j9] st h Q ↔ pb_R 158 172 [some .null, l1, l2, l3, l4, l5, l6, l7, l8, l9] [j0, j1, j2, j3, j4, j5, j6, j7, j8, j9] (.null :: st) h Q) ∧
  (∀ (l0 l1 l2 l3 l4 l5 l6 l7 l8 l9 : Option Value) (j0 j1 j2 j3 j4 j6 j7 j8 j9 : Option Int64) (st : List Value) (h : pb_H) (Q : Option Value → pb_H → Prop) (x : Int64), pb_R 158 172 [l0, l1, l2, l3, l4, l5, l6, l7, l8, l9] [j0, j1, j2, j3, j4, some x, j6, j7, j8, j9] st h Q ↔ pb_R 158 174 [l0, l1, l2, l3, l4, l5, l6, l7, l8, l9] [j0, j1, j2, j3, j4, some x, j6, j7, j8, j9] (.long x :: st) h Q) ∧
  (∀ (L : pb_L) (J : pb_J) (st : List Value) (h : pb_H) (Q : Option Value → pb_H → Prop), pb_R 158 174 L J st h Q ↔ pb_R 158 175 L J (.long (0 : Int64) :: st) h Q) ∧
  (∀ (L : pb_L) (J : pb_J) (st : List Value) (x y : Int64) (h : pb_H) (Q : Option Value → pb_H → Prop), pb_R 158 175 L J (.long y :: .long x :: st) h Q ↔ pb_R 158 176 L J (.int (lg_cmp x y) :: st) h Q) ∧
  (∀ (L : pb_L) (J : pb_J) (st : List Value) (h : pb_H) (Q : Option Value → pb_H → Prop) (x : Int32), pb_R 158 176 L J (.int x :: st) h Q ↔ if ¬ x = 0 then pb_R 158 183 L J st h Q else pb_R 158 179 L J st h Q) ∧
  (∀ (L : pb_L) (J : pb_J) (st : List Value) (h : pb_H) (Q : Option Value → pb_H → Prop), pb_R 158 179 L J st h Q ↔ pb_R 158 180 L J (.int (1 : Int32) :: st) h Q) ∧
  (∀ (L : pb_L) (J : pb_J) (st : List Value) (h : pb_H) (Q : Option Value → pb_H → Prop), pb_R 158 180 L J st h Q ↔ pb_R 158 184 L J st h Q) ∧
  (∀ (L : pb_L) (J : pb_J) (st : List Value) (h : pb_H) (Q : Option Value → pb_H → Prop), pb_R 158 183 L J st h Q ↔ pb_R 158 184 L J (.int (0 : Int32) :: st) h Q) ∧
  (∀ (L : pb_L) (J : pb_J) (st : List Value) (h : pb_H) (Q : Option Value → pb_H → Prop) (a : Nat) (x : Int32), pb_R 158 184 L J (.int x :: .ref a :: st) h Q ↔ pb_o (pb_pf (h.2 a) 12 14 (.int x)) (fun c => pb_R 158 187 L J st (pb_set h a c) Q)) ∧
  (∀ (L : pb_L) (J : pb_J) (h : pb_H) (Q : Option Value → pb_H → Prop), pb_R 158 187 L J [] h Q ↔ Q none h) ∧
  (∀ (L : pb_L) (J : pb_J) (st : List Value) (h : pb_H) (Q : Option Value → pb_H → Prop), pb_R 158 188 L J st h Q ↔ pb_R 158 189 L J (.int (0 : Int32) :: st) h Q) ∧
  (∀ (l0 l1 l2 l3 l4 l5 l6 l7 l8 l9 : Option Value) (j0 j1 j2 j3 j4 j5 j6 j7 j8 j9 : Option Int64) (st : List Value) (h : pb_H) (Q : Option Value → pb_H → Prop) (x : Int32), pb_R 158 189 [l0, l1, l2, l3, l4, l5, l6, l7, l8, l9] [j0, j1, j2, j3, j4, j5, j6, j7, j8, j9] (.int x :: st) h Q ↔ pb_R 158 191 [l0, l1, l2, l3, l4, some (.int x), l6, l7, l8, l9] [j0, j1, j2, j3, none, none, j6, j7, j8, j9] st h Q) ∧
  (∀ (L : pb_L) (J : pb_J) (st : List Value) (h : pb_H) (Q : Option Value → pb_H → Prop) (a : Nat), pb_R 158 192 L J (.ref a :: st) h Q ↔ pb_o (pb_gf (h.2 a) 12 13) (fun v => pb_R 158 195 L J (v :: st) h Q)) ∧
  (∀ (l0 l1 l2 l3 l5 l6 l7 l8 l9 : Option Value) (j0 j1 j2 j3 j4 j5 j6 j7 j8 j9 : Option Int64) (st : List Value) (h : pb_H) (Q : Option Value → pb_H → Prop) (x : Int32), pb_R 158 195 [l0, l1, l2, l3, some (.int x), l5, l6, l7, l8, l9] [j0, j1, j2, j3, j4, j5, j6, j7, j8, j9] st h Q ↔ pb_R 158 197 [l0, l1, l2, l3, some (.int x), l5, l6, l7, l8, l9] [j0, j1, j2, j3, j4, j5, j6, j7, j8, j9] (.int x :: st) h Q) ∧
  (∀ (L : pb_L) (J : pb_J) (st : List Value) (h : pb_H) (Q : Option Value → pb_H → Prop), pb_R 158 197 L J st h Q ↔ pb_R 158 198 L J (.int (1 : Int32) :: st) h Q) ∧
  (∀ (L : pb_L) (J : pb_J) (st : List Value) (x y : Int32) (h : pb_H) (Q : Option Value → pb_H → Prop), pb_R 158 198 L J (.int y :: .int x :: st) h Q ↔ pb_R 158 199 L J (.int (x - y) :: st) h Q) ∧
  (∀ (L : pb_L) (J : pb_J) (st : List Value) (h : pb_H) (Q : Option Value → pb_H → Prop) (a : Nat) (i : Int32), pb_R 158 199 L J (.int i :: .ref a :: st) h Q ↔ pb_o (pb_ai (h.2 a) i) (fun v => pb_R 158 200 L J (.int v :: st) h Q)) ∧
  (∀ (l0 l1 l2 l3 l4 l6 l7 l8 l9 : Option Value) (j0 j1 j2 j3 j4 j5 j6 j7 j8 j9 : Option Int64) (st : List Value) (h : pb_H) (Q : Option Value → pb_H → Prop) (x : Int32), pb_R 158 200 [l0, l1, l2, l3, l4, some (.int x), l6, l7, l8, l9] [j0, j1, j2, j3, j4, j5, j6, j7, j8, j9] st h Q ↔ pb_R 158 202 [l0, l1, l2, l3, l4, some (.int x), l6, l7, l8, l9] [j0, j1, j2, j3, j4, j5, j6, j7, j8, j9] (.int x :: st) h Q) ∧
  (∀ (L : pb_L) (J : pb_J) (st : List Value) (x y : Int32) (h : pb_H) (Q : Option Value → pb_H → Prop), pb_R 158 202 L J (.int y :: .int x :: st) h Q ↔ pb_R 158 203 L J (.int (x <<< (y &&& 31)) :: st) h Q) ∧
  (∀ (L : pb_L) (J : pb_J) (st : List Value) (h : pb_H) (Q : Option Value → pb_H → Prop), pb_R 158 203 L J st h Q ↔ pb_R 158 205 L J (.int (32768 : Int32) :: st) h Q) ∧
  (∀ (L : pb_L) (J : pb_J) (st : List Value) (x y : Int32) (h : pb_H) (Q : Option Value → pb_H → Prop), pb_R 158 205 L J (.int y :: .int x :: st) h Q ↔ pb_R 158 206 L J (.int (x &&& y) :: st) h Q) ∧
  (∀ (L : pb_L) (J : pb_J) (st : List Value) (h : pb_H) (Q : Option Value → pb_H → Prop) (x : Int32), pb_R 158 206 L J (.int x :: st) h Q ↔ if ¬ x = 0 then pb_R 158 215 L J st h Q else pb_R 158 209 L J st h Q) ∧
  (∀ (l0 l1 l2 l3 l4 l6 l7 l8 l9 : Option Value) (j0 j1 j2 j3 j4 j5 j6 j7 j8 j9 : Option Int64) (st : List Value) (h : pb_H) (Q : Option Value → pb_H → Prop) (x : Int32), pb_R 158 209 [l0, l1, l2, l3, l4, some (.int x), l6, l7, l8, l9] [j0, j1, j2, j3, j4, j5, j6, j7, j8, j9] st h Q ↔ pb_R 158 212 [l0, l1, l2, l3, l4, some (.int (x + (1 : Int32))), l6, l7, l8, l9] [j0, j1, j2, j3, none, none, j6, j7, j8, j9] st h Q) ∧
  (∀ (L : pb_L) (J : pb_J) (st : List Value) (h : pb_H) (Q : Option Value → pb_H → Prop), pb_R 158 212 L J st h Q ↔ pb_R 158 191 L J st h Q) ∧
  (∀ (l1 l2 l3 l4 l5 l6 l7 l8 l9 : Option Value) (j0 j1 j2 j3 j4 j5 j6 j7 j8 j9 : Option Int64) (st : List Value) (h : pb_H) (Q : Option Value → pb_H → Prop) (x : Nat), pb_R 158 215 [some (.ref x), l1, l2, l3, l4, l5, l6, l7, l8, l9] [j0, j1, j2, j3, j4, j5, j6, j7, j8, j9] st h Q ↔ pb_R 158 216 [some (.ref x), l1, l2, l3, l4, l5, l6, l7, l8, l9] [j0, j1, j2, j3, j4, j5, j6, j7, j8, j9] (.ref x :: st) h Q) ∧
  (∀ (l1 l2 l3 l4 l5 l6 l7 l8 l9 : Option Value) (j0 j1 j2 j3 j4 j5 j6 j7 j8 j9 : Option Int64) (st : List Value) (h : pb_H) (Q : Option Value → pb_H → Prop), pb_R 158 215 [some .null, l1, l2, l3, l4, l5, l6, l7, l8, l9] [j0, j1, j2, j3, j4, j5, j6, j7, j8, j9] st h Q ↔ pb_R 158 216 [some .null, l1, l2, l3, l4, l5, l6, l7, l8, l9] [j0, j1, j2, j3, j4, j5, j6, j7, j8, j9] (.null :: st) h Q) ∧
  (∀ (L : pb_L) (J : pb_J) (st : List Value) (h : pb_H) (Q : Option Value → pb_H → Prop) (a : Nat), pb_R 158 216 L J (.ref a :: st) h Q ↔ pb_o (pb_gf (h.2 a) 12 12) (fun v => pb_R 158 219 L J (v :: st) h Q)) ∧
  (∀ (l0 l1 l2 l4 l5 l6 l7 l8 l9 : Option Value) (j0 j1 j2 j3 j4 j5 j6 j7 j8 j9 : Option Int64) (st : List Value) (h : pb_H) (Q : Option Value → pb_H → Prop) (x : Int32), pb_R 158 219 [l0, l1, l2, some (.int x), l4, l5, l6, l7, l8, l9] [j0, j1, j2, j3, j4, j5, j6, j7, j8, j9] st h Q ↔ pb_R 158 220 [l0, l1, l2, some (.int x), l4, l5, l6, l7, l8, l9] [j0, j1, j2, j3, j4, j5, j6, j7, j8, j9] (.int x :: st) h Q) ∧
  (∀ (L : pb_L) (J : pb_J) (st : List Value) (h : pb_H) (Q : Option Value → pb_H → Prop), pb_R 158 220 L J st h Q ↔ pb_R 158 221 L J (.int (1 : Int32) :: st) h Q) ∧
  (∀ (L : pb_L) (J : pb_J) (st : List Value) (x y : Int32) (h : pb_H) (Q : Option Value → pb_H → Prop), pb_R 158 221 L J (.int y :: .int x :: st) h Q ↔ pb_R 158 222 L J (.int (x + y) :: st) h Q) ∧
  (∀ (l0 l1 l2 l3 l4 l6 l7 l8 l9 : Option Value) (j0 j1 j2 j3 j4 j5 j6 j7 j8 j9 : Option Int64) (st : List Value) (h : pb_H) (Q : Option Value → pb_H → Prop) (x : Int32), pb_R 158 222 [l0, l1, l2, l3, l4, some (.int x), l6, l7, l8, l9] [j0, j1, j2, j3, j4, j5, j6, j7, j8, j9] st h Q ↔ pb_R 158 224 [l0, l1, l2, l3, l4, some (.int x), l6, l7, l8, l9] [j0, j1, j2, j3, j4, j5, j6, j7, j8, j9] (.int x :: st) h Q) ∧
  (∀ (L : pb_L) (J : pb_J) (h : pb_H) (Q : Option Value → pb_H → Prop) (x0 : Int32) (x1 : Int32) (x2 : Nat), pb_R 158 224 L J [.int x0, .int x1, .ref x2] h Q ↔ pb_call 156 [.ref x2, .int x1, .int x0] h (fun v t => pb_R 158 227 L J (v.toList ++ []) t Q)) ∧
  (∀ (l1 l2 l3 l4 l5 l6 l7 l8 l9 : Option Value) (j0 j1 j2 j3 j4 j5 j6 j7 j8 j9 : Option Int64) (st : List Value) (h : pb_H) (Q : Option Value → pb_H → Prop) (x : Nat), pb_R 158 227 [some (.ref x), l1, l2, l3, l4, l5, l6, l7, l8, l9] [j0, j1, j2, j3, j4, j5, j6, j7, j8, j9] st h Q ↔ pb_R 158 228 [some (.ref x), l1, l2, l3, l4, l5, l6, l7, l8, l9] [j0, j1, j2, j3, j4, j5, j6, j7, j8, j9] (.ref x :: st) h Q) ∧
  (∀ (l1 l2 l3 l4 l5 l6 l7 l8 l9 : Option Value) (j0 j1 j2 j3 j4 j5 j6 j7 j8 j9 : Option Int64) (st : List Value) (h : pb_H) (Q : Option Value → pb_H → Prop), pb_R 158 227 [some .null, l1, l2, l3, l4, l5, l6, l7, l8, l9] [j0, j1, j2, j3, j4, j5, j6, j7, j8, j9] st h Q ↔ pb_R 158 228 [some .null, l1, l2, l3, l4, l5, l6, l7, l8, l9] [j0, j1, j2, j3, j4, j5, j6, j7, j8, j9] (.null :: st) h Q) ∧
  (∀ (L : pb_L) (J : pb_J) (st : List Value) (h : pb_H) (Q : Option Value → pb_H → Prop) (a : Nat), pb_R 158 228 L J (.ref a :: st) h Q ↔ pb_o (pb_gf (h.2 a) 12 13) (fun v => pb_R 158 231 L J (v :: st) h Q)) ∧
  (∀ (l0 l1 l2 l3 l5 l6 l7 l8 l9 : Option Value) (j0 j1 j2 j3 j4 j5 j6 j7 j8 j9 : Option Int64) (st : List Value) (h : pb_H) (Q : Option Value → pb_H → Prop) (x : Int32), pb_R 158 231 [l0, l1, l2, l3, some (.int x), l5, l6, l7, l8, l9] [j0, j1, j2, j3, j4, j5, j6, j7, j8, j9] st h Q ↔ pb_R 158 233 [l0, l1, l2, l3, some (.int x), l5, l6, l7, l8, l9] [j0, j1, j2, j3, j4, j5, j6, j7, j8, j9] (.int x :: st) h Q) ∧
  (∀ (l0 l1 l2 l3 l4 l6 l7 l8 l9 : Option Value) (j0 j1 j2 j3 j4 j5 j6 j7 j8 j9 : Option Int64) (st : List Value) (h : pb_H) (Q : Option Value → pb_H → Prop) (x : Int32), pb_R 158 233 [l0, l1, l2, l3, l4, some (.int x), l6, l7, l8, l9] [j0, j1, j2, j3, j4, j5, j6, j7, j8, j9] st h Q ↔ pb_R 158 235 [l0, l1, l2, l3, l4, some (.int x), l6, l7, l8, l9] [j0, j1, j2, j3, j4, j5, j6, j7, j8, j9] (.int x :: st) h Q) ∧
  (∀ (L : pb_L) (J : pb_J) (h : pb_H) (Q : Option Value → pb_H → Prop) (x0 : Int32) (x1 : Int32) (x2 : Nat), pb_R 158 235 L J [.int x0, .int x1, .ref x2] h Q ↔ pb_call 156 [.ref x2, .int x1, .int x0] h (fun v t => pb_R 158 238 L J (v.toList ++ []) t Q)) ∧
  (∀ (l0 l1 l2 l4 l5 l6 l7 l8 l9 : Option Value) (j0 j1 j2 j3 j4 j5 j6 j7 j8 j9 : Option Int64) (st : List Value) (h : pb_H) (Q : Option Value → pb_H → Prop) (x : Int32), pb_R 158 238 [l0, l1, l2, some (.int x), l4, l5, l6, l7, l8, l9] [j0, j1, j2, j3, j4, j5, j6, j7, j8, j9] st h Q ↔ pb_R 158 239 [l0, l1, l2, some (.int x), l4, l5, l6, l7, l8, l9] [j0, j1, j2, j3, j4, j5, j6, j7, j8, j9] (.int x :: st) h Q) ∧
  (∀ (l0 l1 l2 l3 l5 l6 l7 l8 l9 : Option Value) (j0 j1 j2 j3 j4 j5 j6 j7 j8 j9 : Option Int64) (st : List Value) (h : pb_H) (Q : Option Value → pb_H → Prop) (x : Int32), pb_R 158 239 [l0, l1, l2, l3, some (.int x), l5, l6, l7, l8, l9] [j0, j1, j2, j3, j4, j5, j6, j7, j8, j9] st h Q ↔ pb_R 158 241 [l0, l1, l2, l3, some (.int x), l5, l6, l7, l8, l9] [j0, j1, j2, j3, j4, j5, j6, j7, j8, j9] (.int x :: st) h Q) ∧
  (∀ (L : pb_L) (J : pb_J) (st : List Value) (x y : Int32) (h : pb_H) (Q : Option Value → pb_H → Prop), pb_R 158 241 L J (.int y :: .int x :: st) h Q ↔ pb_R 158 242 L J (.int (x - y) :: st) h Q) ∧
  (∀ (l0 l1 l2 l3 l4 l5 l6 l7 l8 l9 : Option Value) (j0 j1 j2 j3 j4 j5 j6 j7 j8 j9 : Option Int64) (st : List Value) (h : pb_H) (Q : Option Value → pb_H → Prop) (x : Int32), pb_R 158 242 [l0, l1, l2, l3, l4, l5, l6, l7, l8, l9] [j0, j1, j2, j3, j4, j5, j6, j7, j8, j9] (.int x :: st) h Q ↔ pb_R 158 244 [l0, l1, l2, l3, l4, l5, some (.int x), l7, l8, l9] [j0, j1, j2, j3, j4, none, none, j7, j8, j9] st h Q) ∧
  (∀ (L : pb_L) (J : pb_J) (st : List Value) (h : pb_H) (Q : Option Value → pb_H → Prop) (x : Int32), pb_R 158 246 L J (.int x :: st) h Q ↔ if x < 0 then pb_R 158 270 L J st h Q else pb_R 158 249 L J st h Q) ∧
  (∀ (l1 l2 l3 l4 l5 l6 l7 l8 l9 : Option Value) (j0 j1 j2 j3 j4 j5 j6 j7 j8 j9 : Option Int64) (st : List Value) (h : pb_H) (Q : Option Value → pb_H → Prop) (x : Nat), pb_R 158 249 [some (.ref x), l1, l2, l3, l4, l5, l6, l7, l8, l9] [j0, j1, j2, j3, j4, j5, j6, j7, j8, j9] st h Q ↔ pb_R 158 250 [some (.ref x), l1, l2, l3, l4, l5, l6, l7, l8, l9] [j0, j1, j2, j3, j4, j5, j6, j7, j8, j9] (.ref x :: st) h Q) ∧
  (∀ (l1 l2 l3 l4 l5 l6 l7 l8 l9 : Option Value) (j0 j1 j2 j3 j4 j5 j6 j7 j8 j9 : Option Int64) (st : List Value) (h : pb_H) (Q : Option Value → pb_H → Prop), pb_R 158 249 [some .null, l1, l2, l3, l4, l5, l6, l7, l8, l9] [j0, j1, j2, j3, j4, j5, j6, j7, j8, j9] st h Q ↔ pb_R 158 250 [some .null, l1, l2, l3, l4, l5, l6, l7, l8, l9] [j0, j1, j2, j3, j4, j5, j6, j7, j8, j9] (.null :: st) h Q) ∧
  (∀ (L : pb_L) (J : pb_J) (st : List Value) (h : pb_H) (Q : Option Value → pb_H → Prop) (a : Nat), pb_R 158 250 L J (.ref a :: st) h Q ↔ pb_o (pb_gf (h.2 a) 12 11) (fun v => pb_R 158 253 L J (v :: st) h Q)) ∧
  (∀ (l0 l1 l2 l3 l4 l5 l7 l8 l9 : Option Value) (j0 j1 j2 j3 j4 j5 j6 j7 j8 j9 : Option Int64) (st : List Value) (h : pb_H) (Q : Option Value → pb_H → Prop) (x : Int32), pb_R 158 253 [l0, l1, l2, l3, l4, l5, some (.int x), l7, l8, l9] [j0, j1, j2, j3, j4, j5, j6, j7, j8, j9] st h Q ↔ pb_R 158 255 [l0, l1, l2, l3, l4, l5, some (.int x), l7, l8, l9] [j0, j1, j2, j3, j4, j5, j6, j7, j8, j9] (.int x :: st) h Q) ∧
  (∀ (l1 l2 l3 l4 l5 l6 l7 l8 l9 : Option Value) (j0 j1 j2 j3 j4 j5 j6 j7 j8 j9 : Option Int64) (st : List Value) (h : pb_H) (Q : Option Value → pb_H → Prop) (x : Nat), pb_R 158 255 [some (.ref x), l1, l2, l3, l4, l5, l6, l7, l8, l9] [j0, j1, j2, j3, j4, j5, j6, j7, j8, j9] st h Q ↔ pb_R 158 256 [some (.ref x), l1, l2, l3, l4, l5, l6, l7, l8, l9] [j0, j1, j2, j3, j4, j5, j6, j7, j8, j9] (.ref x :: st) h Q) ∧
  (∀ (l1 l2 l3 l4 l5 l6 l7 l8 l9 : Option Value) (j0 j1 j2 j3 j4 j5 j6 j7 j8 j9 : Option Int64) (st : List Value) (h : pb_H) (Q : Option Value → pb_H → Prop), pb_R 158 255 [some .null, l1, l2, l3, l4, l5, l6, l7, l8, l9] [j0, j1, j2, j3, j4, j5, j6, j7, j8, j9] st h Q ↔ pb_R 158 256 [some .null, l1, l2, l3, l4, l5, l6, l7, l8, l9] [j0, j1, j2, j3, j4, j5, j6, j7, j8, j9] (.null :: st) h Q) ∧
  (∀ (l0 l1 l2 l3 l4 l5 l7 l8 l9 : Option Value) (j0 j1 j2 j3 j4 j5 j6 j7 j8 j9 : Option Int64) (st : List Value) (h : pb_H) (Q : Option Value → pb_H → Prop) (x : Int32), pb_R 158 256 [l0, l1, l2, l3, l4, l5, some (.int x), l7, l8, l9] [j0, j1, j2, j3, j4, j5, j6, j7, j8, j9] st h Q ↔ pb_R 158 258 [l0, l1, l2, l3, l4, l5, some (.int x), l7, l8, l9] [j0, j1, j2, j3, j4, j5, j6, j7, j8, j9] (.int x :: st) h Q) ∧
  (∀ (l0 l1 l2 l3 l5 l6 l7 l8 l9 : Option Value) (j0 j1 j2 j3 j4 j5 j6 j7 j8 j9 : Option Int64) (st : List Value) (h : pb_H) (Q : Option Value → pb_H → Prop) (x : Int32), pb_R 158 258 [l0, l1, l2, l3, some (.int x), l5, l6, l7, l8, l9] [j0, j1, j2, j3, j4, j5, j6, j7, j8, j9] st h Q ↔ pb_R 158 260 [l0, l1, l2, l3, some (.int x), l5, l6, l7, l8, l9] [j0, j1, j2, j3, j4, j5, j6, j7, j8, j9] (.int x :: st) h Q) ∧
  (∀ (L : pb_L) (J : pb_J) (h : pb_H) (Q : Option Value → pb_H → Prop) (x0 : Int32) (x1 : Int32) (x2 : Nat) (x3 : Int32) (x4 : Nat), pb_R 158 260 L J [.int x0, .int x1, .ref x2, .int x3, .ref x4] h Q ↔ pb_is0 (h.2 x2) 12 = true ∧ pb_call 157 [.ref x2, .int x1, .int x0] h (fun v t => pb_R 158 263 L J (v.toList ++ [.int x3, .ref x4]) t Q)) ∧
  (∀ (L : pb_L) (J : pb_J) (st : List Value) (h : pb_H) (Q : Option Value → pb_H → Prop) (a : Nat) (i x : Int32), pb_R 158 263 L J (.int x :: .int i :: .ref a :: st) h Q ↔ pb_o (pb_si (h.2 a) i x) (fun c => pb_R 158 264 L J st (pb_set h a c) Q)) ∧
  (∀ (l0 l1 l2 l3 l4 l5 l7 l8 l9 : Option Value) (j0 j1 j2 j3 j4 j5 j6 j7 j8 j9 : Option Int64) (st : List Value) (h : pb_H) (Q : Option Value → pb_H → Prop) (x : Int32), pb_R 158 264 [l0, l1, l2, l3, l4, l5, some (.int x), l7, l8, l9] [j0, j1, j2, j3, j4, j5, j6, j7, j8, j9] st h Q ↔ pb_R 158 267 [l0, l1, l2, l3, l4, l5, some (.int (x + (-1 : Int32))), l7, l8, l9] [j0, j1, j2, j3, j4, none, none, j7, j8, j9] st h Q) ∧
  (∀ (L : pb_L) (J : pb_J) (st : List Value) (h : pb_H) (Q : Option Value → pb_H → Prop), pb_R 158 267 L J st h Q ↔ pb_R 158 244 L J st h Q) ∧
  (∀ (L : pb_L) (J : pb_J) (st : List Value) (h : pb_H) (Q : Option Value → pb_H → Prop), pb_R 158 270 L J st h Q ↔ pb_R 158 271 L J (.int (1 : Int32) :: st) h Q) ∧
  (∀ (l0 l1 l2 l3 l4 l5 l6 l7 l8 l9 : Option Value) (j0 j1 j2 j3 j4 j5 j6 j7 j8 j9 : Option Int64) (st : List Value) (h : pb_H) (Q : Option Value → pb_H → Prop) (x : Int32), pb_R 158 271 [l0, l1, l2, l3, l4, l5, l6, l7, l8, l9] [j0, j1, j2, j3, j4, j5, j6, j7, j8, j9] (.int x :: st) h Q ↔ pb_R 158 273 [l0, l1, l2, l3, l4, l5, some (.int x), l7, l8, l9] [j0, j1, j2, j3, j4, none, none, j7, j8, j9] st h Q) ∧
  (∀ (L : pb_L) (J : pb_J) (st : List Value) (h : pb_H) (Q : Option Value → pb_H → Prop), pb_R 158 273 L J st h Q ↔ pb_R 158 274 L J (.int (0 : Int32) :: st) h Q) ∧
  (∀ (l0 l1 l2 l3 l4 l5 l6 l7 l8 l9 : Option Value) (j0 j1 j2 j3 j4 j5 j6 j7 j8 j9 : Option Int64) (st : List Value) (h : pb_H) (Q : Option Value → pb_H → Prop) (x : Int32), pb_R 158 274 [l0, l1, l2, l3, l4, l5, l6, l7, l8, l9] [j0, j1, j2, j3, j4, j5, j6, j7, j8, j9] (.int x :: st) h Q ↔ pb_R 158 276 [l0, l1, l2, l3, l4, l5, l6, some (.int x), l8, l9] [j0, j1, j2, j3, j4, j5, none, none, j8, j9] st h Q) ∧
  (∀ (L : pb_L) (J : pb_J) (st : List Value) (h : pb_H) (Q : Option Value → pb_H → Prop), pb_R 158 278 L J st h Q ↔ pb_R 158 280 L J (.int (21 : Int32) :: st) h Q) ∧
  (∀ (L : pb_L) (J : pb_J) (st : List Value) (h : pb_H) (Q : Option Value → pb_H → Prop) (x y : Int32), pb_R 158 280 L J (.int y :: .int x :: st) h Q ↔ if y < x then pb_R 158 311 L J st h Q else pb_R 158 283 L J st h Q) ∧
  (∀ (l0 l1 l2 l3 l4 l5 l7 l8 l9 : Option Value) (j0 j1 j2 j3 j4 j5 j6 j7 j8 j9 : Option Int64) (st : List Value) (h : pb_H) (Q : Option Value → pb_H → Prop) (x : Int32), pb_R 158 283 [l0, l1, l2, l3, l4, l5, some (.int x), l7, l8, l9] [j0, j1, j2, j3, j4, j5, j6, j7, j8, j9] st h Q ↔ pb_R 158 285 [l0, l1, l2, l3, l4, l5, some (.int x), l7, l8, l9] [j0, j1, j2, j3, j4, j5, j6, j7, j8, j9] (.int x :: st) h Q) ∧
  (∀ (L : pb_L) (J : pb_J) (st : List Value) (h : pb_H) (Q : Option Value → pb_H → Prop) (x : Int32), pb_R 158 285 L J (.int x :: st) h Q ↔ if x = 0 then pb_R 158 302 L J st h Q else pb_R 158 288 L J st h Q) ∧
  (∀ (l1 l2 l3 l4 l5 l6 l7 l8 l9 : Option Value) (j0 j1 j2 j3 j4 j5 j6 j7 j8 j9 : Option Int64) (st : List Value) (h : pb_H) (Q : Option Value → pb_H → Prop) (x : Nat), pb_R 158 288 [some (.ref x), l1, l2, l3, l4, l5, l6, l7, l8, l9] [j0, j1, j2, j3, j4, j5, j6, j7, j8, j9] st h Q ↔ pb_R 158 289 [some (.ref x), l1, l2, l3, l4, l5, l6, l7, l8, l9] [j0, j1, j2, j3, j4, j5, j6, j7, j8, j9] (.ref x :: st) h Q) ∧
  (∀ (l1 l2 l3 l4 l5 l6 l7 l8 l9 : Option Value) (j0 j1 j2 j3 j4 j5 j6 j7 j8 j9 : Option Int64) (st : List Value) (h : pb_H) (Q : Option Value → pb_H → Prop), pb_R 158 288 [some .null, l1, l2, l3, l4, l5, l6, l7, l8, l9] [j0, j1, j2, j3, j4, j5, j6, j7, j8, j9] st h Q ↔ pb_R 158 289 [some .null, l1, l2, l3, l4, l5, l6, l7, l8, l9] [j0, j1, j2, j3, j4, j5, j6, j7, j8, j9] (.null :: st) h Q) ∧
  (∀ (L : pb_L) (J : pb_J) (st : List Value) (h : pb_H) (Q : Option Value → pb_H → Prop) (a : Nat), pb_R 158 289 L J (.ref a :: st) h Q ↔ pb_o (pb_gf (h.2 a) 12 12) (fun v => pb_R 158 292 L J (v :: st) h Q)) ∧
  (∀ (l0 l1 l2 l3 l4 l5 l6 l8 l9 : Option Value) (j0 j1 j2 j3 j4 j5 j6 j7 j8 j9 : Option Int64) (st : List Value) (h : pb_H) (Q : Option Value → pb_H → Prop) (x : Int32), pb_R 158 292 [l0, l1, l2, l3, l4, l5, l6, some (.int x), l8, l9] [j0, j1, j2, j3, j4, j5, j6, j7, j8, j9] st h Q ↔ pb_R 158 294 [l0, l1, l2, l3, l4, l5, l6, some (.int x), l8, l9] [j0, j1, j2, j3, j4, j5, j6, j7, j8, j9] (.int x :: st) h Q) ∧
  (∀ (L : pb_L) (J : pb_J) (st : List Value) (h : pb_H) (Q : Option Value → pb_H → Prop) (a : Nat) (i : Int32), pb_R 158 294 L J (.int i :: .ref a :: st) h Q ↔ pb_o (pb_ai (h.2 a) i) (fun v => pb_R 158 295 L J (.int v :: st) h Q)) ∧
  (∀ (L : pb_L) (J : pb_J) (st : List Value) (h : pb_H) (Q : Option Value → pb_H → Prop) (x : Int32), pb_R 158 295 L J (.int x :: st) h Q ↔ if ¬ x = 0 then pb_R 158 302 L J st h Q else pb_R 158 298 L J st h Q) ∧
  (∀ (L : pb_L) (J : pb_J) (st : List Value) (h : pb_H) (Q : Option Value → pb_H → Prop), pb_R 158 298 L J st h Q ↔ pb_R 158 299 L J (.int (1 : Int32) :: st) h Q) ∧
  (∀ (L : pb_L) (J : pb_J) (st : List Value) (h : pb_H) (Q : Option Value → pb_H → Prop), pb_R 158 299 L J st h Q ↔ pb_R 158 303 L J st h Q) ∧
  (∀ (L : pb_L) (J : pb_J) (st : List Value) (h : pb_H) (Q : Option Value → pb_H → Prop), pb_R 158 302 L J st h Q ↔ pb_R 158 303 L J (.int (0 : Int32) :: st) h Q) ∧
  (∀ (l0 l1 l2 l3 l4 l5 l6 l7 l8 l9 : Option Value) (j0 j1 j2 j3 j4 j5 j6 j7 j8 j9 : Option Int64) (st : List Value) (h : pb_H) (Q : Option Value → pb_H → Prop) (x : Int32), pb_R 158 303 [l0, l1, l2, l3, l4, l5, l6, l7, l8, l9] [j0, j1, j2, j3, j4, j5, j6, j7, j8, j9] (.int x :: st) h Q ↔ pb_R 158 305 [l0, l1, l2, l3, l4, l5, some (.int x), l7, l8, l9] [j0, j1, j2, j3, j4, none, none, j7, j8, j9] st h Q) ∧
  (∀ (l0 l1 l2 l3 l4 l5 l6 l8 l9 : Option Value) (j0 j1 j2 j3 j4 j5 j6 j7 j8 j9 : Option Int64) (st : List Value) (h : pb_H) (Q : Option Value → pb_H → Prop) (x : Int32), pb_R 158 305 [l0, l1, l2, l3, l4, l5, l6, some (.int x), l8, l9] [j0, j1, j2, j3, j4, j5, j6, j7, j8, j9] st h Q ↔ pb_R 158 308 [l0, l1, l2, l3, l4, l5, l6, some (.int (x + (1 : Int32))), l8, l9] [j0, j1, j2, j3, j4, j5, none, none, j8, j9] st h Q) ∧
  (∀ (L : pb_L) (J : pb_J) (st : List Value) (h : pb_H) (Q : Option Value → pb_H → Prop), pb_R 158 308 L J st h Q ↔ pb_R 158 276 L J st h Q) ∧
  (∀ (l1 l2 l3 l4 l5 l6 l7 l8 l9 : Option Value) (j0 j1 j2 j3 j4 j5 j6 j7 j8 j9 : Option Int64) (st : List Value) (h : pb_H) (Q : Option Value → pb_H → Prop) (x : Nat), pb_R 158 311 [some (.ref x), l1, l2, l3, l4, l5, l6, l7, l8, l9] [j0, j1, j2, j3, j4, j5, j6, j7, j8, j9] st h Q ↔ pb_R 158 312 [some (.ref x), l1, l2, l3, l4, l5, l6, l7, l8, l9] [j0, j1, j2, j3, j4, j5, j6, j7, j8, j9] (.ref x :: st) h Q) ∧
  (∀ (l1 l2 l3 l4 l5 l6 l7 l8 l9 : Option Value) (j0 j1 j2 j3 j4 j5 j6 j7 j8 j9 : Option Int64) (st : List Value) (h : pb_H) (Q : Option Value → pb_H → Prop), pb_R 158 311 [some .null, l1, l2, l3, l4, l5, l6, l7, l8, l9] [j0, j1, j2, j3, j4, j5, j6, j7, j8, j9] st h Q ↔ pb_R 158 312 [some .null, l1, l2, l3, l4, l5, l6, l7, l8, l9] [j0, j1, j2, j3, j4, j5, j6, j7, j8, j9] (.null :: st) h Q) ∧
  (∀ (l0 l1 l2 l3 l4 l5 l7 l8 l9 : Option Value) (j0 j1 j2 j3 j4 j5 j6 j7 j8 j9 : Option Int64) (st : List Value) (h : pb_H) (Q : Option Value → pb_H → Prop) (x : Int32), pb_R 158 312 [l0, l1, l2, l3, l4, l5, some (.int x), l7, l8, l9] [j0, j1, j2, j3, j4, j5, j6, j7, j8, j9] st h Q ↔ pb_R 158 314 [l0, l1, l2, l3, l4, l5, some (.int x), l7, l8, l9] [j0, j1, j2, j3, j4, j5, j6, j7, j8, j9] (.int x :: st) h Q) ∧
  (∀ (L : pb_L) (J : pb_J) (st : List Value) (h : pb_H) (Q : Option Value → pb_H → Prop) (a : Nat) (x : Int32), pb_R 158 314 L J (.int x :: .ref a :: st) h Q ↔ pb_o (pb_pf (h.2 a) 12 14 (.int x)) (fun c => pb_R 158 317 L J st (pb_set h a c) Q)) ∧
  (∀ (L : pb_L) (J : pb_J) (h : pb_H) (Q : Option Value → pb_H → Prop), pb_R 158 317 L J [] h Q ↔ Q none h) := ⟨
  fun l1 l2 l3 l4 l5 l6 l7 l8 l9 j0 j1 j2 j3 j4 j5 j6 j7 j8 j9 st h Q x => pf_S pb_u_158 rfl rfl,
  fun l1 l2 l3 l4 l5 l6 l7 l8 l9 j0 j1 j2 j3 j4 j5 j6 j7 j8 j9 st h Q => pf_S pb_u_158 rfl rfl,
  fun l0 l2 l3 l4 l5 l6 l7 l8 l9 j0 j1 j2 j3 j4 j5 j6 j7 j8 j9 st h Q x => pf_S pb_u_158 rfl rfl,
  fun L J h Q x0 x1 => pf_kv pb_u_158 rfl pb_ci_148 rfl ⟨Nat.le_of_ble_eq_true rfl, Nat.le_of_ble_eq_true rfl, Nat.le_of_ble_eq_true rfl, Nat.le_of_ble_eq_true rfl, rfl⟩ rfl rfl,
  fun l0 l1 l2 l3 l4 l5 l6 l7 l8 l9 j0 j1 j2 j3 j4 j5 j6 j7 j8 j9 st h Q x => pf_S pb_u_158 rfl rfl,
  fun l1 l2 l3 l4 l5 l6 l7 l8 l9 j0 j1 j2 j3 j4 j5 j6 j7 j8 j9 st h Q x => pf_S pb_u_158 rfl rfl,
  fun l1 l2 l3 l4 l5 l6 l7 l8 l9 j0 j1 j2 j3 j4 j5 j6 j7 j8 j9 st h Q => pf_S pb_u_158 rfl rfl,
  fun l0 l1 l3 l4 l5 l6 l7 l8 l9 j0 j1 j2 j3 j4 j5 j6 j7 j8 j9 st h Q x => pf_S pb_u_158 rfl rfl,
  fun L J h Q x0 x1 => pf_kv pb_u_158 rfl pb_ci_148 rfl ⟨Nat.le_of_ble_eq_true rfl, Nat.le_of_ble_eq_true rfl, Nat.le_of_ble_eq_true rfl, Nat.le_of_ble_eq_true rfl, rfl⟩ rfl rfl,
  fun l0 l1 l2 l3 l4 l5 l6 l7 l8 l9 j0 j1 j2 j3 j4 j5 j6 j7 j8 j9 st h Q x => pf_S pb_u_158 rfl rfl,
  fun L J st h Q => pf_S pb_u_158 rfl rfl,
  fun l0 l1 l2 l3 l4 l5 l6 l7 l8 l9 j0 j1 j2 j3 j4 j5 j6 j7 j8 j9 st h Q x => pf_S pb_u_158 rfl rfl,
  fun L J st h Q => pf_S pb_u_158 rfl rfl,
  fun L J st h Q x y => pf_ic pb_u_158 rfl rfl rfl,
  fun l1 l2 l3 l4 l5 l6 l7 l8 l9 j0 j1 j2 j3 j4 j5 j6 j7 j8 j9 st h Q x => pf_S pb_u_158 rfl rfl,
  fun l1 l2 l3 l4 l5 l6 l7 l8 l9 j0 j1 j2 j3 j4 j5 j6 j7 j8 j9 st h Q => pf_S pb_u_158 rfl rfl,
  fun L J st h Q a => pf_gf pb_u_158 rfl rfl,
  fun l0 l1 l2 l3 l4 l6 l7 l8 l9 j0 j1 j2 j3 j4 j5 j6 j7 j8 j9 st h Q x => pf_S pb_u_158 rfl rfl,
  fun L J st h Q => pf_S pb_u_158 rfl rfl,
  fun L J st h Q a i x => pf_si pb_u_158 rfl rfl,
  fun l1 l2 l3 l4 l5 l6 l7 l8 l9 j0 j1 j2 j3 j4 j5 j6 j7 j8 j9 st h Q x => pf_S pb_u_158 rfl rfl,
  fun l1 l2 l3 l4 l5 l6 l7 l8 l9 j0 j1 j2 j3 j4 j5 j6 j7 j8 j9 st h Q => pf_S pb_u_158 rfl rfl,
  fun L J st h Q a => pf_gf pb_u_158 rfl rfl,
  fun l0 l1 l2 l3 l4 l6 l7 l8 l9 j0 j1 j2 j3 j4 j5 j6 j7 j8 j9 st h Q x => pf_S pb_u_158 rfl rfl,
  fun l0 l1 l2 l3 l4 l6 l7 l8 l9 j0 j1 j2 j3 j4 j5 j6 j7 j8 j9 st h Q x => pf_S pb_u_158 rfl rfl,
  fun L J st h Q => pf_S pb_u_158 rfl rfl,
  fun L J st h Q x y => pf_ic pb_u_158 rfl rfl rfl,
  fun l1 l2 l3 l4 l5 l6 l7 l8 l9 j0 j1 j2 j3 j4 j5 j6 j7 j8 j9 st h Q x => pf_S pb_u_158 rfl rfl,
  fun l1 l2 l3 l4 l5 l6 l7 l8 l9 j0 j1 j2 j3 j4 j5 j6 j7 j8 j9 st h Q => pf_S pb_u_158 rfl rfl,
  fun L J st h Q a => pf_gf pb_u_158 rfl rfl,
  fun l0 l2 l3 l4 l5 l6 l7 l8 l9 j0 j1 j2 j3 j4 j5 j6 j7 j8 j9 st h Q x => pf_S pb_u_158 rfl rfl,
  fun l0 l1 l2 l3 l4 l6 l7 l8 l9 j0 j1 j2 j3 j4 j5 j6 j7 j8 j9 st h Q x => pf_S pb_u_158 rfl rfl,
  fun L J st x y h Q => pf_S pb_u_158 rfl rfl,
  fun L J st h Q a i => pf_ai pb_u_158 rfl rfl,
  fun L J st h Q => pf_S pb_u_158 rfl rfl,
  fun L J st h Q => pf_S pb_u_158 rfl rfl,
  fun L J st h Q a i x => pf_si pb_u_158 rfl rfl,
  fun l1 l2 l3 l4 l5 l6 l7 l8 l9 j0 j1 j2 j3 j4 j5 j6 j7 j8 j9 st h Q x => pf_S pb_u_158 rfl rfl,
  fun l1 l2 l3 l4 l5 l6 l7 l8 l9 j0 j1 j2 j3 j4 j5 j6 j7 j8 j9 st h Q => pf_S pb_u_158 rfl rfl,
  fun L J st h Q a => pf_gf pb_u_158 rfl rfl,
  fun l0 l1 l2 l3 l4 l6 l7 l8 l9 j0 j1 j2 j3 j4 j5 j6 j7 j8 j9 st h Q x => pf_S pb_u_158 rfl rfl,
  fun l0 l1 l2 l3 l4 l6 l7 l8 l9 j0 j1 j2 j3 j4 j5 j6 j7 j8 j9 st h Q x => pf_S pb_u_158 rfl rfl,
  fun L J st h Q => pf_S pb_u_158 rfl rfl,
  fun L J st h Q x y => pf_ic pb_u_158 rfl rfl rfl,
  fun l1 l2 l3 l4 l5 l6 l7 l8 l9 j0 j1 j2 j3 j4 j5 j6 j7 j8 j9 st h Q x => pf_S pb_u_158 rfl rfl,
  fun l1 l2 l3 l4 l5 l6 l7 l8 l9 j0 j1 j2 j3 j4 j5 j6 j7 j8 j9 st h Q => pf_S pb_u_158 rfl rfl,
  fun L J st h Q a => pf_gf pb_u_158 rfl rfl,
  fun l0 l1 l3 l4 l5 l6 l7 l8 l9 j0 j1 j2 j3 j4 j5 j6 j7 j8 j9 st h Q x => pf_S pb_u_158 rfl rfl,
  fun l0 l1 l2 l3 l4 l6 l7 l8 l9 j0 j1 j2 j3 j4 j5 j6 j7 j8 j9 st h Q x => pf_S pb_u_158 rfl rfl,
  fun L J st x y h Q => pf_S pb_u_158 rfl rfl,
  fun L J st h Q a i => pf_ai pb_u_158 rfl rfl,
  fun L J st h Q => pf_S pb_u_158 rfl rfl,
  fun L J st h Q => pf_S pb_u_158 rfl rfl,
  fun L J st h Q a i x => pf_si pb_u_158 rfl rfl,
  fun l0 l1 l2 l3 l4 l6 l7 l8 l9 j0 j1 j2 j3 j4 j5 j6 j7 j8 j9 st h Q x => pf_S pb_u_158 rfl rfl,
  fun L J st h Q => pf_S pb_u_158 rfl rfl,
  fun l1 l2 l3 l4 l5 l6 l7 l8 l9 j0 j1 j2 j3 j4 j5 j6 j7 j8 j9 st h Q x => pf_S pb_u_158 rfl rfl,
  fun l1 l2 l3 l4 l5 l6 l7 l8 l9 j0 j1 j2 j3 j4 j5 j6 j7 j8 j9 st h Q => pf_S pb_u_158 rfl rfl,
  fun L J st h Q a => pf_gf pb_u_158 rfl rfl,
  fun L J st h Q => pf_S pb_u_158 rfl rfl,
  fun L J st h Q => pf_S pb_u_158 rfl rfl,
  fun L J st h Q a i x => pf_si pb_u_158 rfl rfl,
  fun l0 l1 l2 l3 l5 l6 l7 l8 l9 j0 j1 j2 j3 j4 j5 j6 j7 j8 j9 st h Q x => pf_S pb_u_158 rfl rfl,
  fun L J st h Q => pf_S pb_u_158 rfl rfl,
  fun L J st h Q x y => pf_ic pb_u_158 rfl rfl pf_ne,
  fun L J st h Q => pf_S pb_u_158 rfl rfl,
  fun l0 l1 l2 l3 l4 l5 l6 l7 l8 l9 j0 j1 j2 j3 j4 j5 j6 j7 j8 j9 st h Q x => pf_S pb_u_158 rfl rfl,
  fun l0 l1 l2 l4 l5 l6 l7 l8 l9 j0 j1 j2 j3 j4 j5 j6 j7 j8 j9 st h Q x => pf_S pb_u_158 rfl rfl,
  fun L J st h Q => pf_S pb_u_158 rfl rfl,
  fun L J st x y h Q => pf_S pb_u_158 rfl rfl,
  fun l0 l1 l2 l3 l4 l5 l6 l7 l8 l9 j0 j1 j2 j3 j4 j5 j6 j7 j8 j9 st h Q x => pf_S pb_u_158 rfl rfl,
  fun L J st h Q x => pf_ii pb_u_158 rfl rfl rfl,
  fun l0 l1 l2 l3 l4 l5 l6 l7 l8 l9 j0 j1 j2 j3 j4 j6 j7 j8 j9 st h Q x => pf_S pb_u_158 rfl rfl,
  fun L J st h Q => pf_S pb_u_158 rfl rfl,
  fun L J st x y h Q => pf_S pb_u_158 rfl rfl,
  fun l1 l2 l3 l4 l5 l6 l7 l8 l9 j0 j1 j2 j3 j4 j5 j6 j7 j8 j9 st h Q x => pf_S pb_u_158 rfl rfl,
  fun l1 l2 l3 l4 l5 l6 l7 l8 l9 j0 j1 j2 j3 j4 j5 j6 j7 j8 j9 st h Q => pf_S pb_u_158 rfl rfl,
  fun L J st h Q a => pf_gf pb_u_158 rfl rfl,
  fun l0 l1 l2 l3 l4 l5 l6 l8 l9 j0 j1 j2 j3 j4 j5 j6 j7 j8 j9 st h Q x => pf_S pb_u_158 rfl rfl,
  fun L J st h Q a i => pf_ai pb_u_158 rfl rfl,
  fun L J st x h Q => pf_S pb_u_158 rfl rfl,
  fun L J st x y h Q => pf_S pb_u_158 rfl rfl,
  fun l0 l1 l2 l3 l4 l5 l6 l7 l8 l9 j0 j1 j2 j3 j4 j5 j6 j7 j8 j9 st h Q x => pf_S pb_u_158 rfl rfl,
  fun l1 l2 l3 l4 l5 l6 l7 l8 l9 j0 j1 j2 j3 j4 j5 j6 j7 j8 j9 st h Q x => pf_S pb_u_158 rfl rfl,
  fun l1 l2 l3 l4 l5 l6 l7 l8 l9 j0 j1 j2 j3 j4 j5 j6 j7 j8 j9 st h Q => pf_S pb_u_158 rfl rfl,
  fun L J st h Q a => pf_gf pb_u_158 rfl rfl,
  fun l0 l1 l2 l3 l4 l5 l6 l8 l9 j0 j1 j2 j3 j4 j5 j6 j7 j8 j9 st h Q x => pf_S pb_u_158 rfl rfl,
  fun l0 l1 l2 l3 l4 l5 l6 l7 l8 l9 j0 j1 j2 j3 j4 j5 j6 j7 j9 st h Q x => pf_S pb_u_158 rfl rfl,
  fun l1 l2 l3 l4 l5 l6 l7 l8 l9 j0 j1 j2 j3 j4 j5 j6 j7 j8 j9 st h Q x => pf_S pb_u_158 rfl rfl,
  fun l1 l2 l3 l4 l5 l6 l7 l8 l9 j0 j1 j2 j3 j4 j5 j6 j7 j8 j9 st h Q => pf_S pb_u_158 rfl rfl,
  fun L J st h Q a => pf_gf pb_u_158 rfl rfl,
  fun L J st h Q => pf_S pb_u_158 rfl rfl,
  fun L J st h Q a i => pf_ai pb_u_158 rfl rfl,
  fun L J st x h Q => pf_S pb_u_158 rfl rfl,
  fun L J st h Q x y => pf_ldiv pb_u_158 rfl rfl,
  fun L J st x h Q => pf_S pb_u_158 rfl rfl,
  fun L J st h Q a i x => pf_si pb_u_158 rfl rfl,
  fun l0 l1 l2 l3 l4 l5 l6 l7 l8 l9 j0 j1 j2 j3 j4 j5 j6 j7 j9 st h Q x => pf_S pb_u_158 rfl rfl,
  fun l1 l2 l3 l4 l5 l6 l7 l8 l9 j0 j1 j2 j3 j4 j5 j6 j7 j8 j9 st h Q x => pf_S pb_u_158 rfl rfl,
  fun l1 l2 l3 l4 l5 l6 l7 l8 l9 j0 j1 j2 j3 j4 j5 j6 j7 j8 j9 st h Q => pf_S pb_u_158 rfl rfl,
  fun L J st h Q a => pf_gf pb_u_158 rfl rfl,
  fun L J st h Q => pf_S pb_u_158 rfl rfl,
  fun L J st h Q a i => pf_ai pb_u_158 rfl rfl,
  fun L J st x h Q => pf_S pb_u_158 rfl rfl,
  fun L J st h Q x y => pf_lrem pb_u_158 rfl rfl,
  fun l0 l1 l2 l3 l4 l5 l6 l7 l8 l9 j0 j1 j2 j3 j4 j5 j6 j7 j8 j9 st h Q x => pf_S pb_u_158 rfl rfl,
  fun l0 l1 l2 l3 l4 l5 l6 l8 l9 j0 j1 j2 j3 j4 j5 j6 j7 j8 j9 st h Q x => pf_S pb_u_158 rfl rfl,
  fun L J st h Q => pf_S pb_u_158 rfl rfl,
  fun l1 l2 l3 l4 l5 l6 l7 l8 l9 j0 j1 j2 j3 j4 j5 j6 j7 j8 j9 st h Q x => pf_S pb_u_158 rfl rfl,
  fun l1 l2 l3 l4 l5 l6 l7 l8 l9 j0 j1 j2 j3 j4 j5 j6 j7 j8 j9 st h Q => pf_S pb_u_158 rfl rfl,
  fun l0 l1 l2 l3 l4 l5 l6 l7 l8 l9 j0 j1 j2 j3 j4 j6 j7 j8 j9 st h Q x => pf_S pb_u_158 rfl rfl,
  fun L J st h Q => pf_S pb_u_158 rfl rfl,
  fun L J st x y h Q => pf_S pb_u_158 rfl rfl,
  fun L J st h Q x => pf_ii pb_u_158 rfl rfl pf_ne,
  fun L J st h Q => pf_S pb_u_158 rfl rfl,
  fun L J st h Q => pf_S pb_u_158 rfl rfl,
  fun L J st h Q => pf_S pb_u_158 rfl rfl,
  fun L J st h Q a x => pf_pf pb_u_158 rfl rfl,
  fun L J h Q => pf_rv pb_u_158 rfl rfl,
  fun L J st h Q => pf_S pb_u_158 rfl rfl,
  fun l0 l1 l2 l3 l4 l5 l6 l7 l8 l9 j0 j1 j2 j3 j4 j5 j6 j7 j8 j9 st h Q x => pf_S pb_u_158 rfl rfl,
  fun L J st h Q a => pf_gf pb_u_158 rfl rfl,
  fun l0 l1 l2 l3 l5 l6 l7 l8 l9 j0 j1 j2 j3 j4 j5 j6 j7 j8 j9 st h Q x => pf_S pb_u_158 rfl rfl,
  fun L J st h Q => pf_S pb_u_158 rfl rfl,
  fun L J st x y h Q => pf_S pb_u_158 rfl rfl,
  fun L J st h Q a i => pf_ai pb_u_158 rfl rfl,
  fun l0 l1 l2 l3 l4 l6 l7 l8 l9 j0 j1 j2 j3 j4 j5 j6 j7 j8 j9 st h Q x => pf_S pb_u_158 rfl rfl,
  fun L J st x y h Q => pf_S pb_u_158 rfl rfl,
  fun L J st h Q => pf_S pb_u_158 rfl rfl,
  fun L J st x y h Q => pf_S pb_u_158 rfl rfl,
  fun L J st h Q x => pf_ii pb_u_158 rfl rfl pf_ne,
  fun l0 l1 l2 l3 l4 l6 l7 l8 l9 j0 j1 j2 j3 j4 j5 j6 j7 j8 j9 st h Q x => pf_S pb_u_158 rfl rfl,
  fun L J st h Q => pf_S pb_u_158 rfl rfl,
  fun l1 l2 l3 l4 l5 l6 l7 l8 l9 j0 j1 j2 j3 j4 j5 j6 j7 j8 j9 st h Q x => pf_S pb_u_158 rfl rfl,
  fun l1 l2 l3 l4 l5 l6 l7 l8 l9 j0 j1 j2 j3 j4 j5 j6 j7 j8 j9 st h Q => pf_S pb_u_158 rfl rfl,
  fun L J st h Q a => pf_gf pb_u_158 rfl rfl,
  fun l0 l1 l2 l4 l5 l6 l7 l8 l9 j0 j1 j2 j3 j4 j5 j6 j7 j8 j9 st h Q x => pf_S pb_u_158 rfl rfl,
  fun L J st h Q => pf_S pb_u_158 rfl rfl,
  fun L J st x y h Q => pf_S pb_u_158 rfl rfl,
  fun l0 l1 l2 l3 l4 l6 l7 l8 l9 j0 j1 j2 j3 j4 j5 j6 j7 j8 j9 st h Q x => pf_S pb_u_158 rfl rfl,
  fun L J h Q x0 x1 x2 => pf_ks pb_u_158 rfl rfl rfl rfl,
  fun l1 l2 l3 l4 l5 l6 l7 l8 l9 j0 j1 j2 j3 j4 j5 j6 j7 j8 j9 st h Q x => pf_S pb_u_158 rfl rfl,
  fun l1 l2 l3 l4 l5 l6 l7 l8 l9 j0 j1 j2 j3 j4 j5 j6 j7 j8 j9 st h Q => pf_S pb_u_158 rfl rfl,
  fun L J st h Q a => pf_gf pb_u_158 rfl rfl,
  fun l0 l1 l2 l3 l5 l6 l7 l8 l9 j0 j1 j2 j3 j4 j5 j6 j7 j8 j9 st h Q x => pf_S pb_u_158 rfl rfl,
  fun l0 l1 l2 l3 l4 l6 l7 l8 l9 j0 j1 j2 j3 j4 j5 j6 j7 j8 j9 st h Q x => pf_S pb_u_158 rfl rfl,
  fun L J h Q x0 x1 x2 => pf_ks pb_u_158 rfl rfl rfl rfl,
  fun l0 l1 l2 l4 l5 l6 l7 l8 l9 j0 j1 j2 j3 j4 j5 j6 j7 j8 j9 st h Q x => pf_S pb_u_158 rfl rfl,
  fun l0 l1 l2 l3 l5 l6 l7 l8 l9 j0 j1 j2 j3 j4 j5 j6 j7 j8 j9 st h Q x => pf_S pb_u_158 rfl rfl,
  fun L J st x y h Q => pf_S pb_u_158 rfl rfl,
  fun l0 l1 l2 l3 l4 l5 l6 l7 l8 l9 j0 j1 j2 j3 j4 j5 j6 j7 j8 j9 st h Q x => pf_S pb_u_158 rfl rfl,
  fun L J st h Q x => pf_ii pb_u_158 rfl rfl rfl,
  fun l1 l2 l3 l4 l5 l6 l7 l8 l9 j0 j1 j2 j3 j4 j5 j6 j7 j8 j9 st h Q x => pf_S pb_u_158 rfl rfl,
  fun l1 l2 l3 l4 l5 l6 l7 l8 l9 j0 j1 j2 j3 j4 j5 j6 j7 j8 j9 st h Q => pf_S pb_u_158 rfl rfl,
  fun L J st h Q a => pf_gf pb_u_158 rfl rfl,
  fun l0 l1 l2 l3 l4 l5 l7 l8 l9 j0 j1 j2 j3 j4 j5 j6 j7 j8 j9 st h Q x => pf_S pb_u_158 rfl rfl,
  fun l1 l2 l3 l4 l5 l6 l7 l8 l9 j0 j1 j2 j3 j4 j5 j6 j7 j8 j9 st h Q x => pf_S pb_u_158 rfl rfl,
  fun l1 l2 l3 l4 l5 l6 l7 l8 l9 j0 j1 j2 j3 j4 j5 j6 j7 j8 j9 st h Q => pf_S pb_u_158 rfl rfl,
  fun l0 l1 l2 l3 l4 l5 l7 l8 l9 j0 j1 j2 j3 j4 j5 j6 j7 j8 j9 st h Q x => pf_S pb_u_158 rfl rfl,
  fun l0 l1 l2 l3 l5 l6 l7 l8 l9 j0 j1 j2 j3 j4 j5 j6 j7 j8 j9 st h Q x => pf_S pb_u_158 rfl rfl,
  fun L J h Q x0 x1 x2 x3 x4 => pf_kv pb_u_158 rfl pb_ci_157 rfl ⟨Nat.le_of_ble_eq_true rfl, Nat.le_of_ble_eq_true rfl, Nat.le_of_ble_eq_true rfl, Nat.le_of_ble_eq_true rfl, rfl⟩ rfl rfl,
  fun L J st h Q a i x => pf_si pb_u_158 rfl rfl,
  fun l0 l1 l2 l3 l4 l5 l7 l8 l9 j0 j1 j2 j3 j4 j5 j6 j7 j8 j9 st h Q x => pf_S pb_u_158 rfl rfl,
  fun L J st h Q => pf_S pb_u_158 rfl rfl,
  fun L J st h Q => pf_S pb_u_158 rfl rfl,
  fun l0 l1 l2 l3 l4 l5 l6 l7 l8 l9 j0 j1 j2 j3 j4 j5 j6 j7 j8 j9 st h Q x => pf_S pb_u_158 rfl rfl,
  fun L J st h Q => pf_S pb_u_158 rfl rfl,
  fun l0 l1 l2 l3 l4 l5 l6 l7 l8 l9 j0 j1 j2 j3 j4 j5 j6 j7 j8 j9 st h Q x => pf_S pb_u_158 rfl rfl,
  fun L J st h Q => pf_S pb_u_158 rfl rfl,
  fun L J st h Q x y => pf_ic pb_u_158 rfl rfl rfl,
  fun l0 l1 l2 l3 l4 l5 l7 l8 l9 j0 j1 j2 j3 j4 j5 j6 j7 j8 j9 st h Q x => pf_S pb_u_158 rfl rfl,
  fun L J st h Q x => pf_ii pb_u_158 rfl rfl rfl,
  fun l1 l2 l3 l4 l5 l6 l7 l8 l9 j0 j1 j2 j3 j4 j5 j6 j7 j8 j9 st h Q x => pf_S pb_u_158 rfl rfl,
  fun l1 l2 l3 l4 l5 l6 l7 l8 l9 j0 j1 j2 j3 j4 j5 j6 j7 j8 j9 st h Q => pf_S pb_u_158 rfl rfl,
  fun L J st h Q a => pf_gf pb_u_158 rfl rfl,
  fun l0 l1 l2 l3 l4 l5 l6 l8 l9 j0 j1 j2 j3 j4 j5 j6 j7 j8 j9 st h Q x => pf_S pb_u_158 rfl rfl,
  fun L J st h Q a i => pf_ai pb_u_158 rfl rfl,
  fun L J st h Q x => pf_ii pb_u_158 rfl rfl pf_ne,
  fun L J st h Q => pf_S pb_u_158 rfl rfl,
  fun L J st h Q => pf_S pb_u_158 rfl rfl,
  fun L J st h Q => pf_S pb_u_158 rfl rfl,
  fun l0 l1 l2 l3 l4 l5 l6 l7 l8 l9 j0 j1 j2 j3 j4 j5 j6 j7 j8 j9 st h Q x => pf_S pb_u_158 rfl rfl,
  fun l0 l1 l2 l3 l4 l5 l6 l8 l9 j0 j1 j2 j3 j4 j5 j6 j7 j8 j9 st h Q x => pf_S pb_u_158 rfl rfl,
  fun L J st h Q => pf_S pb_u_158 rfl rfl,
  fun l1 l2 l3 l4 l5 l6 l7 l8 l9 j0 j1 j2 j3 j4 j5 j6 j7 j8 j9 st h Q x => pf_S pb_u_158 rfl rfl,
  fun l1 l2 l3 l4 l5 l6 l7 l8 l9 j0 j1 j2 j3 j4 j5 j6 j7 j8 j9 st h Q => pf_S pb_u_158 rfl rfl,
  fun l0 l1 l2 l3 l4 l5 l7 l8 l9 j0 j1 j2 j3 j4 j5 j6 j7 j8 j9 st h Q x => pf_S pb_u_158 rfl rfl,
  fun L J st h Q a x => pf_pf pb_u_158 rfl rfl,
  fun L J h Q => pf_rv pb_u_158 rfl rfl⟩
theorem pb_c158 (x0 : Nat) (x1 : Int32) (x2 : Int32) (h : pb_H) (Q : Option Value → pb_H → Prop) : pb_call 158 [.ref x0, .int x1, .int x2] h Q ↔ pb_R 158 0 [some (.ref x0), some (.int x1), some (.int x2), none, none, none, none, none, none, none] [none, none, none, none, none, none, none, none, none, none] [] h Q := Iff.rfl
/-! 159: PlaneBenchModel.divideUp(II)V -/
theorem pb_u_159 : pb_t 159 = pb_t159 := rfl
theorem pb_ci_159 : pb_ci 159 = 12 := by decide +kernel
set_option maxRecDepth 100000 in
theorem pb_q159_8 (l0 l1 l2 l4 l5 : Option Value) (st : List Value) (h : pb_H) (Q : Option Value → pb_H → Prop) (x : Int32) : pb_R 159 8 [l0, l1, l2, some (.int x), l4, l5] [] st h Q ↔ pb_R 159 9 [l0, l1, l2, some (.int x), l4, l5] [] (.int x :: st) h Q := pf_S pb_u_159 rfl rfl
set_option maxRecDepth 100000 in
theorem pb_q159_50 (l0 l1 l2 l3 l5 : Option Value) (st : List Value) (h : pb_H) (Q : Option Value → pb_H → Prop) (x : Int32) : pb_R 159 50 [l0, l1, l2, l3, some (.int x), l5] [] st h Q ↔ pb_R 159 52 [l0, l1, l2, l3, some (.int x), l5] [] (.int x :: st) h Q := pf_S pb_u_159 rfl rfl
set_option maxRecDepth 100000 in
theorem pb_e159 : (∀ (l1 l2 l3 l4 l5 : Option Value) (st : List Value) (h : pb_H) (Q : Option Value → pb_H → Prop) (x : Nat), pb_R 159 0 [some (.ref x), l1, l2, l3, l4, l5] [] st h Q ↔ pb_R 159 1 [some (.ref x), l1, l2, l3, l4, l5] [] (.ref x :: st) h Q) ∧
  (∀ (l1 l2 l3 l4 l5 : Option Value) (st : List Value) (h : pb_H) (Q : Option Value → pb_H → Prop), pb_R 159 0 [some .null, l1, l2, l3, l4, l5] [] st h Q ↔ pb_R 159 1 [some .null, l1, l2, l3, l4, l5] [] (.null :: st) h Q) ∧
  (∀ (l0 l2 l3 l4 l5 : Option Value) (st : List Value) (h : pb_H) (Q : Option Value → pb_H → Prop) (x : Int32), pb_R 159 1 [l0, some (.int x), l2, l3, l4, l5] [] st h Q ↔ pb_R 159 2 [l0, some (.int x), l2, l3, l4, l5] [] (.int x :: st) h Q) ∧
  (∀ (l0 l1 l3 l4 l5 : Option Value) (st : List Value) (h : pb_H) (Q : Option Value → pb_H → Prop) (x : Int32), pb_R 159 2 [l0, l1, some (.int x), l3, l4, l5] [] st h Q ↔ pb_R 159 3 [l0, l1, some (.int x), l3, l4, l5] [] (.int x :: st) h Q) ∧
  (∀ (L : pb_L) (J : pb_J) (h : pb_H) (Q : Option Value → pb_H → Prop) (x0 : Int32) (x1 : Int32) (x2 : Nat), pb_R 159 3 L J [.int x0, .int x1, .ref x2] h Q ↔ pb_is0 (h.2 x2) 12 = true ∧ pb_call 158 [.ref x2, .int x1, .int x0] h (fun v t => pb_R 159 6 L J (v.toList ++ []) t Q)) ∧
  (∀ (L : pb_L) (J : pb_J) (st : List Value) (h : pb_H) (Q : Option Value → pb_H → Prop), pb_R 159 6 L J st h Q ↔ pb_R 159 7 L J (.int (0 : Int32) :: st) h Q) ∧
  (∀ (l0 l1 l2 l3 l4 l5 : Option Value) (st : List Value) (h : pb_H) (Q : Option Value → pb_H → Prop) (x : Int32), pb_R 159 7 [l0, l1, l2, l3, l4, l5] [] (.int x :: st) h Q ↔ pb_R 159 8 [l0, l1, l2, some (.int x), l4, l5] [] st h Q) ∧
  (∀ (L : pb_L) (J : pb_J) (st : List Value) (h : pb_H) (Q : Option Value → pb_H → Prop), pb_R 159 9 L J st h Q ↔ pb_R 159 11 L J (.int (20 : Int32) :: st) h Q) ∧
  (∀ (L : pb_L) (J : pb_J) (st : List Value) (h : pb_H) (Q : Option Value → pb_H → Prop) (x y : Int32), pb_R 159 11 L J (.int y :: .int x :: st) h Q ↔ if y ≤ x then pb_R 159 34 L J st h Q else pb_R 159 14 L J st h Q) ∧
  (∀ (l1 l2 l3 l4 l5 : Option Value) (st : List Value) (h : pb_H) (Q : Option Value → pb_H → Prop) (x : Nat), pb_R 159 14 [some (.ref x), l1, l2, l3, l4, l5] [] st h Q ↔ pb_R 159 15 [some (.ref x), l1, l2, l3, l4, l5] [] (.ref x :: st) h Q) ∧
  (∀ (l1 l2 l3 l4 l5 : Option Value) (st : List Value) (h : pb_H) (Q : Option Value → pb_H → Prop), pb_R 159 14 [some .null, l1, l2, l3, l4, l5] [] st h Q ↔ pb_R 159 15 [some .null, l1, l2, l3, l4, l5] [] (.null :: st) h Q) ∧
  (∀ (L : pb_L) (J : pb_J) (st : List Value) (h : pb_H) (Q : Option Value → pb_H → Prop) (a : Nat), pb_R 159 15 L J (.ref a :: st) h Q ↔ pb_o (pb_gf (h.2 a) 12 0) (fun v => pb_R 159 18 L J (v :: st) h Q)) ∧
  (∀ (l0 l2 l3 l4 l5 : Option Value) (st : List Value) (h : pb_H) (Q : Option Value → pb_H → Prop) (x : Int32), pb_R 159 18 [l0, some (.int x), l2, l3, l4, l5] [] st h Q ↔ pb_R 159 19 [l0, some (.int x), l2, l3, l4, l5] [] (.int x :: st) h Q) ∧
  (∀ (l0 l1 l2 l4 l5 : Option Value) (st : List Value) (h : pb_H) (Q : Option Value → pb_H → Prop) (x : Int32), pb_R 159 19 [l0, l1, l2, some (.int x), l4, l5] [] st h Q ↔ pb_R 159 20 [l0, l1, l2, some (.int x), l4, l5] [] (.int x :: st) h Q) ∧
  (∀ (L : pb_L) (J : pb_J) (st : List Value) (x y : Int32) (h : pb_H) (Q : Option Value → pb_H → Prop), pb_R 159 20 L J (.int y :: .int x :: st) h Q ↔ pb_R 159 21 L J (.int (x + y) :: st) h Q) ∧
  (∀ (l1 l2 l3 l4 l5 : Option Value) (st : List Value) (h : pb_H) (Q : Option Value → pb_H → Prop) (x : Nat), pb_R 159 21 [some (.ref x), l1, l2, l3, l4, l5] [] st h Q ↔ pb_R 159 22 [some (.ref x), l1, l2, l3, l4, l5] [] (.ref x :: st) h Q) ∧
  (∀ (l1 l2 l3 l4 l5 : Option Value) (st : List Value) (h : pb_H) (Q : Option Value → pb_H → Prop), pb_R 159 21 [some .null, l1, l2, l3, l4, l5] [] st h Q ↔ pb_R 159 22 [some .null, l1, l2, l3, l4, l5] [] (.null :: st) h Q) ∧
  (∀ (L : pb_L) (J : pb_J) (st : List Value) (h : pb_H) (Q : Option Value → pb_H → Prop) (a : Nat), pb_R 159 22 L J (.ref a :: st) h Q ↔ pb_o (pb_gf (h.2 a) 12 11) (fun v => pb_R 159 25 L J (v :: st) h Q)) ∧
  (∀ (l0 l1 l2 l4 l5 : Option Value) (st : List Value) (h : pb_H) (Q : Option Value → pb_H → Prop) (x : Int32), pb_R 159 25 [l0, l1, l2, some (.int x), l4, l5] [] st h Q ↔ pb_R 159 26 [l0, l1, l2, some (.int x), l4, l5] [] (.int x :: st) h Q) ∧
  (∀ (L : pb_L) (J : pb_J) (st : List Value) (h : pb_H) (Q : Option Value → pb_H → Prop) (a : Nat) (i : Int32), pb_R 159 26 L J (.int i :: .ref a :: st) h Q ↔ pb_o (pb_ai (h.2 a) i) (fun v => pb_R 159 27 L J (.int v :: st) h Q)) ∧
  (∀ (L : pb_L) (J : pb_J) (st : List Value) (h : pb_H) (Q : Option Value → pb_H → Prop) (a : Nat) (i x : Int32), pb_R 159 27 L J (.int x :: .int i :: .ref a :: st) h Q ↔ pb_o (pb_si (h.2 a) i x) (fun c => pb_R 159 28 L J st (pb_set h a c) Q)) ∧
  (∀ (l0 l1 l2 l4 l5 : Option Value) (st : List Value) (h : pb_H) (Q : Option Value → pb_H → Prop) (x : Int32), pb_R 159 28 [l0, l1, l2, some (.int x), l4, l5] [] st h Q ↔ pb_R 159 31 [l0, l1, l2, some (.int (x + (1 : Int32))), l4, l5] [] st h Q) ∧
  (∀ (L : pb_L) (J : pb_J) (st : List Value) (h : pb_H) (Q : Option Value → pb_H → Prop), pb_R 159 31 L J st h Q ↔ pb_R 159 8 L J st h Q) ∧
  (∀ (l1 l2 l3 l4 l5 : Option Value) (st : List Value) (h : pb_H) (Q : Option Value → pb_H → Prop) (x : Nat), pb_R 159 34 [some (.ref x), l1, l2, l3, l4, l5] [] st h Q ↔ pb_R 159 35 [some (.ref x), l1, l2, l3, l4, l5] [] (.ref x :: st) h Q) ∧
  (∀ (l1 l2 l3 l4 l5 : Option Value) (st : List Value) (h : pb_H) (Q : Option Value → pb_H → Prop), pb_R 159 34 [some .null, l1, l2, l3, l4, l5] [] st h Q ↔ pb_R 159 35 [some .null, l1, l2, l3, l4, l5] [] (.null :: st) h Q) ∧
  (∀ (L : pb_L) (J : pb_J) (st : List Value) (h : pb_H) (Q : Option Value → pb_H → Prop) (a : Nat), pb_R 159 35 L J (.ref a :: st) h Q ↔ pb_o (pb_gf (h.2 a) 12 14) (fun v => pb_R 159 38 L J (v :: st) h Q)) ∧
  (∀ (L : pb_L) (J : pb_J) (st : List Value) (h : pb_H) (Q : Option Value → pb_H → Prop) (x : Int32), pb_R 159 38 L J (.int x :: st) h Q ↔ if x = 0 then pb_R 159 45 L J st h Q else pb_R 159 41 L J st h Q) ∧
  (∀ (L : pb_L) (J : pb_J) (st : List Value) (h : pb_H) (Q : Option Value → pb_H → Prop), pb_R 159 41 L J st h Q ↔ pb_R 159 42 L J (.int (0 : Int32) :: st) h Q) ∧
  (∀ (L : pb_L) (J : pb_J) (st : List Value) (h : pb_H) (Q : Option Value → pb_H → Prop), pb_R 159 42 L J st h Q ↔ pb_R 159 46 L J st h Q) ∧
  (∀ (L : pb_L) (J : pb_J) (st : List Value) (h : pb_H) (Q : Option Value → pb_H → Prop), pb_R 159 45 L J st h Q ↔ pb_R 159 46 L J (.int (1 : Int32) :: st) h Q) ∧
  (∀ (l0 l1 l2 l3 l4 l5 : Option Value) (st : List Value) (h : pb_H) (Q : Option Value → pb_H → Prop) (x : Int32), pb_R 159 46 [l0, l1, l2, l3, l4, l5] [] (.int x :: st) h Q ↔ pb_R 159 47 [l0, l1, l2, some (.int x), l4, l5] [] st h Q) ∧
  (∀ (L : pb_L) (J : pb_J) (st : List Value) (h : pb_H) (Q : Option Value → pb_H → Prop), pb_R 159 47 L J st h Q ↔ pb_R 159 48 L J (.int (0 : Int32) :: st) h Q) ∧
  (∀ (l0 l1 l2 l3 l4 l5 : Option Value) (st : List Value) (h : pb_H) (Q : Option Value → pb_H → Prop) (x : Int32), pb_R 159 48 [l0, l1, l2, l3, l4, l5] [] (.int x :: st) h Q ↔ pb_R 159 50 [l0, l1, l2, l3, some (.int x), l5] [] st h Q) ∧
  (∀ (L : pb_L) (J : pb_J) (st : List Value) (h : pb_H) (Q : Option Value → pb_H → Prop), pb_R 159 52 L J st h Q ↔ pb_R 159 54 L J (.int (20 : Int32) :: st) h Q) ∧
  (∀ (L : pb_L) (J : pb_J) (st : List Value) (h : pb_H) (Q : Option Value → pb_H → Prop) (x y : Int32), pb_R 159 54 L J (.int y :: .int x :: st) h Q ↔ if y ≤ x then pb_R 159 100 L J st h Q else pb_R 159 57 L J st h Q) ∧
  (∀ (l0 l1 l2 l4 l5 : Option Value) (st : List Value) (h : pb_H) (Q : Option Value → pb_H → Prop) (x : Int32), pb_R 159 57 [l0, l1, l2, some (.int x), l4, l5] [] st h Q ↔ pb_R 159 58 [l0, l1, l2, some (.int x), l4, l5] [] (.int x :: st) h Q) ∧
  (∀ (L : pb_L) (J : pb_J) (st : List Value) (h : pb_H) (Q : Option Value → pb_H → Prop) (x : Int32), pb_R 159 58 L J (.int x :: st) h Q ↔ if x ≤ 0 then pb_R 159 100 L J st h Q else pb_R 159 61 L J st h Q) ∧
  (∀ (l1 l2 l3 l4 l5 : Option Value) (st : List Value) (h : pb_H) (Q : Option Value → pb_H → Prop) (x : Nat), pb_R 159 61 [some (.ref x), l1, l2, l3, l4, l5] [] st h Q ↔ pb_R 159 62 [some (.ref x), l1, l2, l3, l4, l5] [] (.ref x :: st) h Q) ∧
  (∀ (l1 l2 l3 l4 l5 : Option Value) (st : List Value) (h : pb_H) (Q : Option Value → pb_H → Prop), pb_R 159 61 [some .null, l1, l2, l3, l4, l5] [] st h Q ↔ pb_R 159 62 [some .null, l1, l2, l3, l4, l5] [] (.null :: st) h Q) ∧
  (∀ (L : pb_L) (J : pb_J) (st : List Value) (h : pb_H) (Q : Option Value → pb_H → Prop) (a : Nat), pb_R 159 62 L J (.ref a :: st) h Q ↔ pb_o (pb_gf (h.2 a) 12 0) (fun v => pb_R 159 65 L J (v :: st) h Q)) ∧
  (∀ (l0 l2 l3 l4 l5 : Option Value) (st : List Value) (h : pb_H) (Q : Option Value → pb_H → Prop) (x : Int32), pb_R 159 65 [l0, some (.int x), l2, l3, l4, l5] [] st h Q ↔ pb_R 159 66 [l0, some (.int x), l2, l3, l4, l5] [] (.int x :: st) h Q) ∧
  (∀ (l0 l1 l2 l3 l5 : Option Value) (st : List Value) (h : pb_H) (Q : Option Value → pb_H → Prop) (x : Int32), pb_R 159 66 [l0, l1, l2, l3, some (.int x), l5] [] st h Q ↔ pb_R 159 68 [l0, l1, l2, l3, some (.int x), l5] [] (.int x :: st) h Q) ∧
  (∀ (L : pb_L) (J : pb_J) (st : List Value) (x y : Int32) (h : pb_H) (Q : Option Value → pb_H → Prop), pb_R 159 68 L J (.int y :: .int x :: st) h Q ↔ pb_R 159 69 L J (.int (x + y) :: st) h Q) ∧
  (∀ (L : pb_L) (J : pb_J) (st : List Value) (h : pb_H) (Q : Option Value → pb_H → Prop) (a : Nat) (i : Int32), pb_R 159 69 L J (.int i :: .ref a :: st) h Q ↔ pb_o (pb_ai (h.2 a) i) (fun v => pb_R 159 70 L J (.int v :: st) h Q)) ∧
  (∀ (l0 l1 l2 l4 l5 : Option Value) (st : List Value) (h : pb_H) (Q : Option Value → pb_H → Prop) (x : Int32), pb_R 159 70 [l0, l1, l2, some (.int x), l4, l5] [] st h Q ↔ pb_R 159 71 [l0, l1, l2, some (.int x), l4, l5] [] (.int x :: st) h Q) ∧
  (∀ (L : pb_L) (J : pb_J) (st : List Value) (x y : Int32) (h : pb_H) (Q : Option Value → pb_H → Prop), pb_R 159 71 L J (.int y :: .int x :: st) h Q ↔ pb_R 159 72 L J (.int (x + y) :: st) h Q) ∧
  (∀ (l0 l1 l2 l3 l4 l5 : Option Value) (st : List Value) (h : pb_H) (Q : Option Value → pb_H → Prop) (x : Int32), pb_R 159 72 [l0, l1, l2, l3, l4, l5] [] (.int x :: st) h Q ↔ pb_R 159 74 [l0, l1, l2, l3, l4, some (.int x)] [] st h Q) ∧
  (∀ (l1 l2 l3 l4 l5 : Option Value) (st : List Value) (h : pb_H) (Q : Option Value → pb_H → Prop) (x : Nat), pb_R 159 74 [some (.ref x), l1, l2, l3, l4, l5] [] st h Q ↔ pb_R 159 75 [some (.ref x), l1, l2, l3, l4, l5] [] (.ref x :: st) h Q) ∧
  (∀ (l1 l2 l3 l4 l5 : Option Value) (st : List Value) (h : pb_H) (Q : Option Value → pb_H → Prop), pb_R 159 74 [some .null, l1, l2, l3, l4, l5] [] st h Q ↔ pb_R 159 75 [some .null, l1, l2, l3, l4, l5] [] (.null :: st) h Q) ∧
  (∀ (L : pb_L) (J : pb_J) (st : List Value) (h : pb_H) (Q : Option Value → pb_H → Prop) (a : Nat), pb_R 159 75 L J (.ref a :: st) h Q ↔ pb_o (pb_gf (h.2 a) 12 0) (fun v => pb_R 159 78 L J (v :: st) h Q)) ∧
  (∀ (l0 l2 l3 l4 l5 : Option Value) (st : List Value) (h : pb_H) (Q : Option Value → pb_H → Prop) (x : Int32), pb_R 159 78 [l0, some (.int x), l2, l3, l4, l5] [] st h Q ↔ pb_R 159 79 [l0, some (.int x), l2, l3, l4, l5] [] (.int x :: st) h Q) ∧
  (∀ (l0 l1 l2 l3 l5 : Option Value) (st : List Value) (h : pb_H) (Q : Option Value → pb_H → Prop) (x : Int32), pb_R 159 79 [l0, l1, l2, l3, some (.int x), l5] [] st h Q ↔ pb_R 159 81 [l0, l1, l2, l3, some (.int x), l5] [] (.int x :: st) h Q) ∧
  (∀ (L : pb_L) (J : pb_J) (st : List Value) (x y : Int32) (h : pb_H) (Q : Option Value → pb_H → Prop), pb_R 159 81 L J (.int y :: .int x :: st) h Q ↔ pb_R 159 82 L J (.int (x + y) :: st) h Q) ∧
  (∀ (l0 l1 l2 l3 l4 : Option Value) (st : List Value) (h : pb_H) (Q : Option Value → pb_H → Prop) (x : Int32), pb_R 159 82 [l0, l1, l2, l3, l4, some (.int x)] [] st h Q ↔ pb_R 159 84 [l0, l1, l2, l3, l4, some (.int x)] [] (.int x :: st) h Q) ∧
  (∀ (L : pb_L) (J : pb_J) (st : List Value) (h : pb_H) (Q : Option Value → pb_H → Prop), pb_R 159 84 L J st h Q ↔ pb_R 159 86 L J (.int (65535 : Int32) :: st) h Q) ∧
  (∀ (L : pb_L) (J : pb_J) (st : List Value) (x y : Int32) (h : pb_H) (Q : Option Value → pb_H → Prop), pb_R 159 86 L J (.int y :: .int x :: st) h Q ↔ pb_R 159 87 L J (.int (x &&& y) :: st) h Q) ∧
  (∀ (L : pb_L) (J : pb_J) (st : List Value) (h : pb_H) (Q : Option Value → pb_H → Prop) (a : Nat) (i x : Int32), pb_R 159 87 L J (.int x :: .int i :: .ref a :: st) h Q ↔ pb_o (pb_si (h.2 a) i x) (fun c => pb_R 159 88 L J st (pb_set h a c) Q)) ∧
  (∀ (l0 l1 l2 l3 l4 : Option Value) (st : List Value) (h : pb_H) (Q : Option Value → pb_H → Prop) (x : Int32), pb_R 159 88 [l0, l1, l2, l3, l4, some (.int x)] [] st h Q ↔ pb_R 159 90 [l0, l1, l2, l3, l4, some (.int x)] [] (.int x :: st) h Q) ∧
  (∀ (L : pb_L) (J : pb_J) (st : List Value) (h : pb_H) (Q : Option Value → pb_H → Prop), pb_R 159 90 L J st h Q ↔ pb_R 159 92 L J (.int (16 : Int32) :: st) h Q) ∧
  (∀ (L : pb_L) (J : pb_J) (st : List Value) (x y : Int32) (h : pb_H) (Q : Option Value → pb_H → Prop), pb_R 159 92 L J (.int y :: .int x :: st) h Q ↔ pb_R 159 93 L J (.int (x >>> (y &&& 31)) :: st) h Q) ∧
  (∀ (l0 l1 l2 l3 l4 l5 : Option Value) (st : List Value) (h : pb_H) (Q : Option Value → pb_H → Prop) (x : Int32), pb_R 159 93 [l0, l1, l2, l3, l4, l5] [] (.int x :: st) h Q ↔ pb_R 159 94 [l0, l1, l2, some (.int x), l4, l5] [] st h Q) ∧
  (∀ (l0 l1 l2 l3 l5 : Option Value) (st : List Value) (h : pb_H) (Q : Option Value → pb_H → Prop) (x : Int32), pb_R 159 94 [l0, l1, l2, l3, some (.int x), l5] [] st h Q ↔ pb_R 159 97 [l0, l1, l2, l3, some (.int (x + (1 : Int32))), l5] [] st h Q) ∧
  (∀ (L : pb_L) (J : pb_J) (st : List Value) (h : pb_H) (Q : Option Value → pb_H → Prop), pb_R 159 97 L J st h Q ↔ pb_R 159 50 L J st h Q) ∧
  (∀ (L : pb_L) (J : pb_J) (h : pb_H) (Q : Option Value → pb_H → Prop), pb_R 159 100 L J [] h Q ↔ Q none h) := ⟨
  fun l1 l2 l3 l4 l5 st h Q x => pf_S pb_u_159 rfl rfl,
  fun l1 l2 l3 l4 l5 st h Q => pf_S pb_u_159 rfl rfl,
  fun l0 l2 l3 l4 l5 st h Q x => pf_S pb_u_159 rfl rfl,
  fun l0 l1 l3 l4 l5 st h Q x => pf_S pb_u_159 rfl rfl,
  fun L J h Q x0 x1 x2 => pf_kv pb_u_159 rfl pb_ci_158 rfl ⟨Nat.le_of_ble_eq_true rfl, Nat.le_of_ble_eq_true rfl, Nat.le_of_ble_eq_true rfl, Nat.le_of_ble_eq_true rfl, rfl⟩ rfl rfl,
  fun L J st h Q => pf_S pb_u_159 rfl rfl,
  fun l0 l1 l2 l3 l4 l5 st h Q x => pf_S pb_u_159 rfl rfl,
  fun L J st h Q => pf_S pb_u_159 rfl rfl,
  fun L J st h Q x y => pf_ic pb_u_159 rfl rfl rfl,
  fun l1 l2 l3 l4 l5 st h Q x => pf_S pb_u_159 rfl rfl,
  fun l1 l2 l3 l4 l5 st h Q => pf_S pb_u_159 rfl rfl,
  fun L J st h Q a => pf_gf pb_u_159 rfl rfl,
  fun l0 l2 l3 l4 l5 st h Q x => pf_S pb_u_159 rfl rfl,
  fun l0 l1 l2 l4 l5 st h Q x => pf_S pb_u_159 rfl rfl,
  fun L J st x y h Q => pf_S pb_u_159 rfl rfl,
  fun l1 l2 l3 l4 l5 st h Q x => pf_S pb_u_159 rfl rfl,
  fun l1 l2 l3 l4 l5 st h Q => pf_S pb_u_159 rfl rfl,
  fun L J st h Q a => pf_gf pb_u_159 rfl rfl,
  fun l0 l1 l2 l4 l5 st h Q x => pf_S pb_u_159 rfl rfl,
  fun L J st h Q a i => pf_ai pb_u_159 rfl rfl,
  fun L J st h Q a i x => pf_si pb_u_159 rfl rfl,
  fun l0 l1 l2 l4 l5 st h Q x => pf_S pb_u_159 rfl rfl,
  fun L J st h Q => pf_S pb_u_159 rfl rfl,
  fun l1 l2 l3 l4 l5 st h Q x => pf_S pb_u_159 rfl rfl,
  fun l1 l2 l3 l4 l5 st h Q => pf_S pb_u_159 rfl rfl,
  fun L J st h Q a => pf_gf pb_u_159 rfl rfl,
  fun L J st h Q x => pf_ii pb_u_159 rfl rfl rfl,
  fun L J st h Q => pf_S pb_u_159 rfl rfl,
  fun L J st h Q => pf_S pb_u_159 rfl rfl,
  fun L J st h Q => pf_S pb_u_159 rfl rfl,
  fun l0 l1 l2 l3 l4 l5 st h Q x => pf_S pb_u_159 rfl rfl,
  fun L J st h Q => pf_S pb_u_159 rfl rfl,
  fun l0 l1 l2 l3 l4 l5 st h Q x => pf_S pb_u_159 rfl rfl,
  fun L J st h Q => pf_S pb_u_159 rfl rfl,
  fun L J st h Q x y => pf_ic pb_u_159 rfl rfl rfl,
  fun l0 l1 l2 l4 l5 st h Q x => pf_S pb_u_159 rfl rfl,
  fun L J st h Q x => pf_ii pb_u_159 rfl rfl rfl,
  fun l1 l2 l3 l4 l5 st h Q x => pf_S pb_u_159 rfl rfl,
  fun l1 l2 l3 l4 l5 st h Q => pf_S pb_u_159 rfl rfl,
  fun L J st h Q a => pf_gf pb_u_159 rfl rfl,
  fun l0 l2 l3 l4 l5 st h Q x => pf_S pb_u_159 rfl rfl,
  fun l0 l1 l2 l3 l5 st h Q x => pf_S pb_u_159 rfl rfl,
  fun L J st x y h Q => pf_S pb_u_159 rfl rfl,
  fun L J st h Q a i => pf_ai pb_u_159 rfl rfl,
  fun l0 l1 l2 l4 l5 st h Q x => pf_S pb_u_159 rfl rfl,
  fun L J st x y h Q => pf_S pb_u_159 rfl rfl,
  fun l0 l1 l2 l3 l4 l5 st h Q x => pf_S pb_u_159 rfl rfl,
  fun l1 l2 l3 l4 l5 st h Q x => pf_S pb_u_159 rfl rfl,
  fun l1 l2 l3 l4 l5 st h Q => pf_S pb_u_159 rfl rfl,
  fun L J st h Q a => pf_gf pb_u_159 rfl rfl,
  fun l0 l2 l3 l4 l5 st h Q x => pf_S pb_u_159 rfl rfl,
  fun l0 l1 l2 l3 l5 st h Q x => pf_S pb_u_159 rfl rfl,
  fun L J st x y h Q => pf_S pb_u_159 rfl rfl,
  fun l0 l1 l2 l3 l4 st h Q x => pf_S pb_u_159 rfl rfl,
  fun L J st h Q => pf_S pb_u_159 rfl rfl,
  fun L J st x y h Q => pf_S pb_u_159 rfl rfl,
  fun L J st h Q a i x => pf_si pb_u_159 rfl rfl,
  fun l0 l1 l2 l3 l4 st h Q x => pf_S pb_u_159 rfl rfl,
  fun L J st h Q => pf_S pb_u_159 rfl rfl,
  fun L J st x y h Q => pf_S pb_u_159 rfl rfl,
  fun l0 l1 l2 l3 l4 l5 st h Q x => pf_S pb_u_159 rfl rfl,
  fun l0 l1 l2 l3 l5 st h Q x => pf_S pb_u_159 rfl rfl,
  fun L J st h Q => pf_S pb_u_159 rfl rfl,
  fun L J h Q => pf_rv pb_u_159 rfl rfl⟩
theorem pb_c159 (x0 : Nat) (x1 : Int32) (x2 : Int32) (h : pb_H) (Q : Option Value → pb_H → Prop) : pb_call 159 [.ref x0, .int x1, .int x2] h Q ↔ pb_R 159 0 [some (.ref x0), some (.int x1), some (.int x2), none, none, none] [] [] h Q := Iff.rfl
/-! 160: PlaneBenchModel.isMultiple(II)Z -/
theorem pb_u_160 : pb_t 160 = pb_t160 := rfl
theorem pb_ci_160 : pb_ci 160 = 12 := by decide +kernel
set_option maxRecDepth 100000 in
theorem pb_e160 : (∀ (l1 l2 : Option Value) (st : List Value) (h : pb_H) (Q : Option Value → pb_H → Prop) (x : Nat), pb_R 160 0 [some (.ref x), l1, l2] [] st h Q ↔ pb_R 160 1 [some (.ref x), l1, l2] [] (.ref x :: st) h Q) ∧
  (∀ (l1 l2 : Option Value) (st : List Value) (h : pb_H) (Q : Option Value → pb_H → Prop), pb_R 160 0 [some .null, l1, l2] [] st h Q ↔ pb_R 160 1 [some .null, l1, l2] [] (.null :: st) h Q) ∧
  (∀ (l0 l2 : Option Value) (st : List Value) (h : pb_H) (Q : Option Value → pb_H → Prop) (x : Int32), pb_R 160 1 [l0, some (.int x), l2] [] st h Q ↔ pb_R 160 2 [l0, some (.int x), l2] [] (.int x :: st) h Q) ∧
  (∀ (l0 l1 : Option Value) (st : List Value) (h : pb_H) (Q : Option Value → pb_H → Prop) (x : Int32), pb_R 160 2 [l0, l1, some (.int x)] [] st h Q ↔ pb_R 160 3 [l0, l1, some (.int x)] [] (.int x :: st) h Q) ∧
  (∀ (L : pb_L) (J : pb_J) (h : pb_H) (Q : Option Value → pb_H → Prop) (x0 : Int32) (x1 : Int32) (x2 : Nat), pb_R 160 3 L J [.int x0, .int x1, .ref x2] h Q ↔ pb_is0 (h.2 x2) 12 = true ∧ pb_call 150 [.ref x2, .int x1, .int x0] h (fun v t => pb_R 160 6 L J (v.toList ++ []) t Q)) ∧
  (∀ (L : pb_L) (J : pb_J) (st : List Value) (h : pb_H) (Q : Option Value → pb_H → Prop) (x : Int32), pb_R 160 6 L J (.int x :: st) h Q ↔ if 0 ≤ x then pb_R 160 15 L J st h Q else pb_R 160 9 L J st h Q) ∧
  (∀ (l1 l2 : Option Value) (st : List Value) (h : pb_H) (Q : Option Value → pb_H → Prop) (x : Nat), pb_R 160 9 [some (.ref x), l1, l2] [] st h Q ↔ pb_R 160 10 [some (.ref x), l1, l2] [] (.ref x :: st) h Q) ∧
  (∀ (l1 l2 : Option Value) (st : List Value) (h : pb_H) (Q : Option Value → pb_H → Prop), pb_R 160 9 [some .null, l1, l2] [] st h Q ↔ pb_R 160 10 [some .null, l1, l2] [] (.null :: st) h Q) ∧
  (∀ (l0 l2 : Option Value) (st : List Value) (h : pb_H) (Q : Option Value → pb_H → Prop) (x : Int32), pb_R 160 10 [l0, some (.int x), l2] [] st h Q ↔ pb_R 160 11 [l0, some (.int x), l2] [] (.int x :: st) h Q) ∧
  (∀ (L : pb_L) (J : pb_J) (h : pb_H) (Q : Option Value → pb_H → Prop) (x0 : Int32) (x1 : Nat), pb_R 160 11 L J [.int x0, .ref x1] h Q ↔ pb_is0 (h.2 x1) 12 = true ∧ pb_call 147 [.ref x1, .int x0] h (fun v t => pb_R 160 14 L J (v.toList ++ []) t Q)) ∧
  (∀ (L : pb_L) (J : pb_J) (h : pb_H) (Q : Option Value → pb_H → Prop) (x : Int32), pb_R 160 14 L J [.int x] h Q ↔ narrow .boolean (.int x) = .int x ∧ Q (some (.int x)) h) ∧
  (∀ (l1 l2 : Option Value) (st : List Value) (h : pb_H) (Q : Option Value → pb_H → Prop) (x : Nat), pb_R 160 15 [some (.ref x), l1, l2] [] st h Q ↔ pb_R 160 16 [some (.ref x), l1, l2] [] (.ref x :: st) h Q) ∧
  (∀ (l1 l2 : Option Value) (st : List Value) (h : pb_H) (Q : Option Value → pb_H → Prop), pb_R 160 15 [some .null, l1, l2] [] st h Q ↔ pb_R 160 16 [some .null, l1, l2] [] (.null :: st) h Q) ∧
  (∀ (l0 l2 : Option Value) (st : List Value) (h : pb_H) (Q : Option Value → pb_H → Prop) (x : Int32), pb_R 160 16 [l0, some (.int x), l2] [] st h Q ↔ pb_R 160 17 [l0, some (.int x), l2] [] (.int x :: st) h Q) ∧
  (∀ (l0 l1 : Option Value) (st : List Value) (h : pb_H) (Q : Option Value → pb_H → Prop) (x : Int32), pb_R 160 17 [l0, l1, some (.int x)] [] st h Q ↔ pb_R 160 18 [l0, l1, some (.int x)] [] (.int x :: st) h Q) ∧
  (∀ (L : pb_L) (J : pb_J) (h : pb_H) (Q : Option Value → pb_H → Prop) (x0 : Int32) (x1 : Int32) (x2 : Nat), pb_R 160 18 L J [.int x0, .int x1, .ref x2] h Q ↔ pb_is0 (h.2 x2) 12 = true ∧ pb_call 158 [.ref x2, .int x1, .int x0] h (fun v t => pb_R 160 21 L J (v.toList ++ []) t Q)) ∧
  (∀ (l1 l2 : Option Value) (st : List Value) (h : pb_H) (Q : Option Value → pb_H → Prop) (x : Nat), pb_R 160 21 [some (.ref x), l1, l2] [] st h Q ↔ pb_R 160 22 [some (.ref x), l1, l2] [] (.ref x :: st) h Q) ∧
  (∀ (l1 l2 : Option Value) (st : List Value) (h : pb_H) (Q : Option Value → pb_H → Prop), pb_R 160 21 [some .null, l1, l2] [] st h Q ↔ pb_R 160 22 [some .null, l1, l2] [] (.null :: st) h Q) ∧
  (∀ (L : pb_L) (J : pb_J) (st : List Value) (h : pb_H) (Q : Option Value → pb_H → Prop) (a : Nat), pb_R 160 22 L J (.ref a :: st) h Q ↔ pb_o (pb_gf (h.2 a) 12 14) (fun v => pb_R 160 25 L J (v :: st) h Q)) ∧
  (∀ (L : pb_L) (J : pb_J) (h : pb_H) (Q : Option Value → pb_H → Prop) (x : Int32), pb_R 160 25 L J [.int x] h Q ↔ narrow .boolean (.int x) = .int x ∧ Q (some (.int x)) h) := ⟨
  fun l1 l2 st h Q x => pf_S pb_u_160 rfl rfl,
  fun l1 l2 st h Q => pf_S pb_u_160 rfl rfl,
  fun l0 l2 st h Q x => pf_S pb_u_160 rfl rfl,
  fun l0 l1 st h Q x => pf_S pb_u_160 rfl rfl,
  fun L J h Q x0 x1 x2 => pf_kv pb_u_160 rfl pb_ci_150 rfl ⟨Nat.le_of_ble_eq_true rfl, Nat.le_of_ble_eq_true rfl, Nat.le_of_ble_eq_true rfl, Nat.le_of_ble_eq_true rfl, rfl⟩ rfl rfl,
  fun L J st h Q x => pf_ii pb_u_160 rfl rfl rfl,
  fun l1 l2 st h Q x => pf_S pb_u_160 rfl rfl,
  fun l1 l2 st h Q => pf_S pb_u_160 rfl rfl,
  fun l0 l2 st h Q x => pf_S pb_u_160 rfl rfl,
  fun L J h Q x0 x1 => pf_kv pb_u_160 rfl pb_ci_147 rfl ⟨Nat.le_of_ble_eq_true rfl, Nat.le_of_ble_eq_true rfl, Nat.le_of_ble_eq_true rfl, Nat.le_of_ble_eq_true rfl, rfl⟩ rfl rfl,
  fun L J h Q x => pf_rz pb_u_160 rfl rfl,
  fun l1 l2 st h Q x => pf_S pb_u_160 rfl rfl,
  fun l1 l2 st h Q => pf_S pb_u_160 rfl rfl,
  fun l0 l2 st h Q x => pf_S pb_u_160 rfl rfl,
  fun l0 l1 st h Q x => pf_S pb_u_160 rfl rfl,
  fun L J h Q x0 x1 x2 => pf_kv pb_u_160 rfl pb_ci_158 rfl ⟨Nat.le_of_ble_eq_true rfl, Nat.le_of_ble_eq_true rfl, Nat.le_of_ble_eq_true rfl, Nat.le_of_ble_eq_true rfl, rfl⟩ rfl rfl,
  fun l1 l2 st h Q x => pf_S pb_u_160 rfl rfl,
  fun l1 l2 st h Q => pf_S pb_u_160 rfl rfl,
  fun L J st h Q a => pf_gf pb_u_160 rfl rfl,
  fun L J h Q x => pf_rz pb_u_160 rfl rfl⟩
theorem pb_c160 (x0 : Nat) (x1 : Int32) (x2 : Int32) (h : pb_H) (Q : Option Value → pb_H → Prop) : pb_call 160 [.ref x0, .int x1, .int x2] h Q ↔ pb_R 160 0 [some (.ref x0), some (.int x1), some (.int x2)] [] [] h Q := Iff.rfl
/-! 161: PlaneBenchModel.clear(I)V -/
theorem pb_u_161 : pb_t 161 = pb_t161 := rfl
theorem pb_ci_161 : pb_ci 161 = 12 := by decide +kernel
set_option maxRecDepth 100000 in
theorem pb_q161_2 (l0 l1 : Option Value) (st : List Value) (h : pb_H) (Q : Option Value → pb_H → Prop) (x : Int32) : pb_R 161 2 [l0, l1, some (.int x)] [] st h Q ↔ pb_R 161 3 [l0, l1, some (.int x)] [] (.int x :: st) h Q := pf_S pb_u_161 rfl rfl
set_option maxRecDepth 100000 in
theorem pb_e161 : (∀ (L : pb_L) (J : pb_J) (st : List Value) (h : pb_H) (Q : Option Value → pb_H → Prop), pb_R 161 0 L J st h Q ↔ pb_R 161 1 L J (.int (0 : Int32) :: st) h Q) ∧
  (∀ (l0 l1 l2 : Option Value) (st : List Value) (h : pb_H) (Q : Option Value → pb_H → Prop) (x : Int32), pb_R 161 1 [l0, l1, l2] [] (.int x :: st) h Q ↔ pb_R 161 2 [l0, l1, some (.int x)] [] st h Q) ∧
  (∀ (L : pb_L) (J : pb_J) (st : List Value) (h : pb_H) (Q : Option Value → pb_H → Prop), pb_R 161 3 L J st h Q ↔ pb_R 161 5 L J (.int (17 : Int32) :: st) h Q) ∧
  (∀ (L : pb_L) (J : pb_J) (st : List Value) (h : pb_H) (Q : Option Value → pb_H → Prop) (x y : Int32), pb_R 161 5 L J (.int y :: .int x :: st) h Q ↔ if y ≤ x then pb_R 161 35 L J st h Q else pb_R 161 8 L J st h Q) ∧
  (∀ (l1 l2 : Option Value) (st : List Value) (h : pb_H) (Q : Option Value → pb_H → Prop) (x : Nat), pb_R 161 8 [some (.ref x), l1, l2] [] st h Q ↔ pb_R 161 9 [some (.ref x), l1, l2] [] (.ref x :: st) h Q) ∧
  (∀ (l1 l2 : Option Value) (st : List Value) (h : pb_H) (Q : Option Value → pb_H → Prop), pb_R 161 8 [some .null, l1, l2] [] st h Q ↔ pb_R 161 9 [some .null, l1, l2] [] (.null :: st) h Q) ∧
  (∀ (L : pb_L) (J : pb_J) (st : List Value) (h : pb_H) (Q : Option Value → pb_H → Prop) (a : Nat), pb_R 161 9 L J (.ref a :: st) h Q ↔ pb_o (pb_gf (h.2 a) 12 1) (fun v => pb_R 161 12 L J (v :: st) h Q)) ∧
  (∀ (l0 l2 : Option Value) (st : List Value) (h : pb_H) (Q : Option Value → pb_H → Prop) (x : Int32), pb_R 161 12 [l0, some (.int x), l2] [] st h Q ↔ pb_R 161 13 [l0, some (.int x), l2] [] (.int x :: st) h Q) ∧
  (∀ (L : pb_L) (J : pb_J) (st : List Value) (h : pb_H) (Q : Option Value → pb_H → Prop), pb_R 161 13 L J st h Q ↔ pb_R 161 15 L J (.int (17 : Int32) :: st) h Q) ∧
  (∀ (L : pb_L) (J : pb_J) (st : List Value) (x y : Int32) (h : pb_H) (Q : Option Value → pb_H → Prop), pb_R 161 15 L J (.int y :: .int x :: st) h Q ↔ pb_R 161 16 L J (.int (x * y) :: st) h Q) ∧
  (∀ (l0 l1 : Option Value) (st : List Value) (h : pb_H) (Q : Option Value → pb_H → Prop) (x : Int32), pb_R 161 16 [l0, l1, some (.int x)] [] st h Q ↔ pb_R 161 17 [l0, l1, some (.int x)] [] (.int x :: st) h Q) ∧
  (∀ (L : pb_L) (J : pb_J) (st : List Value) (x y : Int32) (h : pb_H) (Q : Option Value → pb_H → Prop), pb_R 161 17 L J (.int y :: .int x :: st) h Q ↔ pb_R 161 18 L J (.int (x + y) :: st) h Q) ∧
  (∀ (L : pb_L) (J : pb_J) (st : List Value) (h : pb_H) (Q : Option Value → pb_H → Prop), pb_R 161 18 L J st h Q ↔ pb_R 161 19 L J (.int (0 : Int32) :: st) h Q) ∧
  (∀ (L : pb_L) (J : pb_J) (st : List Value) (h : pb_H) (Q : Option Value → pb_H → Prop) (a : Nat) (i x : Int32), pb_R 161 19 L J (.int x :: .int i :: .ref a :: st) h Q ↔ pb_o (pb_si (h.2 a) i x) (fun c => pb_R 161 20 L J st (pb_set h a c) Q)) ∧
  (∀ (l1 l2 : Option Value) (st : List Value) (h : pb_H) (Q : Option Value → pb_H → Prop) (x : Nat), pb_R 161 20 [some (.ref x), l1, l2] [] st h Q ↔ pb_R 161 21 [some (.ref x), l1, l2] [] (.ref x :: st) h Q) ∧
  (∀ (l1 l2 : Option Value) (st : List Value) (h : pb_H) (Q : Option Value → pb_H → Prop), pb_R 161 20 [some .null, l1, l2] [] st h Q ↔ pb_R 161 21 [some .null, l1, l2] [] (.null :: st) h Q) ∧
  (∀ (l0 l2 : Option Value) (st : List Value) (h : pb_H) (Q : Option Value → pb_H → Prop) (x : Int32), pb_R 161 21 [l0, some (.int x), l2] [] st h Q ↔ pb_R 161 22 [l0, some (.int x), l2] [] (.int x :: st) h Q) ∧
  (∀ (l0 l1 : Option Value) (st : List Value) (h : pb_H) (Q : Option Value → pb_H → Prop) (x : Int32), pb_R 161 22 [l0, l1, some (.int x)] [] st h Q ↔ pb_R 161 23 [l0, l1, some (.int x)] [] (.int x :: st) h Q) ∧
  (∀ (L : pb_L) (J : pb_J) (h : pb_H) (Q : Option Value → pb_H → Prop) (x0 : Int32) (x1 : Int32) (x2 : Nat), pb_R 161 23 L J [.int x0, .int x1, .ref x2] h Q ↔ pb_call 143 [.int x1, .int x0] h (fun v t => pb_R 161 26 L J (v.toList ++ [.ref x2]) t Q)) ∧
  (∀ (L : pb_L) (J : pb_J) (h : pb_H) (Q : Option Value → pb_H → Prop) (x0 : Int32) (x1 : Nat), pb_R 161 26 L J [.int x0, .ref x1] h Q ↔ pb_is0 (h.2 x1) 12 = true ∧ pb_call 144 [.ref x1, .int x0] h (fun v t => pb_R 161 29 L J (v.toList ++ []) t Q)) ∧
  (∀ (l0 l1 : Option Value) (st : List Value) (h : pb_H) (Q : Option Value → pb_H → Prop) (x : Int32), pb_R 161 29 [l0, l1, some (.int x)] [] st h Q ↔ pb_R 161 32 [l0, l1, some (.int (x + (1 : Int32)))] [] st h Q) ∧
  (∀ (L : pb_L) (J : pb_J) (st : List Value) (h : pb_H) (Q : Option Value → pb_H → Prop), pb_R 161 32 L J st h Q ↔ pb_R 161 2 L J st h Q) ∧
  (∀ (L : pb_L) (J : pb_J) (h : pb_H) (Q : Option Value → pb_H → Prop), pb_R 161 35 L J [] h Q ↔ Q none h) := ⟨
  fun L J st h Q => pf_S pb_u_161 rfl rfl,
  fun l0 l1 l2 st h Q x => pf_S pb_u_161 rfl rfl,
  fun L J st h Q => pf_S pb_u_161 rfl rfl,
  fun L J st h Q x y => pf_ic pb_u_161 rfl rfl rfl,
  fun l1 l2 st h Q x => pf_S pb_u_161 rfl rfl,
  fun l1 l2 st h Q => pf_S pb_u_161 rfl rfl,
  fun L J st h Q a => pf_gf pb_u_161 rfl rfl,
  fun l0 l2 st h Q x => pf_S pb_u_161 rfl rfl,
  fun L J st h Q => pf_S pb_u_161 rfl rfl,
  fun L J st x y h Q => pf_S pb_u_161 rfl rfl,
  fun l0 l1 st h Q x => pf_S pb_u_161 rfl rfl,
  fun L J st x y h Q => pf_S pb_u_161 rfl rfl,
  fun L J st h Q => pf_S pb_u_161 rfl rfl,
  fun L J st h Q a i x => pf_si pb_u_161 rfl rfl,
  fun l1 l2 st h Q x => pf_S pb_u_161 rfl rfl,
  fun l1 l2 st h Q => pf_S pb_u_161 rfl rfl,
  fun l0 l2 st h Q x => pf_S pb_u_161 rfl rfl,
  fun l0 l1 st h Q x => pf_S pb_u_161 rfl rfl,
  fun L J h Q x0 x1 x2 => pf_ks pb_u_161 rfl rfl rfl rfl,
  fun L J h Q x0 x1 => pf_kv pb_u_161 rfl pb_ci_144 rfl ⟨Nat.le_of_ble_eq_true rfl, Nat.le_of_ble_eq_true rfl, Nat.le_of_ble_eq_true rfl, Nat.le_of_ble_eq_true rfl, rfl⟩ rfl rfl,
  fun l0 l1 st h Q x => pf_S pb_u_161 rfl rfl,
  fun L J st h Q => pf_S pb_u_161 rfl rfl,
  fun L J h Q => pf_rv pb_u_161 rfl rfl⟩
theorem pb_c161 (x0 : Nat) (x1 : Int32) (h : pb_H) (Q : Option Value → pb_H → Prop) : pb_call 161 [.ref x0, .int x1] h Q ↔ pb_R 161 0 [some (.ref x0), some (.int x1), none] [] [] h Q := Iff.rfl
/-! 162: PlaneBenchModel.copyRow(II)V -/
theorem pb_u_162 : pb_t 162 = pb_t162 := rfl
theorem pb_ci_162 : pb_ci 162 = 12 := by decide +kernel
set_option maxRecDepth 100000 in
theorem pb_q162_2 (l0 l1 l2 : Option Value) (st : List Value) (h : pb_H) (Q : Option Value → pb_H → Prop) (x : Int32) : pb_R 162 2 [l0, l1, l2, some (.int x)] [] st h Q ↔ pb_R 162 3 [l0, l1, l2, some (.int x)] [] (.int x :: st) h Q := pf_S pb_u_162 rfl rfl
set_option maxRecDepth 100000 in
theorem pb_e162 : (∀ (L : pb_L) (J : pb_J) (st : List Value) (h : pb_H) (Q : Option Value → pb_H → Prop), pb_R 162 0 L J st h Q ↔ pb_R 162 1 L J (.int (0 : Int32) :: st) h Q) ∧
  (∀ (l0 l1 l2 l3 : Option Value) (st : List Value) (h : pb_H) (Q : Option Value → pb_H → Prop) (x : Int32), pb_R 162 1 [l0, l1, l2, l3] [] (.int x :: st) h Q ↔ pb_R 162 2 [l0, l1, l2, some (.int x)] [] st h Q) ∧
  (∀ (L : pb_L) (J : pb_J) (st : List Value) (h : pb_H) (Q : Option Value → pb_H → Prop), pb_R 162 3 L J st h Q ↔ pb_R 162 5 L J (.int (17 : Int32) :: st) h Q) ∧
  (∀ (L : pb_L) (J : pb_J) (st : List Value) (h : pb_H) (Q : Option Value → pb_H → Prop) (x y : Int32), pb_R 162 5 L J (.int y :: .int x :: st) h Q ↔ if y ≤ x then pb_R 162 50 L J st h Q else pb_R 162 8 L J st h Q) ∧
  (∀ (l1 l2 l3 : Option Value) (st : List Value) (h : pb_H) (Q : Option Value → pb_H → Prop) (x : Nat), pb_R 162 8 [some (.ref x), l1, l2, l3] [] st h Q ↔ pb_R 162 9 [some (.ref x), l1, l2, l3] [] (.ref x :: st) h Q) ∧
  (∀ (l1 l2 l3 : Option Value) (st : List Value) (h : pb_H) (Q : Option Value → pb_H → Prop), pb_R 162 8 [some .null, l1, l2, l3] [] st h Q ↔ pb_R 162 9 [some .null, l1, l2, l3] [] (.null :: st) h Q) ∧
  (∀ (L : pb_L) (J : pb_J) (st : List Value) (h : pb_H) (Q : Option Value → pb_H → Prop) (a : Nat), pb_R 162 9 L J (.ref a :: st) h Q ↔ pb_o (pb_gf (h.2 a) 12 1) (fun v => pb_R 162 12 L J (v :: st) h Q)) ∧
  (∀ (l0 l1 l3 : Option Value) (st : List Value) (h : pb_H) (Q : Option Value → pb_H → Prop) (x : Int32), pb_R 162 12 [l0, l1, some (.int x), l3] [] st h Q ↔ pb_R 162 13 [l0, l1, some (.int x), l3] [] (.int x :: st) h Q) ∧
  (∀ (L : pb_L) (J : pb_J) (st : List Value) (h : pb_H) (Q : Option Value → pb_H → Prop), pb_R 162 13 L J st h Q ↔ pb_R 162 15 L J (.int (17 : Int32) :: st) h Q) ∧
  (∀ (L : pb_L) (J : pb_J) (st : List Value) (x y : Int32) (h : pb_H) (Q : Option Value → pb_H → Prop), pb_R 162 15 L J (.int y :: .int x :: st) h Q ↔ pb_R 162 16 L J (.int (x * y) :: st) h Q) ∧
  (∀ (l0 l1 l2 : Option Value) (st : List Value) (h : pb_H) (Q : Option Value → pb_H → Prop) (x : Int32), pb_R 162 16 [l0, l1, l2, some (.int x)] [] st h Q ↔ pb_R 162 17 [l0, l1, l2, some (.int x)] [] (.int x :: st) h Q) ∧
  (∀ (L : pb_L) (J : pb_J) (st : List Value) (x y : Int32) (h : pb_H) (Q : Option Value → pb_H → Prop), pb_R 162 17 L J (.int y :: .int x :: st) h Q ↔ pb_R 162 18 L J (.int (x + y) :: st) h Q) ∧
  (∀ (l1 l2 l3 : Option Value) (st : List Value) (h : pb_H) (Q : Option Value → pb_H → Prop) (x : Nat), pb_R 162 18 [some (.ref x), l1, l2, l3] [] st h Q ↔ pb_R 162 19 [some (.ref x), l1, l2, l3] [] (.ref x :: st) h Q) ∧
  (∀ (l1 l2 l3 : Option Value) (st : List Value) (h : pb_H) (Q : Option Value → pb_H → Prop), pb_R 162 18 [some .null, l1, l2, l3] [] st h Q ↔ pb_R 162 19 [some .null, l1, l2, l3] [] (.null :: st) h Q) ∧
  (∀ (L : pb_L) (J : pb_J) (st : List Value) (h : pb_H) (Q : Option Value → pb_H → Prop) (a : Nat), pb_R 162 19 L J (.ref a :: st) h Q ↔ pb_o (pb_gf (h.2 a) 12 1) (fun v => pb_R 162 22 L J (v :: st) h Q)) ∧
  (∀ (l0 l2 l3 : Option Value) (st : List Value) (h : pb_H) (Q : Option Value → pb_H → Prop) (x : Int32), pb_R 162 22 [l0, some (.int x), l2, l3] [] st h Q ↔ pb_R 162 23 [l0, some (.int x), l2, l3] [] (.int x :: st) h Q) ∧
  (∀ (L : pb_L) (J : pb_J) (st : List Value) (h : pb_H) (Q : Option Value → pb_H → Prop), pb_R 162 23 L J st h Q ↔ pb_R 162 25 L J (.int (17 : Int32) :: st) h Q) ∧
  (∀ (L : pb_L) (J : pb_J) (st : List Value) (x y : Int32) (h : pb_H) (Q : Option Value → pb_H → Prop), pb_R 162 25 L J (.int y :: .int x :: st) h Q ↔ pb_R 162 26 L J (.int (x * y) :: st) h Q) ∧
  (∀ (l0 l1 l2 : Option Value) (st : List Value) (h : pb_H) (Q : Option Value → pb_H → Prop) (x : Int32), pb_R 162 26 [l0, l1, l2, some (.int x)] [] st h Q ↔ pb_R 162 27 [l0, l1, l2, some (.int x)] [] (.int x :: st) h Q) ∧
  (∀ (L : pb_L) (J : pb_J) (st : List Value) (x y : Int32) (h : pb_H) (Q : Option Value → pb_H → Prop), pb_R 162 27 L J (.int y :: .int x :: st) h Q ↔ pb_R 162 28 L J (.int (x + y) :: st) h Q) ∧
  (∀ (L : pb_L) (J : pb_J) (st : List Value) (h : pb_H) (Q : Option Value → pb_H → Prop) (a : Nat) (i : Int32), pb_R 162 28 L J (.int i :: .ref a :: st) h Q ↔ pb_o (pb_ai (h.2 a) i) (fun v => pb_R 162 29 L J (.int v :: st) h Q)) ∧
  (∀ (L : pb_L) (J : pb_J) (st : List Value) (h : pb_H) (Q : Option Value → pb_H → Prop) (a : Nat) (i x : Int32), pb_R 162 29 L J (.int x :: .int i :: .ref a :: st) h Q ↔ pb_o (pb_si (h.2 a) i x) (fun c => pb_R 162 30 L J st (pb_set h a c) Q)) ∧
  (∀ (l1 l2 l3 : Option Value) (st : List Value) (h : pb_H) (Q : Option Value → pb_H → Prop) (x : Nat), pb_R 162 30 [some (.ref x), l1, l2, l3] [] st h Q ↔ pb_R 162 31 [some (.ref x), l1, l2, l3] [] (.ref x :: st) h Q) ∧
  (∀ (l1 l2 l3 : Option Value) (st : List Value) (h : pb_H) (Q : Option Value → pb_H → Prop), pb_R 162 30 [some .null, l1, l2, l3] [] st h Q ↔ pb_R 162 31 [some .null, l1, l2, l3] [] (.null :: st) h Q) ∧
  (∀ (l0 l2 l3 : Option Value) (st : List Value) (h : pb_H) (Q : Option Value → pb_H → Prop) (x : Int32), pb_R 162 31 [l0, some (.int x), l2, l3] [] st h Q ↔ pb_R 162 32 [l0, some (.int x), l2, l3] [] (.int x :: st) h Q) ∧
  (∀ (l0 l1 l2 : Option Value) (st : List Value) (h : pb_H) (Q : Option Value → pb_H → Prop) (x : Int32), pb_R 162 32 [l0, l1, l2, some (.int x)] [] st h Q ↔ pb_R 162 33 [l0, l1, l2, some (.int x)] [] (.int x :: st) h Q) ∧
  (∀ (L : pb_L) (J : pb_J) (h : pb_H) (Q : Option Value → pb_H → Prop) (x0 : Int32) (x1 : Int32) (x2 : Nat), pb_R 162 33 L J [.int x0, .int x1, .ref x2] h Q ↔ pb_call 143 [.int x1, .int x0] h (fun v t => pb_R 162 36 L J (v.toList ++ [.ref x2]) t Q)) ∧
  (∀ (l0 l1 l3 : Option Value) (st : List Value) (h : pb_H) (Q : Option Value → pb_H → Prop) (x : Int32), pb_R 162 36 [l0, l1, some (.int x), l3] [] st h Q ↔ pb_R 162 37 [l0, l1, some (.int x), l3] [] (.int x :: st) h Q) ∧
  (∀ (l0 l1 l2 : Option Value) (st : List Value) (h : pb_H) (Q : Option Value → pb_H → Prop) (x : Int32), pb_R 162 37 [l0, l1, l2, some (.int x)] [] st h Q ↔ pb_R 162 38 [l0, l1, l2, some (.int x)] [] (.int x :: st) h Q) ∧
  (∀ (L : pb_L) (J : pb_J) (h : pb_H) (Q : Option Value → pb_H → Prop) (x0 : Int32) (x1 : Int32) (x2 : Int32) (x3 : Nat), pb_R 162 38 L J [.int x0, .int x1, .int x2, .ref x3] h Q ↔ pb_call 143 [.int x1, .int x0] h (fun v t => pb_R 162 41 L J (v.toList ++ [.int x2, .ref x3]) t Q)) ∧
  (∀ (L : pb_L) (J : pb_J) (h : pb_H) (Q : Option Value → pb_H → Prop) (x0 : Int32) (x1 : Int32) (x2 : Nat), pb_R 162 41 L J [.int x0, .int x1, .ref x2] h Q ↔ pb_is0 (h.2 x2) 12 = true ∧ pb_call 146 [.ref x2, .int x1, .int x0] h (fun v t => pb_R 162 44 L J (v.toList ++ []) t Q)) ∧
  (∀ (l0 l1 l2 : Option Value) (st : List Value) (h : pb_H) (Q : Option Value → pb_H → Prop) (x : Int32), pb_R 162 44 [l0, l1, l2, some (.int x)] [] st h Q ↔ pb_R 162 47 [l0, l1, l2, some (.int (x + (1 : Int32)))] [] st h Q) ∧
  (∀ (L : pb_L) (J : pb_J) (st : List Value) (h : pb_H) (Q : Option Value → pb_H → Prop), pb_R 162 47 L J st h Q ↔ pb_R 162 2 L J st h Q) ∧
  (∀ (L : pb_L) (J : pb_J) (h : pb_H) (Q : Option Value → pb_H → Prop), pb_R 162 50 L J [] h Q ↔ Q none h) := ⟨
  fun L J st h Q => pf_S pb_u_162 rfl rfl,
  fun l0 l1 l2 l3 st h Q x => pf_S pb_u_162 rfl rfl,
  fun L J st h Q => pf_S pb_u_162 rfl rfl,
  fun L J st h Q x y => pf_ic pb_u_162 rfl rfl rfl,
  fun l1 l2 l3 st h Q x => pf_S pb_u_162 rfl rfl,
  fun l1 l2 l3 st h Q => pf_S pb_u_162 rfl rfl,
  fun L J st h Q a => pf_gf pb_u_162 rfl rfl,
  fun l0 l1 l3 st h Q x => pf_S pb_u_162 rfl rfl,
  fun L J st h Q => pf_S pb_u_162 rfl rfl,
  fun L J st x y h Q => pf_S pb_u_162 rfl rfl,
  fun l0 l1 l2 st h Q x => pf_S pb_u_162 rfl rfl,
  fun L J st x y h Q => pf_S pb_u_162 rfl rfl,
  fun l1 l2 l3 st h Q x => pf_S pb_u_162 rfl rfl,
  fun l1 l2 l3 st h Q => pf_S pb_u_162 rfl rfl,
  fun L J st h Q a => pf_gf pb_u_162 rfl rfl,
  fun l0 l2 l3 st h Q x => pf_S pb_u_162 rfl rfl,
  fun L J st h Q => pf_S pb_u_162 rfl rfl,
  fun L J st x y h Q => pf_S pb_u_162 rfl rfl,
  fun l0 l1 l2 st h Q x => pf_S pb_u_162 rfl rfl,
  fun L J st x y h Q => pf_S pb_u_162 rfl rfl,
  fun L J st h Q a i => pf_ai pb_u_162 rfl rfl,
  fun L J st h Q a i x => pf_si pb_u_162 rfl rfl,
  fun l1 l2 l3 st h Q x => pf_S pb_u_162 rfl rfl,
  fun l1 l2 l3 st h Q => pf_S pb_u_162 rfl rfl,
  fun l0 l2 l3 st h Q x => pf_S pb_u_162 rfl rfl,
  fun l0 l1 l2 st h Q x => pf_S pb_u_162 rfl rfl,
  fun L J h Q x0 x1 x2 => pf_ks pb_u_162 rfl rfl rfl rfl,
  fun l0 l1 l3 st h Q x => pf_S pb_u_162 rfl rfl,
  fun l0 l1 l2 st h Q x => pf_S pb_u_162 rfl rfl,
  fun L J h Q x0 x1 x2 x3 => pf_ks pb_u_162 rfl rfl rfl rfl,
  fun L J h Q x0 x1 x2 => pf_kv pb_u_162 rfl pb_ci_146 rfl ⟨Nat.le_of_ble_eq_true rfl, Nat.le_of_ble_eq_true rfl, Nat.le_of_ble_eq_true rfl, Nat.le_of_ble_eq_true rfl, rfl⟩ rfl rfl,
  fun l0 l1 l2 st h Q x => pf_S pb_u_162 rfl rfl,
  fun L J st h Q => pf_S pb_u_162 rfl rfl,
  fun L J h Q => pf_rv pb_u_162 rfl rfl⟩
theorem pb_c162 (x0 : Nat) (x1 : Int32) (x2 : Int32) (h : pb_H) (Q : Option Value → pb_H → Prop) : pb_call 162 [.ref x0, .int x1, .int x2] h Q ↔ pb_R 162 0 [some (.ref x0), some (.int x1), some (.int x2), none] [] [] h Q := Iff.rfl
/-! 163: PlaneBenchModel.hasRoom(I)Z -/
theorem pb_u_163 : pb_t 163 = pb_t163 := rfl
theorem pb_ci_163 : pb_ci 163 = 12 := by decide +kernel
set_option maxRecDepth 100000 in
theorem pb_q163_2 (l0 l1 : Option Value) (st : List Value) (h : pb_H) (Q : Option Value → pb_H → Prop) (x : Int32) : pb_R 163 2 [l0, l1, some (.int x)] [] st h Q ↔ pb_R 163 3 [l0, l1, some (.int x)] [] (.int x :: st) h Q := pf_S pb_u_163 rfl rfl
set_option maxRecDepth 100000 in
theorem pb_e163 : (∀ (L : pb_L) (J : pb_J) (st : List Value) (h : pb_H) (Q : Option Value → pb_H → Prop), pb_R 163 0 L J st h Q ↔ pb_R 163 1 L J (.int (0 : Int32) :: st) h Q) ∧
  (∀ (l0 l1 l2 : Option Value) (st : List Value) (h : pb_H) (Q : Option Value → pb_H → Prop) (x : Int32), pb_R 163 1 [l0, l1, l2] [] (.int x :: st) h Q ↔ pb_R 163 2 [l0, l1, some (.int x)] [] st h Q) ∧
  (∀ (l1 l2 : Option Value) (st : List Value) (h : pb_H) (Q : Option Value → pb_H → Prop) (x : Nat), pb_R 163 3 [some (.ref x), l1, l2] [] st h Q ↔ pb_R 163 4 [some (.ref x), l1, l2] [] (.ref x :: st) h Q) ∧
  (∀ (l1 l2 : Option Value) (st : List Value) (h : pb_H) (Q : Option Value → pb_H → Prop), pb_R 163 3 [some .null, l1, l2] [] st h Q ↔ pb_R 163 4 [some .null, l1, l2] [] (.null :: st) h Q) ∧
  (∀ (L : pb_L) (J : pb_J) (st : List Value) (h : pb_H) (Q : Option Value → pb_H → Prop) (a : Nat), pb_R 163 4 L J (.ref a :: st) h Q ↔ pb_o (pb_gf (h.2 a) 12 3) (fun v => pb_R 163 7 L J (v :: st) h Q)) ∧
  (∀ (L : pb_L) (J : pb_J) (st : List Value) (h : pb_H) (Q : Option Value → pb_H → Prop) (x y : Int32), pb_R 163 7 L J (.int y :: .int x :: st) h Q ↔ if y < x then pb_R 163 30 L J st h Q else pb_R 163 10 L J st h Q) ∧
  (∀ (l1 l2 : Option Value) (st : List Value) (h : pb_H) (Q : Option Value → pb_H → Prop) (x : Nat), pb_R 163 10 [some (.ref x), l1, l2] [] st h Q ↔ pb_R 163 11 [some (.ref x), l1, l2] [] (.ref x :: st) h Q) ∧
  (∀ (l1 l2 : Option Value) (st : List Value) (h : pb_H) (Q : Option Value → pb_H → Prop), pb_R 163 10 [some .null, l1, l2] [] st h Q ↔ pb_R 163 11 [some .null, l1, l2] [] (.null :: st) h Q) ∧
  (∀ (l0 l2 : Option Value) (st : List Value) (h : pb_H) (Q : Option Value → pb_H → Prop) (x : Int32), pb_R 163 11 [l0, some (.int x), l2] [] st h Q ↔ pb_R 163 12 [l0, some (.int x), l2] [] (.int x :: st) h Q) ∧
  (∀ (l0 l1 : Option Value) (st : List Value) (h : pb_H) (Q : Option Value → pb_H → Prop) (x : Int32), pb_R 163 12 [l0, l1, some (.int x)] [] st h Q ↔ pb_R 163 13 [l0, l1, some (.int x)] [] (.int x :: st) h Q) ∧
  (∀ (L : pb_L) (J : pb_J) (h : pb_H) (Q : Option Value → pb_H → Prop) (x0 : Int32) (x1 : Int32) (x2 : Nat), pb_R 163 13 L J [.int x0, .int x1, .ref x2] h Q ↔ pb_call 143 [.int x1, .int x0] h (fun v t => pb_R 163 16 L J (v.toList ++ [.ref x2]) t Q)) ∧
  (∀ (L : pb_L) (J : pb_J) (h : pb_H) (Q : Option Value → pb_H → Prop) (x0 : Int32) (x1 : Nat), pb_R 163 16 L J [.int x0, .ref x1] h Q ↔ pb_is0 (h.2 x1) 12 = true ∧ pb_call 154 [.ref x1, .int x0] h (fun v t => pb_R 163 19 L J (v.toList ++ []) t Q)) ∧
  (∀ (L : pb_L) (J : pb_J) (st : List Value) (h : pb_H) (Q : Option Value → pb_H → Prop) (x : Int32), pb_R 163 19 L J (.int x :: st) h Q ↔ if x = 0 then pb_R 163 24 L J st h Q else pb_R 163 22 L J st h Q) ∧
  (∀ (L : pb_L) (J : pb_J) (st : List Value) (h : pb_H) (Q : Option Value → pb_H → Prop), pb_R 163 22 L J st h Q ↔ pb_R 163 23 L J (.int (0 : Int32) :: st) h Q) ∧
  (∀ (L : pb_L) (J : pb_J) (h : pb_H) (Q : Option Value → pb_H → Prop) (x : Int32), pb_R 163 23 L J [.int x] h Q ↔ narrow .boolean (.int x) = .int x ∧ Q (some (.int x)) h) ∧
  (∀ (l0 l1 : Option Value) (st : List Value) (h : pb_H) (Q : Option Value → pb_H → Prop) (x : Int32), pb_R 163 24 [l0, l1, some (.int x)] [] st h Q ↔ pb_R 163 27 [l0, l1, some (.int (x + (1 : Int32)))] [] st h Q) ∧
  (∀ (L : pb_L) (J : pb_J) (st : List Value) (h : pb_H) (Q : Option Value → pb_H → Prop), pb_R 163 27 L J st h Q ↔ pb_R 163 2 L J st h Q) ∧
  (∀ (L : pb_L) (J : pb_J) (st : List Value) (h : pb_H) (Q : Option Value → pb_H → Prop), pb_R 163 30 L J st h Q ↔ pb_R 163 31 L J (.int (1 : Int32) :: st) h Q) ∧
  (∀ (L : pb_L) (J : pb_J) (h : pb_H) (Q : Option Value → pb_H → Prop) (x : Int32), pb_R 163 31 L J [.int x] h Q ↔ narrow .boolean (.int x) = .int x ∧ Q (some (.int x)) h) := ⟨
  fun L J st h Q => pf_S pb_u_163 rfl rfl,
  fun l0 l1 l2 st h Q x => pf_S pb_u_163 rfl rfl,
  fun l1 l2 st h Q x => pf_S pb_u_163 rfl rfl,
  fun l1 l2 st h Q => pf_S pb_u_163 rfl rfl,
  fun L J st h Q a => pf_gf pb_u_163 rfl rfl,
  fun L J st h Q x y => pf_ic pb_u_163 rfl rfl rfl,
  fun l1 l2 st h Q x => pf_S pb_u_163 rfl rfl,
  fun l1 l2 st h Q => pf_S pb_u_163 rfl rfl,
  fun l0 l2 st h Q x => pf_S pb_u_163 rfl rfl,
  fun l0 l1 st h Q x => pf_S pb_u_163 rfl rfl,
  fun L J h Q x0 x1 x2 => pf_ks pb_u_163 rfl rfl rfl rfl,
  fun L J h Q x0 x1 => pf_kv pb_u_163 rfl pb_ci_154 rfl ⟨Nat.le_of_ble_eq_true rfl, Nat.le_of_ble_eq_true rfl, Nat.le_of_ble_eq_true rfl, Nat.le_of_ble_eq_true rfl, rfl⟩ rfl rfl,
  fun L J st h Q x => pf_ii pb_u_163 rfl rfl rfl,
  fun L J st h Q => pf_S pb_u_163 rfl rfl,
  fun L J h Q x => pf_rz pb_u_163 rfl rfl,
  fun l0 l1 st h Q x => pf_S pb_u_163 rfl rfl,
  fun L J st h Q => pf_S pb_u_163 rfl rfl,
  fun L J st h Q => pf_S pb_u_163 rfl rfl,
  fun L J h Q x => pf_rz pb_u_163 rfl rfl⟩
theorem pb_c163 (x0 : Nat) (x1 : Int32) (h : pb_H) (Q : Option Value → pb_H → Prop) : pb_call 163 [.ref x0, .int x1] h Q ↔ pb_R 163 0 [some (.ref x0), some (.int x1), none] [] [] h Q := Iff.rfl
/-! 164: PlaneBenchModel.meet(IIII)V -/
theorem pb_u_164 : pb_t 164 = pb_t164 := rfl
theorem pb_ci_164 : pb_ci 164 = 12 := by decide +kernel
set_option maxRecDepth 100000 in
theorem pb_e164 : (∀ (l0 l2 l3 l4 l5 l6 l7 : Option Value) (st : List Value) (h : pb_H) (Q : Option Value → pb_H → Prop) (x : Int32), pb_R 164 0 [l0, some (.int x), l2, l3, l4, l5, l6, l7] [] st h Q ↔ pb_R 164 1 [l0, some (.int x), l2, l3, l4, l5, l6, l7] [] (.int x :: st) h Q) ∧
  (∀ (l0 l1 l3 l4 l5 l6 l7 : Option Value) (st : List Value) (h : pb_H) (Q : Option Value → pb_H → Prop) (x : Int32), pb_R 164 1 [l0, l1, some (.int x), l3, l4, l5, l6, l7] [] st h Q ↔ pb_R 164 2 [l0, l1, some (.int x), l3, l4, l5, l6, l7] [] (.int x :: st) h Q) ∧
  (∀ (L : pb_L) (J : pb_J) (h : pb_H) (Q : Option Value → pb_H → Prop) (x0 : Int32) (x1 : Int32), pb_R 164 2 L J [.int x0, .int x1] h Q ↔ pb_call 143 [.int x1, .int x0] h (fun v t => pb_R 164 5 L J (v.toList ++ []) t Q)) ∧
  (∀ (l0 l1 l2 l3 l4 l5 l6 l7 : Option Value) (st : List Value) (h : pb_H) (Q : Option Value → pb_H → Prop) (x : Int32), pb_R 164 5 [l0, l1, l2, l3, l4, l5, l6, l7] [] (.int x :: st) h Q ↔ pb_R 164 7 [l0, l1, l2, l3, l4, some (.int x), l6, l7] [] st h Q) ∧
  (∀ (l1 l2 l3 l4 l5 l6 l7 : Option Value) (st : List Value) (h : pb_H) (Q : Option Value → pb_H → Prop) (x : Nat), pb_R 164 7 [some (.ref x), l1, l2, l3, l4, l5, l6, l7] [] st h Q ↔ pb_R 164 8 [some (.ref x), l1, l2, l3, l4, l5, l6, l7] [] (.ref x :: st) h Q) ∧
  (∀ (l1 l2 l3 l4 l5 l6 l7 : Option Value) (st : List Value) (h : pb_H) (Q : Option Value → pb_H → Prop), pb_R 164 7 [some .null, l1, l2, l3, l4, l5, l6, l7] [] st h Q ↔ pb_R 164 8 [some .null, l1, l2, l3, l4, l5, l6, l7] [] (.null :: st) h Q) ∧
  (∀ (l0 l1 l2 l3 l4 l6 l7 : Option Value) (st : List Value) (h : pb_H) (Q : Option Value → pb_H → Prop) (x : Int32), pb_R 164 8 [l0, l1, l2, l3, l4, some (.int x), l6, l7] [] st h Q ↔ pb_R 164 10 [l0, l1, l2, l3, l4, some (.int x), l6, l7] [] (.int x :: st) h Q) ∧
  (∀ (l0 l1 l2 l4 l5 l6 l7 : Option Value) (st : List Value) (h : pb_H) (Q : Option Value → pb_H → Prop) (x : Int32), pb_R 164 10 [l0, l1, l2, some (.int x), l4, l5, l6, l7] [] st h Q ↔ pb_R 164 11 [l0, l1, l2, some (.int x), l4, l5, l6, l7] [] (.int x :: st) h Q) ∧
  (∀ (L : pb_L) (J : pb_J) (h : pb_H) (Q : Option Value → pb_H → Prop) (x0 : Int32) (x1 : Int32) (x2 : Nat), pb_R 164 11 L J [.int x0, .int x1, .ref x2] h Q ↔ pb_is0 (h.2 x2) 12 = true ∧ pb_call 150 [.ref x2, .int x1, .int x0] h (fun v t => pb_R 164 14 L J (v.toList ++ []) t Q)) ∧
  (∀ (l0 l1 l2 l3 l4 l5 l6 l7 : Option Value) (st : List Value) (h : pb_H) (Q : Option Value → pb_H → Prop) (x : Int32), pb_R 164 14 [l0, l1, l2, l3, l4, l5, l6, l7] [] (.int x :: st) h Q ↔ pb_R 164 16 [l0, l1, l2, l3, l4, l5, some (.int x), l7] [] st h Q) ∧
  (∀ (l0 l1 l2 l3 l4 l5 l7 : Option Value) (st : List Value) (h : pb_H) (Q : Option Value → pb_H → Prop) (x : Int32), pb_R 164 16 [l0, l1, l2, l3, l4, l5, some (.int x), l7] [] st h Q ↔ pb_R 164 18 [l0, l1, l2, l3, l4, l5, some (.int x), l7] [] (.int x :: st) h Q) ∧
  (∀ (L : pb_L) (J : pb_J) (st : List Value) (h : pb_H) (Q : Option Value → pb_H → Prop) (x : Int32), pb_R 164 18 L J (.int x :: st) h Q ↔ if x ≤ 0 then pb_R 164 41 L J st h Q else pb_R 164 21 L J st h Q) ∧
  (∀ (l1 l2 l3 l4 l5 l6 l7 : Option Value) (st : List Value) (h : pb_H) (Q : Option Value → pb_H → Prop) (x : Nat), pb_R 164 21 [some (.ref x), l1, l2, l3, l4, l5, l6, l7] [] st h Q ↔ pb_R 164 22 [some (.ref x), l1, l2, l3, l4, l5, l6, l7] [] (.ref x :: st) h Q) ∧
  (∀ (l1 l2 l3 l4 l5 l6 l7 : Option Value) (st : List Value) (h : pb_H) (Q : Option Value → pb_H → Prop), pb_R 164 21 [some .null, l1, l2, l3, l4, l5, l6, l7] [] st h Q ↔ pb_R 164 22 [some .null, l1, l2, l3, l4, l5, l6, l7] [] (.null :: st) h Q) ∧
  (∀ (l0 l2 l3 l4 l5 l6 l7 : Option Value) (st : List Value) (h : pb_H) (Q : Option Value → pb_H → Prop) (x : Int32), pb_R 164 22 [l0, some (.int x), l2, l3, l4, l5, l6, l7] [] st h Q ↔ pb_R 164 23 [l0, some (.int x), l2, l3, l4, l5, l6, l7] [] (.int x :: st) h Q) ∧
  (∀ (L : pb_L) (J : pb_J) (st : List Value) (h : pb_H) (Q : Option Value → pb_H → Prop), pb_R 164 23 L J st h Q ↔ pb_R 164 24 L J (.int (0 : Int32) :: st) h Q) ∧
  (∀ (L : pb_L) (J : pb_J) (h : pb_H) (Q : Option Value → pb_H → Prop) (x0 : Int32) (x1 : Int32) (x2 : Nat), pb_R 164 24 L J [.int x0, .int x1, .ref x2] h Q ↔ pb_call 143 [.int x1, .int x0] h (fun v t => pb_R 164 27 L J (v.toList ++ [.ref x2]) t Q)) ∧
  (∀ (l0 l1 l2 l4 l5 l6 l7 : Option Value) (st : List Value) (h : pb_H) (Q : Option Value → pb_H → Prop) (x : Int32), pb_R 164 27 [l0, l1, l2, some (.int x), l4, l5, l6, l7] [] st h Q ↔ pb_R 164 28 [l0, l1, l2, some (.int x), l4, l5, l6, l7] [] (.int x :: st) h Q) ∧
  (∀ (L : pb_L) (J : pb_J) (h : pb_H) (Q : Option Value → pb_H → Prop) (x0 : Int32) (x1 : Int32) (x2 : Nat), pb_R 164 28 L J [.int x0, .int x1, .ref x2] h Q ↔ pb_is0 (h.2 x2) 12 = true ∧ pb_call 153 [.ref x2, .int x1, .int x0] h (fun v t => pb_R 164 31 L J (v.toList ++ []) t Q)) ∧
  (∀ (l1 l2 l3 l4 l5 l6 l7 : Option Value) (st : List Value) (h : pb_H) (Q : Option Value → pb_H → Prop) (x : Nat), pb_R 164 31 [some (.ref x), l1, l2, l3, l4, l5, l6, l7] [] st h Q ↔ pb_R 164 32 [some (.ref x), l1, l2, l3, l4, l5, l6, l7] [] (.ref x :: st) h Q) ∧
  (∀ (l1 l2 l3 l4 l5 l6 l7 : Option Value) (st : List Value) (h : pb_H) (Q : Option Value → pb_H → Prop), pb_R 164 31 [some .null, l1, l2, l3, l4, l5, l6, l7] [] st h Q ↔ pb_R 164 32 [some .null, l1, l2, l3, l4, l5, l6, l7] [] (.null :: st) h Q) ∧
  (∀ (l0 l1 l2 l3 l4 l6 l7 : Option Value) (st : List Value) (h : pb_H) (Q : Option Value → pb_H → Prop) (x : Int32), pb_R 164 32 [l0, l1, l2, l3, l4, some (.int x), l6, l7] [] st h Q ↔ pb_R 164 34 [l0, l1, l2, l3, l4, some (.int x), l6, l7] [] (.int x :: st) h Q) ∧
  (∀ (l0 l1 l2 l4 l5 l6 l7 : Option Value) (st : List Value) (h : pb_H) (Q : Option Value → pb_H → Prop) (x : Int32), pb_R 164 34 [l0, l1, l2, some (.int x), l4, l5, l6, l7] [] st h Q ↔ pb_R 164 35 [l0, l1, l2, some (.int x), l4, l5, l6, l7] [] (.int x :: st) h Q) ∧
  (∀ (L : pb_L) (J : pb_J) (h : pb_H) (Q : Option Value → pb_H → Prop) (x0 : Int32) (x1 : Int32) (x2 : Nat), pb_R 164 35 L J [.int x0, .int x1, .ref x2] h Q ↔ pb_is0 (h.2 x2) 12 = true ∧ pb_call 152 [.ref x2, .int x1, .int x0] h (fun v t => pb_R 164 38 L J (v.toList ++ []) t Q)) ∧
  (∀ (L : pb_L) (J : pb_J) (st : List Value) (h : pb_H) (Q : Option Value → pb_H → Prop), pb_R 164 38 L J st h Q ↔ pb_R 164 106 L J st h Q) ∧
  (∀ (l1 l2 l3 l4 l5 l6 l7 : Option Value) (st : List Value) (h : pb_H) (Q : Option Value → pb_H → Prop) (x : Nat), pb_R 164 41 [some (.ref x), l1, l2, l3, l4, l5, l6, l7] [] st h Q ↔ pb_R 164 42 [some (.ref x), l1, l2, l3, l4, l5, l6, l7] [] (.ref x :: st) h Q) ∧
  (∀ (l1 l2 l3 l4 l5 l6 l7 : Option Value) (st : List Value) (h : pb_H) (Q : Option Value → pb_H → Prop), pb_R 164 41 [some .null, l1, l2, l3, l4, l5, l6, l7] [] st h Q ↔ pb_R 164 42 [some .null, l1, l2, l3, l4, l5, l6, l7] [] (.null :: st) h Q) ∧
  (∀ (l0 l2 l3 l4 l5 l6 l7 : Option Value) (st : List Value) (h : pb_H) (Q : Option Value → pb_H → Prop) (x : Int32), pb_R 164 42 [l0, some (.int x), l2, l3, l4, l5, l6, l7] [] st h Q ↔ pb_R 164 43 [l0, some (.int x), l2, l3, l4, l5, l6, l7] [] (.int x :: st) h Q) ∧
  (∀ (L : pb_L) (J : pb_J) (st : List Value) (h : pb_H) (Q : Option Value → pb_H → Prop), pb_R 164 43 L J st h Q ↔ pb_R 164 44 L J (.int (0 : Int32) :: st) h Q) ∧
  (∀ (L : pb_L) (J : pb_J) (h : pb_H) (Q : Option Value → pb_H → Prop) (x0 : Int32) (x1 : Int32) (x2 : Nat), pb_R 164 44 L J [.int x0, .int x1, .ref x2] h Q ↔ pb_call 143 [.int x1, .int x0] h (fun v t => pb_R 164 47 L J (v.toList ++ [.ref x2]) t Q)) ∧
  (∀ (l0 l1 l2 l3 l4 l6 l7 : Option Value) (st : List Value) (h : pb_H) (Q : Option Value → pb_H → Prop) (x : Int32), pb_R 164 47 [l0, l1, l2, l3, l4, some (.int x), l6, l7] [] st h Q ↔ pb_R 164 49 [l0, l1, l2, l3, l4, some (.int x), l6, l7] [] (.int x :: st) h Q) ∧
  (∀ (L : pb_L) (J : pb_J) (h : pb_H) (Q : Option Value → pb_H → Prop) (x0 : Int32) (x1 : Int32) (x2 : Nat), pb_R 164 49 L J [.int x0, .int x1, .ref x2] h Q ↔ pb_is0 (h.2 x2) 12 = true ∧ pb_call 153 [.ref x2, .int x1, .int x0] h (fun v t => pb_R 164 52 L J (v.toList ++ []) t Q)) ∧
  (∀ (L : pb_L) (J : pb_J) (st : List Value) (h : pb_H) (Q : Option Value → pb_H → Prop), pb_R 164 52 L J st h Q ↔ pb_R 164 55 L J (.int (320 : Int32) :: st) h Q) ∧
  (∀ (L : pb_L) (J : pb_J) (st : List Value) (h : pb_H) (Q : Option Value → pb_H → Prop), pb_R 164 55 L J st h Q ↔ pb_R 164 56 L J (.int (0 : Int32) :: st) h Q) ∧
  (∀ (L : pb_L) (J : pb_J) (h : pb_H) (Q : Option Value → pb_H → Prop) (x0 : Int32) (x1 : Int32), pb_R 164 56 L J [.int x0, .int x1] h Q ↔ pb_call 143 [.int x1, .int x0] h (fun v t => pb_R 164 59 L J (v.toList ++ []) t Q)) ∧
  (∀ (l0 l1 l2 l3 l4 l5 l6 l7 : Option Value) (st : List Value) (h : pb_H) (Q : Option Value → pb_H → Prop) (x : Int32), pb_R 164 59 [l0, l1, l2, l3, l4, l5, l6, l7] [] (.int x :: st) h Q ↔ pb_R 164 61 [l0, l1, l2, l3, l4, l5, l6, some (.int x)] [] st h Q) ∧
  (∀ (l1 l2 l3 l4 l5 l6 l7 : Option Value) (st : List Value) (h : pb_H) (Q : Option Value → pb_H → Prop) (x : Nat), pb_R 164 61 [some (.ref x), l1, l2, l3, l4, l5, l6, l7] [] st h Q ↔ pb_R 164 62 [some (.ref x), l1, l2, l3, l4, l5, l6, l7] [] (.ref x :: st) h Q) ∧
  (∀ (l1 l2 l3 l4 l5 l6 l7 : Option Value) (st : List Value) (h : pb_H) (Q : Option Value → pb_H → Prop), pb_R 164 61 [some .null, l1, l2, l3, l4, l5, l6, l7] [] st h Q ↔ pb_R 164 62 [some .null, l1, l2, l3, l4, l5, l6, l7] [] (.null :: st) h Q) ∧
  (∀ (l0 l1 l2 l4 l5 l6 l7 : Option Value) (st : List Value) (h : pb_H) (Q : Option Value → pb_H → Prop) (x : Int32), pb_R 164 62 [l0, l1, l2, some (.int x), l4, l5, l6, l7] [] st h Q ↔ pb_R 164 63 [l0, l1, l2, some (.int x), l4, l5, l6, l7] [] (.int x :: st) h Q) ∧
  (∀ (l0 l1 l2 l3 l4 l5 l6 : Option Value) (st : List Value) (h : pb_H) (Q : Option Value → pb_H → Prop) (x : Int32), pb_R 164 63 [l0, l1, l2, l3, l4, l5, l6, some (.int x)] [] st h Q ↔ pb_R 164 65 [l0, l1, l2, l3, l4, l5, l6, some (.int x)] [] (.int x :: st) h Q) ∧
  (∀ (L : pb_L) (J : pb_J) (h : pb_H) (Q : Option Value → pb_H → Prop) (x0 : Int32) (x1 : Int32) (x2 : Nat), pb_R 164 65 L J [.int x0, .int x1, .ref x2] h Q ↔ pb_is0 (h.2 x2) 12 = true ∧ pb_call 146 [.ref x2, .int x1, .int x0] h (fun v t => pb_R 164 68 L J (v.toList ++ []) t Q)) ∧
  (∀ (l1 l2 l3 l4 l5 l6 l7 : Option Value) (st : List Value) (h : pb_H) (Q : Option Value → pb_H → Prop) (x : Nat), pb_R 164 68 [some (.ref x), l1, l2, l3, l4, l5, l6, l7] [] st h Q ↔ pb_R 164 69 [some (.ref x), l1, l2, l3, l4, l5, l6, l7] [] (.ref x :: st) h Q) ∧
  (∀ (l1 l2 l3 l4 l5 l6 l7 : Option Value) (st : List Value) (h : pb_H) (Q : Option Value → pb_H → Prop), pb_R 164 68 [some .null, l1, l2, l3, l4, l5, l6, l7] [] st h Q ↔ pb_R 164 69 [some .null, l1, l2, l3, l4, l5, l6, l7] [] (.null :: st) h Q) ∧
  (∀ (l0 l1 l2 l3 l4 l5 l6 : Option Value) (st : List Value) (h : pb_H) (Q : Option Value → pb_H → Prop) (x : Int32), pb_R 164 69 [l0, l1, l2, l3, l4, l5, l6, some (.int x)] [] st h Q ↔ pb_R 164 71 [l0, l1, l2, l3, l4, l5, l6, some (.int x)] [] (.int x :: st) h Q) ∧
  (∀ (l0 l1 l2 l3 l4 l6 l7 : Option Value) (st : List Value) (h : pb_H) (Q : Option Value → pb_H → Prop) (x : Int32), pb_R 164 71 [l0, l1, l2, l3, l4, some (.int x), l6, l7] [] st h Q ↔ pb_R 164 73 [l0, l1, l2, l3, l4, some (.int x), l6, l7] [] (.int x :: st) h Q) ∧
  (∀ (L : pb_L) (J : pb_J) (h : pb_H) (Q : Option Value → pb_H → Prop) (x0 : Int32) (x1 : Int32) (x2 : Nat), pb_R 164 73 L J [.int x0, .int x1, .ref x2] h Q ↔ pb_is0 (h.2 x2) 12 = true ∧ pb_call 152 [.ref x2, .int x1, .int x0] h (fun v t => pb_R 164 76 L J (v.toList ++ []) t Q)) ∧
  (∀ (l1 l2 l3 l4 l5 l6 l7 : Option Value) (st : List Value) (h : pb_H) (Q : Option Value → pb_H → Prop) (x : Nat), pb_R 164 76 [some (.ref x), l1, l2, l3, l4, l5, l6, l7] [] st h Q ↔ pb_R 164 77 [some (.ref x), l1, l2, l3, l4, l5, l6, l7] [] (.ref x :: st) h Q) ∧
  (∀ (l1 l2 l3 l4 l5 l6 l7 : Option Value) (st : List Value) (h : pb_H) (Q : Option Value → pb_H → Prop), pb_R 164 76 [some .null, l1, l2, l3, l4, l5, l6, l7] [] st h Q ↔ pb_R 164 77 [some .null, l1, l2, l3, l4, l5, l6, l7] [] (.null :: st) h Q) ∧
  (∀ (l0 l1 l2 l3 l4 l5 l6 : Option Value) (st : List Value) (h : pb_H) (Q : Option Value → pb_H → Prop) (x : Int32), pb_R 164 77 [l0, l1, l2, l3, l4, l5, l6, some (.int x)] [] st h Q ↔ pb_R 164 79 [l0, l1, l2, l3, l4, l5, l6, some (.int x)] [] (.int x :: st) h Q) ∧
  (∀ (l0 l1 l2 l3 l4 l6 l7 : Option Value) (st : List Value) (h : pb_H) (Q : Option Value → pb_H → Prop) (x : Int32), pb_R 164 79 [l0, l1, l2, l3, l4, some (.int x), l6, l7] [] st h Q ↔ pb_R 164 81 [l0, l1, l2, l3, l4, some (.int x), l6, l7] [] (.int x :: st) h Q) ∧
  (∀ (L : pb_L) (J : pb_J) (h : pb_H) (Q : Option Value → pb_H → Prop) (x0 : Int32) (x1 : Int32) (x2 : Nat), pb_R 164 81 L J [.int x0, .int x1, .ref x2] h Q ↔ pb_is0 (h.2 x2) 12 = true ∧ pb_call 146 [.ref x2, .int x1, .int x0] h (fun v t => pb_R 164 84 L J (v.toList ++ []) t Q)) ∧
  (∀ (l1 l2 l3 l4 l5 l6 l7 : Option Value) (st : List Value) (h : pb_H) (Q : Option Value → pb_H → Prop) (x : Nat), pb_R 164 84 [some (.ref x), l1, l2, l3, l4, l5, l6, l7] [] st h Q ↔ pb_R 164 85 [some (.ref x), l1, l2, l3, l4, l5, l6, l7] [] (.ref x :: st) h Q) ∧
  (∀ (l1 l2 l3 l4 l5 l6 l7 : Option Value) (st : List Value) (h : pb_H) (Q : Option Value → pb_H → Prop), pb_R 164 84 [some .null, l1, l2, l3, l4, l5, l6, l7] [] st h Q ↔ pb_R 164 85 [some .null, l1, l2, l3, l4, l5, l6, l7] [] (.null :: st) h Q) ∧
  (∀ (L : pb_L) (J : pb_J) (st : List Value) (h : pb_H) (Q : Option Value → pb_H → Prop) (a : Nat), pb_R 164 85 L J (.ref a :: st) h Q ↔ pb_o (pb_gf (h.2 a) 12 1) (fun v => pb_R 164 88 L J (v :: st) h Q)) ∧
  (∀ (l0 l2 l3 l4 l5 l6 l7 : Option Value) (st : List Value) (h : pb_H) (Q : Option Value → pb_H → Prop) (x : Int32), pb_R 164 88 [l0, some (.int x), l2, l3, l4, l5, l6, l7] [] st h Q ↔ pb_R 164 89 [l0, some (.int x), l2, l3, l4, l5, l6, l7] [] (.int x :: st) h Q) ∧
  (∀ (L : pb_L) (J : pb_J) (st : List Value) (h : pb_H) (Q : Option Value → pb_H → Prop), pb_R 164 89 L J st h Q ↔ pb_R 164 91 L J (.int (17 : Int32) :: st) h Q) ∧
  (∀ (L : pb_L) (J : pb_J) (st : List Value) (x y : Int32) (h : pb_H) (Q : Option Value → pb_H → Prop), pb_R 164 91 L J (.int y :: .int x :: st) h Q ↔ pb_R 164 92 L J (.int (x * y) :: st) h Q) ∧
  (∀ (l0 l1 l3 l4 l5 l6 l7 : Option Value) (st : List Value) (h : pb_H) (Q : Option Value → pb_H → Prop) (x : Int32), pb_R 164 92 [l0, l1, some (.int x), l3, l4, l5, l6, l7] [] st h Q ↔ pb_R 164 93 [l0, l1, some (.int x), l3, l4, l5, l6, l7] [] (.int x :: st) h Q) ∧
  (∀ (L : pb_L) (J : pb_J) (st : List Value) (x y : Int32) (h : pb_H) (Q : Option Value → pb_H → Prop), pb_R 164 93 L J (.int y :: .int x :: st) h Q ↔ pb_R 164 94 L J (.int (x + y) :: st) h Q) ∧
  (∀ (l0 l1 l2 l3 l4 l5 l7 : Option Value) (st : List Value) (h : pb_H) (Q : Option Value → pb_H → Prop) (x : Int32), pb_R 164 94 [l0, l1, l2, l3, l4, l5, some (.int x), l7] [] st h Q ↔ pb_R 164 96 [l0, l1, l2, l3, l4, l5, some (.int x), l7] [] (.int x :: st) h Q) ∧
  (∀ (L : pb_L) (J : pb_J) (st : List Value) (h : pb_H) (Q : Option Value → pb_H → Prop) (x : Int32), pb_R 164 96 L J (.int x :: st) h Q ↔ if ¬ x = 0 then pb_R 164 103 L J st h Q else pb_R 164 99 L J st h Q) ∧
  (∀ (L : pb_L) (J : pb_J) (st : List Value) (h : pb_H) (Q : Option Value → pb_H → Prop), pb_R 164 99 L J st h Q ↔ pb_R 164 100 L J (.int (0 : Int32) :: st) h Q) ∧
  (∀ (L : pb_L) (J : pb_J) (st : List Value) (h : pb_H) (Q : Option Value → pb_H → Prop), pb_R 164 100 L J st h Q ↔ pb_R 164 105 L J st h Q) ∧
  (∀ (l0 l1 l2 l3 l5 l6 l7 : Option Value) (st : List Value) (h : pb_H) (Q : Option Value → pb_H → Prop) (x : Int32), pb_R 164 103 [l0, l1, l2, l3, some (.int x), l5, l6, l7] [] st h Q ↔ pb_R 164 105 [l0, l1, l2, l3, some (.int x), l5, l6, l7] [] (.int x :: st) h Q) ∧
  (∀ (L : pb_L) (J : pb_J) (st : List Value) (h : pb_H) (Q : Option Value → pb_H → Prop) (a : Nat) (i x : Int32), pb_R 164 105 L J (.int x :: .int i :: .ref a :: st) h Q ↔ pb_o (pb_si (h.2 a) i x) (fun c => pb_R 164 106 L J st (pb_set h a c) Q)) ∧
  (∀ (L : pb_L) (J : pb_J) (h : pb_H) (Q : Option Value → pb_H → Prop), pb_R 164 106 L J [] h Q ↔ Q none h) := ⟨
  fun l0 l2 l3 l4 l5 l6 l7 st h Q x => pf_S pb_u_164 rfl rfl,
  fun l0 l1 l3 l4 l5 l6 l7 st h Q x => pf_S pb_u_164 rfl rfl,
  fun L J h Q x0 x1 => pf_ks pb_u_164 rfl rfl rfl rfl,
  fun l0 l1 l2 l3 l4 l5 l6 l7 st h Q x => pf_S pb_u_164 rfl rfl,
  fun l1 l2 l3 l4 l5 l6 l7 st h Q x => pf_S pb_u_164 rfl rfl,
  fun l1 l2 l3 l4 l5 l6 l7 st h Q => pf_S pb_u_164 rfl rfl,
  fun l0 l1 l2 l3 l4 l6 l7 st h Q x => pf_S pb_u_164 rfl rfl,
  fun l0 l1 l2 l4 l5 l6 l7 st h Q x => pf_S pb_u_164 rfl rfl,
  fun L J h Q x0 x1 x2 => pf_kv pb_u_164 rfl pb_ci_150 rfl ⟨Nat.le_of_ble_eq_true rfl, Nat.le_of_ble_eq_true rfl, Nat.le_of_ble_eq_true rfl, Nat.le_of_ble_eq_true rfl, rfl⟩ rfl rfl,
  fun l0 l1 l2 l3 l4 l5 l6 l7 st h Q x => pf_S pb_u_164 rfl rfl,
  fun l0 l1 l2 l3 l4 l5 l7 st h Q x => pf_S pb_u_164 rfl rfl,
  fun L J st h Q x => pf_ii pb_u_164 rfl rfl rfl,
  fun l1 l2 l3 l4 l5 l6 l7 st h Q x => pf_S pb_u_164 rfl rfl,
  fun l1 l2 l3 l4 l5 l6 l7 st h Q => pf_S pb_u_164 rfl rfl,
  fun l0 l2 l3 l4 l5 l6 l7 st h Q x => pf_S pb_u_164 rfl rfl,
  fun L J st h Q => pf_S pb_u_164 rfl rfl,
  fun L J h Q x0 x1 x2 => pf_ks pb_u_164 rfl rfl rfl rfl,
  fun l0 l1 l2 l4 l5 l6 l7 st h Q x => pf_S pb_u_164 rfl rfl,
  fun L J h Q x0 x1 x2 => pf_kv pb_u_164 rfl pb_ci_153 rfl ⟨Nat.le_of_ble_eq_true rfl, Nat.le_of_ble_eq_true rfl, Nat.le_of_ble_eq_true rfl, Nat.le_of_ble_eq_true rfl, rfl⟩ rfl rfl,
  fun l1 l2 l3 l4 l5 l6 l7 st h Q x => pf_S pb_u_164 rfl rfl,
  fun l1 l2 l3 l4 l5 l6 l7 st h Q => pf_S pb_u_164 rfl rfl,
  fun l0 l1 l2 l3 l4 l6 l7 st h Q x => pf_S pb_u_164 rfl rfl,
  fun l0 l1 l2 l4 l5 l6 l7 st h Q x => pf_S pb_u_164 rfl rfl,
  fun L J h Q x0 x1 x2 => pf_kv pb_u_164 rfl pb_ci_152 rfl ⟨Nat.le_of_ble_eq_true rfl, Nat.le_of_ble_eq_true rfl, Nat.le_of_ble_eq_true rfl, Nat.le_of_ble_eq_true rfl, rfl⟩ rfl rfl,
  fun L J st h Q => pf_S pb_u_164 rfl rfl,
  fun l1 l2 l3 l4 l5 l6 l7 st h Q x => pf_S pb_u_164 rfl rfl,
  fun l1 l2 l3 l4 l5 l6 l7 st h Q => pf_S pb_u_164 rfl rfl,
  fun l0 l2 l3 l4 l5 l6 l7 st h Q x => pf_S pb_u_164 rfl rfl,
  fun L J st h Q => pf_S pb_u_164 rfl rfl,
  fun L J h Q x0 x1 x2 => pf_ks pb_u_164 rfl rfl rfl rfl,
  fun l0 l1 l2 l3 l4 l6 l7 st h Q x => pf_S pb_u_164 rfl rfl,
  fun L J h Q x0 x1 x2 => pf_kv pb_u_164 rfl pb_ci_153 rfl ⟨Nat.le_of_ble_eq_true rfl, Nat.le_of_ble_eq_true rfl, Nat.le_of_ble_eq_true rfl, Nat.le_of_ble_eq_true rfl, rfl⟩ rfl rfl,
  fun L J st h Q => pf_S pb_u_164 rfl rfl,
  fun L J st h Q => pf_S pb_u_164 rfl rfl,
  fun L J h Q x0 x1 => pf_ks pb_u_164 rfl rfl rfl rfl,
  fun l0 l1 l2 l3 l4 l5 l6 l7 st h Q x => pf_S pb_u_164 rfl rfl,
  fun l1 l2 l3 l4 l5 l6 l7 st h Q x => pf_S pb_u_164 rfl rfl,
  fun l1 l2 l3 l4 l5 l6 l7 st h Q => pf_S pb_u_164 rfl rfl,
  fun l0 l1 l2 l4 l5 l6 l7 st h Q x => pf_S pb_u_164 rfl rfl,
  fun l0 l1 l2 l3 l4 l5 l6 st h Q x => pf_S pb_u_164 rfl rfl,
  fun L J h Q x0 x1 x2 => pf_kv pb_u_164 rfl pb_ci_146 rfl ⟨Nat.le_of_ble_eq_true rfl, Nat.le_of_ble_eq_true rfl, Nat.le_of_ble_eq_true rfl, Nat.le_of_ble_eq_true rfl, rfl⟩ rfl rfl,
  fun l1 l2 l3 l4 l5 l6 l7 st h Q x => pf_S pb_u_164 rfl rfl,
  fun l1 l2 l3 l4 l5 l6 l7 st h Q => pf_S pb_u_164 rfl rfl,
  fun l0 l1 l2 l3 l4 l5 l6 st h Q x => pf_S pb_u_164 rfl rfl,
  fun l0 l1 l2 l3 l4 l6 l7 st h Q x => pf_S pb_u_164 rfl rfl,
  fun L J h Q x0 x1 x2 => pf_kv pb_u_164 rfl pb_ci_152 rfl ⟨Nat.le_of_ble_eq_true rfl, Nat.le_of_ble_eq_true rfl, Nat.le_of_ble_eq_true rfl, Nat.le_of_ble_eq_true rfl, rfl⟩ rfl rfl,
  fun l1 l2 l3 l4 l5 l6 l7 st h Q x => pf_S pb_u_164 rfl rfl,
  fun l1 l2 l3 l4 l5 l6 l7 st h Q => pf_S pb_u_164 rfl rfl,
  fun l0 l1 l2 l3 l4 l5 l6 st h Q x => pf_S pb_u_164 rfl rfl,
  fun l0 l1 l2 l3 l4 l6 l7 st h Q x => pf_S pb_u_164 rfl rfl,
  fun L J h Q x0 x1 x2 => pf_kv pb_u_164 rfl pb_ci_146 rfl ⟨Nat.le_of_ble_eq_true rfl, Nat.le_of_ble_eq_true rfl, Nat.le_of_ble_eq_true rfl, Nat.le_of_ble_eq_true rfl, rfl⟩ rfl rfl,
  fun l1 l2 l3 l4 l5 l6 l7 st h Q x => pf_S pb_u_164 rfl rfl,
  fun l1 l2 l3 l4 l5 l6 l7 st h Q => pf_S pb_u_164 rfl rfl,
  fun L J st h Q a => pf_gf pb_u_164 rfl rfl,
  fun l0 l2 l3 l4 l5 l6 l7 st h Q x => pf_S pb_u_164 rfl rfl,
  fun L J st h Q => pf_S pb_u_164 rfl rfl,
  fun L J st x y h Q => pf_S pb_u_164 rfl rfl,
  fun l0 l1 l3 l4 l5 l6 l7 st h Q x => pf_S pb_u_164 rfl rfl,
  fun L J st x y h Q => pf_S pb_u_164 rfl rfl,
  fun l0 l1 l2 l3 l4 l5 l7 st h Q x => pf_S pb_u_164 rfl rfl,
  fun L J st h Q x => pf_ii pb_u_164 rfl rfl pf_ne,
  fun L J st h Q => pf_S pb_u_164 rfl rfl,
  fun L J st h Q => pf_S pb_u_164 rfl rfl,
  fun l0 l1 l2 l3 l5 l6 l7 st h Q x => pf_S pb_u_164 rfl rfl,
  fun L J st h Q a i x => pf_si pb_u_164 rfl rfl,
  fun L J h Q => pf_rv pb_u_164 rfl rfl⟩
theorem pb_c164 (x0 : Nat) (x1 : Int32) (x2 : Int32) (x3 : Int32) (x4 : Int32) (h : pb_H) (Q : Option Value → pb_H → Prop) : pb_call 164 [.ref x0, .int x1, .int x2, .int x3, .int x4] h Q ↔ pb_R 164 0 [some (.ref x0), some (.int x1), some (.int x2), some (.int x3), some (.int x4), none, none, none] [] [] h Q := Iff.rfl
/-! 165: PlaneBenchModel.sum(II)Z -/
theorem pb_u_165 : pb_t 165 = pb_t165 := rfl
theorem pb_ci_165 : pb_ci 165 = 12 := by decide +kernel
set_option maxRecDepth 100000 in
theorem pb_q165_16 (l0 l1 l2 l4 l5 l6 l7 : Option Value) (st : List Value) (h : pb_H) (Q : Option Value → pb_H → Prop) (x : Int32) : pb_R 165 16 [l0, l1, l2, some (.int x), l4, l5, l6, l7] [] st h Q ↔ pb_R 165 17 [l0, l1, l2, some (.int x), l4, l5, l6, l7] [] (.int x :: st) h Q := pf_S pb_u_165 rfl rfl
set_option maxRecDepth 100000 in
theorem pb_e165 : (∀ (l1 l2 l3 l4 l5 l6 l7 : Option Value) (st : List Value) (h : pb_H) (Q : Option Value → pb_H → Prop) (x : Nat), pb_R 165 0 [some (.ref x), l1, l2, l3, l4, l5, l6, l7] [] st h Q ↔ pb_R 165 1 [some (.ref x), l1, l2, l3, l4, l5, l6, l7] [] (.ref x :: st) h Q) ∧
  (∀ (l1 l2 l3 l4 l5 l6 l7 : Option Value) (st : List Value) (h : pb_H) (Q : Option Value → pb_H → Prop), pb_R 165 0 [some .null, l1, l2, l3, l4, l5, l6, l7] [] st h Q ↔ pb_R 165 1 [some .null, l1, l2, l3, l4, l5, l6, l7] [] (.null :: st) h Q) ∧
  (∀ (l0 l2 l3 l4 l5 l6 l7 : Option Value) (st : List Value) (h : pb_H) (Q : Option Value → pb_H → Prop) (x : Int32), pb_R 165 1 [l0, some (.int x), l2, l3, l4, l5, l6, l7] [] st h Q ↔ pb_R 165 2 [l0, some (.int x), l2, l3, l4, l5, l6, l7] [] (.int x :: st) h Q) ∧
  (∀ (L : pb_L) (J : pb_J) (st : List Value) (h : pb_H) (Q : Option Value → pb_H → Prop), pb_R 165 2 L J st h Q ↔ pb_R 165 3 L J (.int (0 : Int32) :: st) h Q) ∧
  (∀ (L : pb_L) (J : pb_J) (h : pb_H) (Q : Option Value → pb_H → Prop) (x0 : Int32) (x1 : Int32) (x2 : Nat), pb_R 165 3 L J [.int x0, .int x1, .ref x2] h Q ↔ pb_call 143 [.int x1, .int x0] h (fun v t => pb_R 165 6 L J (v.toList ++ [.ref x2]) t Q)) ∧
  (∀ (l0 l1 l3 l4 l5 l6 l7 : Option Value) (st : List Value) (h : pb_H) (Q : Option Value → pb_H → Prop) (x : Int32), pb_R 165 6 [l0, l1, some (.int x), l3, l4, l5, l6, l7] [] st h Q ↔ pb_R 165 7 [l0, l1, some (.int x), l3, l4, l5, l6, l7] [] (.int x :: st) h Q) ∧
  (∀ (L : pb_L) (J : pb_J) (st : List Value) (h : pb_H) (Q : Option Value → pb_H → Prop), pb_R 165 7 L J st h Q ↔ pb_R 165 8 L J (.int (0 : Int32) :: st) h Q) ∧
  (∀ (L : pb_L) (J : pb_J) (h : pb_H) (Q : Option Value → pb_H → Prop) (x0 : Int32) (x1 : Int32) (x2 : Int32) (x3 : Nat), pb_R 165 8 L J [.int x0, .int x1, .int x2, .ref x3] h Q ↔ pb_call 143 [.int x1, .int x0] h (fun v t => pb_R 165 11 L J (v.toList ++ [.int x2, .ref x3]) t Q)) ∧
  (∀ (L : pb_L) (J : pb_J) (h : pb_H) (Q : Option Value → pb_H → Prop) (x0 : Int32) (x1 : Int32) (x2 : Nat), pb_R 165 11 L J [.int x0, .int x1, .ref x2] h Q ↔ pb_is0 (h.2 x2) 12 = true ∧ pb_call 151 [.ref x2, .int x1, .int x0] h (fun v t => pb_R 165 14 L J (v.toList ++ []) t Q)) ∧
  (∀ (L : pb_L) (J : pb_J) (st : List Value) (h : pb_H) (Q : Option Value → pb_H → Prop), pb_R 165 14 L J st h Q ↔ pb_R 165 15 L J (.int (1 : Int32) :: st) h Q) ∧
  (∀ (l0 l1 l2 l3 l4 l5 l6 l7 : Option Value) (st : List Value) (h : pb_H) (Q : Option Value → pb_H → Prop) (x : Int32), pb_R 165 15 [l0, l1, l2, l3, l4, l5, l6, l7] [] (.int x :: st) h Q ↔ pb_R 165 16 [l0, l1, l2, some (.int x), l4, l5, l6, l7] [] st h Q) ∧
  (∀ (l1 l2 l3 l4 l5 l6 l7 : Option Value) (st : List Value) (h : pb_H) (Q : Option Value → pb_H → Prop) (x : Nat), pb_R 165 17 [some (.ref x), l1, l2, l3, l4, l5, l6, l7] [] st h Q ↔ pb_R 165 18 [some (.ref x), l1, l2, l3, l4, l5, l6, l7] [] (.ref x :: st) h Q) ∧
  (∀ (l1 l2 l3 l4 l5 l6 l7 : Option Value) (st : List Value) (h : pb_H) (Q : Option Value → pb_H → Prop), pb_R 165 17 [some .null, l1, l2, l3, l4, l5, l6, l7] [] st h Q ↔ pb_R 165 18 [some .null, l1, l2, l3, l4, l5, l6, l7] [] (.null :: st) h Q) ∧
  (∀ (L : pb_L) (J : pb_J) (st : List Value) (h : pb_H) (Q : Option Value → pb_H → Prop) (a : Nat), pb_R 165 18 L J (.ref a :: st) h Q ↔ pb_o (pb_gf (h.2 a) 12 3) (fun v => pb_R 165 21 L J (v :: st) h Q)) ∧
  (∀ (L : pb_L) (J : pb_J) (st : List Value) (h : pb_H) (Q : Option Value → pb_H → Prop) (x y : Int32), pb_R 165 21 L J (.int y :: .int x :: st) h Q ↔ if y < x then pb_R 165 142 L J st h Q else pb_R 165 24 L J st h Q) ∧
  (∀ (l1 l2 l3 l4 l5 l6 l7 : Option Value) (st : List Value) (h : pb_H) (Q : Option Value → pb_H → Prop) (x : Nat), pb_R 165 24 [some (.ref x), l1, l2, l3, l4, l5, l6, l7] [] st h Q ↔ pb_R 165 25 [some (.ref x), l1, l2, l3, l4, l5, l6, l7] [] (.ref x :: st) h Q) ∧
  (∀ (l1 l2 l3 l4 l5 l6 l7 : Option Value) (st : List Value) (h : pb_H) (Q : Option Value → pb_H → Prop), pb_R 165 24 [some .null, l1, l2, l3, l4, l5, l6, l7] [] st h Q ↔ pb_R 165 25 [some .null, l1, l2, l3, l4, l5, l6, l7] [] (.null :: st) h Q) ∧
  (∀ (L : pb_L) (J : pb_J) (st : List Value) (h : pb_H) (Q : Option Value → pb_H → Prop) (a : Nat), pb_R 165 25 L J (.ref a :: st) h Q ↔ pb_o (pb_gf (h.2 a) 12 1) (fun v => pb_R 165 28 L J (v :: st) h Q)) ∧
  (∀ (l0 l2 l3 l4 l5 l6 l7 : Option Value) (st : List Value) (h : pb_H) (Q : Option Value → pb_H → Prop) (x : Int32), pb_R 165 28 [l0, some (.int x), l2, l3, l4, l5, l6, l7] [] st h Q ↔ pb_R 165 29 [l0, some (.int x), l2, l3, l4, l5, l6, l7] [] (.int x :: st) h Q) ∧
  (∀ (L : pb_L) (J : pb_J) (st : List Value) (h : pb_H) (Q : Option Value → pb_H → Prop), pb_R 165 29 L J st h Q ↔ pb_R 165 31 L J (.int (17 : Int32) :: st) h Q) ∧
  (∀ (L : pb_L) (J : pb_J) (st : List Value) (x y : Int32) (h : pb_H) (Q : Option Value → pb_H → Prop), pb_R 165 31 L J (.int y :: .int x :: st) h Q ↔ pb_R 165 32 L J (.int (x * y) :: st) h Q) ∧
  (∀ (l0 l1 l2 l4 l5 l6 l7 : Option Value) (st : List Value) (h : pb_H) (Q : Option Value → pb_H → Prop) (x : Int32), pb_R 165 32 [l0, l1, l2, some (.int x), l4, l5, l6, l7] [] st h Q ↔ pb_R 165 33 [l0, l1, l2, some (.int x), l4, l5, l6, l7] [] (.int x :: st) h Q) ∧
  (∀ (L : pb_L) (J : pb_J) (st : List Value) (x y : Int32) (h : pb_H) (Q : Option Value → pb_H → Prop), pb_R 165 33 L J (.int y :: .int x :: st) h Q ↔ pb_R 165 34 L J (.int (x + y) :: st) h Q) ∧
  (∀ (L : pb_L) (J : pb_J) (st : List Value) (h : pb_H) (Q : Option Value → pb_H → Prop) (a : Nat) (i : Int32), pb_R 165 34 L J (.int i :: .ref a :: st) h Q ↔ pb_o (pb_ai (h.2 a) i) (fun v => pb_R 165 35 L J (.int v :: st) h Q)) ∧
  (∀ (l0 l1 l2 l3 l4 l5 l6 l7 : Option Value) (st : List Value) (h : pb_H) (Q : Option Value → pb_H → Prop) (x : Int32), pb_R 165 35 [l0, l1, l2, l3, l4, l5, l6, l7] [] (.int x :: st) h Q ↔ pb_R 165 37 [l0, l1, l2, l3, some (.int x), l5, l6, l7] [] st h Q) ∧
  (∀ (l1 l2 l3 l4 l5 l6 l7 : Option Value) (st : List Value) (h : pb_H) (Q : Option Value → pb_H → Prop) (x : Nat), pb_R 165 37 [some (.ref x), l1, l2, l3, l4, l5, l6, l7] [] st h Q ↔ pb_R 165 38 [some (.ref x), l1, l2, l3, l4, l5, l6, l7] [] (.ref x :: st) h Q) ∧
  (∀ (l1 l2 l3 l4 l5 l6 l7 : Option Value) (st : List Value) (h : pb_H) (Q : Option Value → pb_H → Prop), pb_R 165 37 [some .null, l1, l2, l3, l4, l5, l6, l7] [] st h Q ↔ pb_R 165 38 [some .null, l1, l2, l3, l4, l5, l6, l7] [] (.null :: st) h Q) ∧
  (∀ (L : pb_L) (J : pb_J) (st : List Value) (h : pb_H) (Q : Option Value → pb_H → Prop) (a : Nat), pb_R 165 38 L J (.ref a :: st) h Q ↔ pb_o (pb_gf (h.2 a) 12 1) (fun v => pb_R 165 41 L J (v :: st) h Q)) ∧
  (∀ (l0 l1 l3 l4 l5 l6 l7 : Option Value) (st : List Value) (h : pb_H) (Q : Option Value → pb_H → Prop) (x : Int32), pb_R 165 41 [l0, l1, some (.int x), l3, l4, l5, l6, l7] [] st h Q ↔ pb_R 165 42 [l0, l1, some (.int x), l3, l4, l5, l6, l7] [] (.int x :: st) h Q) ∧
  (∀ (L : pb_L) (J : pb_J) (st : List Value) (h : pb_H) (Q : Option Value → pb_H → Prop), pb_R 165 42 L J st h Q ↔ pb_R 165 44 L J (.int (17 : Int32) :: st) h Q) ∧
  (∀ (L : pb_L) (J : pb_J) (st : List Value) (x y : Int32) (h : pb_H) (Q : Option Value → pb_H → Prop), pb_R 165 44 L J (.int y :: .int x :: st) h Q ↔ pb_R 165 45 L J (.int (x * y) :: st) h Q) ∧
  (∀ (l0 l1 l2 l4 l5 l6 l7 : Option Value) (st : List Value) (h : pb_H) (Q : Option Value → pb_H → Prop) (x : Int32), pb_R 165 45 [l0, l1, l2, some (.int x), l4, l5, l6, l7] [] st h Q ↔ pb_R 165 46 [l0, l1, l2, some (.int x), l4, l5, l6, l7] [] (.int x :: st) h Q) ∧
  (∀ (L : pb_L) (J : pb_J) (st : List Value) (x y : Int32) (h : pb_H) (Q : Option Value → pb_H → Prop), pb_R 165 46 L J (.int y :: .int x :: st) h Q ↔ pb_R 165 47 L J (.int (x + y) :: st) h Q) ∧
  (∀ (L : pb_L) (J : pb_J) (st : List Value) (h : pb_H) (Q : Option Value → pb_H → Prop) (a : Nat) (i : Int32), pb_R 165 47 L J (.int i :: .ref a :: st) h Q ↔ pb_o (pb_ai (h.2 a) i) (fun v => pb_R 165 48 L J (.int v :: st) h Q)) ∧
  (∀ (l0 l1 l2 l3 l4 l5 l6 l7 : Option Value) (st : List Value) (h : pb_H) (Q : Option Value → pb_H → Prop) (x : Int32), pb_R 165 48 [l0, l1, l2, l3, l4, l5, l6, l7] [] (.int x :: st) h Q ↔ pb_R 165 50 [l0, l1, l2, l3, l4, some (.int x), l6, l7] [] st h Q) ∧
  (∀ (l0 l2 l3 l4 l5 l6 l7 : Option Value) (st : List Value) (h : pb_H) (Q : Option Value → pb_H → Prop) (x : Int32), pb_R 165 50 [l0, some (.int x), l2, l3, l4, l5, l6, l7] [] st h Q ↔ pb_R 165 51 [l0, some (.int x), l2, l3, l4, l5, l6, l7] [] (.int x :: st) h Q) ∧
  (∀ (l0 l1 l2 l4 l5 l6 l7 : Option Value) (st : List Value) (h : pb_H) (Q : Option Value → pb_H → Prop) (x : Int32), pb_R 165 51 [l0, l1, l2, some (.int x), l4, l5, l6, l7] [] st h Q ↔ pb_R 165 52 [l0, l1, l2, some (.int x), l4, l5, l6, l7] [] (.int x :: st) h Q) ∧
  (∀ (L : pb_L) (J : pb_J) (h : pb_H) (Q : Option Value → pb_H → Prop) (x0 : Int32) (x1 : Int32), pb_R 165 52 L J [.int x0, .int x1] h Q ↔ pb_call 143 [.int x1, .int x0] h (fun v t => pb_R 165 55 L J (v.toList ++ []) t Q)) ∧
  (∀ (l0 l1 l2 l3 l4 l5 l6 l7 : Option Value) (st : List Value) (h : pb_H) (Q : Option Value → pb_H → Prop) (x : Int32), pb_R 165 55 [l0, l1, l2, l3, l4, l5, l6, l7] [] (.int x :: st) h Q ↔ pb_R 165 57 [l0, l1, l2, l3, l4, l5, some (.int x), l7] [] st h Q) ∧
  (∀ (l0 l1 l3 l4 l5 l6 l7 : Option Value) (st : List Value) (h : pb_H) (Q : Option Value → pb_H → Prop) (x : Int32), pb_R 165 57 [l0, l1, some (.int x), l3, l4, l5, l6, l7] [] st h Q ↔ pb_R 165 58 [l0, l1, some (.int x), l3, l4, l5, l6, l7] [] (.int x :: st) h Q) ∧
  (∀ (l0 l1 l2 l4 l5 l6 l7 : Option Value) (st : List Value) (h : pb_H) (Q : Option Value → pb_H → Prop) (x : Int32), pb_R 165 58 [l0, l1, l2, some (.int x), l4, l5, l6, l7] [] st h Q ↔ pb_R 165 59 [l0, l1, l2, some (.int x), l4, l5, l6, l7] [] (.int x :: st) h Q) ∧
  (∀ (L : pb_L) (J : pb_J) (h : pb_H) (Q : Option Value → pb_H → Prop) (x0 : Int32) (x1 : Int32), pb_R 165 59 L J [.int x0, .int x1] h Q ↔ pb_call 143 [.int x1, .int x0] h (fun v t => pb_R 165 62 L J (v.toList ++ []) t Q)) ∧
  (∀ (l0 l1 l2 l3 l4 l5 l6 l7 : Option Value) (st : List Value) (h : pb_H) (Q : Option Value → pb_H → Prop) (x : Int32), pb_R 165 62 [l0, l1, l2, l3, l4, l5, l6, l7] [] (.int x :: st) h Q ↔ pb_R 165 64 [l0, l1, l2, l3, l4, l5, l6, some (.int x)] [] st h Q) ∧
  (∀ (l0 l1 l2 l3 l4 l6 l7 : Option Value) (st : List Value) (h : pb_H) (Q : Option Value → pb_H → Prop) (x : Int32), pb_R 165 64 [l0, l1, l2, l3, l4, some (.int x), l6, l7] [] st h Q ↔ pb_R 165 66 [l0, l1, l2, l3, l4, some (.int x), l6, l7] [] (.int x :: st) h Q) ∧
  (∀ (L : pb_L) (J : pb_J) (st : List Value) (h : pb_H) (Q : Option Value → pb_H → Prop) (x : Int32), pb_R 165 66 L J (.int x :: st) h Q ↔ if x = 0 then pb_R 165 98 L J st h Q else pb_R 165 69 L J st h Q) ∧
  (∀ (l0 l1 l2 l3 l5 l6 l7 : Option Value) (st : List Value) (h : pb_H) (Q : Option Value → pb_H → Prop) (x : Int32), pb_R 165 69 [l0, l1, l2, l3, some (.int x), l5, l6, l7] [] st h Q ↔ pb_R 165 71 [l0, l1, l2, l3, some (.int x), l5, l6, l7] [] (.int x :: st) h Q) ∧
  (∀ (L : pb_L) (J : pb_J) (st : List Value) (h : pb_H) (Q : Option Value → pb_H → Prop) (x : Int32), pb_R 165 71 L J (.int x :: st) h Q ↔ if ¬ x = 0 then pb_R 165 98 L J st h Q else pb_R 165 74 L J st h Q) ∧
  (∀ (l1 l2 l3 l4 l5 l6 l7 : Option Value) (st : List Value) (h : pb_H) (Q : Option Value → pb_H → Prop) (x : Nat), pb_R 165 74 [some (.ref x), l1, l2, l3, l4, l5, l6, l7] [] st h Q ↔ pb_R 165 75 [some (.ref x), l1, l2, l3, l4, l5, l6, l7] [] (.ref x :: st) h Q) ∧
  (∀ (l1 l2 l3 l4 l5 l6 l7 : Option Value) (st : List Value) (h : pb_H) (Q : Option Value → pb_H → Prop), pb_R 165 74 [some .null, l1, l2, l3, l4, l5, l6, l7] [] st h Q ↔ pb_R 165 75 [some .null, l1, l2, l3, l4, l5, l6, l7] [] (.null :: st) h Q) ∧
  (∀ (L : pb_L) (J : pb_J) (st : List Value) (h : pb_H) (Q : Option Value → pb_H → Prop) (a : Nat), pb_R 165 75 L J (.ref a :: st) h Q ↔ pb_o (pb_gf (h.2 a) 12 1) (fun v => pb_R 165 78 L J (v :: st) h Q)) ∧
  (∀ (l0 l2 l3 l4 l5 l6 l7 : Option Value) (st : List Value) (h : pb_H) (Q : Option Value → pb_H → Prop) (x : Int32), pb_R 165 78 [l0, some (.int x), l2, l3, l4, l5, l6, l7] [] st h Q ↔ pb_R 165 79 [l0, some (.int x), l2, l3, l4, l5, l6, l7] [] (.int x :: st) h Q) ∧
  (∀ (L : pb_L) (J : pb_J) (st : List Value) (h : pb_H) (Q : Option Value → pb_H → Prop), pb_R 165 79 L J st h Q ↔ pb_R 165 81 L J (.int (17 : Int32) :: st) h Q) ∧
  (∀ (L : pb_L) (J : pb_J) (st : List Value) (x y : Int32) (h : pb_H) (Q : Option Value → pb_H → Prop), pb_R 165 81 L J (.int y :: .int x :: st) h Q ↔ pb_R 165 82 L J (.int (x * y) :: st) h Q) ∧
  (∀ (l0 l1 l2 l4 l5 l6 l7 : Option Value) (st : List Value) (h : pb_H) (Q : Option Value → pb_H → Prop) (x : Int32), pb_R 165 82 [l0, l1, l2, some (.int x), l4, l5, l6, l7] [] st h Q ↔ pb_R 165 83 [l0, l1, l2, some (.int x), l4, l5, l6, l7] [] (.int x :: st) h Q) ∧
  (∀ (L : pb_L) (J : pb_J) (st : List Value) (x y : Int32) (h : pb_H) (Q : Option Value → pb_H → Prop), pb_R 165 83 L J (.int y :: .int x :: st) h Q ↔ pb_R 165 84 L J (.int (x + y) :: st) h Q) ∧
  (∀ (l0 l1 l2 l3 l4 l6 l7 : Option Value) (st : List Value) (h : pb_H) (Q : Option Value → pb_H → Prop) (x : Int32), pb_R 165 84 [l0, l1, l2, l3, l4, some (.int x), l6, l7] [] st h Q ↔ pb_R 165 86 [l0, l1, l2, l3, l4, some (.int x), l6, l7] [] (.int x :: st) h Q) ∧
  (∀ (L : pb_L) (J : pb_J) (st : List Value) (h : pb_H) (Q : Option Value → pb_H → Prop) (a : Nat) (i x : Int32), pb_R 165 86 L J (.int x :: .int i :: .ref a :: st) h Q ↔ pb_o (pb_si (h.2 a) i x) (fun c => pb_R 165 87 L J st (pb_set h a c) Q)) ∧
  (∀ (l1 l2 l3 l4 l5 l6 l7 : Option Value) (st : List Value) (h : pb_H) (Q : Option Value → pb_H → Prop) (x : Nat), pb_R 165 87 [some (.ref x), l1, l2, l3, l4, l5, l6, l7] [] st h Q ↔ pb_R 165 88 [some (.ref x), l1, l2, l3, l4, l5, l6, l7] [] (.ref x :: st) h Q) ∧
  (∀ (l1 l2 l3 l4 l5 l6 l7 : Option Value) (st : List Value) (h : pb_H) (Q : Option Value → pb_H → Prop), pb_R 165 87 [some .null, l1, l2, l3, l4, l5, l6, l7] [] st h Q ↔ pb_R 165 88 [some .null, l1, l2, l3, l4, l5, l6, l7] [] (.null :: st) h Q) ∧
  (∀ (l0 l1 l2 l3 l4 l5 l6 : Option Value) (st : List Value) (h : pb_H) (Q : Option Value → pb_H → Prop) (x : Int32), pb_R 165 88 [l0, l1, l2, l3, l4, l5, l6, some (.int x)] [] st h Q ↔ pb_R 165 90 [l0, l1, l2, l3, l4, l5, l6, some (.int x)] [] (.int x :: st) h Q) ∧
  (∀ (l0 l1 l2 l3 l4 l5 l7 : Option Value) (st : List Value) (h : pb_H) (Q : Option Value → pb_H → Prop) (x : Int32), pb_R 165 90 [l0, l1, l2, l3, l4, l5, some (.int x), l7] [] st h Q ↔ pb_R 165 92 [l0, l1, l2, l3, l4, l5, some (.int x), l7] [] (.int x :: st) h Q) ∧
  (∀ (L : pb_L) (J : pb_J) (h : pb_H) (Q : Option Value → pb_H → Prop) (x0 : Int32) (x1 : Int32) (x2 : Nat), pb_R 165 92 L J [.int x0, .int x1, .ref x2] h Q ↔ pb_is0 (h.2 x2) 12 = true ∧ pb_call 146 [.ref x2, .int x1, .int x0] h (fun v t => pb_R 165 95 L J (v.toList ++ []) t Q)) ∧
  (∀ (L : pb_L) (J : pb_J) (st : List Value) (h : pb_H) (Q : Option Value → pb_H → Prop), pb_R 165 95 L J st h Q ↔ pb_R 165 136 L J st h Q) ∧
  (∀ (l0 l1 l2 l3 l4 l6 l7 : Option Value) (st : List Value) (h : pb_H) (Q : Option Value → pb_H → Prop) (x : Int32), pb_R 165 98 [l0, l1, l2, l3, l4, some (.int x), l6, l7] [] st h Q ↔ pb_R 165 100 [l0, l1, l2, l3, l4, some (.int x), l6, l7] [] (.int x :: st) h Q) ∧
  (∀ (L : pb_L) (J : pb_J) (st : List Value) (h : pb_H) (Q : Option Value → pb_H → Prop) (x : Int32), pb_R 165 100 L J (.int x :: st) h Q ↔ if x = 0 then pb_R 165 121 L J st h Q else pb_R 165 103 L J st h Q) ∧
  (∀ (l0 l1 l2 l3 l5 l6 l7 : Option Value) (st : List Value) (h : pb_H) (Q : Option Value → pb_H → Prop) (x : Int32), pb_R 165 103 [l0, l1, l2, l3, some (.int x), l5, l6, l7] [] st h Q ↔ pb_R 165 105 [l0, l1, l2, l3, some (.int x), l5, l6, l7] [] (.int x :: st) h Q) ∧
  (∀ (l0 l1 l2 l3 l4 l6 l7 : Option Value) (st : List Value) (h : pb_H) (Q : Option Value → pb_H → Prop) (x : Int32), pb_R 165 105 [l0, l1, l2, l3, l4, some (.int x), l6, l7] [] st h Q ↔ pb_R 165 107 [l0, l1, l2, l3, l4, some (.int x), l6, l7] [] (.int x :: st) h Q) ∧
  (∀ (L : pb_L) (J : pb_J) (st : List Value) (h : pb_H) (Q : Option Value → pb_H → Prop) (x y : Int32), pb_R 165 107 L J (.int y :: .int x :: st) h Q ↔ if ¬ x = y then pb_R 165 121 L J st h Q else pb_R 165 110 L J st h Q) ∧
  (∀ (l1 l2 l3 l4 l5 l6 l7 : Option Value) (st : List Value) (h : pb_H) (Q : Option Value → pb_H → Prop) (x : Nat), pb_R 165 110 [some (.ref x), l1, l2, l3, l4, l5, l6, l7] [] st h Q ↔ pb_R 165 111 [some (.ref x), l1, l2, l3, l4, l5, l6, l7] [] (.ref x :: st) h Q) ∧
  (∀ (l1 l2 l3 l4 l5 l6 l7 : Option Value) (st : List Value) (h : pb_H) (Q : Option Value → pb_H → Prop), pb_R 165 110 [some .null, l1, l2, l3, l4, l5, l6, l7] [] st h Q ↔ pb_R 165 111 [some .null, l1, l2, l3, l4, l5, l6, l7] [] (.null :: st) h Q) ∧
  (∀ (l0 l1 l2 l3 l4 l5 l7 : Option Value) (st : List Value) (h : pb_H) (Q : Option Value → pb_H → Prop) (x : Int32), pb_R 165 111 [l0, l1, l2, l3, l4, l5, some (.int x), l7] [] st h Q ↔ pb_R 165 113 [l0, l1, l2, l3, l4, l5, some (.int x), l7] [] (.int x :: st) h Q) ∧
  (∀ (l0 l1 l2 l3 l4 l5 l6 : Option Value) (st : List Value) (h : pb_H) (Q : Option Value → pb_H → Prop) (x : Int32), pb_R 165 113 [l0, l1, l2, l3, l4, l5, l6, some (.int x)] [] st h Q ↔ pb_R 165 115 [l0, l1, l2, l3, l4, l5, l6, some (.int x)] [] (.int x :: st) h Q) ∧
  (∀ (L : pb_L) (J : pb_J) (h : pb_H) (Q : Option Value → pb_H → Prop) (x0 : Int32) (x1 : Int32) (x2 : Nat), pb_R 165 115 L J [.int x0, .int x1, .ref x2] h Q ↔ pb_is0 (h.2 x2) 12 = true ∧ pb_call 151 [.ref x2, .int x1, .int x0] h (fun v t => pb_R 165 118 L J (v.toList ++ []) t Q)) ∧
  (∀ (L : pb_L) (J : pb_J) (st : List Value) (h : pb_H) (Q : Option Value → pb_H → Prop), pb_R 165 118 L J st h Q ↔ pb_R 165 136 L J st h Q) ∧
  (∀ (l0 l1 l2 l3 l4 l6 l7 : Option Value) (st : List Value) (h : pb_H) (Q : Option Value → pb_H → Prop) (x : Int32), pb_R 165 121 [l0, l1, l2, l3, l4, some (.int x), l6, l7] [] st h Q ↔ pb_R 165 123 [l0, l1, l2, l3, l4, some (.int x), l6, l7] [] (.int x :: st) h Q) ∧
  (∀ (L : pb_L) (J : pb_J) (st : List Value) (h : pb_H) (Q : Option Value → pb_H → Prop) (x : Int32), pb_R 165 123 L J (.int x :: st) h Q ↔ if x = 0 then pb_R 165 136 L J st h Q else pb_R 165 126 L J st h Q) ∧
  (∀ (l1 l2 l3 l4 l5 l6 l7 : Option Value) (st : List Value) (h : pb_H) (Q : Option Value → pb_H → Prop) (x : Nat), pb_R 165 126 [some (.ref x), l1, l2, l3, l4, l5, l6, l7] [] st h Q ↔ pb_R 165 127 [some (.ref x), l1, l2, l3, l4, l5, l6, l7] [] (.ref x :: st) h Q) ∧
  (∀ (l1 l2 l3 l4 l5 l6 l7 : Option Value) (st : List Value) (h : pb_H) (Q : Option Value → pb_H → Prop), pb_R 165 126 [some .null, l1, l2, l3, l4, l5, l6, l7] [] st h Q ↔ pb_R 165 127 [some .null, l1, l2, l3, l4, l5, l6, l7] [] (.null :: st) h Q) ∧
  (∀ (l0 l2 l3 l4 l5 l6 l7 : Option Value) (st : List Value) (h : pb_H) (Q : Option Value → pb_H → Prop) (x : Int32), pb_R 165 127 [l0, some (.int x), l2, l3, l4, l5, l6, l7] [] st h Q ↔ pb_R 165 128 [l0, some (.int x), l2, l3, l4, l5, l6, l7] [] (.int x :: st) h Q) ∧
  (∀ (l0 l1 l2 l4 l5 l6 l7 : Option Value) (st : List Value) (h : pb_H) (Q : Option Value → pb_H → Prop) (x : Int32), pb_R 165 128 [l0, l1, l2, some (.int x), l4, l5, l6, l7] [] st h Q ↔ pb_R 165 129 [l0, l1, l2, some (.int x), l4, l5, l6, l7] [] (.int x :: st) h Q) ∧
  (∀ (l0 l1 l2 l3 l4 l5 l6 : Option Value) (st : List Value) (h : pb_H) (Q : Option Value → pb_H → Prop) (x : Int32), pb_R 165 129 [l0, l1, l2, l3, l4, l5, l6, some (.int x)] [] st h Q ↔ pb_R 165 131 [l0, l1, l2, l3, l4, l5, l6, some (.int x)] [] (.int x :: st) h Q) ∧
  (∀ (l0 l1 l2 l3 l4 l6 l7 : Option Value) (st : List Value) (h : pb_H) (Q : Option Value → pb_H → Prop) (x : Int32), pb_R 165 131 [l0, l1, l2, l3, l4, some (.int x), l6, l7] [] st h Q ↔ pb_R 165 133 [l0, l1, l2, l3, l4, some (.int x), l6, l7] [] (.int x :: st) h Q) ∧
  (∀ (L : pb_L) (J : pb_J) (h : pb_H) (Q : Option Value → pb_H → Prop) (x0 : Int32) (x1 : Int32) (x2 : Int32) (x3 : Int32) (x4 : Nat), pb_R 165 133 L J [.int x0, .int x1, .int x2, .int x3, .ref x4] h Q ↔ pb_is0 (h.2 x4) 12 = true ∧ pb_call 164 [.ref x4, .int x3, .int x2, .int x1, .int x0] h (fun v t => pb_R 165 136 L J (v.toList ++ []) t Q)) ∧
  (∀ (l0 l1 l2 l4 l5 l6 l7 : Option Value) (st : List Value) (h : pb_H) (Q : Option Value → pb_H → Prop) (x : Int32), pb_R 165 136 [l0, l1, l2, some (.int x), l4, l5, l6, l7] [] st h Q ↔ pb_R 165 139 [l0, l1, l2, some (.int (x + (1 : Int32))), l4, l5, l6, l7] [] st h Q) ∧
  (∀ (L : pb_L) (J : pb_J) (st : List Value) (h : pb_H) (Q : Option Value → pb_H → Prop), pb_R 165 139 L J st h Q ↔ pb_R 165 16 L J st h Q) ∧
  (∀ (l1 l2 l3 l4 l5 l6 l7 : Option Value) (st : List Value) (h : pb_H) (Q : Option Value → pb_H → Prop) (x : Nat), pb_R 165 142 [some (.ref x), l1, l2, l3, l4, l5, l6, l7] [] st h Q ↔ pb_R 165 143 [some (.ref x), l1, l2, l3, l4, l5, l6, l7] [] (.ref x :: st) h Q) ∧
  (∀ (l1 l2 l3 l4 l5 l6 l7 : Option Value) (st : List Value) (h : pb_H) (Q : Option Value → pb_H → Prop), pb_R 165 142 [some .null, l1, l2, l3, l4, l5, l6, l7] [] st h Q ↔ pb_R 165 143 [some .null, l1, l2, l3, l4, l5, l6, l7] [] (.null :: st) h Q) ∧
  (∀ (l0 l2 l3 l4 l5 l6 l7 : Option Value) (st : List Value) (h : pb_H) (Q : Option Value → pb_H → Prop) (x : Int32), pb_R 165 143 [l0, some (.int x), l2, l3, l4, l5, l6, l7] [] st h Q ↔ pb_R 165 144 [l0, some (.int x), l2, l3, l4, l5, l6, l7] [] (.int x :: st) h Q) ∧
  (∀ (L : pb_L) (J : pb_J) (h : pb_H) (Q : Option Value → pb_H → Prop) (x0 : Int32) (x1 : Nat), pb_R 165 144 L J [.int x0, .ref x1] h Q ↔ pb_is0 (h.2 x1) 12 = true ∧ pb_call 163 [.ref x1, .int x0] h (fun v t => pb_R 165 147 L J (v.toList ++ []) t Q)) ∧
  (∀ (L : pb_L) (J : pb_J) (h : pb_H) (Q : Option Value → pb_H → Prop) (x : Int32), pb_R 165 147 L J [.int x] h Q ↔ narrow .boolean (.int x) = .int x ∧ Q (some (.int x)) h) := ⟨
  fun l1 l2 l3 l4 l5 l6 l7 st h Q x => pf_S pb_u_165 rfl rfl,
  fun l1 l2 l3 l4 l5 l6 l7 st h Q => pf_S pb_u_165 rfl rfl,
  fun l0 l2 l3 l4 l5 l6 l7 st h Q x => pf_S pb_u_165 rfl rfl,
  fun L J st h Q => pf_S pb_u_165 rfl rfl,
  fun L J h Q x0 x1 x2 => pf_ks pb_u_165 rfl rfl rfl rfl,
  fun l0 l1 l3 l4 l5 l6 l7 st h Q x => pf_S pb_u_165 rfl rfl,
  fun L J st h Q => pf_S pb_u_165 rfl rfl,
  fun L J h Q x0 x1 x2 x3 => pf_ks pb_u_165 rfl rfl rfl rfl,
  fun L J h Q x0 x1 x2 => pf_kv pb_u_165 rfl pb_ci_151 rfl ⟨Nat.le_of_ble_eq_true rfl, Nat.le_of_ble_eq_true rfl, Nat.le_of_ble_eq_true rfl, Nat.le_of_ble_eq_true rfl, rfl⟩ rfl rfl,
  fun L J st h Q => pf_S pb_u_165 rfl rfl,
  fun l0 l1 l2 l3 l4 l5 l6 l7 st h Q x => pf_S pb_u_165 rfl rfl,
  fun l1 l2 l3 l4 l5 l6 l7 st h Q x => pf_S pb_u_165 rfl rfl,
  fun l1 l2 l3 l4 l5 l6 l7 st h Q => pf_S pb_u_165 rfl rfl,
  fun L J st h Q a => pf_gf pb_u_165 rfl rfl,
  fun L J st h Q x y => pf_ic pb_u_165 rfl rfl rfl,
  fun l1 l2 l3 l4 l5 l6 l7 st h Q x => pf_S pb_u_165 rfl rfl,
  fun l1 l2 l3 l4 l5 l6 l7 st h Q => pf_S pb_u_165 rfl rfl,
  fun L J st h Q a => pf_gf pb_u_165 rfl rfl,
  fun l0 l2 l3 l4 l5 l6 l7 st h Q x => pf_S pb_u_165 rfl rfl,
  fun L J st h Q => pf_S pb_u_165 rfl rfl,
  fun L J st x y h Q => pf_S pb_u_165 rfl rfl,
  fun l0 l1 l2 l4 l5 l6 l7 st h Q x => pf_S pb_u_165 rfl rfl,
  fun L J st x y h Q => pf_S pb_u_165 rfl rfl,
  fun L J st h Q a i => pf_ai pb_u_165 rfl rfl,
  fun l0 l1 l2 l3 l4 l5 l6 l7 st h Q x => pf_S pb_u_165 rfl rfl,
  fun l1 l2 l3 l4 l5 l6 l7 st h Q x => pf_S pb_u_165 rfl rfl,
  fun l1 l2 l3 l4 l5 l6 l7 st h Q => pf_S pb_u_165 rfl rfl,
  fun L J st h Q a => pf_gf pb_u_165 rfl rfl,
  fun l0 l1 l3 l4 l5 l6 l7 st h Q x => pf_S pb_u_165 rfl rfl,
  fun L J st h Q => pf_S pb_u_165 rfl rfl,
  fun L J st x y h Q => pf_S pb_u_165 rfl rfl,
  fun l0 l1 l2 l4 l5 l6 l7 st h Q x => pf_S pb_u_165 rfl rfl,
  fun L J st x y h Q => pf_S pb_u_165 rfl rfl,
  fun L J st h Q a i => pf_ai pb_u_165 rfl rfl,
  fun l0 l1 l2 l3 l4 l5 l6 l7 st h Q x => pf_S pb_u_165 rfl rfl,
  fun l0 l2 l3 l4 l5 l6 l7 st h Q x => pf_S pb_u_165 rfl rfl,
  fun l0 l1 l2 l4 l5 l6 l7 st h Q x => pf_S pb_u_165 rfl rfl,
  fun L J h Q x0 x1 => pf_ks pb_u_165 rfl rfl rfl rfl,
  fun l0 l1 l2 l3 l4 l5 l6 l7 st h Q x => pf_S pb_u_165 rfl rfl,
  fun l0 l1 l3 l4 l5 l6 l7 st h Q x => pf_S pb_u_165 rfl rfl,
  fun l0 l1 l2 l4 l5 l6 l7 st h Q x => pf_S pb_u_165 rfl rfl,
  fun L J h Q x0 x1 => pf_ks pb_u_165 rfl rfl rfl rfl,
  fun l0 l1 l2 l3 l4 l5 l6 l7 st h Q x => pf_S pb_u_165 rfl rfl,
  fun l0 l1 l2 l3 l4 l6 l7 st h Q x => pf_S pb_u_165 rfl rfl,
  fun L J st h Q x => pf_ii pb_u_165 rfl rfl rfl,
  fun l0 l1 l2 l3 l5 l6 l7 st h Q x => pf_S pb_u_165 rfl rfl,
  fun L J st h Q x => pf_ii pb_u_165 rfl rfl pf_ne,
  fun l1 l2 l3 l4 l5 l6 l7 st h Q x => pf_S pb_u_165 rfl rfl,
  fun l1 l2 l3 l4 l5 l6 l7 st h Q => pf_S pb_u_165 rfl rfl,
  fun L J st h Q a => pf_gf pb_u_165 rfl rfl,
  fun l0 l2 l3 l4 l5 l6 l7 st h Q x => pf_S pb_u_165 rfl rfl,
  fun L J st h Q => pf_S pb_u_165 rfl rfl,
  fun L J st x y h Q => pf_S pb_u_165 rfl rfl,
  fun l0 l1 l2 l4 l5 l6 l7 st h Q x => pf_S pb_u_165 rfl rfl,
  fun L J st x y h Q => pf_S pb_u_165 rfl rfl,
  fun l0 l1 l2 l3 l4 l6 l7 st h Q x => pf_S pb_u_165 rfl rfl,
  fun L J st h Q a i x => pf_si pb_u_165 rfl rfl,
  fun l1 l2 l3 l4 l5 l6 l7 st h Q x => pf_S pb_u_165 rfl rfl,
  fun l1 l2 l3 l4 l5 l6 l7 st h Q => pf_S pb_u_165 rfl rfl,
  fun l0 l1 l2 l3 l4 l5 l6 st h Q x => pf_S pb_u_165 rfl rfl,
  fun l0 l1 l2 l3 l4 l5 l7 st h Q x => pf_S pb_u_165 rfl rfl,
  fun L J h Q x0 x1 x2 => pf_kv pb_u_165 rfl pb_ci_146 rfl ⟨Nat.le_of_ble_eq_true rfl, Nat.le_of_ble_eq_true rfl, Nat.le_of_ble_eq_true rfl, Nat.le_of_ble_eq_true rfl, rfl⟩ rfl rfl,
  fun L J st h Q => pf_S pb_u_165 rfl rfl,
  fun l0 l1 l2 l3 l4 l6 l7 st h Q x => pf_S pb_u_165 rfl rfl,
  fun L J st h Q x => pf_ii pb_u_165 rfl rfl rfl,
  fun l0 l1 l2 l3 l5 l6 l7 st h Q x => pf_S pb_u_165 rfl rfl,
  fun l0 l1 l2 l3 l4 l6 l7 st h Q x => pf_S pb_u_165 rfl rfl,
  fun L J st h Q x y => pf_ic pb_u_165 rfl rfl pf_ne,
  fun l1 l2 l3 l4 l5 l6 l7 st h Q x => pf_S pb_u_165 rfl rfl,
  fun l1 l2 l3 l4 l5 l6 l7 st h Q => pf_S pb_u_165 rfl rfl,
  fun l0 l1 l2 l3 l4 l5 l7 st h Q x => pf_S pb_u_165 rfl rfl,
  fun l0 l1 l2 l3 l4 l5 l6 st h Q x => pf_S pb_u_165 rfl rfl,
  fun L J h Q x0 x1 x2 => pf_kv pb_u_165 rfl pb_ci_151 rfl ⟨Nat.le_of_ble_eq_true rfl, Nat.le_of_ble_eq_true rfl, Nat.le_of_ble_eq_true rfl, Nat.le_of_ble_eq_true rfl, rfl⟩ rfl rfl,
  fun L J st h Q => pf_S pb_u_165 rfl rfl,
  fun l0 l1 l2 l3 l4 l6 l7 st h Q x => pf_S pb_u_165 rfl rfl,
  fun L J st h Q x => pf_ii pb_u_165 rfl rfl rfl,
  fun l1 l2 l3 l4 l5 l6 l7 st h Q x => pf_S pb_u_165 rfl rfl,
  fun l1 l2 l3 l4 l5 l6 l7 st h Q => pf_S pb_u_165 rfl rfl,
  fun l0 l2 l3 l4 l5 l6 l7 st h Q x => pf_S pb_u_165 rfl rfl,
  fun l0 l1 l2 l4 l5 l6 l7 st h Q x => pf_S pb_u_165 rfl rfl,
  fun l0 l1 l2 l3 l4 l5 l6 st h Q x => pf_S pb_u_165 rfl rfl,
  fun l0 l1 l2 l3 l4 l6 l7 st h Q x => pf_S pb_u_165 rfl rfl,
  fun L J h Q x0 x1 x2 x3 x4 => pf_kv pb_u_165 rfl pb_ci_164 rfl ⟨Nat.le_of_ble_eq_true rfl, Nat.le_of_ble_eq_true rfl, Nat.le_of_ble_eq_true rfl, Nat.le_of_ble_eq_true rfl, rfl⟩ rfl rfl,
  fun l0 l1 l2 l4 l5 l6 l7 st h Q x => pf_S pb_u_165 rfl rfl,
  fun L J st h Q => pf_S pb_u_165 rfl rfl,
  fun l1 l2 l3 l4 l5 l6 l7 st h Q x => pf_S pb_u_165 rfl rfl,
  fun l1 l2 l3 l4 l5 l6 l7 st h Q => pf_S pb_u_165 rfl rfl,
  fun l0 l2 l3 l4 l5 l6 l7 st h Q x => pf_S pb_u_165 rfl rfl,
  fun L J h Q x0 x1 => pf_kv pb_u_165 rfl pb_ci_163 rfl ⟨Nat.le_of_ble_eq_true rfl, Nat.le_of_ble_eq_true rfl, Nat.le_of_ble_eq_true rfl, Nat.le_of_ble_eq_true rfl, rfl⟩ rfl rfl,
  fun L J h Q x => pf_rz pb_u_165 rfl rfl⟩
theorem pb_c165 (x0 : Nat) (x1 : Int32) (x2 : Int32) (h : pb_H) (Q : Option Value → pb_H → Prop) : pb_call 165 [.ref x0, .int x1, .int x2] h Q ↔ pb_R 165 0 [some (.ref x0), some (.int x1), some (.int x2), none, none, none, none, none] [] [] h Q := Iff.rfl
/-! 166: PlaneBenchModel.times(II)Z -/
theorem pb_u_166 : pb_t 166 = pb_t166 := rfl
theorem pb_ci_166 : pb_ci 166 = 12 := by decide +kernel
set_option maxRecDepth 100000 in
theorem pb_q166_5 (l0 l1 l2 l3 : Option Value) (st : List Value) (h : pb_H) (Q : Option Value → pb_H → Prop) (x : Int32) : pb_R 166 5 [l0, l1, l2, l3, some (.int x)] [] st h Q ↔ pb_R 166 7 [l0, l1, l2, l3, some (.int x)] [] (.int x :: st) h Q := pf_S pb_u_166 rfl rfl
set_option maxRecDepth 100000 in
theorem pb_e166 : (∀ (L : pb_L) (J : pb_J) (st : List Value) (h : pb_H) (Q : Option Value → pb_H → Prop), pb_R 166 0 L J st h Q ↔ pb_R 166 1 L J (.int (1 : Int32) :: st) h Q) ∧
  (∀ (l0 l1 l2 l3 l4 : Option Value) (st : List Value) (h : pb_H) (Q : Option Value → pb_H → Prop) (x : Int32), pb_R 166 1 [l0, l1, l2, l3, l4] [] (.int x :: st) h Q ↔ pb_R 166 2 [l0, l1, l2, some (.int x), l4] [] st h Q) ∧
  (∀ (L : pb_L) (J : pb_J) (st : List Value) (h : pb_H) (Q : Option Value → pb_H → Prop), pb_R 166 2 L J st h Q ↔ pb_R 166 3 L J (.int (0 : Int32) :: st) h Q) ∧
  (∀ (l0 l1 l2 l3 l4 : Option Value) (st : List Value) (h : pb_H) (Q : Option Value → pb_H → Prop) (x : Int32), pb_R 166 3 [l0, l1, l2, l3, l4] [] (.int x :: st) h Q ↔ pb_R 166 5 [l0, l1, l2, l3, some (.int x)] [] st h Q) ∧
  (∀ (l1 l2 l3 l4 : Option Value) (st : List Value) (h : pb_H) (Q : Option Value → pb_H → Prop) (x : Nat), pb_R 166 7 [some (.ref x), l1, l2, l3, l4] [] st h Q ↔ pb_R 166 8 [some (.ref x), l1, l2, l3, l4] [] (.ref x :: st) h Q) ∧
  (∀ (l1 l2 l3 l4 : Option Value) (st : List Value) (h : pb_H) (Q : Option Value → pb_H → Prop), pb_R 166 7 [some .null, l1, l2, l3, l4] [] st h Q ↔ pb_R 166 8 [some .null, l1, l2, l3, l4] [] (.null :: st) h Q) ∧
  (∀ (L : pb_L) (J : pb_J) (st : List Value) (h : pb_H) (Q : Option Value → pb_H → Prop) (a : Nat), pb_R 166 8 L J (.ref a :: st) h Q ↔ pb_o (pb_gf (h.2 a) 12 3) (fun v => pb_R 166 11 L J (v :: st) h Q)) ∧
  (∀ (L : pb_L) (J : pb_J) (st : List Value) (h : pb_H) (Q : Option Value → pb_H → Prop) (x y : Int32), pb_R 166 11 L J (.int y :: .int x :: st) h Q ↔ if y < x then pb_R 166 36 L J st h Q else pb_R 166 14 L J st h Q) ∧
  (∀ (l0 l1 l2 l4 : Option Value) (st : List Value) (h : pb_H) (Q : Option Value → pb_H → Prop) (x : Int32), pb_R 166 14 [l0, l1, l2, some (.int x), l4] [] st h Q ↔ pb_R 166 15 [l0, l1, l2, some (.int x), l4] [] (.int x :: st) h Q) ∧
  (∀ (L : pb_L) (J : pb_J) (st : List Value) (h : pb_H) (Q : Option Value → pb_H → Prop) (x : Int32), pb_R 166 15 L J (.int x :: st) h Q ↔ if x = 0 then pb_R 166 36 L J st h Q else pb_R 166 18 L J st h Q) ∧
  (∀ (l1 l2 l3 l4 : Option Value) (st : List Value) (h : pb_H) (Q : Option Value → pb_H → Prop) (x : Nat), pb_R 166 18 [some (.ref x), l1, l2, l3, l4] [] st h Q ↔ pb_R 166 19 [some (.ref x), l1, l2, l3, l4] [] (.ref x :: st) h Q) ∧
  (∀ (l1 l2 l3 l4 : Option Value) (st : List Value) (h : pb_H) (Q : Option Value → pb_H → Prop), pb_R 166 18 [some .null, l1, l2, l3, l4] [] st h Q ↔ pb_R 166 19 [some .null, l1, l2, l3, l4] [] (.null :: st) h Q) ∧
  (∀ (l0 l2 l3 l4 : Option Value) (st : List Value) (h : pb_H) (Q : Option Value → pb_H → Prop) (x : Int32), pb_R 166 19 [l0, some (.int x), l2, l3, l4] [] st h Q ↔ pb_R 166 20 [l0, some (.int x), l2, l3, l4] [] (.int x :: st) h Q) ∧
  (∀ (l0 l1 l2 l3 : Option Value) (st : List Value) (h : pb_H) (Q : Option Value → pb_H → Prop) (x : Int32), pb_R 166 20 [l0, l1, l2, l3, some (.int x)] [] st h Q ↔ pb_R 166 22 [l0, l1, l2, l3, some (.int x)] [] (.int x :: st) h Q) ∧
  (∀ (L : pb_L) (J : pb_J) (h : pb_H) (Q : Option Value → pb_H → Prop) (x0 : Int32) (x1 : Int32) (x2 : Nat), pb_R 166 22 L J [.int x0, .int x1, .ref x2] h Q ↔ pb_call 143 [.int x1, .int x0] h (fun v t => pb_R 166 25 L J (v.toList ++ [.ref x2]) t Q)) ∧
  (∀ (l0 l1 l3 l4 : Option Value) (st : List Value) (h : pb_H) (Q : Option Value → pb_H → Prop) (x : Int32), pb_R 166 25 [l0, l1, some (.int x), l3, l4] [] st h Q ↔ pb_R 166 26 [l0, l1, some (.int x), l3, l4] [] (.int x :: st) h Q) ∧
  (∀ (L : pb_L) (J : pb_J) (h : pb_H) (Q : Option Value → pb_H → Prop) (x0 : Int32) (x1 : Int32) (x2 : Nat), pb_R 166 26 L J [.int x0, .int x1, .ref x2] h Q ↔ pb_is0 (h.2 x2) 12 = true ∧ pb_call 155 [.ref x2, .int x1, .int x0] h (fun v t => pb_R 166 29 L J (v.toList ++ []) t Q)) ∧
  (∀ (l0 l1 l2 l3 l4 : Option Value) (st : List Value) (h : pb_H) (Q : Option Value → pb_H → Prop) (x : Int32), pb_R 166 29 [l0, l1, l2, l3, l4] [] (.int x :: st) h Q ↔ pb_R 166 30 [l0, l1, l2, some (.int x), l4] [] st h Q) ∧
  (∀ (l0 l1 l2 l3 : Option Value) (st : List Value) (h : pb_H) (Q : Option Value → pb_H → Prop) (x : Int32), pb_R 166 30 [l0, l1, l2, l3, some (.int x)] [] st h Q ↔ pb_R 166 33 [l0, l1, l2, l3, some (.int (x + (1 : Int32)))] [] st h Q) ∧
  (∀ (L : pb_L) (J : pb_J) (st : List Value) (h : pb_H) (Q : Option Value → pb_H → Prop), pb_R 166 33 L J st h Q ↔ pb_R 166 5 L J st h Q) ∧
  (∀ (l0 l1 l2 l4 : Option Value) (st : List Value) (h : pb_H) (Q : Option Value → pb_H → Prop) (x : Int32), pb_R 166 36 [l0, l1, l2, some (.int x), l4] [] st h Q ↔ pb_R 166 37 [l0, l1, l2, some (.int x), l4] [] (.int x :: st) h Q) ∧
  (∀ (L : pb_L) (J : pb_J) (h : pb_H) (Q : Option Value → pb_H → Prop) (x : Int32), pb_R 166 37 L J [.int x] h Q ↔ narrow .boolean (.int x) = .int x ∧ Q (some (.int x)) h) := ⟨
  fun L J st h Q => pf_S pb_u_166 rfl rfl,
  fun l0 l1 l2 l3 l4 st h Q x => pf_S pb_u_166 rfl rfl,
  fun L J st h Q => pf_S pb_u_166 rfl rfl,
  fun l0 l1 l2 l3 l4 st h Q x => pf_S pb_u_166 rfl rfl,
  fun l1 l2 l3 l4 st h Q x => pf_S pb_u_166 rfl rfl,
  fun l1 l2 l3 l4 st h Q => pf_S pb_u_166 rfl rfl,
  fun L J st h Q a => pf_gf pb_u_166 rfl rfl,
  fun L J st h Q x y => pf_ic pb_u_166 rfl rfl rfl,
  fun l0 l1 l2 l4 st h Q x => pf_S pb_u_166 rfl rfl,
  fun L J st h Q x => pf_ii pb_u_166 rfl rfl rfl,
  fun l1 l2 l3 l4 st h Q x => pf_S pb_u_166 rfl rfl,
  fun l1 l2 l3 l4 st h Q => pf_S pb_u_166 rfl rfl,
  fun l0 l2 l3 l4 st h Q x => pf_S pb_u_166 rfl rfl,
  fun l0 l1 l2 l3 st h Q x => pf_S pb_u_166 rfl rfl,
  fun L J h Q x0 x1 x2 => pf_ks pb_u_166 rfl rfl rfl rfl,
  fun l0 l1 l3 l4 st h Q x => pf_S pb_u_166 rfl rfl,
  fun L J h Q x0 x1 x2 => pf_kv pb_u_166 rfl pb_ci_155 rfl ⟨Nat.le_of_ble_eq_true rfl, Nat.le_of_ble_eq_true rfl, Nat.le_of_ble_eq_true rfl, Nat.le_of_ble_eq_true rfl, rfl⟩ rfl rfl,
  fun l0 l1 l2 l3 l4 st h Q x => pf_S pb_u_166 rfl rfl,
  fun l0 l1 l2 l3 st h Q x => pf_S pb_u_166 rfl rfl,
  fun L J st h Q => pf_S pb_u_166 rfl rfl,
  fun l0 l1 l2 l4 st h Q x => pf_S pb_u_166 rfl rfl,
  fun L J h Q x => pf_rz pb_u_166 rfl rfl⟩
theorem pb_c166 (x0 : Nat) (x1 : Int32) (x2 : Int32) (h : pb_H) (Q : Option Value → pb_H → Prop) : pb_call 166 [.ref x0, .int x1, .int x2] h Q ↔ pb_R 166 0 [some (.ref x0), some (.int x1), some (.int x2), none, none] [] [] h Q := Iff.rfl
/-! 167: PlaneBenchModel.divided(II)V -/
theorem pb_u_167 : pb_t 167 = pb_t167 := rfl
theorem pb_ci_167 : pb_ci 167 = 12 := by decide +kernel
set_option maxRecDepth 100000 in
theorem pb_q167_2 (l0 l1 l2 : Option Value) (st : List Value) (h : pb_H) (Q : Option Value → pb_H → Prop) (x : Int32) : pb_R 167 2 [l0, l1, l2, some (.int x)] [] st h Q ↔ pb_R 167 3 [l0, l1, l2, some (.int x)] [] (.int x :: st) h Q := pf_S pb_u_167 rfl rfl
set_option maxRecDepth 100000 in
theorem pb_e167 : (∀ (L : pb_L) (J : pb_J) (st : List Value) (h : pb_H) (Q : Option Value → pb_H → Prop), pb_R 167 0 L J st h Q ↔ pb_R 167 1 L J (.int (0 : Int32) :: st) h Q) ∧
  (∀ (l0 l1 l2 l3 : Option Value) (st : List Value) (h : pb_H) (Q : Option Value → pb_H → Prop) (x : Int32), pb_R 167 1 [l0, l1, l2, l3] [] (.int x :: st) h Q ↔ pb_R 167 2 [l0, l1, l2, some (.int x)] [] st h Q) ∧
  (∀ (l1 l2 l3 : Option Value) (st : List Value) (h : pb_H) (Q : Option Value → pb_H → Prop) (x : Nat), pb_R 167 3 [some (.ref x), l1, l2, l3] [] st h Q ↔ pb_R 167 4 [some (.ref x), l1, l2, l3] [] (.ref x :: st) h Q) ∧
  (∀ (l1 l2 l3 : Option Value) (st : List Value) (h : pb_H) (Q : Option Value → pb_H → Prop), pb_R 167 3 [some .null, l1, l2, l3] [] st h Q ↔ pb_R 167 4 [some .null, l1, l2, l3] [] (.null :: st) h Q) ∧
  (∀ (L : pb_L) (J : pb_J) (st : List Value) (h : pb_H) (Q : Option Value → pb_H → Prop) (a : Nat), pb_R 167 4 L J (.ref a :: st) h Q ↔ pb_o (pb_gf (h.2 a) 12 3) (fun v => pb_R 167 7 L J (v :: st) h Q)) ∧
  (∀ (L : pb_L) (J : pb_J) (st : List Value) (h : pb_H) (Q : Option Value → pb_H → Prop) (x y : Int32), pb_R 167 7 L J (.int y :: .int x :: st) h Q ↔ if y < x then pb_R 167 26 L J st h Q else pb_R 167 10 L J st h Q) ∧
  (∀ (l1 l2 l3 : Option Value) (st : List Value) (h : pb_H) (Q : Option Value → pb_H → Prop) (x : Nat), pb_R 167 10 [some (.ref x), l1, l2, l3] [] st h Q ↔ pb_R 167 11 [some (.ref x), l1, l2, l3] [] (.ref x :: st) h Q) ∧
  (∀ (l1 l2 l3 : Option Value) (st : List Value) (h : pb_H) (Q : Option Value → pb_H → Prop), pb_R 167 10 [some .null, l1, l2, l3] [] st h Q ↔ pb_R 167 11 [some .null, l1, l2, l3] [] (.null :: st) h Q) ∧
  (∀ (l0 l2 l3 : Option Value) (st : List Value) (h : pb_H) (Q : Option Value → pb_H → Prop) (x : Int32), pb_R 167 11 [l0, some (.int x), l2, l3] [] st h Q ↔ pb_R 167 12 [l0, some (.int x), l2, l3] [] (.int x :: st) h Q) ∧
  (∀ (l0 l1 l2 : Option Value) (st : List Value) (h : pb_H) (Q : Option Value → pb_H → Prop) (x : Int32), pb_R 167 12 [l0, l1, l2, some (.int x)] [] st h Q ↔ pb_R 167 13 [l0, l1, l2, some (.int x)] [] (.int x :: st) h Q) ∧
  (∀ (L : pb_L) (J : pb_J) (h : pb_H) (Q : Option Value → pb_H → Prop) (x0 : Int32) (x1 : Int32) (x2 : Nat), pb_R 167 13 L J [.int x0, .int x1, .ref x2] h Q ↔ pb_call 143 [.int x1, .int x0] h (fun v t => pb_R 167 16 L J (v.toList ++ [.ref x2]) t Q)) ∧
  (∀ (l0 l1 l3 : Option Value) (st : List Value) (h : pb_H) (Q : Option Value → pb_H → Prop) (x : Int32), pb_R 167 16 [l0, l1, some (.int x), l3] [] st h Q ↔ pb_R 167 17 [l0, l1, some (.int x), l3] [] (.int x :: st) h Q) ∧
  (∀ (L : pb_L) (J : pb_J) (h : pb_H) (Q : Option Value → pb_H → Prop) (x0 : Int32) (x1 : Int32) (x2 : Nat), pb_R 167 17 L J [.int x0, .int x1, .ref x2] h Q ↔ pb_is0 (h.2 x2) 12 = true ∧ pb_call 159 [.ref x2, .int x1, .int x0] h (fun v t => pb_R 167 20 L J (v.toList ++ []) t Q)) ∧
  (∀ (l0 l1 l2 : Option Value) (st : List Value) (h : pb_H) (Q : Option Value → pb_H → Prop) (x : Int32), pb_R 167 20 [l0, l1, l2, some (.int x)] [] st h Q ↔ pb_R 167 23 [l0, l1, l2, some (.int (x + (1 : Int32)))] [] st h Q) ∧
  (∀ (L : pb_L) (J : pb_J) (st : List Value) (h : pb_H) (Q : Option Value → pb_H → Prop), pb_R 167 23 L J st h Q ↔ pb_R 167 2 L J st h Q) ∧
  (∀ (L : pb_L) (J : pb_J) (h : pb_H) (Q : Option Value → pb_H → Prop), pb_R 167 26 L J [] h Q ↔ Q none h) := ⟨
  fun L J st h Q => pf_S pb_u_167 rfl rfl,
  fun l0 l1 l2 l3 st h Q x => pf_S pb_u_167 rfl rfl,
  fun l1 l2 l3 st h Q x => pf_S pb_u_167 rfl rfl,
  fun l1 l2 l3 st h Q => pf_S pb_u_167 rfl rfl,
  fun L J st h Q a => pf_gf pb_u_167 rfl rfl,
  fun L J st h Q x y => pf_ic pb_u_167 rfl rfl rfl,
  fun l1 l2 l3 st h Q x => pf_S pb_u_167 rfl rfl,
  fun l1 l2 l3 st h Q => pf_S pb_u_167 rfl rfl,
  fun l0 l2 l3 st h Q x => pf_S pb_u_167 rfl rfl,
  fun l0 l1 l2 st h Q x => pf_S pb_u_167 rfl rfl,
  fun L J h Q x0 x1 x2 => pf_ks pb_u_167 rfl rfl rfl rfl,
  fun l0 l1 l3 st h Q x => pf_S pb_u_167 rfl rfl,
  fun L J h Q x0 x1 x2 => pf_kv pb_u_167 rfl pb_ci_159 rfl ⟨Nat.le_of_ble_eq_true rfl, Nat.le_of_ble_eq_true rfl, Nat.le_of_ble_eq_true rfl, Nat.le_of_ble_eq_true rfl, rfl⟩ rfl rfl,
  fun l0 l1 l2 st h Q x => pf_S pb_u_167 rfl rfl,
  fun L J st h Q => pf_S pb_u_167 rfl rfl,
  fun L J h Q => pf_rv pb_u_167 rfl rfl⟩
theorem pb_c167 (x0 : Nat) (x1 : Int32) (x2 : Int32) (h : pb_H) (Q : Option Value → pb_H → Prop) : pb_call 167 [.ref x0, .int x1, .int x2] h Q ↔ pb_R 167 0 [some (.ref x0), some (.int x1), some (.int x2), none] [] [] h Q := Iff.rfl
/-! 168: PlaneBenchModel.cut(I)V -/
theorem pb_u_168 : pb_t 168 = pb_t168 := rfl
theorem pb_ci_168 : pb_ci 168 = 12 := by decide +kernel
set_option maxRecDepth 100000 in
theorem pb_q168_8 (l0 l1 l2 l4 : Option Value) (st : List Value) (h : pb_H) (Q : Option Value → pb_H → Prop) (x : Int32) : pb_R 168 8 [l0, l1, l2, some (.int x), l4] [] st h Q ↔ pb_R 168 9 [l0, l1, l2, some (.int x), l4] [] (.int x :: st) h Q := pf_S pb_u_168 rfl rfl
set_option maxRecDepth 100000 in
theorem pb_e168 : (∀ (l0 l2 l3 l4 : Option Value) (st : List Value) (h : pb_H) (Q : Option Value → pb_H → Prop) (x : Int32), pb_R 168 0 [l0, some (.int x), l2, l3, l4] [] st h Q ↔ pb_R 168 1 [l0, some (.int x), l2, l3, l4] [] (.int x :: st) h Q) ∧
  (∀ (L : pb_L) (J : pb_J) (st : List Value) (h : pb_H) (Q : Option Value → pb_H → Prop), pb_R 168 1 L J st h Q ↔ pb_R 168 2 L J (.int (0 : Int32) :: st) h Q) ∧
  (∀ (L : pb_L) (J : pb_J) (h : pb_H) (Q : Option Value → pb_H → Prop) (x0 : Int32) (x1 : Int32), pb_R 168 2 L J [.int x0, .int x1] h Q ↔ pb_call 143 [.int x1, .int x0] h (fun v t => pb_R 168 5 L J (v.toList ++ []) t Q)) ∧
  (∀ (l0 l1 l2 l3 l4 : Option Value) (st : List Value) (h : pb_H) (Q : Option Value → pb_H → Prop) (x : Int32), pb_R 168 5 [l0, l1, l2, l3, l4] [] (.int x :: st) h Q ↔ pb_R 168 6 [l0, l1, some (.int x), l3, l4] [] st h Q) ∧
  (∀ (L : pb_L) (J : pb_J) (st : List Value) (h : pb_H) (Q : Option Value → pb_H → Prop), pb_R 168 6 L J st h Q ↔ pb_R 168 7 L J (.int (1 : Int32) :: st) h Q) ∧
  (∀ (l0 l1 l2 l3 l4 : Option Value) (st : List Value) (h : pb_H) (Q : Option Value → pb_H → Prop) (x : Int32), pb_R 168 7 [l0, l1, l2, l3, l4] [] (.int x :: st) h Q ↔ pb_R 168 8 [l0, l1, l2, some (.int x), l4] [] st h Q) ∧
  (∀ (l1 l2 l3 l4 : Option Value) (st : List Value) (h : pb_H) (Q : Option Value → pb_H → Prop) (x : Nat), pb_R 168 9 [some (.ref x), l1, l2, l3, l4] [] st h Q ↔ pb_R 168 10 [some (.ref x), l1, l2, l3, l4] [] (.ref x :: st) h Q) ∧
  (∀ (l1 l2 l3 l4 : Option Value) (st : List Value) (h : pb_H) (Q : Option Value → pb_H → Prop), pb_R 168 9 [some .null, l1, l2, l3, l4] [] st h Q ↔ pb_R 168 10 [some .null, l1, l2, l3, l4] [] (.null :: st) h Q) ∧
  (∀ (L : pb_L) (J : pb_J) (st : List Value) (h : pb_H) (Q : Option Value → pb_H → Prop) (a : Nat), pb_R 168 10 L J (.ref a :: st) h Q ↔ pb_o (pb_gf (h.2 a) 12 3) (fun v => pb_R 168 13 L J (v :: st) h Q)) ∧
  (∀ (L : pb_L) (J : pb_J) (st : List Value) (h : pb_H) (Q : Option Value → pb_H → Prop) (x y : Int32), pb_R 168 13 L J (.int y :: .int x :: st) h Q ↔ if y < x then pb_R 168 67 L J st h Q else pb_R 168 16 L J st h Q) ∧
  (∀ (l0 l2 l3 l4 : Option Value) (st : List Value) (h : pb_H) (Q : Option Value → pb_H → Prop) (x : Int32), pb_R 168 16 [l0, some (.int x), l2, l3, l4] [] st h Q ↔ pb_R 168 17 [l0, some (.int x), l2, l3, l4] [] (.int x :: st) h Q) ∧
  (∀ (l0 l1 l2 l4 : Option Value) (st : List Value) (h : pb_H) (Q : Option Value → pb_H → Prop) (x : Int32), pb_R 168 17 [l0, l1, l2, some (.int x), l4] [] st h Q ↔ pb_R 168 18 [l0, l1, l2, some (.int x), l4] [] (.int x :: st) h Q) ∧
  (∀ (L : pb_L) (J : pb_J) (h : pb_H) (Q : Option Value → pb_H → Prop) (x0 : Int32) (x1 : Int32), pb_R 168 18 L J [.int x0, .int x1] h Q ↔ pb_call 143 [.int x1, .int x0] h (fun v t => pb_R 168 21 L J (v.toList ++ []) t Q)) ∧
  (∀ (l0 l1 l2 l3 l4 : Option Value) (st : List Value) (h : pb_H) (Q : Option Value → pb_H → Prop) (x : Int32), pb_R 168 21 [l0, l1, l2, l3, l4] [] (.int x :: st) h Q ↔ pb_R 168 23 [l0, l1, l2, l3, some (.int x)] [] st h Q) ∧
  (∀ (l1 l2 l3 l4 : Option Value) (st : List Value) (h : pb_H) (Q : Option Value → pb_H → Prop) (x : Nat), pb_R 168 23 [some (.ref x), l1, l2, l3, l4] [] st h Q ↔ pb_R 168 24 [some (.ref x), l1, l2, l3, l4] [] (.ref x :: st) h Q) ∧
  (∀ (l1 l2 l3 l4 : Option Value) (st : List Value) (h : pb_H) (Q : Option Value → pb_H → Prop), pb_R 168 23 [some .null, l1, l2, l3, l4] [] st h Q ↔ pb_R 168 24 [some .null, l1, l2, l3, l4] [] (.null :: st) h Q) ∧
  (∀ (l0 l1 l2 l3 : Option Value) (st : List Value) (h : pb_H) (Q : Option Value → pb_H → Prop) (x : Int32), pb_R 168 24 [l0, l1, l2, l3, some (.int x)] [] st h Q ↔ pb_R 168 26 [l0, l1, l2, l3, some (.int x)] [] (.int x :: st) h Q) ∧
  (∀ (l0 l1 l3 l4 : Option Value) (st : List Value) (h : pb_H) (Q : Option Value → pb_H → Prop) (x : Int32), pb_R 168 26 [l0, l1, some (.int x), l3, l4] [] st h Q ↔ pb_R 168 27 [l0, l1, some (.int x), l3, l4] [] (.int x :: st) h Q) ∧
  (∀ (L : pb_L) (J : pb_J) (h : pb_H) (Q : Option Value → pb_H → Prop) (x0 : Int32) (x1 : Int32) (x2 : Nat), pb_R 168 27 L J [.int x0, .int x1, .ref x2] h Q ↔ pb_is0 (h.2 x2) 12 = true ∧ pb_call 150 [.ref x2, .int x1, .int x0] h (fun v t => pb_R 168 30 L J (v.toList ++ []) t Q)) ∧
  (∀ (L : pb_L) (J : pb_J) (st : List Value) (h : pb_H) (Q : Option Value → pb_H → Prop) (x : Int32), pb_R 168 30 L J (.int x :: st) h Q ↔ if x ≤ 0 then pb_R 168 40 L J st h Q else pb_R 168 33 L J st h Q) ∧
  (∀ (l1 l2 l3 l4 : Option Value) (st : List Value) (h : pb_H) (Q : Option Value → pb_H → Prop) (x : Nat), pb_R 168 33 [some (.ref x), l1, l2, l3, l4] [] st h Q ↔ pb_R 168 34 [some (.ref x), l1, l2, l3, l4] [] (.ref x :: st) h Q) ∧
  (∀ (l1 l2 l3 l4 : Option Value) (st : List Value) (h : pb_H) (Q : Option Value → pb_H → Prop), pb_R 168 33 [some .null, l1, l2, l3, l4] [] st h Q ↔ pb_R 168 34 [some .null, l1, l2, l3, l4] [] (.null :: st) h Q) ∧
  (∀ (l0 l1 l3 l4 : Option Value) (st : List Value) (h : pb_H) (Q : Option Value → pb_H → Prop) (x : Int32), pb_R 168 34 [l0, l1, some (.int x), l3, l4] [] st h Q ↔ pb_R 168 35 [l0, l1, some (.int x), l3, l4] [] (.int x :: st) h Q) ∧
  (∀ (l0 l1 l2 l3 : Option Value) (st : List Value) (h : pb_H) (Q : Option Value → pb_H → Prop) (x : Int32), pb_R 168 35 [l0, l1, l2, l3, some (.int x)] [] st h Q ↔ pb_R 168 37 [l0, l1, l2, l3, some (.int x)] [] (.int x :: st) h Q) ∧
  (∀ (L : pb_L) (J : pb_J) (h : pb_H) (Q : Option Value → pb_H → Prop) (x0 : Int32) (x1 : Int32) (x2 : Nat), pb_R 168 37 L J [.int x0, .int x1, .ref x2] h Q ↔ pb_is0 (h.2 x2) 12 = true ∧ pb_call 146 [.ref x2, .int x1, .int x0] h (fun v t => pb_R 168 40 L J (v.toList ++ []) t Q)) ∧
  (∀ (l1 l2 l3 l4 : Option Value) (st : List Value) (h : pb_H) (Q : Option Value → pb_H → Prop) (x : Nat), pb_R 168 40 [some (.ref x), l1, l2, l3, l4] [] st h Q ↔ pb_R 168 41 [some (.ref x), l1, l2, l3, l4] [] (.ref x :: st) h Q) ∧
  (∀ (l1 l2 l3 l4 : Option Value) (st : List Value) (h : pb_H) (Q : Option Value → pb_H → Prop), pb_R 168 40 [some .null, l1, l2, l3, l4] [] st h Q ↔ pb_R 168 41 [some .null, l1, l2, l3, l4] [] (.null :: st) h Q) ∧
  (∀ (l0 l1 l2 l3 : Option Value) (st : List Value) (h : pb_H) (Q : Option Value → pb_H → Prop) (x : Int32), pb_R 168 41 [l0, l1, l2, l3, some (.int x)] [] st h Q ↔ pb_R 168 43 [l0, l1, l2, l3, some (.int x)] [] (.int x :: st) h Q) ∧
  (∀ (L : pb_L) (J : pb_J) (h : pb_H) (Q : Option Value → pb_H → Prop) (x0 : Int32) (x1 : Nat), pb_R 168 43 L J [.int x0, .ref x1] h Q ↔ pb_is0 (h.2 x1) 12 = true ∧ pb_call 147 [.ref x1, .int x0] h (fun v t => pb_R 168 46 L J (v.toList ++ []) t Q)) ∧
  (∀ (L : pb_L) (J : pb_J) (st : List Value) (h : pb_H) (Q : Option Value → pb_H → Prop) (x : Int32), pb_R 168 46 L J (.int x :: st) h Q ↔ if x = 0 then pb_R 168 61 L J st h Q else pb_R 168 49 L J st h Q) ∧
  (∀ (l1 l2 l3 l4 : Option Value) (st : List Value) (h : pb_H) (Q : Option Value → pb_H → Prop) (x : Nat), pb_R 168 49 [some (.ref x), l1, l2, l3, l4] [] st h Q ↔ pb_R 168 50 [some (.ref x), l1, l2, l3, l4] [] (.ref x :: st) h Q) ∧
  (∀ (l1 l2 l3 l4 : Option Value) (st : List Value) (h : pb_H) (Q : Option Value → pb_H → Prop), pb_R 168 49 [some .null, l1, l2, l3, l4] [] st h Q ↔ pb_R 168 50 [some .null, l1, l2, l3, l4] [] (.null :: st) h Q) ∧
  (∀ (L : pb_L) (J : pb_J) (st : List Value) (h : pb_H) (Q : Option Value → pb_H → Prop) (a : Nat), pb_R 168 50 L J (.ref a :: st) h Q ↔ pb_o (pb_gf (h.2 a) 12 1) (fun v => pb_R 168 53 L J (v :: st) h Q)) ∧
  (∀ (l0 l2 l3 l4 : Option Value) (st : List Value) (h : pb_H) (Q : Option Value → pb_H → Prop) (x : Int32), pb_R 168 53 [l0, some (.int x), l2, l3, l4] [] st h Q ↔ pb_R 168 54 [l0, some (.int x), l2, l3, l4] [] (.int x :: st) h Q) ∧
  (∀ (L : pb_L) (J : pb_J) (st : List Value) (h : pb_H) (Q : Option Value → pb_H → Prop), pb_R 168 54 L J st h Q ↔ pb_R 168 56 L J (.int (17 : Int32) :: st) h Q) ∧
  (∀ (L : pb_L) (J : pb_J) (st : List Value) (x y : Int32) (h : pb_H) (Q : Option Value → pb_H → Prop), pb_R 168 56 L J (.int y :: .int x :: st) h Q ↔ pb_R 168 57 L J (.int (x * y) :: st) h Q) ∧
  (∀ (l0 l1 l2 l4 : Option Value) (st : List Value) (h : pb_H) (Q : Option Value → pb_H → Prop) (x : Int32), pb_R 168 57 [l0, l1, l2, some (.int x), l4] [] st h Q ↔ pb_R 168 58 [l0, l1, l2, some (.int x), l4] [] (.int x :: st) h Q) ∧
  (∀ (L : pb_L) (J : pb_J) (st : List Value) (x y : Int32) (h : pb_H) (Q : Option Value → pb_H → Prop), pb_R 168 58 L J (.int y :: .int x :: st) h Q ↔ pb_R 168 59 L J (.int (x + y) :: st) h Q) ∧
  (∀ (L : pb_L) (J : pb_J) (st : List Value) (h : pb_H) (Q : Option Value → pb_H → Prop), pb_R 168 59 L J st h Q ↔ pb_R 168 60 L J (.int (0 : Int32) :: st) h Q) ∧
  (∀ (L : pb_L) (J : pb_J) (st : List Value) (h : pb_H) (Q : Option Value → pb_H → Prop) (a : Nat) (i x : Int32), pb_R 168 60 L J (.int x :: .int i :: .ref a :: st) h Q ↔ pb_o (pb_si (h.2 a) i x) (fun c => pb_R 168 61 L J st (pb_set h a c) Q)) ∧
  (∀ (l0 l1 l2 l4 : Option Value) (st : List Value) (h : pb_H) (Q : Option Value → pb_H → Prop) (x : Int32), pb_R 168 61 [l0, l1, l2, some (.int x), l4] [] st h Q ↔ pb_R 168 64 [l0, l1, l2, some (.int (x + (1 : Int32))), l4] [] st h Q) ∧
  (∀ (L : pb_L) (J : pb_J) (st : List Value) (h : pb_H) (Q : Option Value → pb_H → Prop), pb_R 168 64 L J st h Q ↔ pb_R 168 8 L J st h Q) ∧
  (∀ (L : pb_L) (J : pb_J) (h : pb_H) (Q : Option Value → pb_H → Prop), pb_R 168 67 L J [] h Q ↔ Q none h) := ⟨
  fun l0 l2 l3 l4 st h Q x => pf_S pb_u_168 rfl rfl,
  fun L J st h Q => pf_S pb_u_168 rfl rfl,
  fun L J h Q x0 x1 => pf_ks pb_u_168 rfl rfl rfl rfl,
  fun l0 l1 l2 l3 l4 st h Q x => pf_S pb_u_168 rfl rfl,
  fun L J st h Q => pf_S pb_u_168 rfl rfl,
  fun l0 l1 l2 l3 l4 st h Q x => pf_S pb_u_168 rfl rfl,
  fun l1 l2 l3 l4 st h Q x => pf_S pb_u_168 rfl rfl,
  fun l1 l2 l3 l4 st h Q => pf_S pb_u_168 rfl rfl,
  fun L J st h Q a => pf_gf pb_u_168 rfl rfl,
  fun L J st h Q x y => pf_ic pb_u_168 rfl rfl rfl,
  fun l0 l2 l3 l4 st h Q x => pf_S pb_u_168 rfl rfl,
  fun l0 l1 l2 l4 st h Q x => pf_S pb_u_168 rfl rfl,
  fun L J h Q x0 x1 => pf_ks pb_u_168 rfl rfl rfl rfl,
  fun l0 l1 l2 l3 l4 st h Q x => pf_S pb_u_168 rfl rfl,
  fun l1 l2 l3 l4 st h Q x => pf_S pb_u_168 rfl rfl,
  fun l1 l2 l3 l4 st h Q => pf_S pb_u_168 rfl rfl,
  fun l0 l1 l2 l3 st h Q x => pf_S pb_u_168 rfl rfl,
  fun l0 l1 l3 l4 st h Q x => pf_S pb_u_168 rfl rfl,
  fun L J h Q x0 x1 x2 => pf_kv pb_u_168 rfl pb_ci_150 rfl ⟨Nat.le_of_ble_eq_true rfl, Nat.le_of_ble_eq_true rfl, Nat.le_of_ble_eq_true rfl, Nat.le_of_ble_eq_true rfl, rfl⟩ rfl rfl,
  fun L J st h Q x => pf_ii pb_u_168 rfl rfl rfl,
  fun l1 l2 l3 l4 st h Q x => pf_S pb_u_168 rfl rfl,
  fun l1 l2 l3 l4 st h Q => pf_S pb_u_168 rfl rfl,
  fun l0 l1 l3 l4 st h Q x => pf_S pb_u_168 rfl rfl,
  fun l0 l1 l2 l3 st h Q x => pf_S pb_u_168 rfl rfl,
  fun L J h Q x0 x1 x2 => pf_kv pb_u_168 rfl pb_ci_146 rfl ⟨Nat.le_of_ble_eq_true rfl, Nat.le_of_ble_eq_true rfl, Nat.le_of_ble_eq_true rfl, Nat.le_of_ble_eq_true rfl, rfl⟩ rfl rfl,
  fun l1 l2 l3 l4 st h Q x => pf_S pb_u_168 rfl rfl,
  fun l1 l2 l3 l4 st h Q => pf_S pb_u_168 rfl rfl,
  fun l0 l1 l2 l3 st h Q x => pf_S pb_u_168 rfl rfl,
  fun L J h Q x0 x1 => pf_kv pb_u_168 rfl pb_ci_147 rfl ⟨Nat.le_of_ble_eq_true rfl, Nat.le_of_ble_eq_true rfl, Nat.le_of_ble_eq_true rfl, Nat.le_of_ble_eq_true rfl, rfl⟩ rfl rfl,
  fun L J st h Q x => pf_ii pb_u_168 rfl rfl rfl,
  fun l1 l2 l3 l4 st h Q x => pf_S pb_u_168 rfl rfl,
  fun l1 l2 l3 l4 st h Q => pf_S pb_u_168 rfl rfl,
  fun L J st h Q a => pf_gf pb_u_168 rfl rfl,
  fun l0 l2 l3 l4 st h Q x => pf_S pb_u_168 rfl rfl,
  fun L J st h Q => pf_S pb_u_168 rfl rfl,
  fun L J st x y h Q => pf_S pb_u_168 rfl rfl,
  fun l0 l1 l2 l4 st h Q x => pf_S pb_u_168 rfl rfl,
  fun L J st x y h Q => pf_S pb_u_168 rfl rfl,
  fun L J st h Q => pf_S pb_u_168 rfl rfl,
  fun L J st h Q a i x => pf_si pb_u_168 rfl rfl,
  fun l0 l1 l2 l4 st h Q x => pf_S pb_u_168 rfl rfl,
  fun L J st h Q => pf_S pb_u_168 rfl rfl,
  fun L J h Q => pf_rv pb_u_168 rfl rfl⟩
theorem pb_c168 (x0 : Nat) (x1 : Int32) (h : pb_H) (Q : Option Value → pb_H → Prop) : pb_call 168 [.ref x0, .int x1] h Q ↔ pb_R 168 0 [some (.ref x0), some (.int x1), none, none, none] [] [] h Q := Iff.rfl
/-! 169: PlaneBenchModel.without(II)V -/
theorem pb_u_169 : pb_t 169 = pb_t169 := rfl
theorem pb_ci_169 : pb_ci 169 = 12 := by decide +kernel
set_option maxRecDepth 100000 in
theorem pb_e169 : (∀ (l1 l2 : Option Value) (st : List Value) (h : pb_H) (Q : Option Value → pb_H → Prop) (x : Nat), pb_R 169 0 [some (.ref x), l1, l2] [] st h Q ↔ pb_R 169 1 [some (.ref x), l1, l2] [] (.ref x :: st) h Q) ∧
  (∀ (l1 l2 : Option Value) (st : List Value) (h : pb_H) (Q : Option Value → pb_H → Prop), pb_R 169 0 [some .null, l1, l2] [] st h Q ↔ pb_R 169 1 [some .null, l1, l2] [] (.null :: st) h Q) ∧
  (∀ (L : pb_L) (J : pb_J) (st : List Value) (h : pb_H) (Q : Option Value → pb_H → Prop) (a : Nat), pb_R 169 1 L J (.ref a :: st) h Q ↔ pb_o (pb_gf (h.2 a) 12 1) (fun v => pb_R 169 4 L J (v :: st) h Q)) ∧
  (∀ (l0 l2 : Option Value) (st : List Value) (h : pb_H) (Q : Option Value → pb_H → Prop) (x : Int32), pb_R 169 4 [l0, some (.int x), l2] [] st h Q ↔ pb_R 169 5 [l0, some (.int x), l2] [] (.int x :: st) h Q) ∧
  (∀ (L : pb_L) (J : pb_J) (st : List Value) (h : pb_H) (Q : Option Value → pb_H → Prop), pb_R 169 5 L J st h Q ↔ pb_R 169 7 L J (.int (17 : Int32) :: st) h Q) ∧
  (∀ (L : pb_L) (J : pb_J) (st : List Value) (x y : Int32) (h : pb_H) (Q : Option Value → pb_H → Prop), pb_R 169 7 L J (.int y :: .int x :: st) h Q ↔ pb_R 169 8 L J (.int (x * y) :: st) h Q) ∧
  (∀ (l0 l1 : Option Value) (st : List Value) (h : pb_H) (Q : Option Value → pb_H → Prop) (x : Int32), pb_R 169 8 [l0, l1, some (.int x)] [] st h Q ↔ pb_R 169 9 [l0, l1, some (.int x)] [] (.int x :: st) h Q) ∧
  (∀ (L : pb_L) (J : pb_J) (st : List Value) (x y : Int32) (h : pb_H) (Q : Option Value → pb_H → Prop), pb_R 169 9 L J (.int y :: .int x :: st) h Q ↔ pb_R 169 10 L J (.int (x + y) :: st) h Q) ∧
  (∀ (L : pb_L) (J : pb_J) (st : List Value) (h : pb_H) (Q : Option Value → pb_H → Prop) (a : Nat) (i : Int32), pb_R 169 10 L J (.int i :: .ref a :: st) h Q ↔ pb_o (pb_ai (h.2 a) i) (fun v => pb_R 169 11 L J (.int v :: st) h Q)) ∧
  (∀ (L : pb_L) (J : pb_J) (st : List Value) (h : pb_H) (Q : Option Value → pb_H → Prop) (x : Int32), pb_R 169 11 L J (.int x :: st) h Q ↔ if x = 0 then pb_R 169 49 L J st h Q else pb_R 169 14 L J st h Q) ∧
  (∀ (l1 l2 : Option Value) (st : List Value) (h : pb_H) (Q : Option Value → pb_H → Prop) (x : Nat), pb_R 169 14 [some (.ref x), l1, l2] [] st h Q ↔ pb_R 169 15 [some (.ref x), l1, l2] [] (.ref x :: st) h Q) ∧
  (∀ (l1 l2 : Option Value) (st : List Value) (h : pb_H) (Q : Option Value → pb_H → Prop), pb_R 169 14 [some .null, l1, l2] [] st h Q ↔ pb_R 169 15 [some .null, l1, l2] [] (.null :: st) h Q) ∧
  (∀ (l0 l2 : Option Value) (st : List Value) (h : pb_H) (Q : Option Value → pb_H → Prop) (x : Int32), pb_R 169 15 [l0, some (.int x), l2] [] st h Q ↔ pb_R 169 16 [l0, some (.int x), l2] [] (.int x :: st) h Q) ∧
  (∀ (L : pb_L) (J : pb_J) (st : List Value) (h : pb_H) (Q : Option Value → pb_H → Prop), pb_R 169 16 L J st h Q ↔ pb_R 169 17 L J (.int (0 : Int32) :: st) h Q) ∧
  (∀ (L : pb_L) (J : pb_J) (h : pb_H) (Q : Option Value → pb_H → Prop) (x0 : Int32) (x1 : Int32) (x2 : Nat), pb_R 169 17 L J [.int x0, .int x1, .ref x2] h Q ↔ pb_call 143 [.int x1, .int x0] h (fun v t => pb_R 169 20 L J (v.toList ++ [.ref x2]) t Q)) ∧
  (∀ (l0 l2 : Option Value) (st : List Value) (h : pb_H) (Q : Option Value → pb_H → Prop) (x : Int32), pb_R 169 20 [l0, some (.int x), l2] [] st h Q ↔ pb_R 169 21 [l0, some (.int x), l2] [] (.int x :: st) h Q) ∧
  (∀ (l0 l1 : Option Value) (st : List Value) (h : pb_H) (Q : Option Value → pb_H → Prop) (x : Int32), pb_R 169 21 [l0, l1, some (.int x)] [] st h Q ↔ pb_R 169 22 [l0, l1, some (.int x)] [] (.int x :: st) h Q) ∧
  (∀ (L : pb_L) (J : pb_J) (h : pb_H) (Q : Option Value → pb_H → Prop) (x0 : Int32) (x1 : Int32) (x2 : Int32) (x3 : Nat), pb_R 169 22 L J [.int x0, .int x1, .int x2, .ref x3] h Q ↔ pb_call 143 [.int x1, .int x0] h (fun v t => pb_R 169 25 L J (v.toList ++ [.int x2, .ref x3]) t Q)) ∧
  (∀ (L : pb_L) (J : pb_J) (h : pb_H) (Q : Option Value → pb_H → Prop) (x0 : Int32) (x1 : Int32) (x2 : Nat), pb_R 169 25 L J [.int x0, .int x1, .ref x2] h Q ↔ pb_is0 (h.2 x2) 12 = true ∧ pb_call 153 [.ref x2, .int x1, .int x0] h (fun v t => pb_R 169 28 L J (v.toList ++ []) t Q)) ∧
  (∀ (l1 l2 : Option Value) (st : List Value) (h : pb_H) (Q : Option Value → pb_H → Prop) (x : Nat), pb_R 169 28 [some (.ref x), l1, l2] [] st h Q ↔ pb_R 169 29 [some (.ref x), l1, l2] [] (.ref x :: st) h Q) ∧
  (∀ (l1 l2 : Option Value) (st : List Value) (h : pb_H) (Q : Option Value → pb_H → Prop), pb_R 169 28 [some .null, l1, l2] [] st h Q ↔ pb_R 169 29 [some .null, l1, l2] [] (.null :: st) h Q) ∧
  (∀ (l0 l2 : Option Value) (st : List Value) (h : pb_H) (Q : Option Value → pb_H → Prop) (x : Int32), pb_R 169 29 [l0, some (.int x), l2] [] st h Q ↔ pb_R 169 30 [l0, some (.int x), l2] [] (.int x :: st) h Q) ∧
  (∀ (l0 l1 : Option Value) (st : List Value) (h : pb_H) (Q : Option Value → pb_H → Prop) (x : Int32), pb_R 169 30 [l0, l1, some (.int x)] [] st h Q ↔ pb_R 169 31 [l0, l1, some (.int x)] [] (.int x :: st) h Q) ∧
  (∀ (L : pb_L) (J : pb_J) (h : pb_H) (Q : Option Value → pb_H → Prop) (x0 : Int32) (x1 : Int32) (x2 : Nat), pb_R 169 31 L J [.int x0, .int x1, .ref x2] h Q ↔ pb_call 143 [.int x1, .int x0] h (fun v t => pb_R 169 34 L J (v.toList ++ [.ref x2]) t Q)) ∧
  (∀ (L : pb_L) (J : pb_J) (h : pb_H) (Q : Option Value → pb_H → Prop) (x0 : Int32) (x1 : Nat), pb_R 169 34 L J [.int x0, .ref x1] h Q ↔ pb_is0 (h.2 x1) 12 = true ∧ pb_call 144 [.ref x1, .int x0] h (fun v t => pb_R 169 37 L J (v.toList ++ []) t Q)) ∧
  (∀ (l1 l2 : Option Value) (st : List Value) (h : pb_H) (Q : Option Value → pb_H → Prop) (x : Nat), pb_R 169 37 [some (.ref x), l1, l2] [] st h Q ↔ pb_R 169 38 [some (.ref x), l1, l2] [] (.ref x :: st) h Q) ∧
  (∀ (l1 l2 : Option Value) (st : List Value) (h : pb_H) (Q : Option Value → pb_H → Prop), pb_R 169 37 [some .null, l1, l2] [] st h Q ↔ pb_R 169 38 [some .null, l1, l2] [] (.null :: st) h Q) ∧
  (∀ (L : pb_L) (J : pb_J) (st : List Value) (h : pb_H) (Q : Option Value → pb_H → Prop) (a : Nat), pb_R 169 38 L J (.ref a :: st) h Q ↔ pb_o (pb_gf (h.2 a) 12 1) (fun v => pb_R 169 41 L J (v :: st) h Q)) ∧
  (∀ (l0 l2 : Option Value) (st : List Value) (h : pb_H) (Q : Option Value → pb_H → Prop) (x : Int32), pb_R 169 41 [l0, some (.int x), l2] [] st h Q ↔ pb_R 169 42 [l0, some (.int x), l2] [] (.int x :: st) h Q) ∧
  (∀ (L : pb_L) (J : pb_J) (st : List Value) (h : pb_H) (Q : Option Value → pb_H → Prop), pb_R 169 42 L J st h Q ↔ pb_R 169 44 L J (.int (17 : Int32) :: st) h Q) ∧
  (∀ (L : pb_L) (J : pb_J) (st : List Value) (x y : Int32) (h : pb_H) (Q : Option Value → pb_H → Prop), pb_R 169 44 L J (.int y :: .int x :: st) h Q ↔ pb_R 169 45 L J (.int (x * y) :: st) h Q) ∧
  (∀ (l0 l1 : Option Value) (st : List Value) (h : pb_H) (Q : Option Value → pb_H → Prop) (x : Int32), pb_R 169 45 [l0, l1, some (.int x)] [] st h Q ↔ pb_R 169 46 [l0, l1, some (.int x)] [] (.int x :: st) h Q) ∧
  (∀ (L : pb_L) (J : pb_J) (st : List Value) (x y : Int32) (h : pb_H) (Q : Option Value → pb_H → Prop), pb_R 169 46 L J (.int y :: .int x :: st) h Q ↔ pb_R 169 47 L J (.int (x + y) :: st) h Q) ∧
  (∀ (L : pb_L) (J : pb_J) (st : List Value) (h : pb_H) (Q : Option Value → pb_H → Prop), pb_R 169 47 L J st h Q ↔ pb_R 169 48 L J (.int (0 : Int32) :: st) h Q) ∧
  (∀ (L : pb_L) (J : pb_J) (st : List Value) (h : pb_H) (Q : Option Value → pb_H → Prop) (a : Nat) (i x : Int32), pb_R 169 48 L J (.int x :: .int i :: .ref a :: st) h Q ↔ pb_o (pb_si (h.2 a) i x) (fun c => pb_R 169 49 L J st (pb_set h a c) Q)) ∧
  (∀ (L : pb_L) (J : pb_J) (h : pb_H) (Q : Option Value → pb_H → Prop), pb_R 169 49 L J [] h Q ↔ Q none h) := ⟨
  fun l1 l2 st h Q x => pf_S pb_u_169 rfl rfl,
  fun l1 l2 st h Q => pf_S pb_u_169 rfl rfl,
  fun L J st h Q a => pf_gf pb_u_169 rfl rfl,
  fun l0 l2 st h Q x => pf_S pb_u_169 rfl rfl,
  fun L J st h Q => pf_S pb_u_169 rfl rfl,
  fun L J st x y h Q => pf_S pb_u_169 rfl rfl,
  fun l0 l1 st h Q x => pf_S pb_u_169 rfl rfl,
  fun L J st x y h Q => pf_S pb_u_169 rfl rfl,
  fun L J st h Q a i => pf_ai pb_u_169 rfl rfl,
  fun L J st h Q x => pf_ii pb_u_169 rfl rfl rfl,
  fun l1 l2 st h Q x => pf_S pb_u_169 rfl rfl,
  fun l1 l2 st h Q => pf_S pb_u_169 rfl rfl,
  fun l0 l2 st h Q x => pf_S pb_u_169 rfl rfl,
  fun L J st h Q => pf_S pb_u_169 rfl rfl,
  fun L J h Q x0 x1 x2 => pf_ks pb_u_169 rfl rfl rfl rfl,
  fun l0 l2 st h Q x => pf_S pb_u_169 rfl rfl,
  fun l0 l1 st h Q x => pf_S pb_u_169 rfl rfl,
  fun L J h Q x0 x1 x2 x3 => pf_ks pb_u_169 rfl rfl rfl rfl,
  fun L J h Q x0 x1 x2 => pf_kv pb_u_169 rfl pb_ci_153 rfl ⟨Nat.le_of_ble_eq_true rfl, Nat.le_of_ble_eq_true rfl, Nat.le_of_ble_eq_true rfl, Nat.le_of_ble_eq_true rfl, rfl⟩ rfl rfl,
  fun l1 l2 st h Q x => pf_S pb_u_169 rfl rfl,
  fun l1 l2 st h Q => pf_S pb_u_169 rfl rfl,
  fun l0 l2 st h Q x => pf_S pb_u_169 rfl rfl,
  fun l0 l1 st h Q x => pf_S pb_u_169 rfl rfl,
  fun L J h Q x0 x1 x2 => pf_ks pb_u_169 rfl rfl rfl rfl,
  fun L J h Q x0 x1 => pf_kv pb_u_169 rfl pb_ci_144 rfl ⟨Nat.le_of_ble_eq_true rfl, Nat.le_of_ble_eq_true rfl, Nat.le_of_ble_eq_true rfl, Nat.le_of_ble_eq_true rfl, rfl⟩ rfl rfl,
  fun l1 l2 st h Q x => pf_S pb_u_169 rfl rfl,
  fun l1 l2 st h Q => pf_S pb_u_169 rfl rfl,
  fun L J st h Q a => pf_gf pb_u_169 rfl rfl,
  fun l0 l2 st h Q x => pf_S pb_u_169 rfl rfl,
  fun L J st h Q => pf_S pb_u_169 rfl rfl,
  fun L J st x y h Q => pf_S pb_u_169 rfl rfl,
  fun l0 l1 st h Q x => pf_S pb_u_169 rfl rfl,
  fun L J st x y h Q => pf_S pb_u_169 rfl rfl,
  fun L J st h Q => pf_S pb_u_169 rfl rfl,
  fun L J st h Q a i x => pf_si pb_u_169 rfl rfl,
  fun L J h Q => pf_rv pb_u_169 rfl rfl⟩
theorem pb_c169 (x0 : Nat) (x1 : Int32) (x2 : Int32) (h : pb_H) (Q : Option Value → pb_H → Prop) : pb_call 169 [.ref x0, .int x1, .int x2] h Q ↔ pb_R 169 0 [some (.ref x0), some (.int x1), some (.int x2)] [] [] h Q := Iff.rfl
/-! 170: PlaneBenchModel.isFalse(I)Z -/
theorem pb_u_170 : pb_t 170 = pb_t170 := rfl
theorem pb_ci_170 : pb_ci 170 = 12 := by decide +kernel
set_option maxRecDepth 100000 in
theorem pb_q170_15 (l0 l1 l2 : Option Value) (st : List Value) (h : pb_H) (Q : Option Value → pb_H → Prop) (x : Int32) : pb_R 170 15 [l0, l1, l2, some (.int x)] [] st h Q ↔ pb_R 170 16 [l0, l1, l2, some (.int x)] [] (.int x :: st) h Q := pf_S pb_u_170 rfl rfl
set_option maxRecDepth 100000 in
theorem pb_e170 : (∀ (L : pb_L) (J : pb_J) (st : List Value) (h : pb_H) (Q : Option Value → pb_H → Prop), pb_R 170 0 L J st h Q ↔ pb_R 170 3 L J (.int (320 : Int32) :: st) h Q) ∧
  (∀ (L : pb_L) (J : pb_J) (st : List Value) (h : pb_H) (Q : Option Value → pb_H → Prop), pb_R 170 3 L J st h Q ↔ pb_R 170 4 L J (.int (1 : Int32) :: st) h Q) ∧
  (∀ (L : pb_L) (J : pb_J) (h : pb_H) (Q : Option Value → pb_H → Prop) (x0 : Int32) (x1 : Int32), pb_R 170 4 L J [.int x0, .int x1] h Q ↔ pb_call 143 [.int x1, .int x0] h (fun v t => pb_R 170 7 L J (v.toList ++ []) t Q)) ∧
  (∀ (l0 l1 l2 l3 : Option Value) (st : List Value) (h : pb_H) (Q : Option Value → pb_H → Prop) (x : Int32), pb_R 170 7 [l0, l1, l2, l3] [] (.int x :: st) h Q ↔ pb_R 170 8 [l0, l1, some (.int x), l3] [] st h Q) ∧
  (∀ (l1 l2 l3 : Option Value) (st : List Value) (h : pb_H) (Q : Option Value → pb_H → Prop) (x : Nat), pb_R 170 8 [some (.ref x), l1, l2, l3] [] st h Q ↔ pb_R 170 9 [some (.ref x), l1, l2, l3] [] (.ref x :: st) h Q) ∧
  (∀ (l1 l2 l3 : Option Value) (st : List Value) (h : pb_H) (Q : Option Value → pb_H → Prop), pb_R 170 8 [some .null, l1, l2, l3] [] st h Q ↔ pb_R 170 9 [some .null, l1, l2, l3] [] (.null :: st) h Q) ∧
  (∀ (l0 l1 l3 : Option Value) (st : List Value) (h : pb_H) (Q : Option Value → pb_H → Prop) (x : Int32), pb_R 170 9 [l0, l1, some (.int x), l3] [] st h Q ↔ pb_R 170 10 [l0, l1, some (.int x), l3] [] (.int x :: st) h Q) ∧
  (∀ (L : pb_L) (J : pb_J) (h : pb_H) (Q : Option Value → pb_H → Prop) (x0 : Int32) (x1 : Nat), pb_R 170 10 L J [.int x0, .ref x1] h Q ↔ pb_is0 (h.2 x1) 12 = true ∧ pb_call 144 [.ref x1, .int x0] h (fun v t => pb_R 170 13 L J (v.toList ++ []) t Q)) ∧
  (∀ (L : pb_L) (J : pb_J) (st : List Value) (h : pb_H) (Q : Option Value → pb_H → Prop), pb_R 170 13 L J st h Q ↔ pb_R 170 14 L J (.int (1 : Int32) :: st) h Q) ∧
  (∀ (l0 l1 l2 l3 : Option Value) (st : List Value) (h : pb_H) (Q : Option Value → pb_H → Prop) (x : Int32), pb_R 170 14 [l0, l1, l2, l3] [] (.int x :: st) h Q ↔ pb_R 170 15 [l0, l1, l2, some (.int x)] [] st h Q) ∧
  (∀ (l1 l2 l3 : Option Value) (st : List Value) (h : pb_H) (Q : Option Value → pb_H → Prop) (x : Nat), pb_R 170 16 [some (.ref x), l1, l2, l3] [] st h Q ↔ pb_R 170 17 [some (.ref x), l1, l2, l3] [] (.ref x :: st) h Q) ∧
  (∀ (l1 l2 l3 : Option Value) (st : List Value) (h : pb_H) (Q : Option Value → pb_H → Prop), pb_R 170 16 [some .null, l1, l2, l3] [] st h Q ↔ pb_R 170 17 [some .null, l1, l2, l3] [] (.null :: st) h Q) ∧
  (∀ (L : pb_L) (J : pb_J) (st : List Value) (h : pb_H) (Q : Option Value → pb_H → Prop) (a : Nat), pb_R 170 17 L J (.ref a :: st) h Q ↔ pb_o (pb_gf (h.2 a) 12 3) (fun v => pb_R 170 20 L J (v :: st) h Q)) ∧
  (∀ (L : pb_L) (J : pb_J) (st : List Value) (h : pb_H) (Q : Option Value → pb_H → Prop) (x y : Int32), pb_R 170 20 L J (.int y :: .int x :: st) h Q ↔ if y < x then pb_R 170 39 L J st h Q else pb_R 170 23 L J st h Q) ∧
  (∀ (l1 l2 l3 : Option Value) (st : List Value) (h : pb_H) (Q : Option Value → pb_H → Prop) (x : Nat), pb_R 170 23 [some (.ref x), l1, l2, l3] [] st h Q ↔ pb_R 170 24 [some (.ref x), l1, l2, l3] [] (.ref x :: st) h Q) ∧
  (∀ (l1 l2 l3 : Option Value) (st : List Value) (h : pb_H) (Q : Option Value → pb_H → Prop), pb_R 170 23 [some .null, l1, l2, l3] [] st h Q ↔ pb_R 170 24 [some .null, l1, l2, l3] [] (.null :: st) h Q) ∧
  (∀ (l0 l1 l3 : Option Value) (st : List Value) (h : pb_H) (Q : Option Value → pb_H → Prop) (x : Int32), pb_R 170 24 [l0, l1, some (.int x), l3] [] st h Q ↔ pb_R 170 25 [l0, l1, some (.int x), l3] [] (.int x :: st) h Q) ∧
  (∀ (l0 l2 l3 : Option Value) (st : List Value) (h : pb_H) (Q : Option Value → pb_H → Prop) (x : Int32), pb_R 170 25 [l0, some (.int x), l2, l3] [] st h Q ↔ pb_R 170 26 [l0, some (.int x), l2, l3] [] (.int x :: st) h Q) ∧
  (∀ (l0 l1 l2 : Option Value) (st : List Value) (h : pb_H) (Q : Option Value → pb_H → Prop) (x : Int32), pb_R 170 26 [l0, l1, l2, some (.int x)] [] st h Q ↔ pb_R 170 27 [l0, l1, l2, some (.int x)] [] (.int x :: st) h Q) ∧
  (∀ (L : pb_L) (J : pb_J) (h : pb_H) (Q : Option Value → pb_H → Prop) (x0 : Int32) (x1 : Int32) (x2 : Int32) (x3 : Nat), pb_R 170 27 L J [.int x0, .int x1, .int x2, .ref x3] h Q ↔ pb_call 143 [.int x1, .int x0] h (fun v t => pb_R 170 30 L J (v.toList ++ [.int x2, .ref x3]) t Q)) ∧
  (∀ (L : pb_L) (J : pb_J) (h : pb_H) (Q : Option Value → pb_H → Prop) (x0 : Int32) (x1 : Int32) (x2 : Nat), pb_R 170 30 L J [.int x0, .int x1, .ref x2] h Q ↔ pb_is0 (h.2 x2) 12 = true ∧ pb_call 151 [.ref x2, .int x1, .int x0] h (fun v t => pb_R 170 33 L J (v.toList ++ []) t Q)) ∧
  (∀ (l0 l1 l2 : Option Value) (st : List Value) (h : pb_H) (Q : Option Value → pb_H → Prop) (x : Int32), pb_R 170 33 [l0, l1, l2, some (.int x)] [] st h Q ↔ pb_R 170 36 [l0, l1, l2, some (.int (x + (1 : Int32)))] [] st h Q) ∧
  (∀ (L : pb_L) (J : pb_J) (st : List Value) (h : pb_H) (Q : Option Value → pb_H → Prop), pb_R 170 36 L J st h Q ↔ pb_R 170 15 L J st h Q) ∧
  (∀ (l1 l2 l3 : Option Value) (st : List Value) (h : pb_H) (Q : Option Value → pb_H → Prop) (x : Nat), pb_R 170 39 [some (.ref x), l1, l2, l3] [] st h Q ↔ pb_R 170 40 [some (.ref x), l1, l2, l3] [] (.ref x :: st) h Q) ∧
  (∀ (l1 l2 l3 : Option Value) (st : List Value) (h : pb_H) (Q : Option Value → pb_H → Prop), pb_R 170 39 [some .null, l1, l2, l3] [] st h Q ↔ pb_R 170 40 [some .null, l1, l2, l3] [] (.null :: st) h Q) ∧
  (∀ (l0 l1 l3 : Option Value) (st : List Value) (h : pb_H) (Q : Option Value → pb_H → Prop) (x : Int32), pb_R 170 40 [l0, l1, some (.int x), l3] [] st h Q ↔ pb_R 170 41 [l0, l1, some (.int x), l3] [] (.int x :: st) h Q) ∧
  (∀ (l0 l2 l3 : Option Value) (st : List Value) (h : pb_H) (Q : Option Value → pb_H → Prop) (x : Int32), pb_R 170 41 [l0, some (.int x), l2, l3] [] st h Q ↔ pb_R 170 42 [l0, some (.int x), l2, l3] [] (.int x :: st) h Q) ∧
  (∀ (L : pb_L) (J : pb_J) (st : List Value) (h : pb_H) (Q : Option Value → pb_H → Prop), pb_R 170 42 L J st h Q ↔ pb_R 170 43 L J (.int (0 : Int32) :: st) h Q) ∧
  (∀ (L : pb_L) (J : pb_J) (h : pb_H) (Q : Option Value → pb_H → Prop) (x0 : Int32) (x1 : Int32) (x2 : Int32) (x3 : Nat), pb_R 170 43 L J [.int x0, .int x1, .int x2, .ref x3] h Q ↔ pb_call 143 [.int x1, .int x0] h (fun v t => pb_R 170 46 L J (v.toList ++ [.int x2, .ref x3]) t Q)) ∧
  (∀ (L : pb_L) (J : pb_J) (h : pb_H) (Q : Option Value → pb_H → Prop) (x0 : Int32) (x1 : Int32) (x2 : Nat), pb_R 170 46 L J [.int x0, .int x1, .ref x2] h Q ↔ pb_is0 (h.2 x2) 12 = true ∧ pb_call 150 [.ref x2, .int x1, .int x0] h (fun v t => pb_R 170 49 L J (v.toList ++ []) t Q)) ∧
  (∀ (L : pb_L) (J : pb_J) (st : List Value) (h : pb_H) (Q : Option Value → pb_H → Prop) (x : Int32), pb_R 170 49 L J (.int x :: st) h Q ↔ if 0 ≤ x then pb_R 170 56 L J st h Q else pb_R 170 52 L J st h Q) ∧
  (∀ (L : pb_L) (J : pb_J) (st : List Value) (h : pb_H) (Q : Option Value → pb_H → Prop), pb_R 170 52 L J st h Q ↔ pb_R 170 53 L J (.int (1 : Int32) :: st) h Q) ∧
  (∀ (L : pb_L) (J : pb_J) (st : List Value) (h : pb_H) (Q : Option Value → pb_H → Prop), pb_R 170 53 L J st h Q ↔ pb_R 170 57 L J st h Q) ∧
  (∀ (L : pb_L) (J : pb_J) (st : List Value) (h : pb_H) (Q : Option Value → pb_H → Prop), pb_R 170 56 L J st h Q ↔ pb_R 170 57 L J (.int (0 : Int32) :: st) h Q) ∧
  (∀ (L : pb_L) (J : pb_J) (h : pb_H) (Q : Option Value → pb_H → Prop) (x : Int32), pb_R 170 57 L J [.int x] h Q ↔ narrow .boolean (.int x) = .int x ∧ Q (some (.int x)) h) := ⟨
  fun L J st h Q => pf_S pb_u_170 rfl rfl,
  fun L J st h Q => pf_S pb_u_170 rfl rfl,
  fun L J h Q x0 x1 => pf_ks pb_u_170 rfl rfl rfl rfl,
  fun l0 l1 l2 l3 st h Q x => pf_S pb_u_170 rfl rfl,
  fun l1 l2 l3 st h Q x => pf_S pb_u_170 rfl rfl,
  fun l1 l2 l3 st h Q => pf_S pb_u_170 rfl rfl,
  fun l0 l1 l3 st h Q x => pf_S pb_u_170 rfl rfl,
  fun L J h Q x0 x1 => pf_kv pb_u_170 rfl pb_ci_144 rfl ⟨Nat.le_of_ble_eq_true rfl, Nat.le_of_ble_eq_true rfl, Nat.le_of_ble_eq_true rfl, Nat.le_of_ble_eq_true rfl, rfl⟩ rfl rfl,
  fun L J st h Q => pf_S pb_u_170 rfl rfl,
  fun l0 l1 l2 l3 st h Q x => pf_S pb_u_170 rfl rfl,
  fun l1 l2 l3 st h Q x => pf_S pb_u_170 rfl rfl,
  fun l1 l2 l3 st h Q => pf_S pb_u_170 rfl rfl,
  fun L J st h Q a => pf_gf pb_u_170 rfl rfl,
  fun L J st h Q x y => pf_ic pb_u_170 rfl rfl rfl,
  fun l1 l2 l3 st h Q x => pf_S pb_u_170 rfl rfl,
  fun l1 l2 l3 st h Q => pf_S pb_u_170 rfl rfl,
  fun l0 l1 l3 st h Q x => pf_S pb_u_170 rfl rfl,
  fun l0 l2 l3 st h Q x => pf_S pb_u_170 rfl rfl,
  fun l0 l1 l2 st h Q x => pf_S pb_u_170 rfl rfl,
  fun L J h Q x0 x1 x2 x3 => pf_ks pb_u_170 rfl rfl rfl rfl,
  fun L J h Q x0 x1 x2 => pf_kv pb_u_170 rfl pb_ci_151 rfl ⟨Nat.le_of_ble_eq_true rfl, Nat.le_of_ble_eq_true rfl, Nat.le_of_ble_eq_true rfl, Nat.le_of_ble_eq_true rfl, rfl⟩ rfl rfl,
  fun l0 l1 l2 st h Q x => pf_S pb_u_170 rfl rfl,
  fun L J st h Q => pf_S pb_u_170 rfl rfl,
  fun l1 l2 l3 st h Q x => pf_S pb_u_170 rfl rfl,
  fun l1 l2 l3 st h Q => pf_S pb_u_170 rfl rfl,
  fun l0 l1 l3 st h Q x => pf_S pb_u_170 rfl rfl,
  fun l0 l2 l3 st h Q x => pf_S pb_u_170 rfl rfl,
  fun L J st h Q => pf_S pb_u_170 rfl rfl,
  fun L J h Q x0 x1 x2 x3 => pf_ks pb_u_170 rfl rfl rfl rfl,
  fun L J h Q x0 x1 x2 => pf_kv pb_u_170 rfl pb_ci_150 rfl ⟨Nat.le_of_ble_eq_true rfl, Nat.le_of_ble_eq_true rfl, Nat.le_of_ble_eq_true rfl, Nat.le_of_ble_eq_true rfl, rfl⟩ rfl rfl,
  fun L J st h Q x => pf_ii pb_u_170 rfl rfl rfl,
  fun L J st h Q => pf_S pb_u_170 rfl rfl,
  fun L J st h Q => pf_S pb_u_170 rfl rfl,
  fun L J st h Q => pf_S pb_u_170 rfl rfl,
  fun L J h Q x => pf_rz pb_u_170 rfl rfl⟩
theorem pb_c170 (x0 : Nat) (x1 : Int32) (h : pb_H) (Q : Option Value → pb_H → Prop) : pb_call 170 [.ref x0, .int x1] h Q ↔ pb_R 170 0 [some (.ref x0), some (.int x1), none, none] [] [] h Q := Iff.rfl
/-! 171: PlaneBenchModel.isWrong(II)Z -/
theorem pb_u_171 : pb_t 171 = pb_t171 := rfl
set_option maxRecDepth 100000 in
theorem pb_e171 : (∀ (l1 : Option Value) (st : List Value) (h : pb_H) (Q : Option Value → pb_H → Prop) (x : Int32), pb_R 171 0 [some (.int x), l1] [] st h Q ↔ pb_R 171 1 [some (.int x), l1] [] (.int x :: st) h Q) ∧
  (∀ (L : pb_L) (J : pb_J) (st : List Value) (h : pb_H) (Q : Option Value → pb_H → Prop), pb_R 171 1 L J st h Q ↔ pb_R 171 2 L J (.int (1 : Int32) :: st) h Q) ∧
  (∀ (L : pb_L) (J : pb_J) (st : List Value) (h : pb_H) (Q : Option Value → pb_H → Prop) (x y : Int32), pb_R 171 2 L J (.int y :: .int x :: st) h Q ↔ if ¬ x = y then pb_R 171 9 L J st h Q else pb_R 171 5 L J st h Q) ∧
  (∀ (l0 : Option Value) (st : List Value) (h : pb_H) (Q : Option Value → pb_H → Prop) (x : Int32), pb_R 171 5 [l0, some (.int x)] [] st h Q ↔ pb_R 171 6 [l0, some (.int x)] [] (.int x :: st) h Q) ∧
  (∀ (L : pb_L) (J : pb_J) (st : List Value) (h : pb_H) (Q : Option Value → pb_H → Prop) (x : Int32), pb_R 171 6 L J (.int x :: st) h Q ↔ if x = 0 then pb_R 171 19 L J st h Q else pb_R 171 9 L J st h Q) ∧
  (∀ (l1 : Option Value) (st : List Value) (h : pb_H) (Q : Option Value → pb_H → Prop) (x : Int32), pb_R 171 9 [some (.int x), l1] [] st h Q ↔ pb_R 171 10 [some (.int x), l1] [] (.int x :: st) h Q) ∧
  (∀ (L : pb_L) (J : pb_J) (st : List Value) (h : pb_H) (Q : Option Value → pb_H → Prop), pb_R 171 10 L J st h Q ↔ pb_R 171 11 L J (.int (-1 : Int32) :: st) h Q) ∧
  (∀ (L : pb_L) (J : pb_J) (st : List Value) (h : pb_H) (Q : Option Value → pb_H → Prop) (x y : Int32), pb_R 171 11 L J (.int y :: .int x :: st) h Q ↔ if ¬ x = y then pb_R 171 23 L J st h Q else pb_R 171 14 L J st h Q) ∧
  (∀ (l0 : Option Value) (st : List Value) (h : pb_H) (Q : Option Value → pb_H → Prop) (x : Int32), pb_R 171 14 [l0, some (.int x)] [] st h Q ↔ pb_R 171 15 [l0, some (.int x)] [] (.int x :: st) h Q) ∧
  (∀ (L : pb_L) (J : pb_J) (st : List Value) (h : pb_H) (Q : Option Value → pb_H → Prop), pb_R 171 15 L J st h Q ↔ pb_R 171 16 L J (.int (1 : Int32) :: st) h Q) ∧
  (∀ (L : pb_L) (J : pb_J) (st : List Value) (h : pb_H) (Q : Option Value → pb_H → Prop) (x y : Int32), pb_R 171 16 L J (.int y :: .int x :: st) h Q ↔ if ¬ x = y then pb_R 171 23 L J st h Q else pb_R 171 19 L J st h Q) ∧
  (∀ (L : pb_L) (J : pb_J) (st : List Value) (h : pb_H) (Q : Option Value → pb_H → Prop), pb_R 171 19 L J st h Q ↔ pb_R 171 20 L J (.int (1 : Int32) :: st) h Q) ∧
  (∀ (L : pb_L) (J : pb_J) (st : List Value) (h : pb_H) (Q : Option Value → pb_H → Prop), pb_R 171 20 L J st h Q ↔ pb_R 171 24 L J st h Q) ∧
  (∀ (L : pb_L) (J : pb_J) (st : List Value) (h : pb_H) (Q : Option Value → pb_H → Prop), pb_R 171 23 L J st h Q ↔ pb_R 171 24 L J (.int (0 : Int32) :: st) h Q) ∧
  (∀ (L : pb_L) (J : pb_J) (h : pb_H) (Q : Option Value → pb_H → Prop) (x : Int32), pb_R 171 24 L J [.int x] h Q ↔ narrow .boolean (.int x) = .int x ∧ Q (some (.int x)) h) := ⟨
  fun l1 st h Q x => pf_S pb_u_171 rfl rfl,
  fun L J st h Q => pf_S pb_u_171 rfl rfl,
  fun L J st h Q x y => pf_ic pb_u_171 rfl rfl pf_ne,
  fun l0 st h Q x => pf_S pb_u_171 rfl rfl,
  fun L J st h Q x => pf_ii pb_u_171 rfl rfl rfl,
  fun l1 st h Q x => pf_S pb_u_171 rfl rfl,
  fun L J st h Q => pf_S pb_u_171 rfl rfl,
  fun L J st h Q x y => pf_ic pb_u_171 rfl rfl pf_ne,
  fun l0 st h Q x => pf_S pb_u_171 rfl rfl,
  fun L J st h Q => pf_S pb_u_171 rfl rfl,
  fun L J st h Q x y => pf_ic pb_u_171 rfl rfl pf_ne,
  fun L J st h Q => pf_S pb_u_171 rfl rfl,
  fun L J st h Q => pf_S pb_u_171 rfl rfl,
  fun L J st h Q => pf_S pb_u_171 rfl rfl,
  fun L J h Q x => pf_rz pb_u_171 rfl rfl⟩
theorem pb_c171 (x0 : Int32) (x1 : Int32) (h : pb_H) (Q : Option Value → pb_H → Prop) : pb_call 171 [.int x0, .int x1] h Q ↔ pb_R 171 0 [some (.int x0), some (.int x1)] [] [] h Q := Iff.rfl
/-! 172: PlaneBenchModel.state(I[I)I -/
theorem pb_u_172 : pb_t 172 = pb_t172 := rfl
theorem pb_ci_172 : pb_ci 172 = 12 := by decide +kernel
set_option maxRecDepth 100000 in
theorem pb_q172_16 (l0 l1 l2 l3 : Option Value) (st : List Value) (h : pb_H) (Q : Option Value → pb_H → Prop) (x : Int32) : pb_R 172 16 [l0, l1, l2, l3, some (.int x)] [] st h Q ↔ pb_R 172 18 [l0, l1, l2, l3, some (.int x)] [] (.int x :: st) h Q := pf_S pb_u_172 rfl rfl
set_option maxRecDepth 100000 in
theorem pb_q172_107 (l0 l1 l2 l3 : Option Value) (st : List Value) (h : pb_H) (Q : Option Value → pb_H → Prop) (x : Int32) : pb_R 172 107 [l0, l1, l2, l3, some (.int x)] [] st h Q ↔ pb_R 172 109 [l0, l1, l2, l3, some (.int x)] [] (.int x :: st) h Q := pf_S pb_u_172 rfl rfl
set_option maxRecDepth 100000 in
theorem pb_e172 : (∀ (L : pb_L) (J : pb_J) (st : List Value) (h : pb_H) (Q : Option Value → pb_H → Prop), pb_R 172 0 L J st h Q ↔ pb_R 172 3 L J (.int (320 : Int32) :: st) h Q) ∧
  (∀ (L : pb_L) (J : pb_J) (st : List Value) (h : pb_H) (Q : Option Value → pb_H → Prop), pb_R 172 3 L J st h Q ↔ pb_R 172 4 L J (.int (1 : Int32) :: st) h Q) ∧
  (∀ (L : pb_L) (J : pb_J) (h : pb_H) (Q : Option Value → pb_H → Prop) (x0 : Int32) (x1 : Int32), pb_R 172 4 L J [.int x0, .int x1] h Q ↔ pb_call 143 [.int x1, .int x0] h (fun v t => pb_R 172 7 L J (v.toList ++ []) t Q)) ∧
  (∀ (l0 l1 l2 l3 l4 : Option Value) (st : List Value) (h : pb_H) (Q : Option Value → pb_H → Prop) (x : Int32), pb_R 172 7 [l0, l1, l2, l3, l4] [] (.int x :: st) h Q ↔ pb_R 172 8 [l0, l1, l2, some (.int x), l4] [] st h Q) ∧
  (∀ (l1 l2 l3 l4 : Option Value) (st : List Value) (h : pb_H) (Q : Option Value → pb_H → Prop) (x : Nat), pb_R 172 8 [some (.ref x), l1, l2, l3, l4] [] st h Q ↔ pb_R 172 9 [some (.ref x), l1, l2, l3, l4] [] (.ref x :: st) h Q) ∧
  (∀ (l1 l2 l3 l4 : Option Value) (st : List Value) (h : pb_H) (Q : Option Value → pb_H → Prop), pb_R 172 8 [some .null, l1, l2, l3, l4] [] st h Q ↔ pb_R 172 9 [some .null, l1, l2, l3, l4] [] (.null :: st) h Q) ∧
  (∀ (l0 l1 l2 l4 : Option Value) (st : List Value) (h : pb_H) (Q : Option Value → pb_H → Prop) (x : Int32), pb_R 172 9 [l0, l1, l2, some (.int x), l4] [] st h Q ↔ pb_R 172 10 [l0, l1, l2, some (.int x), l4] [] (.int x :: st) h Q) ∧
  (∀ (L : pb_L) (J : pb_J) (h : pb_H) (Q : Option Value → pb_H → Prop) (x0 : Int32) (x1 : Nat), pb_R 172 10 L J [.int x0, .ref x1] h Q ↔ pb_is0 (h.2 x1) 12 = true ∧ pb_call 144 [.ref x1, .int x0] h (fun v t => pb_R 172 13 L J (v.toList ++ []) t Q)) ∧
  (∀ (L : pb_L) (J : pb_J) (st : List Value) (h : pb_H) (Q : Option Value → pb_H → Prop), pb_R 172 13 L J st h Q ↔ pb_R 172 14 L J (.int (1 : Int32) :: st) h Q) ∧
  (∀ (l0 l1 l2 l3 l4 : Option Value) (st : List Value) (h : pb_H) (Q : Option Value → pb_H → Prop) (x : Int32), pb_R 172 14 [l0, l1, l2, l3, l4] [] (.int x :: st) h Q ↔ pb_R 172 16 [l0, l1, l2, l3, some (.int x)] [] st h Q) ∧
  (∀ (l1 l2 l3 l4 : Option Value) (st : List Value) (h : pb_H) (Q : Option Value → pb_H → Prop) (x : Nat), pb_R 172 18 [some (.ref x), l1, l2, l3, l4] [] st h Q ↔ pb_R 172 19 [some (.ref x), l1, l2, l3, l4] [] (.ref x :: st) h Q) ∧
  (∀ (l1 l2 l3 l4 : Option Value) (st : List Value) (h : pb_H) (Q : Option Value → pb_H → Prop), pb_R 172 18 [some .null, l1, l2, l3, l4] [] st h Q ↔ pb_R 172 19 [some .null, l1, l2, l3, l4] [] (.null :: st) h Q) ∧
  (∀ (L : pb_L) (J : pb_J) (st : List Value) (h : pb_H) (Q : Option Value → pb_H → Prop) (a : Nat), pb_R 172 19 L J (.ref a :: st) h Q ↔ pb_o (pb_gf (h.2 a) 12 3) (fun v => pb_R 172 22 L J (v :: st) h Q)) ∧
  (∀ (L : pb_L) (J : pb_J) (st : List Value) (h : pb_H) (Q : Option Value → pb_H → Prop) (x y : Int32), pb_R 172 22 L J (.int y :: .int x :: st) h Q ↔ if y < x then pb_R 172 79 L J st h Q else pb_R 172 25 L J st h Q) ∧
  (∀ (l1 l2 l3 l4 : Option Value) (st : List Value) (h : pb_H) (Q : Option Value → pb_H → Prop) (x : Nat), pb_R 172 25 [some (.ref x), l1, l2, l3, l4] [] st h Q ↔ pb_R 172 26 [some (.ref x), l1, l2, l3, l4] [] (.ref x :: st) h Q) ∧
  (∀ (l1 l2 l3 l4 : Option Value) (st : List Value) (h : pb_H) (Q : Option Value → pb_H → Prop), pb_R 172 25 [some .null, l1, l2, l3, l4] [] st h Q ↔ pb_R 172 26 [some .null, l1, l2, l3, l4] [] (.null :: st) h Q) ∧
  (∀ (L : pb_L) (J : pb_J) (st : List Value) (h : pb_H) (Q : Option Value → pb_H → Prop) (a : Nat), pb_R 172 26 L J (.ref a :: st) h Q ↔ pb_o (pb_gf (h.2 a) 12 1) (fun v => pb_R 172 29 L J (v :: st) h Q)) ∧
  (∀ (l0 l2 l3 l4 : Option Value) (st : List Value) (h : pb_H) (Q : Option Value → pb_H → Prop) (x : Int32), pb_R 172 29 [l0, some (.int x), l2, l3, l4] [] st h Q ↔ pb_R 172 30 [l0, some (.int x), l2, l3, l4] [] (.int x :: st) h Q) ∧
  (∀ (L : pb_L) (J : pb_J) (st : List Value) (h : pb_H) (Q : Option Value → pb_H → Prop), pb_R 172 30 L J st h Q ↔ pb_R 172 32 L J (.int (17 : Int32) :: st) h Q) ∧
  (∀ (L : pb_L) (J : pb_J) (st : List Value) (x y : Int32) (h : pb_H) (Q : Option Value → pb_H → Prop), pb_R 172 32 L J (.int y :: .int x :: st) h Q ↔ pb_R 172 33 L J (.int (x * y) :: st) h Q) ∧
  (∀ (l0 l1 l2 l3 : Option Value) (st : List Value) (h : pb_H) (Q : Option Value → pb_H → Prop) (x : Int32), pb_R 172 33 [l0, l1, l2, l3, some (.int x)] [] st h Q ↔ pb_R 172 35 [l0, l1, l2, l3, some (.int x)] [] (.int x :: st) h Q) ∧
  (∀ (L : pb_L) (J : pb_J) (st : List Value) (x y : Int32) (h : pb_H) (Q : Option Value → pb_H → Prop), pb_R 172 35 L J (.int y :: .int x :: st) h Q ↔ pb_R 172 36 L J (.int (x + y) :: st) h Q) ∧
  (∀ (L : pb_L) (J : pb_J) (st : List Value) (h : pb_H) (Q : Option Value → pb_H → Prop) (a : Nat) (i : Int32), pb_R 172 36 L J (.int i :: .ref a :: st) h Q ↔ pb_o (pb_ai (h.2 a) i) (fun v => pb_R 172 37 L J (.int v :: st) h Q)) ∧
  (∀ (L : pb_L) (J : pb_J) (st : List Value) (h : pb_H) (Q : Option Value → pb_H → Prop) (x : Int32), pb_R 172 37 L J (.int x :: st) h Q ↔ if x = 0 then pb_R 172 73 L J st h Q else pb_R 172 40 L J st h Q) ∧
  (∀ (l1 l2 l3 l4 : Option Value) (st : List Value) (h : pb_H) (Q : Option Value → pb_H → Prop) (x : Nat), pb_R 172 40 [some (.ref x), l1, l2, l3, l4] [] st h Q ↔ pb_R 172 41 [some (.ref x), l1, l2, l3, l4] [] (.ref x :: st) h Q) ∧
  (∀ (l1 l2 l3 l4 : Option Value) (st : List Value) (h : pb_H) (Q : Option Value → pb_H → Prop), pb_R 172 40 [some .null, l1, l2, l3, l4] [] st h Q ↔ pb_R 172 41 [some .null, l1, l2, l3, l4] [] (.null :: st) h Q) ∧
  (∀ (L : pb_L) (J : pb_J) (st : List Value) (h : pb_H) (Q : Option Value → pb_H → Prop) (a : Nat), pb_R 172 41 L J (.ref a :: st) h Q ↔ pb_o (pb_gf (h.2 a) 12 1) (fun v => pb_R 172 44 L J (v :: st) h Q)) ∧
  (∀ (l0 l2 l3 l4 : Option Value) (st : List Value) (h : pb_H) (Q : Option Value → pb_H → Prop) (x : Int32), pb_R 172 44 [l0, some (.int x), l2, l3, l4] [] st h Q ↔ pb_R 172 45 [l0, some (.int x), l2, l3, l4] [] (.int x :: st) h Q) ∧
  (∀ (L : pb_L) (J : pb_J) (st : List Value) (h : pb_H) (Q : Option Value → pb_H → Prop), pb_R 172 45 L J st h Q ↔ pb_R 172 47 L J (.int (17 : Int32) :: st) h Q) ∧
  (∀ (L : pb_L) (J : pb_J) (st : List Value) (x y : Int32) (h : pb_H) (Q : Option Value → pb_H → Prop), pb_R 172 47 L J (.int y :: .int x :: st) h Q ↔ pb_R 172 48 L J (.int (x * y) :: st) h Q) ∧
  (∀ (l0 l1 l2 l3 : Option Value) (st : List Value) (h : pb_H) (Q : Option Value → pb_H → Prop) (x : Int32), pb_R 172 48 [l0, l1, l2, l3, some (.int x)] [] st h Q ↔ pb_R 172 50 [l0, l1, l2, l3, some (.int x)] [] (.int x :: st) h Q) ∧
  (∀ (L : pb_L) (J : pb_J) (st : List Value) (x y : Int32) (h : pb_H) (Q : Option Value → pb_H → Prop), pb_R 172 50 L J (.int y :: .int x :: st) h Q ↔ pb_R 172 51 L J (.int (x + y) :: st) h Q) ∧
  (∀ (L : pb_L) (J : pb_J) (st : List Value) (h : pb_H) (Q : Option Value → pb_H → Prop) (a : Nat) (i : Int32), pb_R 172 51 L J (.int i :: .ref a :: st) h Q ↔ pb_o (pb_ai (h.2 a) i) (fun v => pb_R 172 52 L J (.int v :: st) h Q)) ∧
  (∀ (l0 l1 l3 l4 : Option Value) (st : List Value) (h : pb_H) (Q : Option Value → pb_H → Prop) (x : Nat), pb_R 172 52 [l0, l1, some (.ref x), l3, l4] [] st h Q ↔ pb_R 172 53 [l0, l1, some (.ref x), l3, l4] [] (.ref x :: st) h Q) ∧
  (∀ (l0 l1 l3 l4 : Option Value) (st : List Value) (h : pb_H) (Q : Option Value → pb_H → Prop), pb_R 172 52 [l0, l1, some .null, l3, l4] [] st h Q ↔ pb_R 172 53 [l0, l1, some .null, l3, l4] [] (.null :: st) h Q) ∧
  (∀ (l0 l1 l2 l3 : Option Value) (st : List Value) (h : pb_H) (Q : Option Value → pb_H → Prop) (x : Int32), pb_R 172 53 [l0, l1, l2, l3, some (.int x)] [] st h Q ↔ pb_R 172 55 [l0, l1, l2, l3, some (.int x)] [] (.int x :: st) h Q) ∧
  (∀ (L : pb_L) (J : pb_J) (st : List Value) (h : pb_H) (Q : Option Value → pb_H → Prop) (a : Nat) (i : Int32), pb_R 172 55 L J (.int i :: .ref a :: st) h Q ↔ pb_o (pb_ai (h.2 a) i) (fun v => pb_R 172 56 L J (.int v :: st) h Q)) ∧
  (∀ (L : pb_L) (J : pb_J) (h : pb_H) (Q : Option Value → pb_H → Prop) (x0 : Int32) (x1 : Int32), pb_R 172 56 L J [.int x0, .int x1] h Q ↔ pb_call 171 [.int x1, .int x0] h (fun v t => pb_R 172 59 L J (v.toList ++ []) t Q)) ∧
  (∀ (L : pb_L) (J : pb_J) (st : List Value) (h : pb_H) (Q : Option Value → pb_H → Prop) (x : Int32), pb_R 172 59 L J (.int x :: st) h Q ↔ if ¬ x = 0 then pb_R 172 73 L J st h Q else pb_R 172 62 L J st h Q) ∧
  (∀ (l1 l2 l3 l4 : Option Value) (st : List Value) (h : pb_H) (Q : Option Value → pb_H → Prop) (x : Nat), pb_R 172 62 [some (.ref x), l1, l2, l3, l4] [] st h Q ↔ pb_R 172 63 [some (.ref x), l1, l2, l3, l4] [] (.ref x :: st) h Q) ∧
  (∀ (l1 l2 l3 l4 : Option Value) (st : List Value) (h : pb_H) (Q : Option Value → pb_H → Prop), pb_R 172 62 [some .null, l1, l2, l3, l4] [] st h Q ↔ pb_R 172 63 [some .null, l1, l2, l3, l4] [] (.null :: st) h Q) ∧
  (∀ (l0 l1 l2 l4 : Option Value) (st : List Value) (h : pb_H) (Q : Option Value → pb_H → Prop) (x : Int32), pb_R 172 63 [l0, l1, l2, some (.int x), l4] [] st h Q ↔ pb_R 172 64 [l0, l1, l2, some (.int x), l4] [] (.int x :: st) h Q) ∧
  (∀ (l0 l2 l3 l4 : Option Value) (st : List Value) (h : pb_H) (Q : Option Value → pb_H → Prop) (x : Int32), pb_R 172 64 [l0, some (.int x), l2, l3, l4] [] st h Q ↔ pb_R 172 65 [l0, some (.int x), l2, l3, l4] [] (.int x :: st) h Q) ∧
  (∀ (l0 l1 l2 l3 : Option Value) (st : List Value) (h : pb_H) (Q : Option Value → pb_H → Prop) (x : Int32), pb_R 172 65 [l0, l1, l2, l3, some (.int x)] [] st h Q ↔ pb_R 172 67 [l0, l1, l2, l3, some (.int x)] [] (.int x :: st) h Q) ∧
  (∀ (L : pb_L) (J : pb_J) (h : pb_H) (Q : Option Value → pb_H → Prop) (x0 : Int32) (x1 : Int32) (x2 : Int32) (x3 : Nat), pb_R 172 67 L J [.int x0, .int x1, .int x2, .ref x3] h Q ↔ pb_call 143 [.int x1, .int x0] h (fun v t => pb_R 172 70 L J (v.toList ++ [.int x2, .ref x3]) t Q)) ∧
  (∀ (L : pb_L) (J : pb_J) (h : pb_H) (Q : Option Value → pb_H → Prop) (x0 : Int32) (x1 : Int32) (x2 : Nat), pb_R 172 70 L J [.int x0, .int x1, .ref x2] h Q ↔ pb_is0 (h.2 x2) 12 = true ∧ pb_call 151 [.ref x2, .int x1, .int x0] h (fun v t => pb_R 172 73 L J (v.toList ++ []) t Q)) ∧
  (∀ (l0 l1 l2 l3 : Option Value) (st : List Value) (h : pb_H) (Q : Option Value → pb_H → Prop) (x : Int32), pb_R 172 73 [l0, l1, l2, l3, some (.int x)] [] st h Q ↔ pb_R 172 76 [l0, l1, l2, l3, some (.int (x + (1 : Int32)))] [] st h Q) ∧
  (∀ (L : pb_L) (J : pb_J) (st : List Value) (h : pb_H) (Q : Option Value → pb_H → Prop), pb_R 172 76 L J st h Q ↔ pb_R 172 16 L J st h Q) ∧
  (∀ (l1 l2 l3 l4 : Option Value) (st : List Value) (h : pb_H) (Q : Option Value → pb_H → Prop) (x : Nat), pb_R 172 79 [some (.ref x), l1, l2, l3, l4] [] st h Q ↔ pb_R 172 80 [some (.ref x), l1, l2, l3, l4] [] (.ref x :: st) h Q) ∧
  (∀ (l1 l2 l3 l4 : Option Value) (st : List Value) (h : pb_H) (Q : Option Value → pb_H → Prop), pb_R 172 79 [some .null, l1, l2, l3, l4] [] st h Q ↔ pb_R 172 80 [some .null, l1, l2, l3, l4] [] (.null :: st) h Q) ∧
  (∀ (l0 l1 l2 l4 : Option Value) (st : List Value) (h : pb_H) (Q : Option Value → pb_H → Prop) (x : Int32), pb_R 172 80 [l0, l1, l2, some (.int x), l4] [] st h Q ↔ pb_R 172 81 [l0, l1, l2, some (.int x), l4] [] (.int x :: st) h Q) ∧
  (∀ (l0 l2 l3 l4 : Option Value) (st : List Value) (h : pb_H) (Q : Option Value → pb_H → Prop) (x : Int32), pb_R 172 81 [l0, some (.int x), l2, l3, l4] [] st h Q ↔ pb_R 172 82 [l0, some (.int x), l2, l3, l4] [] (.int x :: st) h Q) ∧
  (∀ (L : pb_L) (J : pb_J) (st : List Value) (h : pb_H) (Q : Option Value → pb_H → Prop), pb_R 172 82 L J st h Q ↔ pb_R 172 83 L J (.int (0 : Int32) :: st) h Q) ∧
  (∀ (L : pb_L) (J : pb_J) (h : pb_H) (Q : Option Value → pb_H → Prop) (x0 : Int32) (x1 : Int32) (x2 : Int32) (x3 : Nat), pb_R 172 83 L J [.int x0, .int x1, .int x2, .ref x3] h Q ↔ pb_call 143 [.int x1, .int x0] h (fun v t => pb_R 172 86 L J (v.toList ++ [.int x2, .ref x3]) t Q)) ∧
  (∀ (L : pb_L) (J : pb_J) (h : pb_H) (Q : Option Value → pb_H → Prop) (x0 : Int32) (x1 : Int32) (x2 : Nat), pb_R 172 86 L J [.int x0, .int x1, .ref x2] h Q ↔ pb_is0 (h.2 x2) 12 = true ∧ pb_call 150 [.ref x2, .int x1, .int x0] h (fun v t => pb_R 172 89 L J (v.toList ++ []) t Q)) ∧
  (∀ (L : pb_L) (J : pb_J) (st : List Value) (h : pb_H) (Q : Option Value → pb_H → Prop) (x : Int32), pb_R 172 89 L J (.int x :: st) h Q ↔ if 0 ≤ x then pb_R 172 94 L J st h Q else pb_R 172 92 L J st h Q) ∧
  (∀ (L : pb_L) (J : pb_J) (st : List Value) (h : pb_H) (Q : Option Value → pb_H → Prop), pb_R 172 92 L J st h Q ↔ pb_R 172 93 L J (.int (-1 : Int32) :: st) h Q) ∧
  (∀ (L : pb_L) (J : pb_J) (h : pb_H) (Q : Option Value → pb_H → Prop) (x : Int32), pb_R 172 93 L J [.int x] h Q ↔ Q (some (.int x)) h) ∧
  (∀ (l1 l2 l3 l4 : Option Value) (st : List Value) (h : pb_H) (Q : Option Value → pb_H → Prop) (x : Nat), pb_R 172 94 [some (.ref x), l1, l2, l3, l4] [] st h Q ↔ pb_R 172 95 [some (.ref x), l1, l2, l3, l4] [] (.ref x :: st) h Q) ∧
  (∀ (l1 l2 l3 l4 : Option Value) (st : List Value) (h : pb_H) (Q : Option Value → pb_H → Prop), pb_R 172 94 [some .null, l1, l2, l3, l4] [] st h Q ↔ pb_R 172 95 [some .null, l1, l2, l3, l4] [] (.null :: st) h Q) ∧
  (∀ (l0 l1 l2 l4 : Option Value) (st : List Value) (h : pb_H) (Q : Option Value → pb_H → Prop) (x : Int32), pb_R 172 95 [l0, l1, l2, some (.int x), l4] [] st h Q ↔ pb_R 172 96 [l0, l1, l2, some (.int x), l4] [] (.int x :: st) h Q) ∧
  (∀ (l0 l2 l3 l4 : Option Value) (st : List Value) (h : pb_H) (Q : Option Value → pb_H → Prop) (x : Int32), pb_R 172 96 [l0, some (.int x), l2, l3, l4] [] st h Q ↔ pb_R 172 97 [l0, some (.int x), l2, l3, l4] [] (.int x :: st) h Q) ∧
  (∀ (L : pb_L) (J : pb_J) (st : List Value) (h : pb_H) (Q : Option Value → pb_H → Prop), pb_R 172 97 L J st h Q ↔ pb_R 172 98 L J (.int (0 : Int32) :: st) h Q) ∧
  (∀ (L : pb_L) (J : pb_J) (h : pb_H) (Q : Option Value → pb_H → Prop) (x0 : Int32) (x1 : Int32) (x2 : Int32) (x3 : Nat), pb_R 172 98 L J [.int x0, .int x1, .int x2, .ref x3] h Q ↔ pb_call 143 [.int x1, .int x0] h (fun v t => pb_R 172 101 L J (v.toList ++ [.int x2, .ref x3]) t Q)) ∧
  (∀ (L : pb_L) (J : pb_J) (h : pb_H) (Q : Option Value → pb_H → Prop) (x0 : Int32) (x1 : Int32) (x2 : Nat), pb_R 172 101 L J [.int x0, .int x1, .ref x2] h Q ↔ pb_is0 (h.2 x2) 12 = true ∧ pb_call 152 [.ref x2, .int x1, .int x0] h (fun v t => pb_R 172 104 L J (v.toList ++ []) t Q)) ∧
  (∀ (L : pb_L) (J : pb_J) (st : List Value) (h : pb_H) (Q : Option Value → pb_H → Prop), pb_R 172 104 L J st h Q ↔ pb_R 172 105 L J (.int (1 : Int32) :: st) h Q) ∧
  (∀ (l0 l1 l2 l3 l4 : Option Value) (st : List Value) (h : pb_H) (Q : Option Value → pb_H → Prop) (x : Int32), pb_R 172 105 [l0, l1, l2, l3, l4] [] (.int x :: st) h Q ↔ pb_R 172 107 [l0, l1, l2, l3, some (.int x)] [] st h Q) ∧
  (∀ (l1 l2 l3 l4 : Option Value) (st : List Value) (h : pb_H) (Q : Option Value → pb_H → Prop) (x : Nat), pb_R 172 109 [some (.ref x), l1, l2, l3, l4] [] st h Q ↔ pb_R 172 110 [some (.ref x), l1, l2, l3, l4] [] (.ref x :: st) h Q) ∧
  (∀ (l1 l2 l3 l4 : Option Value) (st : List Value) (h : pb_H) (Q : Option Value → pb_H → Prop), pb_R 172 109 [some .null, l1, l2, l3, l4] [] st h Q ↔ pb_R 172 110 [some .null, l1, l2, l3, l4] [] (.null :: st) h Q) ∧
  (∀ (L : pb_L) (J : pb_J) (st : List Value) (h : pb_H) (Q : Option Value → pb_H → Prop) (a : Nat), pb_R 172 110 L J (.ref a :: st) h Q ↔ pb_o (pb_gf (h.2 a) 12 3) (fun v => pb_R 172 113 L J (v :: st) h Q)) ∧
  (∀ (L : pb_L) (J : pb_J) (st : List Value) (h : pb_H) (Q : Option Value → pb_H → Prop) (x y : Int32), pb_R 172 113 L J (.int y :: .int x :: st) h Q ↔ if y < x then pb_R 172 162 L J st h Q else pb_R 172 116 L J st h Q) ∧
  (∀ (l1 l2 l3 l4 : Option Value) (st : List Value) (h : pb_H) (Q : Option Value → pb_H → Prop) (x : Nat), pb_R 172 116 [some (.ref x), l1, l2, l3, l4] [] st h Q ↔ pb_R 172 117 [some (.ref x), l1, l2, l3, l4] [] (.ref x :: st) h Q) ∧
  (∀ (l1 l2 l3 l4 : Option Value) (st : List Value) (h : pb_H) (Q : Option Value → pb_H → Prop), pb_R 172 116 [some .null, l1, l2, l3, l4] [] st h Q ↔ pb_R 172 117 [some .null, l1, l2, l3, l4] [] (.null :: st) h Q) ∧
  (∀ (L : pb_L) (J : pb_J) (st : List Value) (h : pb_H) (Q : Option Value → pb_H → Prop) (a : Nat), pb_R 172 117 L J (.ref a :: st) h Q ↔ pb_o (pb_gf (h.2 a) 12 1) (fun v => pb_R 172 120 L J (v :: st) h Q)) ∧
  (∀ (l0 l2 l3 l4 : Option Value) (st : List Value) (h : pb_H) (Q : Option Value → pb_H → Prop) (x : Int32), pb_R 172 120 [l0, some (.int x), l2, l3, l4] [] st h Q ↔ pb_R 172 121 [l0, some (.int x), l2, l3, l4] [] (.int x :: st) h Q) ∧
  (∀ (L : pb_L) (J : pb_J) (st : List Value) (h : pb_H) (Q : Option Value → pb_H → Prop), pb_R 172 121 L J st h Q ↔ pb_R 172 123 L J (.int (17 : Int32) :: st) h Q) ∧
  (∀ (L : pb_L) (J : pb_J) (st : List Value) (x y : Int32) (h : pb_H) (Q : Option Value → pb_H → Prop), pb_R 172 123 L J (.int y :: .int x :: st) h Q ↔ pb_R 172 124 L J (.int (x * y) :: st) h Q) ∧
  (∀ (l0 l1 l2 l3 : Option Value) (st : List Value) (h : pb_H) (Q : Option Value → pb_H → Prop) (x : Int32), pb_R 172 124 [l0, l1, l2, l3, some (.int x)] [] st h Q ↔ pb_R 172 126 [l0, l1, l2, l3, some (.int x)] [] (.int x :: st) h Q) ∧
  (∀ (L : pb_L) (J : pb_J) (st : List Value) (x y : Int32) (h : pb_H) (Q : Option Value → pb_H → Prop), pb_R 172 126 L J (.int y :: .int x :: st) h Q ↔ pb_R 172 127 L J (.int (x + y) :: st) h Q) ∧
  (∀ (L : pb_L) (J : pb_J) (st : List Value) (h : pb_H) (Q : Option Value → pb_H → Prop) (a : Nat) (i : Int32), pb_R 172 127 L J (.int i :: .ref a :: st) h Q ↔ pb_o (pb_ai (h.2 a) i) (fun v => pb_R 172 128 L J (.int v :: st) h Q)) ∧
  (∀ (L : pb_L) (J : pb_J) (st : List Value) (h : pb_H) (Q : Option Value → pb_H → Prop) (x : Int32), pb_R 172 128 L J (.int x :: st) h Q ↔ if x = 0 then pb_R 172 156 L J st h Q else pb_R 172 131 L J st h Q) ∧
  (∀ (l0 l1 l3 l4 : Option Value) (st : List Value) (h : pb_H) (Q : Option Value → pb_H → Prop) (x : Nat), pb_R 172 131 [l0, l1, some (.ref x), l3, l4] [] st h Q ↔ pb_R 172 132 [l0, l1, some (.ref x), l3, l4] [] (.ref x :: st) h Q) ∧
  (∀ (l0 l1 l3 l4 : Option Value) (st : List Value) (h : pb_H) (Q : Option Value → pb_H → Prop), pb_R 172 131 [l0, l1, some .null, l3, l4] [] st h Q ↔ pb_R 172 132 [l0, l1, some .null, l3, l4] [] (.null :: st) h Q) ∧
  (∀ (l0 l1 l2 l3 : Option Value) (st : List Value) (h : pb_H) (Q : Option Value → pb_H → Prop) (x : Int32), pb_R 172 132 [l0, l1, l2, l3, some (.int x)] [] st h Q ↔ pb_R 172 134 [l0, l1, l2, l3, some (.int x)] [] (.int x :: st) h Q) ∧
  (∀ (L : pb_L) (J : pb_J) (st : List Value) (h : pb_H) (Q : Option Value → pb_H → Prop) (a : Nat) (i : Int32), pb_R 172 134 L J (.int i :: .ref a :: st) h Q ↔ pb_o (pb_ai (h.2 a) i) (fun v => pb_R 172 135 L J (.int v :: st) h Q)) ∧
  (∀ (L : pb_L) (J : pb_J) (st : List Value) (h : pb_H) (Q : Option Value → pb_H → Prop), pb_R 172 135 L J st h Q ↔ pb_R 172 136 L J (.int (-1 : Int32) :: st) h Q) ∧
  (∀ (L : pb_L) (J : pb_J) (st : List Value) (h : pb_H) (Q : Option Value → pb_H → Prop) (x y : Int32), pb_R 172 136 L J (.int y :: .int x :: st) h Q ↔ if ¬ x = y then pb_R 172 156 L J st h Q else pb_R 172 139 L J st h Q) ∧
  (∀ (l1 l2 l3 l4 : Option Value) (st : List Value) (h : pb_H) (Q : Option Value → pb_H → Prop) (x : Nat), pb_R 172 139 [some (.ref x), l1, l2, l3, l4] [] st h Q ↔ pb_R 172 140 [some (.ref x), l1, l2, l3, l4] [] (.ref x :: st) h Q) ∧
  (∀ (l1 l2 l3 l4 : Option Value) (st : List Value) (h : pb_H) (Q : Option Value → pb_H → Prop), pb_R 172 139 [some .null, l1, l2, l3, l4] [] st h Q ↔ pb_R 172 140 [some .null, l1, l2, l3, l4] [] (.null :: st) h Q) ∧
  (∀ (l0 l2 l3 l4 : Option Value) (st : List Value) (h : pb_H) (Q : Option Value → pb_H → Prop) (x : Int32), pb_R 172 140 [l0, some (.int x), l2, l3, l4] [] st h Q ↔ pb_R 172 141 [l0, some (.int x), l2, l3, l4] [] (.int x :: st) h Q) ∧
  (∀ (l0 l1 l2 l3 : Option Value) (st : List Value) (h : pb_H) (Q : Option Value → pb_H → Prop) (x : Int32), pb_R 172 141 [l0, l1, l2, l3, some (.int x)] [] st h Q ↔ pb_R 172 143 [l0, l1, l2, l3, some (.int x)] [] (.int x :: st) h Q) ∧
  (∀ (L : pb_L) (J : pb_J) (h : pb_H) (Q : Option Value → pb_H → Prop) (x0 : Int32) (x1 : Int32) (x2 : Nat), pb_R 172 143 L J [.int x0, .int x1, .ref x2] h Q ↔ pb_call 143 [.int x1, .int x0] h (fun v t => pb_R 172 146 L J (v.toList ++ [.ref x2]) t Q)) ∧
  (∀ (l0 l1 l2 l4 : Option Value) (st : List Value) (h : pb_H) (Q : Option Value → pb_H → Prop) (x : Int32), pb_R 172 146 [l0, l1, l2, some (.int x), l4] [] st h Q ↔ pb_R 172 147 [l0, l1, l2, some (.int x), l4] [] (.int x :: st) h Q) ∧
  (∀ (L : pb_L) (J : pb_J) (h : pb_H) (Q : Option Value → pb_H → Prop) (x0 : Int32) (x1 : Int32) (x2 : Nat), pb_R 172 147 L J [.int x0, .int x1, .ref x2] h Q ↔ pb_is0 (h.2 x2) 12 = true ∧ pb_call 150 [.ref x2, .int x1, .int x0] h (fun v t => pb_R 172 150 L J (v.toList ++ []) t Q)) ∧
  (∀ (L : pb_L) (J : pb_J) (st : List Value) (h : pb_H) (Q : Option Value → pb_H → Prop) (x : Int32), pb_R 172 150 L J (.int x :: st) h Q ↔ if x ≤ 0 then pb_R 172 156 L J st h Q else pb_R 172 153 L J st h Q) ∧
  (∀ (l0 l1 l2 l3 : Option Value) (st : List Value) (h : pb_H) (Q : Option Value → pb_H → Prop) (x : Int32), pb_R 172 153 [l0, l1, l2, l3, some (.int x)] [] st h Q ↔ pb_R 172 155 [l0, l1, l2, l3, some (.int x)] [] (.int x :: st) h Q) ∧
  (∀ (L : pb_L) (J : pb_J) (h : pb_H) (Q : Option Value → pb_H → Prop) (x : Int32), pb_R 172 155 L J [.int x] h Q ↔ Q (some (.int x)) h) ∧
  (∀ (l0 l1 l2 l3 : Option Value) (st : List Value) (h : pb_H) (Q : Option Value → pb_H → Prop) (x : Int32), pb_R 172 156 [l0, l1, l2, l3, some (.int x)] [] st h Q ↔ pb_R 172 159 [l0, l1, l2, l3, some (.int (x + (1 : Int32)))] [] st h Q) ∧
  (∀ (L : pb_L) (J : pb_J) (st : List Value) (h : pb_H) (Q : Option Value → pb_H → Prop), pb_R 172 159 L J st h Q ↔ pb_R 172 107 L J st h Q) ∧
  (∀ (L : pb_L) (J : pb_J) (st : List Value) (h : pb_H) (Q : Option Value → pb_H → Prop), pb_R 172 162 L J st h Q ↔ pb_R 172 163 L J (.int (0 : Int32) :: st) h Q) ∧
  (∀ (L : pb_L) (J : pb_J) (h : pb_H) (Q : Option Value → pb_H → Prop) (x : Int32), pb_R 172 163 L J [.int x] h Q ↔ Q (some (.int x)) h) := ⟨
  fun L J st h Q => pf_S pb_u_172 rfl rfl,
  fun L J st h Q => pf_S pb_u_172 rfl rfl,
  fun L J h Q x0 x1 => pf_ks pb_u_172 rfl rfl rfl rfl,
  fun l0 l1 l2 l3 l4 st h Q x => pf_S pb_u_172 rfl rfl,
  fun l1 l2 l3 l4 st h Q x => pf_S pb_u_172 rfl rfl,
  fun l1 l2 l3 l4 st h Q => pf_S pb_u_172 rfl rfl,
  fun l0 l1 l2 l4 st h Q x => pf_S pb_u_172 rfl rfl,
  fun L J h Q x0 x1 => pf_kv pb_u_172 rfl pb_ci_144 rfl ⟨Nat.le_of_ble_eq_true rfl, Nat.le_of_ble_eq_true rfl, Nat.le_of_ble_eq_true rfl, Nat.le_of_ble_eq_true rfl, rfl⟩ rfl rfl,
  fun L J st h Q => pf_S pb_u_172 rfl rfl,
  fun l0 l1 l2 l3 l4 st h Q x => pf_S pb_u_172 rfl rfl,
  fun l1 l2 l3 l4 st h Q x => pf_S pb_u_172 rfl rfl,
  fun l1 l2 l3 l4 st h Q => pf_S pb_u_172 rfl rfl,
  fun L J st h Q a => pf_gf pb_u_172 rfl rfl,
  fun L J st h Q x y => pf_ic pb_u_172 rfl rfl rfl,
  fun l1 l2 l3 l4 st h Q x => pf_S pb_u_172 rfl rfl,
  fun l1 l2 l3 l4 st h Q => pf_S pb_u_172 rfl rfl,
  fun L J st h Q a => pf_gf pb_u_172 rfl rfl,
  fun l0 l2 l3 l4 st h Q x => pf_S pb_u_172 rfl rfl,
  fun L J st h Q => pf_S pb_u_172 rfl rfl,
  fun L J st x y h Q => pf_S pb_u_172 rfl rfl,
  fun l0 l1 l2 l3 st h Q x => pf_S pb_u_172 rfl rfl,
  fun L J st x y h Q => pf_S pb_u_172 rfl rfl,
  fun L J st h Q a i => pf_ai pb_u_172 rfl rfl,
  fun L J st h Q x => pf_ii pb_u_172 rfl rfl rfl,
  fun l1 l2 l3 l4 st h Q x => pf_S pb_u_172 rfl rfl,
  fun l1 l2 l3 l4 st h Q => pf_S pb_u_172 rfl rfl,
  fun L J st h Q a => pf_gf pb_u_172 rfl rfl,
  fun l0 l2 l3 l4 st h Q x => pf_S pb_u_172 rfl rfl,
  fun L J st h Q => pf_S pb_u_172 rfl rfl,
  fun L J st x y h Q => pf_S pb_u_172 rfl rfl,
  fun l0 l1 l2 l3 st h Q x => pf_S pb_u_172 rfl rfl,
  fun L J st x y h Q => pf_S pb_u_172 rfl rfl,
  fun L J st h Q a i => pf_ai pb_u_172 rfl rfl,
  fun l0 l1 l3 l4 st h Q x => pf_S pb_u_172 rfl rfl,
  fun l0 l1 l3 l4 st h Q => pf_S pb_u_172 rfl rfl,
  fun l0 l1 l2 l3 st h Q x => pf_S pb_u_172 rfl rfl,
  fun L J st h Q a i => pf_ai pb_u_172 rfl rfl,
  fun L J h Q x0 x1 => pf_ks pb_u_172 rfl rfl rfl rfl,
  fun L J st h Q x => pf_ii pb_u_172 rfl rfl pf_ne,
  fun l1 l2 l3 l4 st h Q x => pf_S pb_u_172 rfl rfl,
  fun l1 l2 l3 l4 st h Q => pf_S pb_u_172 rfl rfl,
  fun l0 l1 l2 l4 st h Q x => pf_S pb_u_172 rfl rfl,
  fun l0 l2 l3 l4 st h Q x => pf_S pb_u_172 rfl rfl,
  fun l0 l1 l2 l3 st h Q x => pf_S pb_u_172 rfl rfl,
  fun L J h Q x0 x1 x2 x3 => pf_ks pb_u_172 rfl rfl rfl rfl,
  fun L J h Q x0 x1 x2 => pf_kv pb_u_172 rfl pb_ci_151 rfl ⟨Nat.le_of_ble_eq_true rfl, Nat.le_of_ble_eq_true rfl, Nat.le_of_ble_eq_true rfl, Nat.le_of_ble_eq_true rfl, rfl⟩ rfl rfl,
  fun l0 l1 l2 l3 st h Q x => pf_S pb_u_172 rfl rfl,
  fun L J st h Q => pf_S pb_u_172 rfl rfl,
  fun l1 l2 l3 l4 st h Q x => pf_S pb_u_172 rfl rfl,
  fun l1 l2 l3 l4 st h Q => pf_S pb_u_172 rfl rfl,
  fun l0 l1 l2 l4 st h Q x => pf_S pb_u_172 rfl rfl,
  fun l0 l2 l3 l4 st h Q x => pf_S pb_u_172 rfl rfl,
  fun L J st h Q => pf_S pb_u_172 rfl rfl,
  fun L J h Q x0 x1 x2 x3 => pf_ks pb_u_172 rfl rfl rfl rfl,
  fun L J h Q x0 x1 x2 => pf_kv pb_u_172 rfl pb_ci_150 rfl ⟨Nat.le_of_ble_eq_true rfl, Nat.le_of_ble_eq_true rfl, Nat.le_of_ble_eq_true rfl, Nat.le_of_ble_eq_true rfl, rfl⟩ rfl rfl,
  fun L J st h Q x => pf_ii pb_u_172 rfl rfl rfl,
  fun L J st h Q => pf_S pb_u_172 rfl rfl,
  fun L J h Q x => pf_ri pb_u_172 rfl rfl,
  fun l1 l2 l3 l4 st h Q x => pf_S pb_u_172 rfl rfl,
  fun l1 l2 l3 l4 st h Q => pf_S pb_u_172 rfl rfl,
  fun l0 l1 l2 l4 st h Q x => pf_S pb_u_172 rfl rfl,
  fun l0 l2 l3 l4 st h Q x => pf_S pb_u_172 rfl rfl,
  fun L J st h Q => pf_S pb_u_172 rfl rfl,
  fun L J h Q x0 x1 x2 x3 => pf_ks pb_u_172 rfl rfl rfl rfl,
  fun L J h Q x0 x1 x2 => pf_kv pb_u_172 rfl pb_ci_152 rfl ⟨Nat.le_of_ble_eq_true rfl, Nat.le_of_ble_eq_true rfl, Nat.le_of_ble_eq_true rfl, Nat.le_of_ble_eq_true rfl, rfl⟩ rfl rfl,
  fun L J st h Q => pf_S pb_u_172 rfl rfl,
  fun l0 l1 l2 l3 l4 st h Q x => pf_S pb_u_172 rfl rfl,
  fun l1 l2 l3 l4 st h Q x => pf_S pb_u_172 rfl rfl,
  fun l1 l2 l3 l4 st h Q => pf_S pb_u_172 rfl rfl,
  fun L J st h Q a => pf_gf pb_u_172 rfl rfl,
  fun L J st h Q x y => pf_ic pb_u_172 rfl rfl rfl,
  fun l1 l2 l3 l4 st h Q x => pf_S pb_u_172 rfl rfl,
  fun l1 l2 l3 l4 st h Q => pf_S pb_u_172 rfl rfl,
  fun L J st h Q a => pf_gf pb_u_172 rfl rfl,
  fun l0 l2 l3 l4 st h Q x => pf_S pb_u_172 rfl rfl,
  fun L J st h Q => pf_S pb_u_172 rfl rfl,
  fun L J st x y h Q => pf_S pb_u_172 rfl rfl,
  fun l0 l1 l2 l3 st h Q x => pf_S pb_u_172 rfl rfl,
  fun L J st x y h Q => pf_S pb_u_172 rfl rfl,
  fun L J st h Q a i => pf_ai pb_u_172 rfl rfl,
  fun L J st h Q x => pf_ii pb_u_172 rfl rfl rfl,
  fun l0 l1 l3 l4 st h Q x => pf_S pb_u_172 rfl rfl,
  fun l0 l1 l3 l4 st h Q => pf_S pb_u_172 rfl rfl,
  fun l0 l1 l2 l3 st h Q x => pf_S pb_u_172 rfl rfl,
  fun L J st h Q a i => pf_ai pb_u_172 rfl rfl,
  fun L J st h Q => pf_S pb_u_172 rfl rfl,
  fun L J st h Q x y => pf_ic pb_u_172 rfl rfl pf_ne,
  fun l1 l2 l3 l4 st h Q x => pf_S pb_u_172 rfl rfl,
  fun l1 l2 l3 l4 st h Q => pf_S pb_u_172 rfl rfl,
  fun l0 l2 l3 l4 st h Q x => pf_S pb_u_172 rfl rfl,
  fun l0 l1 l2 l3 st h Q x => pf_S pb_u_172 rfl rfl,
  fun L J h Q x0 x1 x2 => pf_ks pb_u_172 rfl rfl rfl rfl,
  fun l0 l1 l2 l4 st h Q x => pf_S pb_u_172 rfl rfl,
  fun L J h Q x0 x1 x2 => pf_kv pb_u_172 rfl pb_ci_150 rfl ⟨Nat.le_of_ble_eq_true rfl, Nat.le_of_ble_eq_true rfl, Nat.le_of_ble_eq_true rfl, Nat.le_of_ble_eq_true rfl, rfl⟩ rfl rfl,
  fun L J st h Q x => pf_ii pb_u_172 rfl rfl rfl,
  fun l0 l1 l2 l3 st h Q x => pf_S pb_u_172 rfl rfl,
  fun L J h Q x => pf_ri pb_u_172 rfl rfl,
  fun l0 l1 l2 l3 st h Q x => pf_S pb_u_172 rfl rfl,
  fun L J st h Q => pf_S pb_u_172 rfl rfl,
  fun L J st h Q => pf_S pb_u_172 rfl rfl,
  fun L J h Q x => pf_ri pb_u_172 rfl rfl⟩
theorem pb_c172 (x0 : Nat) (x1 : Int32) (x2 : Nat) (h : pb_H) (Q : Option Value → pb_H → Prop) : pb_call 172 [.ref x0, .int x1, .ref x2] h Q ↔ pb_R 172 0 [some (.ref x0), some (.int x1), some (.ref x2), none, none] [] [] h Q := Iff.rfl
/-! 173: PlaneBenchModel.seen(I)I -/
theorem pb_u_173 : pb_t 173 = pb_t173 := rfl
theorem pb_ci_173 : pb_ci 173 = 12 := by decide +kernel
set_option maxRecDepth 100000 in
theorem pb_e173 : (∀ (l0 : Option Value) (st : List Value) (h : pb_H) (Q : Option Value → pb_H → Prop) (x : Int32), pb_R 173 0 [l0, some (.int x)] [] st h Q ↔ pb_R 173 1 [l0, some (.int x)] [] (.int x :: st) h Q) ∧
  (∀ (l1 : Option Value) (st : List Value) (h : pb_H) (Q : Option Value → pb_H → Prop) (x : Nat), pb_R 173 1 [some (.ref x), l1] [] st h Q ↔ pb_R 173 2 [some (.ref x), l1] [] (.ref x :: st) h Q) ∧
  (∀ (l1 : Option Value) (st : List Value) (h : pb_H) (Q : Option Value → pb_H → Prop), pb_R 173 1 [some .null, l1] [] st h Q ↔ pb_R 173 2 [some .null, l1] [] (.null :: st) h Q) ∧
  (∀ (L : pb_L) (J : pb_J) (st : List Value) (h : pb_H) (Q : Option Value → pb_H → Prop) (a : Nat), pb_R 173 2 L J (.ref a :: st) h Q ↔ pb_o (pb_gf (h.2 a) 12 7) (fun v => pb_R 173 5 L J (v :: st) h Q)) ∧
  (∀ (L : pb_L) (J : pb_J) (st : List Value) (h : pb_H) (Q : Option Value → pb_H → Prop) (x y : Int32), pb_R 173 5 L J (.int y :: .int x :: st) h Q ↔ if y ≤ x then pb_R 173 17 L J st h Q else pb_R 173 8 L J st h Q) ∧
  (∀ (l1 : Option Value) (st : List Value) (h : pb_H) (Q : Option Value → pb_H → Prop) (x : Nat), pb_R 173 8 [some (.ref x), l1] [] st h Q ↔ pb_R 173 9 [some (.ref x), l1] [] (.ref x :: st) h Q) ∧
  (∀ (l1 : Option Value) (st : List Value) (h : pb_H) (Q : Option Value → pb_H → Prop), pb_R 173 8 [some .null, l1] [] st h Q ↔ pb_R 173 9 [some .null, l1] [] (.null :: st) h Q) ∧
  (∀ (L : pb_L) (J : pb_J) (st : List Value) (h : pb_H) (Q : Option Value → pb_H → Prop) (a : Nat), pb_R 173 9 L J (.ref a :: st) h Q ↔ pb_o (pb_gf (h.2 a) 12 6) (fun v => pb_R 173 12 L J (v :: st) h Q)) ∧
  (∀ (l0 : Option Value) (st : List Value) (h : pb_H) (Q : Option Value → pb_H → Prop) (x : Int32), pb_R 173 12 [l0, some (.int x)] [] st h Q ↔ pb_R 173 13 [l0, some (.int x)] [] (.int x :: st) h Q) ∧
  (∀ (L : pb_L) (J : pb_J) (st : List Value) (h : pb_H) (Q : Option Value → pb_H → Prop) (a : Nat) (i : Int32), pb_R 173 13 L J (.int i :: .ref a :: st) h Q ↔ pb_o (pb_ab (h.2 a) i) (fun v => pb_R 173 14 L J (.int v :: st) h Q)) ∧
  (∀ (L : pb_L) (J : pb_J) (st : List Value) (h : pb_H) (Q : Option Value → pb_H → Prop), pb_R 173 14 L J st h Q ↔ pb_R 173 18 L J st h Q) ∧
  (∀ (L : pb_L) (J : pb_J) (st : List Value) (h : pb_H) (Q : Option Value → pb_H → Prop), pb_R 173 17 L J st h Q ↔ pb_R 173 18 L J (.int (0 : Int32) :: st) h Q) ∧
  (∀ (L : pb_L) (J : pb_J) (h : pb_H) (Q : Option Value → pb_H → Prop) (x : Int32), pb_R 173 18 L J [.int x] h Q ↔ Q (some (.int x)) h) := ⟨
  fun l0 st h Q x => pf_S pb_u_173 rfl rfl,
  fun l1 st h Q x => pf_S pb_u_173 rfl rfl,
  fun l1 st h Q => pf_S pb_u_173 rfl rfl,
  fun L J st h Q a => pf_gf pb_u_173 rfl rfl,
  fun L J st h Q x y => pf_ic pb_u_173 rfl rfl rfl,
  fun l1 st h Q x => pf_S pb_u_173 rfl rfl,
  fun l1 st h Q => pf_S pb_u_173 rfl rfl,
  fun L J st h Q a => pf_gf pb_u_173 rfl rfl,
  fun l0 st h Q x => pf_S pb_u_173 rfl rfl,
  fun L J st h Q a i => pf_ab pb_u_173 rfl rfl,
  fun L J st h Q => pf_S pb_u_173 rfl rfl,
  fun L J st h Q => pf_S pb_u_173 rfl rfl,
  fun L J h Q x => pf_ri pb_u_173 rfl rfl⟩
theorem pb_c173 (x0 : Nat) (x1 : Int32) (h : pb_H) (Q : Option Value → pb_H → Prop) : pb_call 173 [.ref x0, .int x1] h Q ↔ pb_R 173 0 [some (.ref x0), some (.int x1)] [] [] h Q := Iff.rfl
/-! 174: PlaneBenchModel.isDigit(I)Z -/
theorem pb_u_174 : pb_t 174 = pb_t174 := rfl
theorem pb_ci_174 : pb_ci 174 = 12 := by decide +kernel
set_option maxRecDepth 100000 in
theorem pb_e174 : (∀ (l1 : Option Value) (st : List Value) (h : pb_H) (Q : Option Value → pb_H → Prop) (x : Nat), pb_R 174 0 [some (.ref x), l1] [] st h Q ↔ pb_R 174 1 [some (.ref x), l1] [] (.ref x :: st) h Q) ∧
  (∀ (l1 : Option Value) (st : List Value) (h : pb_H) (Q : Option Value → pb_H → Prop), pb_R 174 0 [some .null, l1] [] st h Q ↔ pb_R 174 1 [some .null, l1] [] (.null :: st) h Q) ∧
  (∀ (l0 : Option Value) (st : List Value) (h : pb_H) (Q : Option Value → pb_H → Prop) (x : Int32), pb_R 174 1 [l0, some (.int x)] [] st h Q ↔ pb_R 174 2 [l0, some (.int x)] [] (.int x :: st) h Q) ∧
  (∀ (L : pb_L) (J : pb_J) (h : pb_H) (Q : Option Value → pb_H → Prop) (x0 : Int32) (x1 : Nat), pb_R 174 2 L J [.int x0, .ref x1] h Q ↔ pb_is0 (h.2 x1) 12 = true ∧ pb_call 173 [.ref x1, .int x0] h (fun v t => pb_R 174 5 L J (v.toList ++ []) t Q)) ∧
  (∀ (L : pb_L) (J : pb_J) (st : List Value) (h : pb_H) (Q : Option Value → pb_H → Prop), pb_R 174 5 L J st h Q ↔ pb_R 174 7 L J (.int (48 : Int32) :: st) h Q) ∧
  (∀ (L : pb_L) (J : pb_J) (st : List Value) (h : pb_H) (Q : Option Value → pb_H → Prop) (x y : Int32), pb_R 174 7 L J (.int y :: .int x :: st) h Q ↔ if x < y then pb_R 174 24 L J st h Q else pb_R 174 10 L J st h Q) ∧
  (∀ (l1 : Option Value) (st : List Value) (h : pb_H) (Q : Option Value → pb_H → Prop) (x : Nat), pb_R 174 10 [some (.ref x), l1] [] st h Q ↔ pb_R 174 11 [some (.ref x), l1] [] (.ref x :: st) h Q) ∧
  (∀ (l1 : Option Value) (st : List Value) (h : pb_H) (Q : Option Value → pb_H → Prop), pb_R 174 10 [some .null, l1] [] st h Q ↔ pb_R 174 11 [some .null, l1] [] (.null :: st) h Q) ∧
  (∀ (l0 : Option Value) (st : List Value) (h : pb_H) (Q : Option Value → pb_H → Prop) (x : Int32), pb_R 174 11 [l0, some (.int x)] [] st h Q ↔ pb_R 174 12 [l0, some (.int x)] [] (.int x :: st) h Q) ∧
  (∀ (L : pb_L) (J : pb_J) (h : pb_H) (Q : Option Value → pb_H → Prop) (x0 : Int32) (x1 : Nat), pb_R 174 12 L J [.int x0, .ref x1] h Q ↔ pb_is0 (h.2 x1) 12 = true ∧ pb_call 173 [.ref x1, .int x0] h (fun v t => pb_R 174 15 L J (v.toList ++ []) t Q)) ∧
  (∀ (L : pb_L) (J : pb_J) (st : List Value) (h : pb_H) (Q : Option Value → pb_H → Prop), pb_R 174 15 L J st h Q ↔ pb_R 174 17 L J (.int (57 : Int32) :: st) h Q) ∧
  (∀ (L : pb_L) (J : pb_J) (st : List Value) (h : pb_H) (Q : Option Value → pb_H → Prop) (x y : Int32), pb_R 174 17 L J (.int y :: .int x :: st) h Q ↔ if y < x then pb_R 174 24 L J st h Q else pb_R 174 20 L J st h Q) ∧
  (∀ (L : pb_L) (J : pb_J) (st : List Value) (h : pb_H) (Q : Option Value → pb_H → Prop), pb_R 174 20 L J st h Q ↔ pb_R 174 21 L J (.int (1 : Int32) :: st) h Q) ∧
  (∀ (L : pb_L) (J : pb_J) (st : List Value) (h : pb_H) (Q : Option Value → pb_H → Prop), pb_R 174 21 L J st h Q ↔ pb_R 174 25 L J st h Q) ∧
  (∀ (L : pb_L) (J : pb_J) (st : List Value) (h : pb_H) (Q : Option Value → pb_H → Prop), pb_R 174 24 L J st h Q ↔ pb_R 174 25 L J (.int (0 : Int32) :: st) h Q) ∧
  (∀ (L : pb_L) (J : pb_J) (h : pb_H) (Q : Option Value → pb_H → Prop) (x : Int32), pb_R 174 25 L J [.int x] h Q ↔ narrow .boolean (.int x) = .int x ∧ Q (some (.int x)) h) := ⟨
  fun l1 st h Q x => pf_S pb_u_174 rfl rfl,
  fun l1 st h Q => pf_S pb_u_174 rfl rfl,
  fun l0 st h Q x => pf_S pb_u_174 rfl rfl,
  fun L J h Q x0 x1 => pf_kv pb_u_174 rfl pb_ci_173 rfl ⟨Nat.le_of_ble_eq_true rfl, Nat.le_of_ble_eq_true rfl, Nat.le_of_ble_eq_true rfl, Nat.le_of_ble_eq_true rfl, rfl⟩ rfl rfl,
  fun L J st h Q => pf_S pb_u_174 rfl rfl,
  fun L J st h Q x y => pf_ic pb_u_174 rfl rfl rfl,
  fun l1 st h Q x => pf_S pb_u_174 rfl rfl,
  fun l1 st h Q => pf_S pb_u_174 rfl rfl,
  fun l0 st h Q x => pf_S pb_u_174 rfl rfl,
  fun L J h Q x0 x1 => pf_kv pb_u_174 rfl pb_ci_173 rfl ⟨Nat.le_of_ble_eq_true rfl, Nat.le_of_ble_eq_true rfl, Nat.le_of_ble_eq_true rfl, Nat.le_of_ble_eq_true rfl, rfl⟩ rfl rfl,
  fun L J st h Q => pf_S pb_u_174 rfl rfl,
  fun L J st h Q x y => pf_ic pb_u_174 rfl rfl rfl,
  fun L J st h Q => pf_S pb_u_174 rfl rfl,
  fun L J st h Q => pf_S pb_u_174 rfl rfl,
  fun L J st h Q => pf_S pb_u_174 rfl rfl,
  fun L J h Q x => pf_rz pb_u_174 rfl rfl⟩
theorem pb_c174 (x0 : Nat) (x1 : Int32) (h : pb_H) (Q : Option Value → pb_H → Prop) : pb_call 174 [.ref x0, .int x1] h Q ↔ pb_R 174 0 [some (.ref x0), some (.int x1)] [] [] h Q := Iff.rfl
/-! 175: PlaneBenchModel.isByte(I)Z -/
theorem pb_u_175 : pb_t 175 = pb_t175 := rfl
set_option maxRecDepth 100000 in
theorem pb_e175 : (∀ (st : List Value) (h : pb_H) (Q : Option Value → pb_H → Prop) (x : Int32), pb_R 175 0 [some (.int x)] [] st h Q ↔ pb_R 175 1 [some (.int x)] [] (.int x :: st) h Q) ∧
  (∀ (L : pb_L) (J : pb_J) (st : List Value) (h : pb_H) (Q : Option Value → pb_H → Prop), pb_R 175 1 L J st h Q ↔ pb_R 175 3 L J (.int (9 : Int32) :: st) h Q) ∧
  (∀ (L : pb_L) (J : pb_J) (st : List Value) (h : pb_H) (Q : Option Value → pb_H → Prop) (x y : Int32), pb_R 175 3 L J (.int y :: .int x :: st) h Q ↔ if x = y then pb_R 175 24 L J st h Q else pb_R 175 6 L J st h Q) ∧
  (∀ (st : List Value) (h : pb_H) (Q : Option Value → pb_H → Prop) (x : Int32), pb_R 175 6 [some (.int x)] [] st h Q ↔ pb_R 175 7 [some (.int x)] [] (.int x :: st) h Q) ∧
  (∀ (L : pb_L) (J : pb_J) (st : List Value) (h : pb_H) (Q : Option Value → pb_H → Prop), pb_R 175 7 L J st h Q ↔ pb_R 175 9 L J (.int (10 : Int32) :: st) h Q) ∧
  (∀ (L : pb_L) (J : pb_J) (st : List Value) (h : pb_H) (Q : Option Value → pb_H → Prop) (x y : Int32), pb_R 175 9 L J (.int y :: .int x :: st) h Q ↔ if x = y then pb_R 175 24 L J st h Q else pb_R 175 12 L J st h Q) ∧
  (∀ (st : List Value) (h : pb_H) (Q : Option Value → pb_H → Prop) (x : Int32), pb_R 175 12 [some (.int x)] [] st h Q ↔ pb_R 175 13 [some (.int x)] [] (.int x :: st) h Q) ∧
  (∀ (L : pb_L) (J : pb_J) (st : List Value) (h : pb_H) (Q : Option Value → pb_H → Prop), pb_R 175 13 L J st h Q ↔ pb_R 175 15 L J (.int (32 : Int32) :: st) h Q) ∧
  (∀ (L : pb_L) (J : pb_J) (st : List Value) (h : pb_H) (Q : Option Value → pb_H → Prop) (x y : Int32), pb_R 175 15 L J (.int y :: .int x :: st) h Q ↔ if x < y then pb_R 175 28 L J st h Q else pb_R 175 18 L J st h Q) ∧
  (∀ (st : List Value) (h : pb_H) (Q : Option Value → pb_H → Prop) (x : Int32), pb_R 175 18 [some (.int x)] [] st h Q ↔ pb_R 175 19 [some (.int x)] [] (.int x :: st) h Q) ∧
  (∀ (L : pb_L) (J : pb_J) (st : List Value) (h : pb_H) (Q : Option Value → pb_H → Prop), pb_R 175 19 L J st h Q ↔ pb_R 175 21 L J (.int (126 : Int32) :: st) h Q) ∧
  (∀ (L : pb_L) (J : pb_J) (st : List Value) (h : pb_H) (Q : Option Value → pb_H → Prop) (x y : Int32), pb_R 175 21 L J (.int y :: .int x :: st) h Q ↔ if y < x then pb_R 175 28 L J st h Q else pb_R 175 24 L J st h Q) ∧
  (∀ (L : pb_L) (J : pb_J) (st : List Value) (h : pb_H) (Q : Option Value → pb_H → Prop), pb_R 175 24 L J st h Q ↔ pb_R 175 25 L J (.int (1 : Int32) :: st) h Q) ∧
  (∀ (L : pb_L) (J : pb_J) (st : List Value) (h : pb_H) (Q : Option Value → pb_H → Prop), pb_R 175 25 L J st h Q ↔ pb_R 175 29 L J st h Q) ∧
  (∀ (L : pb_L) (J : pb_J) (st : List Value) (h : pb_H) (Q : Option Value → pb_H → Prop), pb_R 175 28 L J st h Q ↔ pb_R 175 29 L J (.int (0 : Int32) :: st) h Q) ∧
  (∀ (L : pb_L) (J : pb_J) (h : pb_H) (Q : Option Value → pb_H → Prop) (x : Int32), pb_R 175 29 L J [.int x] h Q ↔ narrow .boolean (.int x) = .int x ∧ Q (some (.int x)) h) := ⟨
  fun st h Q x => pf_S pb_u_175 rfl rfl,
  fun L J st h Q => pf_S pb_u_175 rfl rfl,
  fun L J st h Q x y => pf_ic pb_u_175 rfl rfl rfl,
  fun st h Q x => pf_S pb_u_175 rfl rfl,
  fun L J st h Q => pf_S pb_u_175 rfl rfl,
  fun L J st h Q x y => pf_ic pb_u_175 rfl rfl rfl,
  fun st h Q x => pf_S pb_u_175 rfl rfl,
  fun L J st h Q => pf_S pb_u_175 rfl rfl,
  fun L J st h Q x y => pf_ic pb_u_175 rfl rfl rfl,
  fun st h Q x => pf_S pb_u_175 rfl rfl,
  fun L J st h Q => pf_S pb_u_175 rfl rfl,
  fun L J st h Q x y => pf_ic pb_u_175 rfl rfl rfl,
  fun L J st h Q => pf_S pb_u_175 rfl rfl,
  fun L J st h Q => pf_S pb_u_175 rfl rfl,
  fun L J st h Q => pf_S pb_u_175 rfl rfl,
  fun L J h Q x => pf_rz pb_u_175 rfl rfl⟩
theorem pb_c175 (x0 : Int32) (h : pb_H) (Q : Option Value → pb_H → Prop) : pb_call 175 [.int x0] h Q ↔ pb_R 175 0 [some (.int x0)] [] [] h Q := Iff.rfl
/-! 176: PlaneBenchModel.literal(I)V -/
theorem pb_u_176 : pb_t 176 = pb_t176 := rfl
theorem pb_ci_176 : pb_ci 176 = 12 := by decide +kernel
set_option maxRecDepth 100000 in
theorem pb_q176_22 (l1 l2 l3 : Option Value) (st : List Value) (h : pb_H) (Q : Option Value → pb_H → Prop) (x : Nat) : pb_R 176 22 [some (.ref x), l1, l2, l3] [] st h Q ↔ pb_R 176 23 [some (.ref x), l1, l2, l3] [] (.ref x :: st) h Q := pf_S pb_u_176 rfl rfl
set_option maxRecDepth 100000 in
theorem pb_q176_22n (l1 l2 l3 : Option Value) (st : List Value) (h : pb_H) (Q : Option Value → pb_H → Prop) : pb_R 176 22 [some .null, l1, l2, l3] [] st h Q ↔ pb_R 176 23 [some .null, l1, l2, l3] [] (.null :: st) h Q := pf_S pb_u_176 rfl rfl
set_option maxRecDepth 100000 in
theorem pb_e176 : (∀ (l1 l2 l3 : Option Value) (st : List Value) (h : pb_H) (Q : Option Value → pb_H → Prop) (x : Nat), pb_R 176 0 [some (.ref x), l1, l2, l3] [] st h Q ↔ pb_R 176 1 [some (.ref x), l1, l2, l3] [] (.ref x :: st) h Q) ∧
  (∀ (l1 l2 l3 : Option Value) (st : List Value) (h : pb_H) (Q : Option Value → pb_H → Prop), pb_R 176 0 [some .null, l1, l2, l3] [] st h Q ↔ pb_R 176 1 [some .null, l1, l2, l3] [] (.null :: st) h Q) ∧
  (∀ (l0 l2 l3 : Option Value) (st : List Value) (h : pb_H) (Q : Option Value → pb_H → Prop) (x : Int32), pb_R 176 1 [l0, some (.int x), l2, l3] [] st h Q ↔ pb_R 176 2 [l0, some (.int x), l2, l3] [] (.int x :: st) h Q) ∧
  (∀ (L : pb_L) (J : pb_J) (h : pb_H) (Q : Option Value → pb_H → Prop) (x0 : Int32) (x1 : Nat), pb_R 176 2 L J [.int x0, .ref x1] h Q ↔ pb_is0 (h.2 x1) 12 = true ∧ pb_call 173 [.ref x1, .int x0] h (fun v t => pb_R 176 5 L J (v.toList ++ []) t Q)) ∧
  (∀ (L : pb_L) (J : pb_J) (st : List Value) (h : pb_H) (Q : Option Value → pb_H → Prop), pb_R 176 5 L J st h Q ↔ pb_R 176 7 L J (.int (126 : Int32) :: st) h Q) ∧
  (∀ (L : pb_L) (J : pb_J) (st : List Value) (h : pb_H) (Q : Option Value → pb_H → Prop) (x y : Int32), pb_R 176 7 L J (.int y :: .int x :: st) h Q ↔ if ¬ x = y then pb_R 176 16 L J st h Q else pb_R 176 10 L J st h Q) ∧
  (∀ (l0 l2 l3 : Option Value) (st : List Value) (h : pb_H) (Q : Option Value → pb_H → Prop) (x : Int32), pb_R 176 10 [l0, some (.int x), l2, l3] [] st h Q ↔ pb_R 176 11 [l0, some (.int x), l2, l3] [] (.int x :: st) h Q) ∧
  (∀ (L : pb_L) (J : pb_J) (st : List Value) (h : pb_H) (Q : Option Value → pb_H → Prop), pb_R 176 11 L J st h Q ↔ pb_R 176 12 L J (.int (1 : Int32) :: st) h Q) ∧
  (∀ (L : pb_L) (J : pb_J) (st : List Value) (x y : Int32) (h : pb_H) (Q : Option Value → pb_H → Prop), pb_R 176 12 L J (.int y :: .int x :: st) h Q ↔ pb_R 176 13 L J (.int (x + y) :: st) h Q) ∧
  (∀ (L : pb_L) (J : pb_J) (st : List Value) (h : pb_H) (Q : Option Value → pb_H → Prop), pb_R 176 13 L J st h Q ↔ pb_R 176 17 L J st h Q) ∧
  (∀ (l0 l2 l3 : Option Value) (st : List Value) (h : pb_H) (Q : Option Value → pb_H → Prop) (x : Int32), pb_R 176 16 [l0, some (.int x), l2, l3] [] st h Q ↔ pb_R 176 17 [l0, some (.int x), l2, l3] [] (.int x :: st) h Q) ∧
  (∀ (l0 l1 l2 l3 : Option Value) (st : List Value) (h : pb_H) (Q : Option Value → pb_H → Prop) (x : Int32), pb_R 176 17 [l0, l1, l2, l3] [] (.int x :: st) h Q ↔ pb_R 176 18 [l0, l1, some (.int x), l3] [] st h Q) ∧
  (∀ (l0 l1 l3 : Option Value) (st : List Value) (h : pb_H) (Q : Option Value → pb_H → Prop) (x : Int32), pb_R 176 18 [l0, l1, some (.int x), l3] [] st h Q ↔ pb_R 176 19 [l0, l1, some (.int x), l3] [] (.int x :: st) h Q) ∧
  (∀ (L : pb_L) (J : pb_J) (st : List Value) (h : pb_H) (Q : Option Value → pb_H → Prop), pb_R 176 19 L J st h Q ↔ pb_R 176 20 L J (.int (1 : Int32) :: st) h Q) ∧
  (∀ (L : pb_L) (J : pb_J) (st : List Value) (x y : Int32) (h : pb_H) (Q : Option Value → pb_H → Prop), pb_R 176 20 L J (.int y :: .int x :: st) h Q ↔ pb_R 176 21 L J (.int (x + y) :: st) h Q) ∧
  (∀ (l0 l1 l2 l3 : Option Value) (st : List Value) (h : pb_H) (Q : Option Value → pb_H → Prop) (x : Int32), pb_R 176 21 [l0, l1, l2, l3] [] (.int x :: st) h Q ↔ pb_R 176 22 [l0, l1, l2, some (.int x)] [] st h Q) ∧
  (∀ (l0 l1 l2 : Option Value) (st : List Value) (h : pb_H) (Q : Option Value → pb_H → Prop) (x : Int32), pb_R 176 23 [l0, l1, l2, some (.int x)] [] st h Q ↔ pb_R 176 24 [l0, l1, l2, some (.int x)] [] (.int x :: st) h Q) ∧
  (∀ (L : pb_L) (J : pb_J) (h : pb_H) (Q : Option Value → pb_H → Prop) (x0 : Int32) (x1 : Nat), pb_R 176 24 L J [.int x0, .ref x1] h Q ↔ pb_is0 (h.2 x1) 12 = true ∧ pb_call 174 [.ref x1, .int x0] h (fun v t => pb_R 176 27 L J (v.toList ++ []) t Q)) ∧
  (∀ (L : pb_L) (J : pb_J) (st : List Value) (h : pb_H) (Q : Option Value → pb_H → Prop) (x : Int32), pb_R 176 27 L J (.int x :: st) h Q ↔ if x = 0 then pb_R 176 43 L J st h Q else pb_R 176 30 L J st h Q) ∧
  (∀ (l0 l1 l2 : Option Value) (st : List Value) (h : pb_H) (Q : Option Value → pb_H → Prop) (x : Int32), pb_R 176 30 [l0, l1, l2, some (.int x)] [] st h Q ↔ pb_R 176 31 [l0, l1, l2, some (.int x)] [] (.int x :: st) h Q) ∧
  (∀ (l0 l1 l3 : Option Value) (st : List Value) (h : pb_H) (Q : Option Value → pb_H → Prop) (x : Int32), pb_R 176 31 [l0, l1, some (.int x), l3] [] st h Q ↔ pb_R 176 32 [l0, l1, some (.int x), l3] [] (.int x :: st) h Q) ∧
  (∀ (L : pb_L) (J : pb_J) (st : List Value) (h : pb_H) (Q : Option Value → pb_H → Prop), pb_R 176 32 L J st h Q ↔ pb_R 176 33 L J (.int (3 : Int32) :: st) h Q) ∧
  (∀ (L : pb_L) (J : pb_J) (st : List Value) (x y : Int32) (h : pb_H) (Q : Option Value → pb_H → Prop), pb_R 176 33 L J (.int y :: .int x :: st) h Q ↔ pb_R 176 34 L J (.int (x + y) :: st) h Q) ∧
  (∀ (L : pb_L) (J : pb_J) (st : List Value) (h : pb_H) (Q : Option Value → pb_H → Prop) (x y : Int32), pb_R 176 34 L J (.int y :: .int x :: st) h Q ↔ if y ≤ x then pb_R 176 43 L J st h Q else pb_R 176 37 L J st h Q) ∧
  (∀ (l0 l1 l2 : Option Value) (st : List Value) (h : pb_H) (Q : Option Value → pb_H → Prop) (x : Int32), pb_R 176 37 [l0, l1, l2, some (.int x)] [] st h Q ↔ pb_R 176 40 [l0, l1, l2, some (.int (x + (1 : Int32)))] [] st h Q) ∧
  (∀ (L : pb_L) (J : pb_J) (st : List Value) (h : pb_H) (Q : Option Value → pb_H → Prop), pb_R 176 40 L J st h Q ↔ pb_R 176 22 L J st h Q) ∧
  (∀ (l1 l2 l3 : Option Value) (st : List Value) (h : pb_H) (Q : Option Value → pb_H → Prop) (x : Nat), pb_R 176 43 [some (.ref x), l1, l2, l3] [] st h Q ↔ pb_R 176 44 [some (.ref x), l1, l2, l3] [] (.ref x :: st) h Q) ∧
  (∀ (l1 l2 l3 : Option Value) (st : List Value) (h : pb_H) (Q : Option Value → pb_H → Prop), pb_R 176 43 [some .null, l1, l2, l3] [] st h Q ↔ pb_R 176 44 [some .null, l1, l2, l3] [] (.null :: st) h Q) ∧
  (∀ (l1 l2 l3 : Option Value) (st : List Value) (h : pb_H) (Q : Option Value → pb_H → Prop) (x : Nat), pb_R 176 44 [some (.ref x), l1, l2, l3] [] st h Q ↔ pb_R 176 45 [some (.ref x), l1, l2, l3] [] (.ref x :: st) h Q) ∧
  (∀ (l1 l2 l3 : Option Value) (st : List Value) (h : pb_H) (Q : Option Value → pb_H → Prop), pb_R 176 44 [some .null, l1, l2, l3] [] st h Q ↔ pb_R 176 45 [some .null, l1, l2, l3] [] (.null :: st) h Q) ∧
  (∀ (l0 l1 l3 : Option Value) (st : List Value) (h : pb_H) (Q : Option Value → pb_H → Prop) (x : Int32), pb_R 176 45 [l0, l1, some (.int x), l3] [] st h Q ↔ pb_R 176 46 [l0, l1, some (.int x), l3] [] (.int x :: st) h Q) ∧
  (∀ (L : pb_L) (J : pb_J) (h : pb_H) (Q : Option Value → pb_H → Prop) (x0 : Int32) (x1 : Nat) (x2 : Nat), pb_R 176 46 L J [.int x0, .ref x1, .ref x2] h Q ↔ pb_is0 (h.2 x1) 12 = true ∧ pb_call 173 [.ref x1, .int x0] h (fun v t => pb_R 176 49 L J (v.toList ++ [.ref x2]) t Q)) ∧
  (∀ (L : pb_L) (J : pb_J) (st : List Value) (h : pb_H) (Q : Option Value → pb_H → Prop), pb_R 176 49 L J st h Q ↔ pb_R 176 51 L J (.int (120 : Int32) :: st) h Q) ∧
  (∀ (L : pb_L) (J : pb_J) (st : List Value) (h : pb_H) (Q : Option Value → pb_H → Prop) (x y : Int32), pb_R 176 51 L J (.int y :: .int x :: st) h Q ↔ if ¬ x = y then pb_R 176 65 L J st h Q else pb_R 176 54 L J st h Q) ∧
  (∀ (l0 l1 l2 : Option Value) (st : List Value) (h : pb_H) (Q : Option Value → pb_H → Prop) (x : Int32), pb_R 176 54 [l0, l1, l2, some (.int x)] [] st h Q ↔ pb_R 176 55 [l0, l1, l2, some (.int x)] [] (.int x :: st) h Q) ∧
  (∀ (l0 l1 l3 : Option Value) (st : List Value) (h : pb_H) (Q : Option Value → pb_H → Prop) (x : Int32), pb_R 176 55 [l0, l1, some (.int x), l3] [] st h Q ↔ pb_R 176 56 [l0, l1, some (.int x), l3] [] (.int x :: st) h Q) ∧
  (∀ (L : pb_L) (J : pb_J) (st : List Value) (h : pb_H) (Q : Option Value → pb_H → Prop), pb_R 176 56 L J st h Q ↔ pb_R 176 57 L J (.int (1 : Int32) :: st) h Q) ∧
  (∀ (L : pb_L) (J : pb_J) (st : List Value) (x y : Int32) (h : pb_H) (Q : Option Value → pb_H → Prop), pb_R 176 57 L J (.int y :: .int x :: st) h Q ↔ pb_R 176 58 L J (.int (x + y) :: st) h Q) ∧
  (∀ (L : pb_L) (J : pb_J) (st : List Value) (h : pb_H) (Q : Option Value → pb_H → Prop) (x y : Int32), pb_R 176 58 L J (.int y :: .int x :: st) h Q ↔ if x ≤ y then pb_R 176 65 L J st h Q else pb_R 176 61 L J st h Q) ∧
  (∀ (L : pb_L) (J : pb_J) (st : List Value) (h : pb_H) (Q : Option Value → pb_H → Prop), pb_R 176 61 L J st h Q ↔ pb_R 176 62 L J (.int (2 : Int32) :: st) h Q) ∧
  (∀ (L : pb_L) (J : pb_J) (st : List Value) (h : pb_H) (Q : Option Value → pb_H → Prop), pb_R 176 62 L J st h Q ↔ pb_R 176 66 L J st h Q) ∧
  (∀ (L : pb_L) (J : pb_J) (st : List Value) (h : pb_H) (Q : Option Value → pb_H → Prop), pb_R 176 65 L J st h Q ↔ pb_R 176 66 L J (.int (4 : Int32) :: st) h Q) ∧
  (∀ (L : pb_L) (J : pb_J) (st : List Value) (h : pb_H) (Q : Option Value → pb_H → Prop) (a : Nat) (x : Int32), pb_R 176 66 L J (.int x :: .ref a :: st) h Q ↔ pb_o (pb_pf (h.2 a) 12 15 (.int x)) (fun c => pb_R 176 69 L J st (pb_set h a c) Q)) ∧
  (∀ (l1 l2 l3 : Option Value) (st : List Value) (h : pb_H) (Q : Option Value → pb_H → Prop) (x : Nat), pb_R 176 69 [some (.ref x), l1, l2, l3] [] st h Q ↔ pb_R 176 70 [some (.ref x), l1, l2, l3] [] (.ref x :: st) h Q) ∧
  (∀ (l1 l2 l3 : Option Value) (st : List Value) (h : pb_H) (Q : Option Value → pb_H → Prop), pb_R 176 69 [some .null, l1, l2, l3] [] st h Q ↔ pb_R 176 70 [some .null, l1, l2, l3] [] (.null :: st) h Q) ∧
  (∀ (l0 l1 l2 : Option Value) (st : List Value) (h : pb_H) (Q : Option Value → pb_H → Prop) (x : Int32), pb_R 176 70 [l0, l1, l2, some (.int x)] [] st h Q ↔ pb_R 176 71 [l0, l1, l2, some (.int x)] [] (.int x :: st) h Q) ∧
  (∀ (L : pb_L) (J : pb_J) (st : List Value) (h : pb_H) (Q : Option Value → pb_H → Prop) (a : Nat) (x : Int32), pb_R 176 71 L J (.int x :: .ref a :: st) h Q ↔ pb_o (pb_pf (h.2 a) 12 17 (.int x)) (fun c => pb_R 176 74 L J st (pb_set h a c) Q)) ∧
  (∀ (L : pb_L) (J : pb_J) (h : pb_H) (Q : Option Value → pb_H → Prop), pb_R 176 74 L J [] h Q ↔ Q none h) := ⟨
  fun l1 l2 l3 st h Q x => pf_S pb_u_176 rfl rfl,
  fun l1 l2 l3 st h Q => pf_S pb_u_176 rfl rfl,
  fun l0 l2 l3 st h Q x => pf_S pb_u_176 rfl rfl,
  fun L J h Q x0 x1 => pf_kv pb_u_176 rfl pb_ci_173 rfl ⟨Nat.le_of_ble_eq_true rfl, Nat.le_of_ble_eq_true rfl, Nat.le_of_ble_eq_true rfl, Nat.le_of_ble_eq_true rfl, rfl⟩ rfl rfl,
  fun L J st h Q => pf_S pb_u_176 rfl rfl,
  fun L J st h Q x y => pf_ic pb_u_176 rfl rfl pf_ne,
  fun l0 l2 l3 st h Q x => pf_S pb_u_176 rfl rfl,
  fun L J st h Q => pf_S pb_u_176 rfl rfl,
  fun L J st x y h Q => pf_S pb_u_176 rfl rfl,
  fun L J st h Q => pf_S pb_u_176 rfl rfl,
  fun l0 l2 l3 st h Q x => pf_S pb_u_176 rfl rfl,
  fun l0 l1 l2 l3 st h Q x => pf_S pb_u_176 rfl rfl,
  fun l0 l1 l3 st h Q x => pf_S pb_u_176 rfl rfl,
  fun L J st h Q => pf_S pb_u_176 rfl rfl,
  fun L J st x y h Q => pf_S pb_u_176 rfl rfl,
  fun l0 l1 l2 l3 st h Q x => pf_S pb_u_176 rfl rfl,
  fun l0 l1 l2 st h Q x => pf_S pb_u_176 rfl rfl,
  fun L J h Q x0 x1 => pf_kv pb_u_176 rfl pb_ci_174 rfl ⟨Nat.le_of_ble_eq_true rfl, Nat.le_of_ble_eq_true rfl, Nat.le_of_ble_eq_true rfl, Nat.le_of_ble_eq_true rfl, rfl⟩ rfl rfl,
  fun L J st h Q x => pf_ii pb_u_176 rfl rfl rfl,
  fun l0 l1 l2 st h Q x => pf_S pb_u_176 rfl rfl,
  fun l0 l1 l3 st h Q x => pf_S pb_u_176 rfl rfl,
  fun L J st h Q => pf_S pb_u_176 rfl rfl,
  fun L J st x y h Q => pf_S pb_u_176 rfl rfl,
  fun L J st h Q x y => pf_ic pb_u_176 rfl rfl rfl,
  fun l0 l1 l2 st h Q x => pf_S pb_u_176 rfl rfl,
  fun L J st h Q => pf_S pb_u_176 rfl rfl,
  fun l1 l2 l3 st h Q x => pf_S pb_u_176 rfl rfl,
  fun l1 l2 l3 st h Q => pf_S pb_u_176 rfl rfl,
  fun l1 l2 l3 st h Q x => pf_S pb_u_176 rfl rfl,
  fun l1 l2 l3 st h Q => pf_S pb_u_176 rfl rfl,
  fun l0 l1 l3 st h Q x => pf_S pb_u_176 rfl rfl,
  fun L J h Q x0 x1 x2 => pf_kv pb_u_176 rfl pb_ci_173 rfl ⟨Nat.le_of_ble_eq_true rfl, Nat.le_of_ble_eq_true rfl, Nat.le_of_ble_eq_true rfl, Nat.le_of_ble_eq_true rfl, rfl⟩ rfl rfl,
  fun L J st h Q => pf_S pb_u_176 rfl rfl,
  fun L J st h Q x y => pf_ic pb_u_176 rfl rfl pf_ne,
  fun l0 l1 l2 st h Q x => pf_S pb_u_176 rfl rfl,
  fun l0 l1 l3 st h Q x => pf_S pb_u_176 rfl rfl,
  fun L J st h Q => pf_S pb_u_176 rfl rfl,
  fun L J st x y h Q => pf_S pb_u_176 rfl rfl,
  fun L J st h Q x y => pf_ic pb_u_176 rfl rfl rfl,
  fun L J st h Q => pf_S pb_u_176 rfl rfl,
  fun L J st h Q => pf_S pb_u_176 rfl rfl,
  fun L J st h Q => pf_S pb_u_176 rfl rfl,
  fun L J st h Q a x => pf_pf pb_u_176 rfl rfl,
  fun l1 l2 l3 st h Q x => pf_S pb_u_176 rfl rfl,
  fun l1 l2 l3 st h Q => pf_S pb_u_176 rfl rfl,
  fun l0 l1 l2 st h Q x => pf_S pb_u_176 rfl rfl,
  fun L J st h Q a x => pf_pf pb_u_176 rfl rfl,
  fun L J h Q => pf_rv pb_u_176 rfl rfl⟩
theorem pb_c176 (x0 : Nat) (x1 : Int32) (h : pb_H) (Q : Option Value → pb_H → Prop) : pb_call 176 [.ref x0, .int x1] h Q ↔ pb_R 176 0 [some (.ref x0), some (.int x1), none, none] [] [] h Q := Iff.rfl
/-! 177: PlaneBenchModel.next()V -/
theorem pb_u_177 : pb_t 177 = pb_t177 := rfl
theorem pb_ci_177 : pb_ci 177 = 12 := by decide +kernel
set_option maxRecDepth 100000 in
theorem pb_q177_7 (l0 l2 l3 l4 l5 : Option Value) (st : List Value) (h : pb_H) (Q : Option Value → pb_H → Prop) (x : Int32) : pb_R 177 7 [l0, some (.int x), l2, l3, l4, l5] [] st h Q ↔ pb_R 177 8 [l0, some (.int x), l2, l3, l4, l5] [] (.int x :: st) h Q := pf_S pb_u_177 rfl rfl
set_option maxRecDepth 100000 in
theorem pb_q177_161 (l1 l2 l3 l4 l5 : Option Value) (st : List Value) (h : pb_H) (Q : Option Value → pb_H → Prop) (x : Nat) : pb_R 177 161 [some (.ref x), l1, l2, l3, l4, l5] [] st h Q ↔ pb_R 177 162 [some (.ref x), l1, l2, l3, l4, l5] [] (.ref x :: st) h Q := pf_S pb_u_177 rfl rfl
set_option maxRecDepth 100000 in
theorem pb_q177_161n (l1 l2 l3 l4 l5 : Option Value) (st : List Value) (h : pb_H) (Q : Option Value → pb_H → Prop) : pb_R 177 161 [some .null, l1, l2, l3, l4, l5] [] st h Q ↔ pb_R 177 162 [some .null, l1, l2, l3, l4, l5] [] (.null :: st) h Q := pf_S pb_u_177 rfl rfl
set_option maxRecDepth 100000 in
theorem pb_e177 : (∀ (l1 l2 l3 l4 l5 : Option Value) (st : List Value) (h : pb_H) (Q : Option Value → pb_H → Prop) (x : Nat), pb_R 177 0 [some (.ref x), l1, l2, l3, l4, l5] [] st h Q ↔ pb_R 177 1 [some (.ref x), l1, l2, l3, l4, l5] [] (.ref x :: st) h Q) ∧
  (∀ (l1 l2 l3 l4 l5 : Option Value) (st : List Value) (h : pb_H) (Q : Option Value → pb_H → Prop), pb_R 177 0 [some .null, l1, l2, l3, l4, l5] [] st h Q ↔ pb_R 177 1 [some .null, l1, l2, l3, l4, l5] [] (.null :: st) h Q) ∧
  (∀ (L : pb_L) (J : pb_J) (st : List Value) (h : pb_H) (Q : Option Value → pb_H → Prop) (a : Nat), pb_R 177 1 L J (.ref a :: st) h Q ↔ pb_o (pb_gf (h.2 a) 12 17) (fun v => pb_R 177 4 L J (v :: st) h Q)) ∧
  (∀ (l0 l1 l2 l3 l4 l5 : Option Value) (st : List Value) (h : pb_H) (Q : Option Value → pb_H → Prop) (x : Int32), pb_R 177 4 [l0, l1, l2, l3, l4, l5] [] (.int x :: st) h Q ↔ pb_R 177 5 [l0, some (.int x), l2, l3, l4, l5] [] st h Q) ∧
  (∀ (L : pb_L) (J : pb_J) (st : List Value) (h : pb_H) (Q : Option Value → pb_H → Prop), pb_R 177 5 L J st h Q ↔ pb_R 177 6 L J (.int (0 : Int32) :: st) h Q) ∧
  (∀ (l0 l1 l2 l3 l4 l5 : Option Value) (st : List Value) (h : pb_H) (Q : Option Value → pb_H → Prop) (x : Int32), pb_R 177 6 [l0, l1, l2, l3, l4, l5] [] (.int x :: st) h Q ↔ pb_R 177 7 [l0, l1, some (.int x), l3, l4, l5] [] st h Q) ∧
  (∀ (l1 l2 l3 l4 l5 : Option Value) (st : List Value) (h : pb_H) (Q : Option Value → pb_H → Prop) (x : Nat), pb_R 177 8 [some (.ref x), l1, l2, l3, l4, l5] [] st h Q ↔ pb_R 177 9 [some (.ref x), l1, l2, l3, l4, l5] [] (.ref x :: st) h Q) ∧
  (∀ (l1 l2 l3 l4 l5 : Option Value) (st : List Value) (h : pb_H) (Q : Option Value → pb_H → Prop), pb_R 177 8 [some .null, l1, l2, l3, l4, l5] [] st h Q ↔ pb_R 177 9 [some .null, l1, l2, l3, l4, l5] [] (.null :: st) h Q) ∧
  (∀ (L : pb_L) (J : pb_J) (st : List Value) (h : pb_H) (Q : Option Value → pb_H → Prop) (a : Nat), pb_R 177 9 L J (.ref a :: st) h Q ↔ pb_o (pb_gf (h.2 a) 12 7) (fun v => pb_R 177 12 L J (v :: st) h Q)) ∧
  (∀ (L : pb_L) (J : pb_J) (st : List Value) (h : pb_H) (Q : Option Value → pb_H → Prop) (x y : Int32), pb_R 177 12 L J (.int y :: .int x :: st) h Q ↔ if y ≤ x then pb_R 177 113 L J st h Q else pb_R 177 15 L J st h Q) ∧
  (∀ (l1 l2 l3 l4 l5 : Option Value) (st : List Value) (h : pb_H) (Q : Option Value → pb_H → Prop) (x : Nat), pb_R 177 15 [some (.ref x), l1, l2, l3, l4, l5] [] st h Q ↔ pb_R 177 16 [some (.ref x), l1, l2, l3, l4, l5] [] (.ref x :: st) h Q) ∧
  (∀ (l1 l2 l3 l4 l5 : Option Value) (st : List Value) (h : pb_H) (Q : Option Value → pb_H → Prop), pb_R 177 15 [some .null, l1, l2, l3, l4, l5] [] st h Q ↔ pb_R 177 16 [some .null, l1, l2, l3, l4, l5] [] (.null :: st) h Q) ∧
  (∀ (L : pb_L) (J : pb_J) (st : List Value) (h : pb_H) (Q : Option Value → pb_H → Prop) (a : Nat), pb_R 177 16 L J (.ref a :: st) h Q ↔ pb_o (pb_gf (h.2 a) 12 6) (fun v => pb_R 177 19 L J (v :: st) h Q)) ∧
  (∀ (l0 l2 l3 l4 l5 : Option Value) (st : List Value) (h : pb_H) (Q : Option Value → pb_H → Prop) (x : Int32), pb_R 177 19 [l0, some (.int x), l2, l3, l4, l5] [] st h Q ↔ pb_R 177 20 [l0, some (.int x), l2, l3, l4, l5] [] (.int x :: st) h Q) ∧
  (∀ (L : pb_L) (J : pb_J) (st : List Value) (h : pb_H) (Q : Option Value → pb_H → Prop) (a : Nat) (i : Int32), pb_R 177 20 L J (.int i :: .ref a :: st) h Q ↔ pb_o (pb_ab (h.2 a) i) (fun v => pb_R 177 21 L J (.int v :: st) h Q)) ∧
  (∀ (L : pb_L) (J : pb_J) (h : pb_H) (Q : Option Value → pb_H → Prop) (x0 : Int32), pb_R 177 21 L J [.int x0] h Q ↔ pb_call 175 [.int x0] h (fun v t => pb_R 177 24 L J (v.toList ++ []) t Q)) ∧
  (∀ (L : pb_L) (J : pb_J) (st : List Value) (h : pb_H) (Q : Option Value → pb_H → Prop) (x : Int32), pb_R 177 24 L J (.int x :: st) h Q ↔ if x = 0 then pb_R 177 113 L J st h Q else pb_R 177 27 L J st h Q) ∧
  (∀ (l0 l1 l3 l4 l5 : Option Value) (st : List Value) (h : pb_H) (Q : Option Value → pb_H → Prop) (x : Int32), pb_R 177 27 [l0, l1, some (.int x), l3, l4, l5] [] st h Q ↔ pb_R 177 28 [l0, l1, some (.int x), l3, l4, l5] [] (.int x :: st) h Q) ∧
  (∀ (L : pb_L) (J : pb_J) (st : List Value) (h : pb_H) (Q : Option Value → pb_H → Prop) (x : Int32), pb_R 177 28 L J (.int x :: st) h Q ↔ if ¬ x = 0 then pb_R 177 75 L J st h Q else pb_R 177 31 L J st h Q) ∧
  (∀ (l1 l2 l3 l4 l5 : Option Value) (st : List Value) (h : pb_H) (Q : Option Value → pb_H → Prop) (x : Nat), pb_R 177 31 [some (.ref x), l1, l2, l3, l4, l5] [] st h Q ↔ pb_R 177 32 [some (.ref x), l1, l2, l3, l4, l5] [] (.ref x :: st) h Q) ∧
  (∀ (l1 l2 l3 l4 l5 : Option Value) (st : List Value) (h : pb_H) (Q : Option Value → pb_H → Prop), pb_R 177 31 [some .null, l1, l2, l3, l4, l5] [] st h Q ↔ pb_R 177 32 [some .null, l1, l2, l3, l4, l5] [] (.null :: st) h Q) ∧
  (∀ (L : pb_L) (J : pb_J) (st : List Value) (h : pb_H) (Q : Option Value → pb_H → Prop) (a : Nat), pb_R 177 32 L J (.ref a :: st) h Q ↔ pb_o (pb_gf (h.2 a) 12 6) (fun v => pb_R 177 35 L J (v :: st) h Q)) ∧
  (∀ (l0 l2 l3 l4 l5 : Option Value) (st : List Value) (h : pb_H) (Q : Option Value → pb_H → Prop) (x : Int32), pb_R 177 35 [l0, some (.int x), l2, l3, l4, l5] [] st h Q ↔ pb_R 177 36 [l0, some (.int x), l2, l3, l4, l5] [] (.int x :: st) h Q) ∧
  (∀ (L : pb_L) (J : pb_J) (st : List Value) (h : pb_H) (Q : Option Value → pb_H → Prop) (a : Nat) (i : Int32), pb_R 177 36 L J (.int i :: .ref a :: st) h Q ↔ pb_o (pb_ab (h.2 a) i) (fun v => pb_R 177 37 L J (.int v :: st) h Q)) ∧
  (∀ (L : pb_L) (J : pb_J) (st : List Value) (h : pb_H) (Q : Option Value → pb_H → Prop), pb_R 177 37 L J st h Q ↔ pb_R 177 39 L J (.int (9 : Int32) :: st) h Q) ∧
  (∀ (L : pb_L) (J : pb_J) (st : List Value) (h : pb_H) (Q : Option Value → pb_H → Prop) (x y : Int32), pb_R 177 39 L J (.int y :: .int x :: st) h Q ↔ if x = y then pb_R 177 75 L J st h Q else pb_R 177 42 L J st h Q) ∧
  (∀ (l1 l2 l3 l4 l5 : Option Value) (st : List Value) (h : pb_H) (Q : Option Value → pb_H → Prop) (x : Nat), pb_R 177 42 [some (.ref x), l1, l2, l3, l4, l5] [] st h Q ↔ pb_R 177 43 [some (.ref x), l1, l2, l3, l4, l5] [] (.ref x :: st) h Q) ∧
  (∀ (l1 l2 l3 l4 l5 : Option Value) (st : List Value) (h : pb_H) (Q : Option Value → pb_H → Prop), pb_R 177 42 [some .null, l1, l2, l3, l4, l5] [] st h Q ↔ pb_R 177 43 [some .null, l1, l2, l3, l4, l5] [] (.null :: st) h Q) ∧
  (∀ (L : pb_L) (J : pb_J) (st : List Value) (h : pb_H) (Q : Option Value → pb_H → Prop) (a : Nat), pb_R 177 43 L J (.ref a :: st) h Q ↔ pb_o (pb_gf (h.2 a) 12 6) (fun v => pb_R 177 46 L J (v :: st) h Q)) ∧
  (∀ (l0 l2 l3 l4 l5 : Option Value) (st : List Value) (h : pb_H) (Q : Option Value → pb_H → Prop) (x : Int32), pb_R 177 46 [l0, some (.int x), l2, l3, l4, l5] [] st h Q ↔ pb_R 177 47 [l0, some (.int x), l2, l3, l4, l5] [] (.int x :: st) h Q) ∧
  (∀ (L : pb_L) (J : pb_J) (st : List Value) (h : pb_H) (Q : Option Value → pb_H → Prop) (a : Nat) (i : Int32), pb_R 177 47 L J (.int i :: .ref a :: st) h Q ↔ pb_o (pb_ab (h.2 a) i) (fun v => pb_R 177 48 L J (.int v :: st) h Q)) ∧
  (∀ (L : pb_L) (J : pb_J) (st : List Value) (h : pb_H) (Q : Option Value → pb_H → Prop), pb_R 177 48 L J st h Q ↔ pb_R 177 50 L J (.int (10 : Int32) :: st) h Q) ∧
  (∀ (L : pb_L) (J : pb_J) (st : List Value) (h : pb_H) (Q : Option Value → pb_H → Prop) (x y : Int32), pb_R 177 50 L J (.int y :: .int x :: st) h Q ↔ if x = y then pb_R 177 75 L J st h Q else pb_R 177 53 L J st h Q) ∧
  (∀ (l1 l2 l3 l4 l5 : Option Value) (st : List Value) (h : pb_H) (Q : Option Value → pb_H → Prop) (x : Nat), pb_R 177 53 [some (.ref x), l1, l2, l3, l4, l5] [] st h Q ↔ pb_R 177 54 [some (.ref x), l1, l2, l3, l4, l5] [] (.ref x :: st) h Q) ∧
  (∀ (l1 l2 l3 l4 l5 : Option Value) (st : List Value) (h : pb_H) (Q : Option Value → pb_H → Prop), pb_R 177 53 [some .null, l1, l2, l3, l4, l5] [] st h Q ↔ pb_R 177 54 [some .null, l1, l2, l3, l4, l5] [] (.null :: st) h Q) ∧
  (∀ (L : pb_L) (J : pb_J) (st : List Value) (h : pb_H) (Q : Option Value → pb_H → Prop) (a : Nat), pb_R 177 54 L J (.ref a :: st) h Q ↔ pb_o (pb_gf (h.2 a) 12 6) (fun v => pb_R 177 57 L J (v :: st) h Q)) ∧
  (∀ (l0 l2 l3 l4 l5 : Option Value) (st : List Value) (h : pb_H) (Q : Option Value → pb_H → Prop) (x : Int32), pb_R 177 57 [l0, some (.int x), l2, l3, l4, l5] [] st h Q ↔ pb_R 177 58 [l0, some (.int x), l2, l3, l4, l5] [] (.int x :: st) h Q) ∧
  (∀ (L : pb_L) (J : pb_J) (st : List Value) (h : pb_H) (Q : Option Value → pb_H → Prop) (a : Nat) (i : Int32), pb_R 177 58 L J (.int i :: .ref a :: st) h Q ↔ pb_o (pb_ab (h.2 a) i) (fun v => pb_R 177 59 L J (.int v :: st) h Q)) ∧
  (∀ (L : pb_L) (J : pb_J) (st : List Value) (h : pb_H) (Q : Option Value → pb_H → Prop), pb_R 177 59 L J st h Q ↔ pb_R 177 61 L J (.int (32 : Int32) :: st) h Q) ∧
  (∀ (L : pb_L) (J : pb_J) (st : List Value) (h : pb_H) (Q : Option Value → pb_H → Prop) (x y : Int32), pb_R 177 61 L J (.int y :: .int x :: st) h Q ↔ if x = y then pb_R 177 75 L J st h Q else pb_R 177 64 L J st h Q) ∧
  (∀ (l1 l2 l3 l4 l5 : Option Value) (st : List Value) (h : pb_H) (Q : Option Value → pb_H → Prop) (x : Nat), pb_R 177 64 [some (.ref x), l1, l2, l3, l4, l5] [] st h Q ↔ pb_R 177 65 [some (.ref x), l1, l2, l3, l4, l5] [] (.ref x :: st) h Q) ∧
  (∀ (l1 l2 l3 l4 l5 : Option Value) (st : List Value) (h : pb_H) (Q : Option Value → pb_H → Prop), pb_R 177 64 [some .null, l1, l2, l3, l4, l5] [] st h Q ↔ pb_R 177 65 [some .null, l1, l2, l3, l4, l5] [] (.null :: st) h Q) ∧
  (∀ (L : pb_L) (J : pb_J) (st : List Value) (h : pb_H) (Q : Option Value → pb_H → Prop) (a : Nat), pb_R 177 65 L J (.ref a :: st) h Q ↔ pb_o (pb_gf (h.2 a) 12 6) (fun v => pb_R 177 68 L J (v :: st) h Q)) ∧
  (∀ (l0 l2 l3 l4 l5 : Option Value) (st : List Value) (h : pb_H) (Q : Option Value → pb_H → Prop) (x : Int32), pb_R 177 68 [l0, some (.int x), l2, l3, l4, l5] [] st h Q ↔ pb_R 177 69 [l0, some (.int x), l2, l3, l4, l5] [] (.int x :: st) h Q) ∧
  (∀ (L : pb_L) (J : pb_J) (st : List Value) (h : pb_H) (Q : Option Value → pb_H → Prop) (a : Nat) (i : Int32), pb_R 177 69 L J (.int i :: .ref a :: st) h Q ↔ pb_o (pb_ab (h.2 a) i) (fun v => pb_R 177 70 L J (.int v :: st) h Q)) ∧
  (∀ (L : pb_L) (J : pb_J) (st : List Value) (h : pb_H) (Q : Option Value → pb_H → Prop), pb_R 177 70 L J st h Q ↔ pb_R 177 72 L J (.int (35 : Int32) :: st) h Q) ∧
  (∀ (L : pb_L) (J : pb_J) (st : List Value) (h : pb_H) (Q : Option Value → pb_H → Prop) (x y : Int32), pb_R 177 72 L J (.int y :: .int x :: st) h Q ↔ if ¬ x = y then pb_R 177 113 L J st h Q else pb_R 177 75 L J st h Q) ∧
  (∀ (l1 l2 l3 l4 l5 : Option Value) (st : List Value) (h : pb_H) (Q : Option Value → pb_H → Prop) (x : Nat), pb_R 177 75 [some (.ref x), l1, l2, l3, l4, l5] [] st h Q ↔ pb_R 177 76 [some (.ref x), l1, l2, l3, l4, l5] [] (.ref x :: st) h Q) ∧
  (∀ (l1 l2 l3 l4 l5 : Option Value) (st : List Value) (h : pb_H) (Q : Option Value → pb_H → Prop), pb_R 177 75 [some .null, l1, l2, l3, l4, l5] [] st h Q ↔ pb_R 177 76 [some .null, l1, l2, l3, l4, l5] [] (.null :: st) h Q) ∧
  (∀ (L : pb_L) (J : pb_J) (st : List Value) (h : pb_H) (Q : Option Value → pb_H → Prop) (a : Nat), pb_R 177 76 L J (.ref a :: st) h Q ↔ pb_o (pb_gf (h.2 a) 12 6) (fun v => pb_R 177 79 L J (v :: st) h Q)) ∧
  (∀ (l0 l2 l3 l4 l5 : Option Value) (st : List Value) (h : pb_H) (Q : Option Value → pb_H → Prop) (x : Int32), pb_R 177 79 [l0, some (.int x), l2, l3, l4, l5] [] st h Q ↔ pb_R 177 80 [l0, some (.int x), l2, l3, l4, l5] [] (.int x :: st) h Q) ∧
  (∀ (L : pb_L) (J : pb_J) (st : List Value) (h : pb_H) (Q : Option Value → pb_H → Prop) (a : Nat) (i : Int32), pb_R 177 80 L J (.int i :: .ref a :: st) h Q ↔ pb_o (pb_ab (h.2 a) i) (fun v => pb_R 177 81 L J (.int v :: st) h Q)) ∧
  (∀ (L : pb_L) (J : pb_J) (st : List Value) (h : pb_H) (Q : Option Value → pb_H → Prop), pb_R 177 81 L J st h Q ↔ pb_R 177 83 L J (.int (35 : Int32) :: st) h Q) ∧
  (∀ (L : pb_L) (J : pb_J) (st : List Value) (h : pb_H) (Q : Option Value → pb_H → Prop) (x y : Int32), pb_R 177 83 L J (.int y :: .int x :: st) h Q ↔ if x = y then pb_R 177 101 L J st h Q else pb_R 177 86 L J st h Q) ∧
  (∀ (l0 l1 l3 l4 l5 : Option Value) (st : List Value) (h : pb_H) (Q : Option Value → pb_H → Prop) (x : Int32), pb_R 177 86 [l0, l1, some (.int x), l3, l4, l5] [] st h Q ↔ pb_R 177 87 [l0, l1, some (.int x), l3, l4, l5] [] (.int x :: st) h Q) ∧
  (∀ (L : pb_L) (J : pb_J) (st : List Value) (h : pb_H) (Q : Option Value → pb_H → Prop) (x : Int32), pb_R 177 87 L J (.int x :: st) h Q ↔ if x = 0 then pb_R 177 105 L J st h Q else pb_R 177 90 L J st h Q) ∧
  (∀ (l1 l2 l3 l4 l5 : Option Value) (st : List Value) (h : pb_H) (Q : Option Value → pb_H → Prop) (x : Nat), pb_R 177 90 [some (.ref x), l1, l2, l3, l4, l5] [] st h Q ↔ pb_R 177 91 [some (.ref x), l1, l2, l3, l4, l5] [] (.ref x :: st) h Q) ∧
  (∀ (l1 l2 l3 l4 l5 : Option Value) (st : List Value) (h : pb_H) (Q : Option Value → pb_H → Prop), pb_R 177 90 [some .null, l1, l2, l3, l4, l5] [] st h Q ↔ pb_R 177 91 [some .null, l1, l2, l3, l4, l5] [] (.null :: st) h Q) ∧
  (∀ (L : pb_L) (J : pb_J) (st : List Value) (h : pb_H) (Q : Option Value → pb_H → Prop) (a : Nat), pb_R 177 91 L J (.ref a :: st) h Q ↔ pb_o (pb_gf (h.2 a) 12 6) (fun v => pb_R 177 94 L J (v :: st) h Q)) ∧
  (∀ (l0 l2 l3 l4 l5 : Option Value) (st : List Value) (h : pb_H) (Q : Option Value → pb_H → Prop) (x : Int32), pb_R 177 94 [l0, some (.int x), l2, l3, l4, l5] [] st h Q ↔ pb_R 177 95 [l0, some (.int x), l2, l3, l4, l5] [] (.int x :: st) h Q) ∧
  (∀ (L : pb_L) (J : pb_J) (st : List Value) (h : pb_H) (Q : Option Value → pb_H → Prop) (a : Nat) (i : Int32), pb_R 177 95 L J (.int i :: .ref a :: st) h Q ↔ pb_o (pb_ab (h.2 a) i) (fun v => pb_R 177 96 L J (.int v :: st) h Q)) ∧
  (∀ (L : pb_L) (J : pb_J) (st : List Value) (h : pb_H) (Q : Option Value → pb_H → Prop), pb_R 177 96 L J st h Q ↔ pb_R 177 98 L J (.int (10 : Int32) :: st) h Q) ∧
  (∀ (L : pb_L) (J : pb_J) (st : List Value) (h : pb_H) (Q : Option Value → pb_H → Prop) (x y : Int32), pb_R 177 98 L J (.int y :: .int x :: st) h Q ↔ if x = y then pb_R 177 105 L J st h Q else pb_R 177 101 L J st h Q) ∧
  (∀ (L : pb_L) (J : pb_J) (st : List Value) (h : pb_H) (Q : Option Value → pb_H → Prop), pb_R 177 101 L J st h Q ↔ pb_R 177 102 L J (.int (1 : Int32) :: st) h Q) ∧
  (∀ (L : pb_L) (J : pb_J) (st : List Value) (h : pb_H) (Q : Option Value → pb_H → Prop), pb_R 177 102 L J st h Q ↔ pb_R 177 106 L J st h Q) ∧
  (∀ (L : pb_L) (J : pb_J) (st : List Value) (h : pb_H) (Q : Option Value → pb_H → Prop), pb_R 177 105 L J st h Q ↔ pb_R 177 106 L J (.int (0 : Int32) :: st) h Q) ∧
  (∀ (l0 l1 l2 l3 l4 l5 : Option Value) (st : List Value) (h : pb_H) (Q : Option Value → pb_H → Prop) (x : Int32), pb_R 177 106 [l0, l1, l2, l3, l4, l5] [] (.int x :: st) h Q ↔ pb_R 177 107 [l0, l1, some (.int x), l3, l4, l5] [] st h Q) ∧
  (∀ (l0 l2 l3 l4 l5 : Option Value) (st : List Value) (h : pb_H) (Q : Option Value → pb_H → Prop) (x : Int32), pb_R 177 107 [l0, some (.int x), l2, l3, l4, l5] [] st h Q ↔ pb_R 177 110 [l0, some (.int (x + (1 : Int32))), l2, l3, l4, l5] [] st h Q) ∧
  (∀ (L : pb_L) (J : pb_J) (st : List Value) (h : pb_H) (Q : Option Value → pb_H → Prop), pb_R 177 110 L J st h Q ↔ pb_R 177 7 L J st h Q) ∧
  (∀ (l1 l2 l3 l4 l5 : Option Value) (st : List Value) (h : pb_H) (Q : Option Value → pb_H → Prop) (x : Nat), pb_R 177 113 [some (.ref x), l1, l2, l3, l4, l5] [] st h Q ↔ pb_R 177 114 [some (.ref x), l1, l2, l3, l4, l5] [] (.ref x :: st) h Q) ∧
  (∀ (l1 l2 l3 l4 l5 : Option Value) (st : List Value) (h : pb_H) (Q : Option Value → pb_H → Prop), pb_R 177 113 [some .null, l1, l2, l3, l4, l5] [] st h Q ↔ pb_R 177 114 [some .null, l1, l2, l3, l4, l5] [] (.null :: st) h Q) ∧
  (∀ (l0 l2 l3 l4 l5 : Option Value) (st : List Value) (h : pb_H) (Q : Option Value → pb_H → Prop) (x : Int32), pb_R 177 114 [l0, some (.int x), l2, l3, l4, l5] [] st h Q ↔ pb_R 177 115 [l0, some (.int x), l2, l3, l4, l5] [] (.int x :: st) h Q) ∧
  (∀ (L : pb_L) (J : pb_J) (st : List Value) (h : pb_H) (Q : Option Value → pb_H → Prop) (a : Nat) (x : Int32), pb_R 177 115 L J (.int x :: .ref a :: st) h Q ↔ pb_o (pb_pf (h.2 a) 12 16 (.int x)) (fun c => pb_R 177 118 L J st (pb_set h a c) Q)) ∧
  (∀ (l1 l2 l3 l4 l5 : Option Value) (st : List Value) (h : pb_H) (Q : Option Value → pb_H → Prop) (x : Nat), pb_R 177 118 [some (.ref x), l1, l2, l3, l4, l5] [] st h Q ↔ pb_R 177 119 [some (.ref x), l1, l2, l3, l4, l5] [] (.ref x :: st) h Q) ∧
  (∀ (l1 l2 l3 l4 l5 : Option Value) (st : List Value) (h : pb_H) (Q : Option Value → pb_H → Prop), pb_R 177 118 [some .null, l1, l2, l3, l4, l5] [] st h Q ↔ pb_R 177 119 [some .null, l1, l2, l3, l4, l5] [] (.null :: st) h Q) ∧
  (∀ (l0 l2 l3 l4 l5 : Option Value) (st : List Value) (h : pb_H) (Q : Option Value → pb_H → Prop) (x : Int32), pb_R 177 119 [l0, some (.int x), l2, l3, l4, l5] [] st h Q ↔ pb_R 177 120 [l0, some (.int x), l2, l3, l4, l5] [] (.int x :: st) h Q) ∧
  (∀ (L : pb_L) (J : pb_J) (h : pb_H) (Q : Option Value → pb_H → Prop) (x0 : Int32) (x1 : Nat), pb_R 177 120 L J [.int x0, .ref x1] h Q ↔ pb_is0 (h.2 x1) 12 = true ∧ pb_call 173 [.ref x1, .int x0] h (fun v t => pb_R 177 123 L J (v.toList ++ []) t Q)) ∧
  (∀ (l0 l1 l2 l3 l4 l5 : Option Value) (st : List Value) (h : pb_H) (Q : Option Value → pb_H → Prop) (x : Int32), pb_R 177 123 [l0, l1, l2, l3, l4, l5] [] (.int x :: st) h Q ↔ pb_R 177 124 [l0, l1, l2, some (.int x), l4, l5] [] st h Q) ∧
  (∀ (l0 l2 l3 l4 l5 : Option Value) (st : List Value) (h : pb_H) (Q : Option Value → pb_H → Prop) (x : Int32), pb_R 177 124 [l0, some (.int x), l2, l3, l4, l5] [] st h Q ↔ pb_R 177 125 [l0, some (.int x), l2, l3, l4, l5] [] (.int x :: st) h Q) ∧
  (∀ (L : pb_L) (J : pb_J) (st : List Value) (h : pb_H) (Q : Option Value → pb_H → Prop), pb_R 177 125 L J st h Q ↔ pb_R 177 126 L J (.int (1 : Int32) :: st) h Q) ∧
  (∀ (L : pb_L) (J : pb_J) (st : List Value) (x y : Int32) (h : pb_H) (Q : Option Value → pb_H → Prop), pb_R 177 126 L J (.int y :: .int x :: st) h Q ↔ pb_R 177 127 L J (.int (x + y) :: st) h Q) ∧
  (∀ (l0 l1 l2 l3 l4 l5 : Option Value) (st : List Value) (h : pb_H) (Q : Option Value → pb_H → Prop) (x : Int32), pb_R 177 127 [l0, l1, l2, l3, l4, l5] [] (.int x :: st) h Q ↔ pb_R 177 129 [l0, l1, l2, l3, some (.int x), l5] [] st h Q) ∧
  (∀ (l1 l2 l3 l4 l5 : Option Value) (st : List Value) (h : pb_H) (Q : Option Value → pb_H → Prop) (x : Nat), pb_R 177 129 [some (.ref x), l1, l2, l3, l4, l5] [] st h Q ↔ pb_R 177 130 [some (.ref x), l1, l2, l3, l4, l5] [] (.ref x :: st) h Q) ∧
  (∀ (l1 l2 l3 l4 l5 : Option Value) (st : List Value) (h : pb_H) (Q : Option Value → pb_H → Prop), pb_R 177 129 [some .null, l1, l2, l3, l4, l5] [] st h Q ↔ pb_R 177 130 [some .null, l1, l2, l3, l4, l5] [] (.null :: st) h Q) ∧
  (∀ (l0 l1 l2 l4 l5 : Option Value) (st : List Value) (h : pb_H) (Q : Option Value → pb_H → Prop) (x : Int32), pb_R 177 130 [l0, l1, l2, some (.int x), l4, l5] [] st h Q ↔ pb_R 177 131 [l0, l1, l2, some (.int x), l4, l5] [] (.int x :: st) h Q) ∧
  (∀ (L : pb_L) (J : pb_J) (st : List Value) (h : pb_H) (Q : Option Value → pb_H → Prop) (a : Nat) (x : Int32), pb_R 177 131 L J (.int x :: .ref a :: st) h Q ↔ pb_o (pb_pf (h.2 a) 12 18 (.int x)) (fun c => pb_R 177 134 L J st (pb_set h a c) Q)) ∧
  (∀ (l0 l2 l3 l4 l5 : Option Value) (st : List Value) (h : pb_H) (Q : Option Value → pb_H → Prop) (x : Int32), pb_R 177 134 [l0, some (.int x), l2, l3, l4, l5] [] st h Q ↔ pb_R 177 135 [l0, some (.int x), l2, l3, l4, l5] [] (.int x :: st) h Q) ∧
  (∀ (l1 l2 l3 l4 l5 : Option Value) (st : List Value) (h : pb_H) (Q : Option Value → pb_H → Prop) (x : Nat), pb_R 177 135 [some (.ref x), l1, l2, l3, l4, l5] [] st h Q ↔ pb_R 177 136 [some (.ref x), l1, l2, l3, l4, l5] [] (.ref x :: st) h Q) ∧
  (∀ (l1 l2 l3 l4 l5 : Option Value) (st : List Value) (h : pb_H) (Q : Option Value → pb_H → Prop), pb_R 177 135 [some .null, l1, l2, l3, l4, l5] [] st h Q ↔ pb_R 177 136 [some .null, l1, l2, l3, l4, l5] [] (.null :: st) h Q) ∧
  (∀ (L : pb_L) (J : pb_J) (st : List Value) (h : pb_H) (Q : Option Value → pb_H → Prop) (a : Nat), pb_R 177 136 L J (.ref a :: st) h Q ↔ pb_o (pb_gf (h.2 a) 12 7) (fun v => pb_R 177 139 L J (v :: st) h Q)) ∧
  (∀ (L : pb_L) (J : pb_J) (st : List Value) (h : pb_H) (Q : Option Value → pb_H → Prop) (x y : Int32), pb_R 177 139 L J (.int y :: .int x :: st) h Q ↔ if x < y then pb_R 177 153 L J st h Q else pb_R 177 142 L J st h Q) ∧
  (∀ (l1 l2 l3 l4 l5 : Option Value) (st : List Value) (h : pb_H) (Q : Option Value → pb_H → Prop) (x : Nat), pb_R 177 142 [some (.ref x), l1, l2, l3, l4, l5] [] st h Q ↔ pb_R 177 143 [some (.ref x), l1, l2, l3, l4, l5] [] (.ref x :: st) h Q) ∧
  (∀ (l1 l2 l3 l4 l5 : Option Value) (st : List Value) (h : pb_H) (Q : Option Value → pb_H → Prop), pb_R 177 142 [some .null, l1, l2, l3, l4, l5] [] st h Q ↔ pb_R 177 143 [some .null, l1, l2, l3, l4, l5] [] (.null :: st) h Q) ∧
  (∀ (L : pb_L) (J : pb_J) (st : List Value) (h : pb_H) (Q : Option Value → pb_H → Prop), pb_R 177 143 L J st h Q ↔ pb_R 177 144 L J (.int (0 : Int32) :: st) h Q) ∧
  (∀ (L : pb_L) (J : pb_J) (st : List Value) (h : pb_H) (Q : Option Value → pb_H → Prop) (a : Nat) (x : Int32), pb_R 177 144 L J (.int x :: .ref a :: st) h Q ↔ pb_o (pb_pf (h.2 a) 12 15 (.int x)) (fun c => pb_R 177 147 L J st (pb_set h a c) Q)) ∧
  (∀ (l0 l2 l3 l4 l5 : Option Value) (st : List Value) (h : pb_H) (Q : Option Value → pb_H → Prop) (x : Int32), pb_R 177 147 [l0, some (.int x), l2, l3, l4, l5] [] st h Q ↔ pb_R 177 148 [l0, some (.int x), l2, l3, l4, l5] [] (.int x :: st) h Q) ∧
  (∀ (l0 l1 l2 l3 l4 l5 : Option Value) (st : List Value) (h : pb_H) (Q : Option Value → pb_H → Prop) (x : Int32), pb_R 177 148 [l0, l1, l2, l3, l4, l5] [] (.int x :: st) h Q ↔ pb_R 177 150 [l0, l1, l2, l3, some (.int x), l5] [] st h Q) ∧
  (∀ (L : pb_L) (J : pb_J) (st : List Value) (h : pb_H) (Q : Option Value → pb_H → Prop), pb_R 177 150 L J st h Q ↔ pb_R 177 340 L J st h Q) ∧
  (∀ (l1 l2 l3 l4 l5 : Option Value) (st : List Value) (h : pb_H) (Q : Option Value → pb_H → Prop) (x : Nat), pb_R 177 153 [some (.ref x), l1, l2, l3, l4, l5] [] st h Q ↔ pb_R 177 154 [some (.ref x), l1, l2, l3, l4, l5] [] (.ref x :: st) h Q) ∧
  (∀ (l1 l2 l3 l4 l5 : Option Value) (st : List Value) (h : pb_H) (Q : Option Value → pb_H → Prop), pb_R 177 153 [some .null, l1, l2, l3, l4, l5] [] st h Q ↔ pb_R 177 154 [some .null, l1, l2, l3, l4, l5] [] (.null :: st) h Q) ∧
  (∀ (l0 l2 l3 l4 l5 : Option Value) (st : List Value) (h : pb_H) (Q : Option Value → pb_H → Prop) (x : Int32), pb_R 177 154 [l0, some (.int x), l2, l3, l4, l5] [] st h Q ↔ pb_R 177 155 [l0, some (.int x), l2, l3, l4, l5] [] (.int x :: st) h Q) ∧
  (∀ (L : pb_L) (J : pb_J) (h : pb_H) (Q : Option Value → pb_H → Prop) (x0 : Int32) (x1 : Nat), pb_R 177 155 L J [.int x0, .ref x1] h Q ↔ pb_is0 (h.2 x1) 12 = true ∧ pb_call 174 [.ref x1, .int x0] h (fun v t => pb_R 177 158 L J (v.toList ++ []) t Q)) ∧
  (∀ (L : pb_L) (J : pb_J) (st : List Value) (h : pb_H) (Q : Option Value → pb_H → Prop) (x : Int32), pb_R 177 158 L J (.int x :: st) h Q ↔ if x = 0 then pb_R 177 197 L J st h Q else pb_R 177 161 L J st h Q) ∧
  (∀ (l0 l1 l2 l3 l5 : Option Value) (st : List Value) (h : pb_H) (Q : Option Value → pb_H → Prop) (x : Int32), pb_R 177 162 [l0, l1, l2, l3, some (.int x), l5] [] st h Q ↔ pb_R 177 164 [l0, l1, l2, l3, some (.int x), l5] [] (.int x :: st) h Q) ∧
  (∀ (L : pb_L) (J : pb_J) (h : pb_H) (Q : Option Value → pb_H → Prop) (x0 : Int32) (x1 : Nat), pb_R 177 164 L J [.int x0, .ref x1] h Q ↔ pb_is0 (h.2 x1) 12 = true ∧ pb_call 174 [.ref x1, .int x0] h (fun v t => pb_R 177 167 L J (v.toList ++ []) t Q)) ∧
  (∀ (L : pb_L) (J : pb_J) (st : List Value) (h : pb_H) (Q : Option Value → pb_H → Prop) (x : Int32), pb_R 177 167 L J (.int x :: st) h Q ↔ if x = 0 then pb_R 177 176 L J st h Q else pb_R 177 170 L J st h Q) ∧
  (∀ (l0 l1 l2 l3 l5 : Option Value) (st : List Value) (h : pb_H) (Q : Option Value → pb_H → Prop) (x : Int32), pb_R 177 170 [l0, l1, l2, l3, some (.int x), l5] [] st h Q ↔ pb_R 177 173 [l0, l1, l2, l3, some (.int (x + (1 : Int32))), l5] [] st h Q) ∧
  (∀ (L : pb_L) (J : pb_J) (st : List Value) (h : pb_H) (Q : Option Value → pb_H → Prop), pb_R 177 173 L J st h Q ↔ pb_R 177 161 L J st h Q) ∧
  (∀ (l1 l2 l3 l4 l5 : Option Value) (st : List Value) (h : pb_H) (Q : Option Value → pb_H → Prop) (x : Nat), pb_R 177 176 [some (.ref x), l1, l2, l3, l4, l5] [] st h Q ↔ pb_R 177 177 [some (.ref x), l1, l2, l3, l4, l5] [] (.ref x :: st) h Q) ∧
  (∀ (l1 l2 l3 l4 l5 : Option Value) (st : List Value) (h : pb_H) (Q : Option Value → pb_H → Prop), pb_R 177 176 [some .null, l1, l2, l3, l4, l5] [] st h Q ↔ pb_R 177 177 [some .null, l1, l2, l3, l4, l5] [] (.null :: st) h Q) ∧
  (∀ (l0 l1 l2 l3 l5 : Option Value) (st : List Value) (h : pb_H) (Q : Option Value → pb_H → Prop) (x : Int32), pb_R 177 177 [l0, l1, l2, l3, some (.int x), l5] [] st h Q ↔ pb_R 177 179 [l0, l1, l2, l3, some (.int x), l5] [] (.int x :: st) h Q) ∧
  (∀ (l0 l2 l3 l4 l5 : Option Value) (st : List Value) (h : pb_H) (Q : Option Value → pb_H → Prop) (x : Int32), pb_R 177 179 [l0, some (.int x), l2, l3, l4, l5] [] st h Q ↔ pb_R 177 180 [l0, some (.int x), l2, l3, l4, l5] [] (.int x :: st) h Q) ∧
  (∀ (L : pb_L) (J : pb_J) (st : List Value) (x y : Int32) (h : pb_H) (Q : Option Value → pb_H → Prop), pb_R 177 180 L J (.int y :: .int x :: st) h Q ↔ pb_R 177 181 L J (.int (x - y) :: st) h Q) ∧
  (∀ (L : pb_L) (J : pb_J) (st : List Value) (h : pb_H) (Q : Option Value → pb_H → Prop), pb_R 177 181 L J st h Q ↔ pb_R 177 183 L J (.int (60 : Int32) :: st) h Q) ∧
  (∀ (L : pb_L) (J : pb_J) (st : List Value) (h : pb_H) (Q : Option Value → pb_H → Prop) (x y : Int32), pb_R 177 183 L J (.int y :: .int x :: st) h Q ↔ if x ≤ y then pb_R 177 190 L J st h Q else pb_R 177 186 L J st h Q) ∧
  (∀ (L : pb_L) (J : pb_J) (st : List Value) (h : pb_H) (Q : Option Value → pb_H → Prop), pb_R 177 186 L J st h Q ↔ pb_R 177 187 L J (.int (4 : Int32) :: st) h Q) ∧
  (∀ (L : pb_L) (J : pb_J) (st : List Value) (h : pb_H) (Q : Option Value → pb_H → Prop), pb_R 177 187 L J st h Q ↔ pb_R 177 191 L J st h Q) ∧
  (∀ (L : pb_L) (J : pb_J) (st : List Value) (h : pb_H) (Q : Option Value → pb_H → Prop), pb_R 177 190 L J st h Q ↔ pb_R 177 191 L J (.int (1 : Int32) :: st) h Q) ∧
  (∀ (L : pb_L) (J : pb_J) (st : List Value) (h : pb_H) (Q : Option Value → pb_H → Prop) (a : Nat) (x : Int32), pb_R 177 191 L J (.int x :: .ref a :: st) h Q ↔ pb_o (pb_pf (h.2 a) 12 15 (.int x)) (fun c => pb_R 177 194 L J st (pb_set h a c) Q)) ∧
  (∀ (L : pb_L) (J : pb_J) (st : List Value) (h : pb_H) (Q : Option Value → pb_H → Prop), pb_R 177 194 L J st h Q ↔ pb_R 177 340 L J st h Q) ∧
  (∀ (l0 l1 l2 l4 l5 : Option Value) (st : List Value) (h : pb_H) (Q : Option Value → pb_H → Prop) (x : Int32), pb_R 177 197 [l0, l1, l2, some (.int x), l4, l5] [] st h Q ↔ pb_R 177 198 [l0, l1, l2, some (.int x), l4, l5] [] (.int x :: st) h Q) ∧
  (∀ (L : pb_L) (J : pb_J) (st : List Value) (h : pb_H) (Q : Option Value → pb_H → Prop), pb_R 177 198 L J st h Q ↔ pb_R 177 200 L J (.int (120 : Int32) :: st) h Q) ∧
  (∀ (L : pb_L) (J : pb_J) (st : List Value) (h : pb_H) (Q : Option Value → pb_H → Prop) (x y : Int32), pb_R 177 200 L J (.int y :: .int x :: st) h Q ↔ if x = y then pb_R 177 209 L J st h Q else pb_R 177 203 L J st h Q) ∧
  (∀ (l0 l1 l2 l4 l5 : Option Value) (st : List Value) (h : pb_H) (Q : Option Value → pb_H → Prop) (x : Int32), pb_R 177 203 [l0, l1, l2, some (.int x), l4, l5] [] st h Q ↔ pb_R 177 204 [l0, l1, l2, some (.int x), l4, l5] [] (.int x :: st) h Q) ∧
  (∀ (L : pb_L) (J : pb_J) (st : List Value) (h : pb_H) (Q : Option Value → pb_H → Prop), pb_R 177 204 L J st h Q ↔ pb_R 177 206 L J (.int (126 : Int32) :: st) h Q) ∧
  (∀ (L : pb_L) (J : pb_J) (st : List Value) (h : pb_H) (Q : Option Value → pb_H → Prop) (x y : Int32), pb_R 177 206 L J (.int y :: .int x :: st) h Q ↔ if ¬ x = y then pb_R 177 215 L J st h Q else pb_R 177 209 L J st h Q) ∧
  (∀ (l1 l2 l3 l4 l5 : Option Value) (st : List Value) (h : pb_H) (Q : Option Value → pb_H → Prop) (x : Nat), pb_R 177 209 [some (.ref x), l1, l2, l3, l4, l5] [] st h Q ↔ pb_R 177 210 [some (.ref x), l1, l2, l3, l4, l5] [] (.ref x :: st) h Q) ∧
  (∀ (l1 l2 l3 l4 l5 : Option Value) (st : List Value) (h : pb_H) (Q : Option Value → pb_H → Prop), pb_R 177 209 [some .null, l1, l2, l3, l4, l5] [] st h Q ↔ pb_R 177 210 [some .null, l1, l2, l3, l4, l5] [] (.null :: st) h Q) ∧
  (∀ (l0 l2 l3 l4 l5 : Option Value) (st : List Value) (h : pb_H) (Q : Option Value → pb_H → Prop) (x : Int32), pb_R 177 210 [l0, some (.int x), l2, l3, l4, l5] [] st h Q ↔ pb_R 177 211 [l0, some (.int x), l2, l3, l4, l5] [] (.int x :: st) h Q) ∧
  (∀ (L : pb_L) (J : pb_J) (h : pb_H) (Q : Option Value → pb_H → Prop) (x0 : Int32) (x1 : Nat), pb_R 177 211 L J [.int x0, .ref x1] h Q ↔ pb_is0 (h.2 x1) 12 = true ∧ pb_call 176 [.ref x1, .int x0] h (fun v t => pb_R 177 214 L J (v.toList ++ []) t Q)) ∧
  (∀ (L : pb_L) (J : pb_J) (h : pb_H) (Q : Option Value → pb_H → Prop), pb_R 177 214 L J [] h Q ↔ Q none h) ∧
  (∀ (l0 l1 l2 l4 l5 : Option Value) (st : List Value) (h : pb_H) (Q : Option Value → pb_H → Prop) (x : Int32), pb_R 177 215 [l0, l1, l2, some (.int x), l4, l5] [] st h Q ↔ pb_R 177 216 [l0, l1, l2, some (.int x), l4, l5] [] (.int x :: st) h Q) ∧
  (∀ (L : pb_L) (J : pb_J) (st : List Value) (h : pb_H) (Q : Option Value → pb_H → Prop), pb_R 177 216 L J st h Q ↔ pb_R 177 218 L J (.int (62 : Int32) :: st) h Q) ∧
  (∀ (L : pb_L) (J : pb_J) (st : List Value) (h : pb_H) (Q : Option Value → pb_H → Prop) (x y : Int32), pb_R 177 218 L J (.int y :: .int x :: st) h Q ↔ if x = y then pb_R 177 227 L J st h Q else pb_R 177 221 L J st h Q) ∧
  (∀ (l0 l1 l2 l4 l5 : Option Value) (st : List Value) (h : pb_H) (Q : Option Value → pb_H → Prop) (x : Int32), pb_R 177 221 [l0, l1, l2, some (.int x), l4, l5] [] st h Q ↔ pb_R 177 222 [l0, l1, l2, some (.int x), l4, l5] [] (.int x :: st) h Q) ∧
  (∀ (L : pb_L) (J : pb_J) (st : List Value) (h : pb_H) (Q : Option Value → pb_H → Prop), pb_R 177 222 L J st h Q ↔ pb_R 177 224 L J (.int (60 : Int32) :: st) h Q) ∧
  (∀ (L : pb_L) (J : pb_J) (st : List Value) (h : pb_H) (Q : Option Value → pb_H → Prop) (x y : Int32), pb_R 177 224 L J (.int y :: .int x :: st) h Q ↔ if ¬ x = y then pb_R 177 253 L J st h Q else pb_R 177 227 L J st h Q) ∧
  (∀ (l1 l2 l3 l4 l5 : Option Value) (st : List Value) (h : pb_H) (Q : Option Value → pb_H → Prop) (x : Nat), pb_R 177 227 [some (.ref x), l1, l2, l3, l4, l5] [] st h Q ↔ pb_R 177 228 [some (.ref x), l1, l2, l3, l4, l5] [] (.ref x :: st) h Q) ∧
  (∀ (l1 l2 l3 l4 l5 : Option Value) (st : List Value) (h : pb_H) (Q : Option Value → pb_H → Prop), pb_R 177 227 [some .null, l1, l2, l3, l4, l5] [] st h Q ↔ pb_R 177 228 [some .null, l1, l2, l3, l4, l5] [] (.null :: st) h Q) ∧
  (∀ (l1 l2 l3 l4 l5 : Option Value) (st : List Value) (h : pb_H) (Q : Option Value → pb_H → Prop) (x : Nat), pb_R 177 228 [some (.ref x), l1, l2, l3, l4, l5] [] st h Q ↔ pb_R 177 229 [some (.ref x), l1, l2, l3, l4, l5] [] (.ref x :: st) h Q) ∧
  (∀ (l1 l2 l3 l4 l5 : Option Value) (st : List Value) (h : pb_H) (Q : Option Value → pb_H → Prop), pb_R 177 228 [some .null, l1, l2, l3, l4, l5] [] st h Q ↔ pb_R 177 229 [some .null, l1, l2, l3, l4, l5] [] (.null :: st) h Q) ∧
  (∀ (l0 l1 l2 l3 l5 : Option Value) (st : List Value) (h : pb_H) (Q : Option Value → pb_H → Prop) (x : Int32), pb_R 177 229 [l0, l1, l2, l3, some (.int x), l5] [] st h Q ↔ pb_R 177 231 [l0, l1, l2, l3, some (.int x), l5] [] (.int x :: st) h Q) ∧
  (∀ (L : pb_L) (J : pb_J) (h : pb_H) (Q : Option Value → pb_H → Prop) (x0 : Int32) (x1 : Nat) (x2 : Nat), pb_R 177 231 L J [.int x0, .ref x1, .ref x2] h Q ↔ pb_is0 (h.2 x1) 12 = true ∧ pb_call 173 [.ref x1, .int x0] h (fun v t => pb_R 177 234 L J (v.toList ++ [.ref x2]) t Q)) ∧
  (∀ (L : pb_L) (J : pb_J) (st : List Value) (h : pb_H) (Q : Option Value → pb_H → Prop), pb_R 177 234 L J st h Q ↔ pb_R 177 236 L J (.int (61 : Int32) :: st) h Q) ∧
  (∀ (L : pb_L) (J : pb_J) (st : List Value) (h : pb_H) (Q : Option Value → pb_H → Prop) (x y : Int32), pb_R 177 236 L J (.int y :: .int x :: st) h Q ↔ if ¬ x = y then pb_R 177 243 L J st h Q else pb_R 177 239 L J st h Q) ∧
  (∀ (L : pb_L) (J : pb_J) (st : List Value) (h : pb_H) (Q : Option Value → pb_H → Prop), pb_R 177 239 L J st h Q ↔ pb_R 177 240 L J (.int (3 : Int32) :: st) h Q) ∧
  (∀ (L : pb_L) (J : pb_J) (st : List Value) (h : pb_H) (Q : Option Value → pb_H → Prop), pb_R 177 240 L J st h Q ↔ pb_R 177 244 L J st h Q) ∧
  (∀ (L : pb_L) (J : pb_J) (st : List Value) (h : pb_H) (Q : Option Value → pb_H → Prop), pb_R 177 243 L J st h Q ↔ pb_R 177 244 L J (.int (4 : Int32) :: st) h Q) ∧
  (∀ (L : pb_L) (J : pb_J) (st : List Value) (h : pb_H) (Q : Option Value → pb_H → Prop) (a : Nat) (x : Int32), pb_R 177 244 L J (.int x :: .ref a :: st) h Q ↔ pb_o (pb_pf (h.2 a) 12 15 (.int x)) (fun c => pb_R 177 247 L J st (pb_set h a c) Q)) ∧
  (∀ (l0 l1 l2 l3 l5 : Option Value) (st : List Value) (h : pb_H) (Q : Option Value → pb_H → Prop) (x : Int32), pb_R 177 247 [l0, l1, l2, l3, some (.int x), l5] [] st h Q ↔ pb_R 177 250 [l0, l1, l2, l3, some (.int (x + (1 : Int32))), l5] [] st h Q) ∧
  (∀ (L : pb_L) (J : pb_J) (st : List Value) (h : pb_H) (Q : Option Value → pb_H → Prop), pb_R 177 250 L J st h Q ↔ pb_R 177 340 L J st h Q) ∧
  (∀ (l0 l1 l2 l4 l5 : Option Value) (st : List Value) (h : pb_H) (Q : Option Value → pb_H → Prop) (x : Int32), pb_R 177 253 [l0, l1, l2, some (.int x), l4, l5] [] st h Q ↔ pb_R 177 254 [l0, l1, l2, some (.int x), l4, l5] [] (.int x :: st) h Q) ∧
  (∀ (L : pb_L) (J : pb_J) (st : List Value) (h : pb_H) (Q : Option Value → pb_H → Prop), pb_R 177 254 L J st h Q ↔ pb_R 177 256 L J (.int (43 : Int32) :: st) h Q) ∧
  (∀ (L : pb_L) (J : pb_J) (st : List Value) (h : pb_H) (Q : Option Value → pb_H → Prop) (x y : Int32), pb_R 177 256 L J (.int y :: .int x :: st) h Q ↔ if x = y then pb_R 177 319 L J st h Q else pb_R 177 259 L J st h Q) ∧
  (∀ (l0 l1 l2 l4 l5 : Option Value) (st : List Value) (h : pb_H) (Q : Option Value → pb_H → Prop) (x : Int32), pb_R 177 259 [l0, l1, l2, some (.int x), l4, l5] [] st h Q ↔ pb_R 177 260 [l0, l1, l2, some (.int x), l4, l5] [] (.int x :: st) h Q) ∧
  (∀ (L : pb_L) (J : pb_J) (st : List Value) (h : pb_H) (Q : Option Value → pb_H → Prop), pb_R 177 260 L J st h Q ↔ pb_R 177 262 L J (.int (45 : Int32) :: st) h Q) ∧
  (∀ (L : pb_L) (J : pb_J) (st : List Value) (h : pb_H) (Q : Option Value → pb_H → Prop) (x y : Int32), pb_R 177 262 L J (.int y :: .int x :: st) h Q ↔ if x = y then pb_R 177 319 L J st h Q else pb_R 177 265 L J st h Q) ∧
  (∀ (l0 l1 l2 l4 l5 : Option Value) (st : List Value) (h : pb_H) (Q : Option Value → pb_H → Prop) (x : Int32), pb_R 177 265 [l0, l1, l2, some (.int x), l4, l5] [] st h Q ↔ pb_R 177 266 [l0, l1, l2, some (.int x), l4, l5] [] (.int x :: st) h Q) ∧
  (∀ (L : pb_L) (J : pb_J) (st : List Value) (h : pb_H) (Q : Option Value → pb_H → Prop), pb_R 177 266 L J st h Q ↔ pb_R 177 268 L J (.int (42 : Int32) :: st) h Q) ∧
  (∀ (L : pb_L) (J : pb_J) (st : List Value) (h : pb_H) (Q : Option Value → pb_H → Prop) (x y : Int32), pb_R 177 268 L J (.int y :: .int x :: st) h Q ↔ if x = y then pb_R 177 319 L J st h Q else pb_R 177 271 L J st h Q) ∧
  (∀ (l0 l1 l2 l4 l5 : Option Value) (st : List Value) (h : pb_H) (Q : Option Value → pb_H → Prop) (x : Int32), pb_R 177 271 [l0, l1, l2, some (.int x), l4, l5] [] st h Q ↔ pb_R 177 272 [l0, l1, l2, some (.int x), l4, l5] [] (.int x :: st) h Q) ∧
  (∀ (L : pb_L) (J : pb_J) (st : List Value) (h : pb_H) (Q : Option Value → pb_H → Prop), pb_R 177 272 L J st h Q ↔ pb_R 177 274 L J (.int (59 : Int32) :: st) h Q) ∧
  (∀ (L : pb_L) (J : pb_J) (st : List Value) (h : pb_H) (Q : Option Value → pb_H → Prop) (x y : Int32), pb_R 177 274 L J (.int y :: .int x :: st) h Q ↔ if x = y then pb_R 177 319 L J st h Q else pb_R 177 277 L J st h Q) ∧
  (∀ (l0 l1 l2 l4 l5 : Option Value) (st : List Value) (h : pb_H) (Q : Option Value → pb_H → Prop) (x : Int32), pb_R 177 277 [l0, l1, l2, some (.int x), l4, l5] [] st h Q ↔ pb_R 177 278 [l0, l1, l2, some (.int x), l4, l5] [] (.int x :: st) h Q) ∧
  (∀ (L : pb_L) (J : pb_J) (st : List Value) (h : pb_H) (Q : Option Value → pb_H → Prop), pb_R 177 278 L J st h Q ↔ pb_R 177 280 L J (.int (61 : Int32) :: st) h Q) ∧
  (∀ (L : pb_L) (J : pb_J) (st : List Value) (h : pb_H) (Q : Option Value → pb_H → Prop) (x y : Int32), pb_R 177 280 L J (.int y :: .int x :: st) h Q ↔ if x = y then pb_R 177 319 L J st h Q else pb_R 177 283 L J st h Q) ∧
  (∀ (l0 l1 l2 l4 l5 : Option Value) (st : List Value) (h : pb_H) (Q : Option Value → pb_H → Prop) (x : Int32), pb_R 177 283 [l0, l1, l2, some (.int x), l4, l5] [] st h Q ↔ pb_R 177 284 [l0, l1, l2, some (.int x), l4, l5] [] (.int x :: st) h Q) ∧
  (∀ (L : pb_L) (J : pb_J) (st : List Value) (h : pb_H) (Q : Option Value → pb_H → Prop), pb_R 177 284 L J st h Q ↔ pb_R 177 286 L J (.int (112 : Int32) :: st) h Q) ∧
  (∀ (L : pb_L) (J : pb_J) (st : List Value) (h : pb_H) (Q : Option Value → pb_H → Prop) (x y : Int32), pb_R 177 286 L J (.int y :: .int x :: st) h Q ↔ if x = y then pb_R 177 319 L J st h Q else pb_R 177 289 L J st h Q) ∧
  (∀ (l0 l1 l2 l4 l5 : Option Value) (st : List Value) (h : pb_H) (Q : Option Value → pb_H → Prop) (x : Int32), pb_R 177 289 [l0, l1, l2, some (.int x), l4, l5] [] st h Q ↔ pb_R 177 290 [l0, l1, l2, some (.int x), l4, l5] [] (.int x :: st) h Q) ∧
  (∀ (L : pb_L) (J : pb_J) (st : List Value) (h : pb_H) (Q : Option Value → pb_H → Prop), pb_R 177 290 L J st h Q ↔ pb_R 177 292 L J (.int (117 : Int32) :: st) h Q) ∧
  (∀ (L : pb_L) (J : pb_J) (st : List Value) (h : pb_H) (Q : Option Value → pb_H → Prop) (x y : Int32), pb_R 177 292 L J (.int y :: .int x :: st) h Q ↔ if x = y then pb_R 177 319 L J st h Q else pb_R 177 295 L J st h Q) ∧
  (∀ (l0 l1 l2 l4 l5 : Option Value) (st : List Value) (h : pb_H) (Q : Option Value → pb_H → Prop) (x : Int32), pb_R 177 295 [l0, l1, l2, some (.int x), l4, l5] [] st h Q ↔ pb_R 177 296 [l0, l1, l2, some (.int x), l4, l5] [] (.int x :: st) h Q) ∧
  (∀ (L : pb_L) (J : pb_J) (st : List Value) (h : pb_H) (Q : Option Value → pb_H → Prop), pb_R 177 296 L J st h Q ↔ pb_R 177 298 L J (.int (99 : Int32) :: st) h Q) ∧
  (∀ (L : pb_L) (J : pb_J) (st : List Value) (h : pb_H) (Q : Option Value → pb_H → Prop) (x y : Int32), pb_R 177 298 L J (.int y :: .int x :: st) h Q ↔ if x = y then pb_R 177 319 L J st h Q else pb_R 177 301 L J st h Q) ∧
  (∀ (l0 l1 l2 l4 l5 : Option Value) (st : List Value) (h : pb_H) (Q : Option Value → pb_H → Prop) (x : Int32), pb_R 177 301 [l0, l1, l2, some (.int x), l4, l5] [] st h Q ↔ pb_R 177 302 [l0, l1, l2, some (.int x), l4, l5] [] (.int x :: st) h Q) ∧
  (∀ (L : pb_L) (J : pb_J) (st : List Value) (h : pb_H) (Q : Option Value → pb_H → Prop), pb_R 177 302 L J st h Q ↔ pb_R 177 304 L J (.int (100 : Int32) :: st) h Q) ∧
  (∀ (L : pb_L) (J : pb_J) (st : List Value) (h : pb_H) (Q : Option Value → pb_H → Prop) (x y : Int32), pb_R 177 304 L J (.int y :: .int x :: st) h Q ↔ if x = y then pb_R 177 319 L J st h Q else pb_R 177 307 L J st h Q) ∧
  (∀ (l0 l1 l2 l4 l5 : Option Value) (st : List Value) (h : pb_H) (Q : Option Value → pb_H → Prop) (x : Int32), pb_R 177 307 [l0, l1, l2, some (.int x), l4, l5] [] st h Q ↔ pb_R 177 308 [l0, l1, l2, some (.int x), l4, l5] [] (.int x :: st) h Q) ∧
  (∀ (L : pb_L) (J : pb_J) (st : List Value) (h : pb_H) (Q : Option Value → pb_H → Prop), pb_R 177 308 L J st h Q ↔ pb_R 177 310 L J (.int (115 : Int32) :: st) h Q) ∧
  (∀ (L : pb_L) (J : pb_J) (st : List Value) (h : pb_H) (Q : Option Value → pb_H → Prop) (x y : Int32), pb_R 177 310 L J (.int y :: .int x :: st) h Q ↔ if x = y then pb_R 177 319 L J st h Q else pb_R 177 313 L J st h Q) ∧
  (∀ (l0 l1 l2 l4 l5 : Option Value) (st : List Value) (h : pb_H) (Q : Option Value → pb_H → Prop) (x : Int32), pb_R 177 313 [l0, l1, l2, some (.int x), l4, l5] [] st h Q ↔ pb_R 177 314 [l0, l1, l2, some (.int x), l4, l5] [] (.int x :: st) h Q) ∧
  (∀ (L : pb_L) (J : pb_J) (st : List Value) (h : pb_H) (Q : Option Value → pb_H → Prop), pb_R 177 314 L J st h Q ↔ pb_R 177 316 L J (.int (119 : Int32) :: st) h Q) ∧
  (∀ (L : pb_L) (J : pb_J) (st : List Value) (h : pb_H) (Q : Option Value → pb_H → Prop) (x y : Int32), pb_R 177 316 L J (.int y :: .int x :: st) h Q ↔ if ¬ x = y then pb_R 177 323 L J st h Q else pb_R 177 319 L J st h Q) ∧
  (∀ (L : pb_L) (J : pb_J) (st : List Value) (h : pb_H) (Q : Option Value → pb_H → Prop), pb_R 177 319 L J st h Q ↔ pb_R 177 320 L J (.int (1 : Int32) :: st) h Q) ∧
  (∀ (L : pb_L) (J : pb_J) (st : List Value) (h : pb_H) (Q : Option Value → pb_H → Prop), pb_R 177 320 L J st h Q ↔ pb_R 177 324 L J st h Q) ∧
  (∀ (L : pb_L) (J : pb_J) (st : List Value) (h : pb_H) (Q : Option Value → pb_H → Prop), pb_R 177 323 L J st h Q ↔ pb_R 177 324 L J (.int (0 : Int32) :: st) h Q) ∧
  (∀ (l0 l1 l2 l3 l4 l5 : Option Value) (st : List Value) (h : pb_H) (Q : Option Value → pb_H → Prop) (x : Int32), pb_R 177 324 [l0, l1, l2, l3, l4, l5] [] (.int x :: st) h Q ↔ pb_R 177 326 [l0, l1, l2, l3, l4, some (.int x)] [] st h Q) ∧
  (∀ (l1 l2 l3 l4 l5 : Option Value) (st : List Value) (h : pb_H) (Q : Option Value → pb_H → Prop) (x : Nat), pb_R 177 326 [some (.ref x), l1, l2, l3, l4, l5] [] st h Q ↔ pb_R 177 327 [some (.ref x), l1, l2, l3, l4, l5] [] (.ref x :: st) h Q) ∧
  (∀ (l1 l2 l3 l4 l5 : Option Value) (st : List Value) (h : pb_H) (Q : Option Value → pb_H → Prop), pb_R 177 326 [some .null, l1, l2, l3, l4, l5] [] st h Q ↔ pb_R 177 327 [some .null, l1, l2, l3, l4, l5] [] (.null :: st) h Q) ∧
  (∀ (l0 l1 l2 l3 l4 : Option Value) (st : List Value) (h : pb_H) (Q : Option Value → pb_H → Prop) (x : Int32), pb_R 177 327 [l0, l1, l2, l3, l4, some (.int x)] [] st h Q ↔ pb_R 177 329 [l0, l1, l2, l3, l4, some (.int x)] [] (.int x :: st) h Q) ∧
  (∀ (L : pb_L) (J : pb_J) (st : List Value) (h : pb_H) (Q : Option Value → pb_H → Prop) (x : Int32), pb_R 177 329 L J (.int x :: st) h Q ↔ if x = 0 then pb_R 177 336 L J st h Q else pb_R 177 332 L J st h Q) ∧
  (∀ (L : pb_L) (J : pb_J) (st : List Value) (h : pb_H) (Q : Option Value → pb_H → Prop), pb_R 177 332 L J st h Q ↔ pb_R 177 333 L J (.int (3 : Int32) :: st) h Q) ∧
  (∀ (L : pb_L) (J : pb_J) (st : List Value) (h : pb_H) (Q : Option Value → pb_H → Prop), pb_R 177 333 L J st h Q ↔ pb_R 177 337 L J st h Q) ∧
  (∀ (L : pb_L) (J : pb_J) (st : List Value) (h : pb_H) (Q : Option Value → pb_H → Prop), pb_R 177 336 L J st h Q ↔ pb_R 177 337 L J (.int (4 : Int32) :: st) h Q) ∧
  (∀ (L : pb_L) (J : pb_J) (st : List Value) (h : pb_H) (Q : Option Value → pb_H → Prop) (a : Nat) (x : Int32), pb_R 177 337 L J (.int x :: .ref a :: st) h Q ↔ pb_o (pb_pf (h.2 a) 12 15 (.int x)) (fun c => pb_R 177 340 L J st (pb_set h a c) Q)) ∧
  (∀ (l1 l2 l3 l4 l5 : Option Value) (st : List Value) (h : pb_H) (Q : Option Value → pb_H → Prop) (x : Nat), pb_R 177 340 [some (.ref x), l1, l2, l3, l4, l5] [] st h Q ↔ pb_R 177 341 [some (.ref x), l1, l2, l3, l4, l5] [] (.ref x :: st) h Q) ∧
  (∀ (l1 l2 l3 l4 l5 : Option Value) (st : List Value) (h : pb_H) (Q : Option Value → pb_H → Prop), pb_R 177 340 [some .null, l1, l2, l3, l4, l5] [] st h Q ↔ pb_R 177 341 [some .null, l1, l2, l3, l4, l5] [] (.null :: st) h Q) ∧
  (∀ (l0 l1 l2 l3 l5 : Option Value) (st : List Value) (h : pb_H) (Q : Option Value → pb_H → Prop) (x : Int32), pb_R 177 341 [l0, l1, l2, l3, some (.int x), l5] [] st h Q ↔ pb_R 177 343 [l0, l1, l2, l3, some (.int x), l5] [] (.int x :: st) h Q) ∧
  (∀ (L : pb_L) (J : pb_J) (st : List Value) (h : pb_H) (Q : Option Value → pb_H → Prop) (a : Nat) (x : Int32), pb_R 177 343 L J (.int x :: .ref a :: st) h Q ↔ pb_o (pb_pf (h.2 a) 12 17 (.int x)) (fun c => pb_R 177 346 L J st (pb_set h a c) Q)) ∧
  (∀ (L : pb_L) (J : pb_J) (h : pb_H) (Q : Option Value → pb_H → Prop), pb_R 177 346 L J [] h Q ↔ Q none h) := ⟨
  fun l1 l2 l3 l4 l5 st h Q x => pf_S pb_u_177 rfl rfl,
  fun l1 l2 l3 l4 l5 st h Q => pf_S pb_u_177 rfl rfl,
  fun L J st h Q a => pf_gf pb_u_177 rfl rfl,
  fun l0 l1 l2 l3 l4 l5 st h Q x => pf_S pb_u_177 rfl rfl,
  fun L J st h Q => pf_S pb_u_177 rfl rfl,
  fun l0 l1 l2 l3 l4 l5 st h Q x => pf_S pb_u_177 rfl rfl,
  fun l1 l2 l3 l4 l5 st h Q x => pf_S pb_u_177 rfl rfl,
  fun l1 l2 l3 l4 l5 st h Q => pf_S pb_u_177 rfl rfl,
  fun L J st h Q a => pf_gf pb_u_177 rfl rfl,
  fun L J st h Q x y => pf_ic pb_u_177 rfl rfl rfl,
  fun l1 l2 l3 l4 l5 st h Q x => pf_S pb_u_177 rfl rfl,
  fun l1 l2 l3 l4 l5 st h Q => pf_S pb_u_177 rfl rfl,
  fun L J st h Q a => pf_gf pb_u_177 rfl rfl,
  fun l0 l2 l3 l4 l5 st h Q x => pf_S pb_u_177 rfl rfl,
  fun L J st h Q a i => pf_ab pb_u_177 rfl rfl,
  fun L J h Q x0 => pf_ks pb_u_177 rfl rfl rfl rfl,
  fun L J st h Q x => pf_ii pb_u_177 rfl rfl rfl,
  fun l0 l1 l3 l4 l5 st h Q x => pf_S pb_u_177 rfl rfl,
  fun L J st h Q x => pf_ii pb_u_177 rfl rfl pf_ne,
  fun l1 l2 l3 l4 l5 st h Q x => pf_S pb_u_177 rfl rfl,
  fun l1 l2 l3 l4 l5 st h Q => pf_S pb_u_177 rfl rfl,
  fun L J st h Q a => pf_gf pb_u_177 rfl rfl,
  fun l0 l2 l3 l4 l5 st h Q x => pf_S pb_u_177 rfl rfl,
  fun L J st h Q a i => pf_ab pb_u_177 rfl rfl,
  fun L J st h Q => pf_S pb_u_177 rfl rfl,
  fun L J st h Q x y => pf_ic pb_u_177 rfl rfl rfl,
  fun l1 l2 l3 l4 l5 st h Q x => pf_S pb_u_177 rfl rfl,
  fun l1 l2 l3 l4 l5 st h Q => pf_S pb_u_177 rfl rfl,
  fun L J st h Q a => pf_gf pb_u_177 rfl rfl,
  fun l0 l2 l3 l4 l5 st h Q x => pf_S pb_u_177 rfl rfl,
  fun L J st h Q a i => pf_ab pb_u_177 rfl rfl,
  fun L J st h Q => pf_S pb_u_177 rfl rfl,
  fun L J st h Q x y => pf_ic pb_u_177 rfl rfl rfl,
  fun l1 l2 l3 l4 l5 st h Q x => pf_S pb_u_177 rfl rfl,
  fun l1 l2 l3 l4 l5 st h Q => pf_S pb_u_177 rfl rfl,
  fun L J st h Q a => pf_gf pb_u_177 rfl rfl,
  fun l0 l2 l3 l4 l5 st h Q x => pf_S pb_u_177 rfl rfl,
  fun L J st h Q a i => pf_ab pb_u_177 rfl rfl,
  fun L J st h Q => pf_S pb_u_177 rfl rfl,
  fun L J st h Q x y => pf_ic pb_u_177 rfl rfl rfl,
  fun l1 l2 l3 l4 l5 st h Q x => pf_S pb_u_177 rfl rfl,
  fun l1 l2 l3 l4 l5 st h Q => pf_S pb_u_177 rfl rfl,
  fun L J st h Q a => pf_gf pb_u_177 rfl rfl,
  fun l0 l2 l3 l4 l5 st h Q x => pf_S pb_u_177 rfl rfl,
  fun L J st h Q a i => pf_ab pb_u_177 rfl rfl,
  fun L J st h Q => pf_S pb_u_177 rfl rfl,
  fun L J st h Q x y => pf_ic pb_u_177 rfl rfl pf_ne,
  fun l1 l2 l3 l4 l5 st h Q x => pf_S pb_u_177 rfl rfl,
  fun l1 l2 l3 l4 l5 st h Q => pf_S pb_u_177 rfl rfl,
  fun L J st h Q a => pf_gf pb_u_177 rfl rfl,
  fun l0 l2 l3 l4 l5 st h Q x => pf_S pb_u_177 rfl rfl,
  fun L J st h Q a i => pf_ab pb_u_177 rfl rfl,
  fun L J st h Q => pf_S pb_u_177 rfl rfl,
  fun L J st h Q x y => pf_ic pb_u_177 rfl rfl rfl,
  fun l0 l1 l3 l4 l5 st h Q x => pf_S pb_u_177 rfl rfl,
  fun L J st h Q x => pf_ii pb_u_177 rfl rfl rfl,
  fun l1 l2 l3 l4 l5 st h Q x => pf_S pb_u_177 rfl rfl,
  fun l1 l2 l3 l4 l5 st h Q => pf_S pb_u_177 rfl rfl,
  fun L J st h Q a => pf_gf pb_u_177 rfl rfl,
  fun l0 l2 l3 l4 l5 st h Q x => pf_S pb_u_177 rfl rfl,
  fun L J st h Q a i => pf_ab pb_u_177 rfl rfl,
  fun L J st h Q => pf_S pb_u_177 rfl rfl,
  fun L J st h Q x y => pf_ic pb_u_177 rfl rfl rfl,
  fun L J st h Q => pf_S pb_u_177 rfl rfl,
  fun L J st h Q => pf_S pb_u_177 rfl rfl,
  fun L J st h Q => pf_S pb_u_177 rfl rfl,
  fun l0 l1 l2 l3 l4 l5 st h Q x => pf_S pb_u_177 rfl rfl,
  fun l0 l2 l3 l4 l5 st h Q x => pf_S pb_u_177 rfl rfl,
  fun L J st h Q => pf_S pb_u_177 rfl rfl,
  fun l1 l2 l3 l4 l5 st h Q x => pf_S pb_u_177 rfl rfl,
  fun l1 l2 l3 l4 l5 st h Q => pf_S pb_u_177 rfl rfl,
  fun l0 l2 l3 l4 l5 st h Q x => pf_S pb_u_177 rfl rfl,
  fun L J st h Q a x => pf_pf pb_u_177 rfl rfl,
  fun l1 l2 l3 l4 l5 st h Q x => pf_S pb_u_177 rfl rfl,
  fun l1 l2 l3 l4 l5 st h Q => pf_S pb_u_177 rfl rfl,
  fun l0 l2 l3 l4 l5 st h Q x => pf_S pb_u_177 rfl rfl,
  fun L J h Q x0 x1 => pf_kv pb_u_177 rfl pb_ci_173 rfl ⟨Nat.le_of_ble_eq_true rfl, Nat.le_of_ble_eq_true rfl, Nat.le_of_ble_eq_true rfl, Nat.le_of_ble_eq_true rfl, rfl⟩ rfl rfl,
  fun l0 l1 l2 l3 l4 l5 st h Q x => pf_S pb_u_177 rfl rfl,
  fun l0 l2 l3 l4 l5 st h Q x => pf_S pb_u_177 rfl rfl,
  fun L J st h Q => pf_S pb_u_177 rfl rfl,
  fun L J st x y h Q => pf_S pb_u_177 rfl rfl,
  fun l0 l1 l2 l3 l4 l5 st h Q x => pf_S pb_u_177 rfl rfl,
  fun l1 l2 l3 l4 l5 st h Q x => pf_S pb_u_177 rfl rfl,
  fun l1 l2 l3 l4 l5 st h Q => pf_S pb_u_177 rfl rfl,
  fun l0 l1 l2 l4 l5 st h Q x => pf_S pb_u_177 rfl rfl,
  fun L J st h Q a x => pf_pf pb_u_177 rfl rfl,
  fun l0 l2 l3 l4 l5 st h Q x => pf_S pb_u_177 rfl rfl,
  fun l1 l2 l3 l4 l5 st h Q x => pf_S pb_u_177 rfl rfl,
  fun l1 l2 l3 l4 l5 st h Q => pf_S pb_u_177 rfl rfl,
  fun L J st h Q a => pf_gf pb_u_177 rfl rfl,
  fun L J st h Q x y => pf_ic pb_u_177 rfl rfl rfl,
  fun l1 l2 l3 l4 l5 st h Q x => pf_S pb_u_177 rfl rfl,
  fun l1 l2 l3 l4 l5 st h Q => pf_S pb_u_177 rfl rfl,
  fun L J st h Q => pf_S pb_u_177 rfl rfl,
  fun L J st h Q a x => pf_pf pb_u_177 rfl rfl,
  fun l0 l2 l3 l4 l5 st h Q x => pf_S pb_u_177 rfl rfl,
  fun l0 l1 l2 l3 l4 l5 st h Q x => pf_S pb_u_177 rfl rfl,
  fun L J st h Q => pf_S pb_u_177 rfl rfl,
  fun l1 l2 l3 l4 l5 st h Q x => pf_S pb_u_177 rfl rfl,
  fun l1 l2 l3 l4 l5 st h Q => pf_S pb_u_177 rfl rfl,
  fun l0 l2 l3 l4 l5 st h Q x => pf_S pb_u_177 rfl rfl,
  fun L J h Q x0 x1 => pf_kv pb_u_177 rfl pb_ci_174 rfl ⟨Nat.le_of_ble_eq_true rfl, Nat.le_of_ble_eq_true rfl, Nat.le_of_ble_eq_true rfl, Nat.le_of_ble_eq_true rfl, rfl⟩ rfl rfl,
  fun L J st h Q x => pf_ii pb_u_177 rfl rfl rfl,
  fun l0 l1 l2 l3 l5 st h Q x => pf_S pb_u_177 rfl rfl,
  fun L J h Q x0 x1 => pf_kv pb_u_177 rfl pb_ci_174 rfl ⟨Nat.le_of_ble_eq_true rfl, Nat.le_of_ble_eq_true rfl, Nat.le_of_ble_eq_true rfl, Nat.le_of_ble_eq_true rfl, rfl⟩ rfl rfl,
  fun L J st h Q x => pf_ii pb_u_177 rfl rfl rfl,
  fun l0 l1 l2 l3 l5 st h Q x => pf_S pb_u_177 rfl rfl,
  fun L J st h Q => pf_S pb_u_177 rfl rfl,
  fun l1 l2 l3 l4 l5 st h Q x => pf_S pb_u_177 rfl rfl,
  fun l1 l2 l3 l4 l5 st h Q => pf_S pb_u_177 rfl rfl,
  fun l0 l1 l2 l3 l5 st h Q x => pf_S pb_u_177 rfl rfl,
  fun l0 l2 l3 l4 l5 st h Q x => pf_S pb_u_177 rfl rfl,
  fun L J st x y h Q => pf_S pb_u_177 rfl rfl,
  fun L J st h Q => pf_S pb_u_177 rfl rfl,
  fun L J st h Q x y => pf_ic pb_u_177 rfl rfl rfl,
  fun L J st h Q => pf_S pb_u_177 rfl rfl,
  fun L J st h Q => pf_S pb_u_177 rfl rfl,
  fun L J st h Q => pf_S pb_u_177 rfl rfl,
  fun L J st h Q a x => pf_pf pb_u_177 rfl rfl,
  fun L J st h Q => pf_S pb_u_177 rfl rfl,
  fun l0 l1 l2 l4 l5 st h Q x => pf_S pb_u_177 rfl rfl,
  fun L J st h Q => pf_S pb_u_177 rfl rfl,
  fun L J st h Q x y => pf_ic pb_u_177 rfl rfl rfl,
  fun l0 l1 l2 l4 l5 st h Q x => pf_S pb_u_177 rfl rfl,
  fun L J st h Q => pf_S pb_u_177 rfl rfl,
  fun L J st h Q x y => pf_ic pb_u_177 rfl rfl pf_ne,
  fun l1 l2 l3 l4 l5 st h Q x => pf_S pb_u_177 rfl rfl,
  fun l1 l2 l3 l4 l5 st h Q => pf_S pb_u_177 rfl rfl,
  fun l0 l2 l3 l4 l5 st h Q x => pf_S pb_u_177 rfl rfl,
  fun L J h Q x0 x1 => pf_kv pb_u_177 rfl pb_ci_176 rfl ⟨Nat.le_of_ble_eq_true rfl, Nat.le_of_ble_eq_true rfl, Nat.le_of_ble_eq_true rfl, Nat.le_of_ble_eq_true rfl, rfl⟩ rfl rfl,
  fun L J h Q => pf_rv pb_u_177 rfl rfl,
  fun l0 l1 l2 l4 l5 st h Q x => pf_S pb_u_177 rfl rfl,
  fun L J st h Q => pf_S pb_u_177 rfl rfl,
  fun L J st h Q x y => pf_ic pb_u_177 rfl rfl rfl,
  fun l0 l1 l2 l4 l5 st h Q x => pf_S pb_u_177 rfl rfl,
  fun L J st h Q => pf_S pb_u_177 rfl rfl,
  fun L J st h Q x y => pf_ic pb_u_177 rfl rfl pf_ne,
  fun l1 l2 l3 l4 l5 st h Q x => pf_S pb_u_177 rfl rfl,
  fun l1 l2 l3 l4 l5 st h Q => pf_S pb_u_177 rfl rfl,
  fun l1 l2 l3 l4 l5 st h Q x => pf_S pb_u_177 rfl rfl,
  fun l1 l2 l3 l4 l5 st h Q => pf_S pb_u_177 rfl rfl,
  fun l0 l1 l2 l3 l5 st h Q x => pf_S pb_u_177 rfl rfl,
  fun L J h Q x0 x1 x2 => pf_kv pb_u_177 rfl pb_ci_173 rfl ⟨Nat.le_of_ble_eq_true rfl, Nat.le_of_ble_eq_true rfl, Nat.le_of_ble_eq_true rfl, Nat.le_of_ble_eq_true rfl, rfl⟩ rfl rfl,
  fun L J st h Q => pf_S pb_u_177 rfl rfl,
  fun L J st h Q x y => pf_ic pb_u_177 rfl rfl pf_ne,
  fun L J st h Q => pf_S pb_u_177 rfl rfl,
  fun L J st h Q => pf_S pb_u_177 rfl rfl,
  fun L J st h Q => pf_S pb_u_177 rfl rfl,
  fun L J st h Q a x => pf_pf pb_u_177 rfl rfl,
  fun l0 l1 l2 l3 l5 st h Q x => pf_S pb_u_177 rfl rfl,
  fun L J st h Q => pf_S pb_u_177 rfl rfl,
  fun l0 l1 l2 l4 l5 st h Q x => pf_S pb_u_177 rfl rfl,
  fun L J st h Q => pf_S pb_u_177 rfl rfl,
  fun L J st h Q x y => pf_ic pb_u_177 rfl rfl rfl,
  fun l0 l1 l2 l4 l5 st h Q x => pf_S pb_u_177 rfl rfl,
  fun L J st h Q => pf_S pb_u_177 rfl rfl,
  fun L J st h Q x y => pf_ic pb_u_177 rfl rfl rfl,
  fun l0 l1 l2 l4 l5 st h Q x => pf_S pb_u_177 rfl rfl,
  fun L J st h Q => pf_S pb_u_177 rfl rfl,
  fun L J st h Q x y => pf_ic pb_u_177 rfl rfl rfl,
  fun l0 l1 l2 l4 l5 st h Q x => pf_S pb_u_177 rfl rfl,
  fun L J st h Q => pf_S pb_u_177 rfl rfl,
  fun L J st h Q x y => pf_ic pb_u_177 rfl rfl rfl,
  fun l0 l1 l2 l4 l5 st h Q x => pf_S pb_u_177 rfl rfl,
  fun L J st h Q => pf_S pb_u_177 rfl rfl,
  fun L J st h Q x y => pf_ic pb_u_177 rfl rfl rfl,
  fun l0 l1 l2 l4 l5 st h Q x => pf_S pb_u_177 rfl rfl,
  fun L J st h Q => pf_S pb_u_177 rfl rfl,
  fun L J st h Q x y => pf_ic pb_u_177 rfl rfl rfl,
  fun l0 l1 l2 l4 l5 st h Q x => pf_S pb_u_177 rfl rfl,
  fun L J st h Q => pf_S pb_u_177 rfl rfl,
  fun L J st h Q x y => pf_ic pb_u_177 rfl rfl rfl,
  fun l0 l1 l2 l4 l5 st h Q x => pf_S pb_u_177 rfl rfl,
  fun L J st h Q => pf_S pb_u_177 rfl rfl,
  fun L J st h Q x y => pf_ic pb_u_177 rfl rfl rfl,
  fun l0 l1 l2 l4 l5 st h Q x => pf_S pb_u_177 rfl rfl,
  fun L J st h Q => pf_S pb_u_177 rfl rfl,
  fun L J st h Q x y => pf_ic pb_u_177 rfl rfl rfl,
  fun l0 l1 l2 l4 l5 st h Q x => pf_S pb_u_177 rfl rfl,
  fun L J st h Q => pf_S pb_u_177 rfl rfl,
  fun L J st h Q x y => pf_ic pb_u_177 rfl rfl rfl,
  fun l0 l1 l2 l4 l5 st h Q x => pf_S pb_u_177 rfl rfl,
  fun L J st h Q => pf_S pb_u_177 rfl rfl,
  fun L J st h Q x y => pf_ic pb_u_177 rfl rfl pf_ne,
  fun L J st h Q => pf_S pb_u_177 rfl rfl,
  fun L J st h Q => pf_S pb_u_177 rfl rfl,
  fun L J st h Q => pf_S pb_u_177 rfl rfl,
  fun l0 l1 l2 l3 l4 l5 st h Q x => pf_S pb_u_177 rfl rfl,
  fun l1 l2 l3 l4 l5 st h Q x => pf_S pb_u_177 rfl rfl,
  fun l1 l2 l3 l4 l5 st h Q => pf_S pb_u_177 rfl rfl,
  fun l0 l1 l2 l3 l4 st h Q x => pf_S pb_u_177 rfl rfl,
  fun L J st h Q x => pf_ii pb_u_177 rfl rfl rfl,
  fun L J st h Q => pf_S pb_u_177 rfl rfl,
  fun L J st h Q => pf_S pb_u_177 rfl rfl,
  fun L J st h Q => pf_S pb_u_177 rfl rfl,
  fun L J st h Q a x => pf_pf pb_u_177 rfl rfl,
  fun l1 l2 l3 l4 l5 st h Q x => pf_S pb_u_177 rfl rfl,
  fun l1 l2 l3 l4 l5 st h Q => pf_S pb_u_177 rfl rfl,
  fun l0 l1 l2 l3 l5 st h Q x => pf_S pb_u_177 rfl rfl,
  fun L J st h Q a x => pf_pf pb_u_177 rfl rfl,
  fun L J h Q => pf_rv pb_u_177 rfl rfl⟩
theorem pb_c177 (x0 : Nat) (h : pb_H) (Q : Option Value → pb_H → Prop) : pb_call 177 [.ref x0] h Q ↔ pb_R 177 0 [some (.ref x0), none, none, none, none, none] [] [] h Q := Iff.rfl
/-! 178: PlaneBenchModel.isMark(I)Z -/
theorem pb_u_178 : pb_t 178 = pb_t178 := rfl
theorem pb_ci_178 : pb_ci 178 = 12 := by decide +kernel
set_option maxRecDepth 100000 in
theorem pb_e178 : (∀ (l1 : Option Value) (st : List Value) (h : pb_H) (Q : Option Value → pb_H → Prop) (x : Nat), pb_R 178 0 [some (.ref x), l1] [] st h Q ↔ pb_R 178 1 [some (.ref x), l1] [] (.ref x :: st) h Q) ∧
  (∀ (l1 : Option Value) (st : List Value) (h : pb_H) (Q : Option Value → pb_H → Prop), pb_R 178 0 [some .null, l1] [] st h Q ↔ pb_R 178 1 [some .null, l1] [] (.null :: st) h Q) ∧
  (∀ (L : pb_L) (J : pb_J) (st : List Value) (h : pb_H) (Q : Option Value → pb_H → Prop) (a : Nat), pb_R 178 1 L J (.ref a :: st) h Q ↔ pb_o (pb_gf (h.2 a) 12 15) (fun v => pb_R 178 4 L J (v :: st) h Q)) ∧
  (∀ (L : pb_L) (J : pb_J) (st : List Value) (h : pb_H) (Q : Option Value → pb_H → Prop), pb_R 178 4 L J st h Q ↔ pb_R 178 5 L J (.int (3 : Int32) :: st) h Q) ∧
  (∀ (L : pb_L) (J : pb_J) (st : List Value) (h : pb_H) (Q : Option Value → pb_H → Prop) (x y : Int32), pb_R 178 5 L J (.int y :: .int x :: st) h Q ↔ if ¬ x = y then pb_R 178 20 L J st h Q else pb_R 178 8 L J st h Q) ∧
  (∀ (l1 : Option Value) (st : List Value) (h : pb_H) (Q : Option Value → pb_H → Prop) (x : Nat), pb_R 178 8 [some (.ref x), l1] [] st h Q ↔ pb_R 178 9 [some (.ref x), l1] [] (.ref x :: st) h Q) ∧
  (∀ (l1 : Option Value) (st : List Value) (h : pb_H) (Q : Option Value → pb_H → Prop), pb_R 178 8 [some .null, l1] [] st h Q ↔ pb_R 178 9 [some .null, l1] [] (.null :: st) h Q) ∧
  (∀ (L : pb_L) (J : pb_J) (st : List Value) (h : pb_H) (Q : Option Value → pb_H → Prop) (a : Nat), pb_R 178 9 L J (.ref a :: st) h Q ↔ pb_o (pb_gf (h.2 a) 12 18) (fun v => pb_R 178 12 L J (v :: st) h Q)) ∧
  (∀ (l0 : Option Value) (st : List Value) (h : pb_H) (Q : Option Value → pb_H → Prop) (x : Int32), pb_R 178 12 [l0, some (.int x)] [] st h Q ↔ pb_R 178 13 [l0, some (.int x)] [] (.int x :: st) h Q) ∧
  (∀ (L : pb_L) (J : pb_J) (st : List Value) (h : pb_H) (Q : Option Value → pb_H → Prop) (x y : Int32), pb_R 178 13 L J (.int y :: .int x :: st) h Q ↔ if ¬ x = y then pb_R 178 20 L J st h Q else pb_R 178 16 L J st h Q) ∧
  (∀ (L : pb_L) (J : pb_J) (st : List Value) (h : pb_H) (Q : Option Value → pb_H → Prop), pb_R 178 16 L J st h Q ↔ pb_R 178 17 L J (.int (1 : Int32) :: st) h Q) ∧
  (∀ (L : pb_L) (J : pb_J) (st : List Value) (h : pb_H) (Q : Option Value → pb_H → Prop), pb_R 178 17 L J st h Q ↔ pb_R 178 21 L J st h Q) ∧
  (∀ (L : pb_L) (J : pb_J) (st : List Value) (h : pb_H) (Q : Option Value → pb_H → Prop), pb_R 178 20 L J st h Q ↔ pb_R 178 21 L J (.int (0 : Int32) :: st) h Q) ∧
  (∀ (L : pb_L) (J : pb_J) (h : pb_H) (Q : Option Value → pb_H → Prop) (x : Int32), pb_R 178 21 L J [.int x] h Q ↔ narrow .boolean (.int x) = .int x ∧ Q (some (.int x)) h) := ⟨
  fun l1 st h Q x => pf_S pb_u_178 rfl rfl,
  fun l1 st h Q => pf_S pb_u_178 rfl rfl,
  fun L J st h Q a => pf_gf pb_u_178 rfl rfl,
  fun L J st h Q => pf_S pb_u_178 rfl rfl,
  fun L J st h Q x y => pf_ic pb_u_178 rfl rfl pf_ne,
  fun l1 st h Q x => pf_S pb_u_178 rfl rfl,
  fun l1 st h Q => pf_S pb_u_178 rfl rfl,
  fun L J st h Q a => pf_gf pb_u_178 rfl rfl,
  fun l0 st h Q x => pf_S pb_u_178 rfl rfl,
  fun L J st h Q x y => pf_ic pb_u_178 rfl rfl pf_ne,
  fun L J st h Q => pf_S pb_u_178 rfl rfl,
  fun L J st h Q => pf_S pb_u_178 rfl rfl,
  fun L J st h Q => pf_S pb_u_178 rfl rfl,
  fun L J h Q x => pf_rz pb_u_178 rfl rfl⟩
theorem pb_c178 (x0 : Nat) (x1 : Int32) (h : pb_H) (Q : Option Value → pb_H → Prop) : pb_call 178 [.ref x0, .int x1] h Q ↔ pb_R 178 0 [some (.ref x0), some (.int x1)] [] [] h Q := Iff.rfl
/-! 179: PlaneBenchModel.variable()I -/
theorem pb_u_179 : pb_t 179 = pb_t179 := rfl
theorem pb_ci_179 : pb_ci 179 = 12 := by decide +kernel
set_option maxRecDepth 100000 in
theorem pb_q179_29 (l0 l1 l2 : Option Value) (st : List Value) (h : pb_H) (Q : Option Value → pb_H → Prop) (x : Int32) : pb_R 179 29 [l0, l1, l2, some (.int x)] [] st h Q ↔ pb_R 179 30 [l0, l1, l2, some (.int x)] [] (.int x :: st) h Q := pf_S pb_u_179 rfl rfl
set_option maxRecDepth 100000 in
theorem pb_e179 : (∀ (l1 l2 l3 : Option Value) (st : List Value) (h : pb_H) (Q : Option Value → pb_H → Prop) (x : Nat), pb_R 179 0 [some (.ref x), l1, l2, l3] [] st h Q ↔ pb_R 179 1 [some (.ref x), l1, l2, l3] [] (.ref x :: st) h Q) ∧
  (∀ (l1 l2 l3 : Option Value) (st : List Value) (h : pb_H) (Q : Option Value → pb_H → Prop), pb_R 179 0 [some .null, l1, l2, l3] [] st h Q ↔ pb_R 179 1 [some .null, l1, l2, l3] [] (.null :: st) h Q) ∧
  (∀ (L : pb_L) (J : pb_J) (st : List Value) (h : pb_H) (Q : Option Value → pb_H → Prop) (a : Nat), pb_R 179 1 L J (.ref a :: st) h Q ↔ pb_o (pb_gf (h.2 a) 12 18) (fun v => pb_R 179 4 L J (v :: st) h Q)) ∧
  (∀ (L : pb_L) (J : pb_J) (st : List Value) (h : pb_H) (Q : Option Value → pb_H → Prop), pb_R 179 4 L J st h Q ↔ pb_R 179 6 L J (.int (126 : Int32) :: st) h Q) ∧
  (∀ (L : pb_L) (J : pb_J) (st : List Value) (h : pb_H) (Q : Option Value → pb_H → Prop) (x y : Int32), pb_R 179 6 L J (.int y :: .int x :: st) h Q ↔ if ¬ x = y then pb_R 179 18 L J st h Q else pb_R 179 9 L J st h Q) ∧
  (∀ (l1 l2 l3 : Option Value) (st : List Value) (h : pb_H) (Q : Option Value → pb_H → Prop) (x : Nat), pb_R 179 9 [some (.ref x), l1, l2, l3] [] st h Q ↔ pb_R 179 10 [some (.ref x), l1, l2, l3] [] (.ref x :: st) h Q) ∧
  (∀ (l1 l2 l3 : Option Value) (st : List Value) (h : pb_H) (Q : Option Value → pb_H → Prop), pb_R 179 9 [some .null, l1, l2, l3] [] st h Q ↔ pb_R 179 10 [some .null, l1, l2, l3] [] (.null :: st) h Q) ∧
  (∀ (L : pb_L) (J : pb_J) (st : List Value) (h : pb_H) (Q : Option Value → pb_H → Prop) (a : Nat), pb_R 179 10 L J (.ref a :: st) h Q ↔ pb_o (pb_gf (h.2 a) 12 16) (fun v => pb_R 179 13 L J (v :: st) h Q)) ∧
  (∀ (L : pb_L) (J : pb_J) (st : List Value) (h : pb_H) (Q : Option Value → pb_H → Prop), pb_R 179 13 L J st h Q ↔ pb_R 179 14 L J (.int (1 : Int32) :: st) h Q) ∧
  (∀ (L : pb_L) (J : pb_J) (st : List Value) (x y : Int32) (h : pb_H) (Q : Option Value → pb_H → Prop), pb_R 179 14 L J (.int y :: .int x :: st) h Q ↔ pb_R 179 15 L J (.int (x + y) :: st) h Q) ∧
  (∀ (L : pb_L) (J : pb_J) (st : List Value) (h : pb_H) (Q : Option Value → pb_H → Prop), pb_R 179 15 L J st h Q ↔ pb_R 179 22 L J st h Q) ∧
  (∀ (l1 l2 l3 : Option Value) (st : List Value) (h : pb_H) (Q : Option Value → pb_H → Prop) (x : Nat), pb_R 179 18 [some (.ref x), l1, l2, l3] [] st h Q ↔ pb_R 179 19 [some (.ref x), l1, l2, l3] [] (.ref x :: st) h Q) ∧
  (∀ (l1 l2 l3 : Option Value) (st : List Value) (h : pb_H) (Q : Option Value → pb_H → Prop), pb_R 179 18 [some .null, l1, l2, l3] [] st h Q ↔ pb_R 179 19 [some .null, l1, l2, l3] [] (.null :: st) h Q) ∧
  (∀ (L : pb_L) (J : pb_J) (st : List Value) (h : pb_H) (Q : Option Value → pb_H → Prop) (a : Nat), pb_R 179 19 L J (.ref a :: st) h Q ↔ pb_o (pb_gf (h.2 a) 12 16) (fun v => pb_R 179 22 L J (v :: st) h Q)) ∧
  (∀ (l0 l1 l2 l3 : Option Value) (st : List Value) (h : pb_H) (Q : Option Value → pb_H → Prop) (x : Int32), pb_R 179 22 [l0, l1, l2, l3] [] (.int x :: st) h Q ↔ pb_R 179 23 [l0, some (.int x), l2, l3] [] st h Q) ∧
  (∀ (L : pb_L) (J : pb_J) (st : List Value) (h : pb_H) (Q : Option Value → pb_H → Prop), pb_R 179 23 L J st h Q ↔ pb_R 179 24 L J (.int (0 : Int32) :: st) h Q) ∧
  (∀ (l0 l1 l2 l3 : Option Value) (st : List Value) (h : pb_H) (Q : Option Value → pb_H → Prop) (x : Int32), pb_R 179 24 [l0, l1, l2, l3] [] (.int x :: st) h Q ↔ pb_R 179 25 [l0, l1, some (.int x), l3] [] st h Q) ∧
  (∀ (l0 l2 l3 : Option Value) (st : List Value) (h : pb_H) (Q : Option Value → pb_H → Prop) (x : Int32), pb_R 179 25 [l0, some (.int x), l2, l3] [] st h Q ↔ pb_R 179 26 [l0, some (.int x), l2, l3] [] (.int x :: st) h Q) ∧
  (∀ (L : pb_L) (J : pb_J) (st : List Value) (h : pb_H) (Q : Option Value → pb_H → Prop), pb_R 179 26 L J st h Q ↔ pb_R 179 27 L J (.int (1 : Int32) :: st) h Q) ∧
  (∀ (L : pb_L) (J : pb_J) (st : List Value) (x y : Int32) (h : pb_H) (Q : Option Value → pb_H → Prop), pb_R 179 27 L J (.int y :: .int x :: st) h Q ↔ pb_R 179 28 L J (.int (x + y) :: st) h Q) ∧
  (∀ (l0 l1 l2 l3 : Option Value) (st : List Value) (h : pb_H) (Q : Option Value → pb_H → Prop) (x : Int32), pb_R 179 28 [l0, l1, l2, l3] [] (.int x :: st) h Q ↔ pb_R 179 29 [l0, l1, l2, some (.int x)] [] st h Q) ∧
  (∀ (l1 l2 l3 : Option Value) (st : List Value) (h : pb_H) (Q : Option Value → pb_H → Prop) (x : Nat), pb_R 179 30 [some (.ref x), l1, l2, l3] [] st h Q ↔ pb_R 179 31 [some (.ref x), l1, l2, l3] [] (.ref x :: st) h Q) ∧
  (∀ (l1 l2 l3 : Option Value) (st : List Value) (h : pb_H) (Q : Option Value → pb_H → Prop), pb_R 179 30 [some .null, l1, l2, l3] [] st h Q ↔ pb_R 179 31 [some .null, l1, l2, l3] [] (.null :: st) h Q) ∧
  (∀ (L : pb_L) (J : pb_J) (st : List Value) (h : pb_H) (Q : Option Value → pb_H → Prop) (a : Nat), pb_R 179 31 L J (.ref a :: st) h Q ↔ pb_o (pb_gf (h.2 a) 12 17) (fun v => pb_R 179 34 L J (v :: st) h Q)) ∧
  (∀ (L : pb_L) (J : pb_J) (st : List Value) (h : pb_H) (Q : Option Value → pb_H → Prop) (x y : Int32), pb_R 179 34 L J (.int y :: .int x :: st) h Q ↔ if y ≤ x then pb_R 179 58 L J st h Q else pb_R 179 37 L J st h Q) ∧
  (∀ (L : pb_L) (J : pb_J) (st : List Value) (h : pb_H) (Q : Option Value → pb_H → Prop), pb_R 179 37 L J st h Q ↔ pb_R 179 39 L J (.int (10 : Int32) :: st) h Q) ∧
  (∀ (l0 l1 l3 : Option Value) (st : List Value) (h : pb_H) (Q : Option Value → pb_H → Prop) (x : Int32), pb_R 179 39 [l0, l1, some (.int x), l3] [] st h Q ↔ pb_R 179 40 [l0, l1, some (.int x), l3] [] (.int x :: st) h Q) ∧
  (∀ (L : pb_L) (J : pb_J) (st : List Value) (x y : Int32) (h : pb_H) (Q : Option Value → pb_H → Prop), pb_R 179 40 L J (.int y :: .int x :: st) h Q ↔ pb_R 179 41 L J (.int (x * y) :: st) h Q) ∧
  (∀ (l1 l2 l3 : Option Value) (st : List Value) (h : pb_H) (Q : Option Value → pb_H → Prop) (x : Nat), pb_R 179 41 [some (.ref x), l1, l2, l3] [] st h Q ↔ pb_R 179 42 [some (.ref x), l1, l2, l3] [] (.ref x :: st) h Q) ∧
  (∀ (l1 l2 l3 : Option Value) (st : List Value) (h : pb_H) (Q : Option Value → pb_H → Prop), pb_R 179 41 [some .null, l1, l2, l3] [] st h Q ↔ pb_R 179 42 [some .null, l1, l2, l3] [] (.null :: st) h Q) ∧
  (∀ (L : pb_L) (J : pb_J) (st : List Value) (h : pb_H) (Q : Option Value → pb_H → Prop) (a : Nat), pb_R 179 42 L J (.ref a :: st) h Q ↔ pb_o (pb_gf (h.2 a) 12 6) (fun v => pb_R 179 45 L J (v :: st) h Q)) ∧
  (∀ (l0 l1 l2 : Option Value) (st : List Value) (h : pb_H) (Q : Option Value → pb_H → Prop) (x : Int32), pb_R 179 45 [l0, l1, l2, some (.int x)] [] st h Q ↔ pb_R 179 46 [l0, l1, l2, some (.int x)] [] (.int x :: st) h Q) ∧
  (∀ (L : pb_L) (J : pb_J) (st : List Value) (h : pb_H) (Q : Option Value → pb_H → Prop) (a : Nat) (i : Int32), pb_R 179 46 L J (.int i :: .ref a :: st) h Q ↔ pb_o (pb_ab (h.2 a) i) (fun v => pb_R 179 47 L J (.int v :: st) h Q)) ∧
  (∀ (L : pb_L) (J : pb_J) (st : List Value) (x y : Int32) (h : pb_H) (Q : Option Value → pb_H → Prop), pb_R 179 47 L J (.int y :: .int x :: st) h Q ↔ pb_R 179 48 L J (.int (x + y) :: st) h Q) ∧
  (∀ (L : pb_L) (J : pb_J) (st : List Value) (h : pb_H) (Q : Option Value → pb_H → Prop), pb_R 179 48 L J st h Q ↔ pb_R 179 50 L J (.int (48 : Int32) :: st) h Q) ∧
  (∀ (L : pb_L) (J : pb_J) (st : List Value) (x y : Int32) (h : pb_H) (Q : Option Value → pb_H → Prop), pb_R 179 50 L J (.int y :: .int x :: st) h Q ↔ pb_R 179 51 L J (.int (x - y) :: st) h Q) ∧
  (∀ (l0 l1 l2 l3 : Option Value) (st : List Value) (h : pb_H) (Q : Option Value → pb_H → Prop) (x : Int32), pb_R 179 51 [l0, l1, l2, l3] [] (.int x :: st) h Q ↔ pb_R 179 52 [l0, l1, some (.int x), l3] [] st h Q) ∧
  (∀ (l0 l1 l2 : Option Value) (st : List Value) (h : pb_H) (Q : Option Value → pb_H → Prop) (x : Int32), pb_R 179 52 [l0, l1, l2, some (.int x)] [] st h Q ↔ pb_R 179 55 [l0, l1, l2, some (.int (x + (1 : Int32)))] [] st h Q) ∧
  (∀ (L : pb_L) (J : pb_J) (st : List Value) (h : pb_H) (Q : Option Value → pb_H → Prop), pb_R 179 55 L J st h Q ↔ pb_R 179 29 L J st h Q) ∧
  (∀ (l1 l2 l3 : Option Value) (st : List Value) (h : pb_H) (Q : Option Value → pb_H → Prop) (x : Nat), pb_R 179 58 [some (.ref x), l1, l2, l3] [] st h Q ↔ pb_R 179 59 [some (.ref x), l1, l2, l3] [] (.ref x :: st) h Q) ∧
  (∀ (l1 l2 l3 : Option Value) (st : List Value) (h : pb_H) (Q : Option Value → pb_H → Prop), pb_R 179 58 [some .null, l1, l2, l3] [] st h Q ↔ pb_R 179 59 [some .null, l1, l2, l3] [] (.null :: st) h Q) ∧
  (∀ (L : pb_L) (J : pb_J) (st : List Value) (h : pb_H) (Q : Option Value → pb_H → Prop) (a : Nat), pb_R 179 59 L J (.ref a :: st) h Q ↔ pb_o (pb_gf (h.2 a) 12 18) (fun v => pb_R 179 62 L J (v :: st) h Q)) ∧
  (∀ (L : pb_L) (J : pb_J) (st : List Value) (h : pb_H) (Q : Option Value → pb_H → Prop), pb_R 179 62 L J st h Q ↔ pb_R 179 64 L J (.int (126 : Int32) :: st) h Q) ∧
  (∀ (L : pb_L) (J : pb_J) (st : List Value) (h : pb_H) (Q : Option Value → pb_H → Prop) (x y : Int32), pb_R 179 64 L J (.int y :: .int x :: st) h Q ↔ if ¬ x = y then pb_R 179 72 L J st h Q else pb_R 179 67 L J st h Q) ∧
  (∀ (l0 l1 l3 : Option Value) (st : List Value) (h : pb_H) (Q : Option Value → pb_H → Prop) (x : Int32), pb_R 179 67 [l0, l1, some (.int x), l3] [] st h Q ↔ pb_R 179 68 [l0, l1, some (.int x), l3] [] (.int x :: st) h Q) ∧
  (∀ (L : pb_L) (J : pb_J) (st : List Value) (x : Int32) (h : pb_H) (Q : Option Value → pb_H → Prop), pb_R 179 68 L J (.int x :: st) h Q ↔ pb_R 179 69 L J (.int (-x) :: st) h Q) ∧
  (∀ (L : pb_L) (J : pb_J) (st : List Value) (h : pb_H) (Q : Option Value → pb_H → Prop), pb_R 179 69 L J st h Q ↔ pb_R 179 73 L J st h Q) ∧
  (∀ (l0 l1 l3 : Option Value) (st : List Value) (h : pb_H) (Q : Option Value → pb_H → Prop) (x : Int32), pb_R 179 72 [l0, l1, some (.int x), l3] [] st h Q ↔ pb_R 179 73 [l0, l1, some (.int x), l3] [] (.int x :: st) h Q) ∧
  (∀ (L : pb_L) (J : pb_J) (h : pb_H) (Q : Option Value → pb_H → Prop) (x : Int32), pb_R 179 73 L J [.int x] h Q ↔ Q (some (.int x)) h) := ⟨
  fun l1 l2 l3 st h Q x => pf_S pb_u_179 rfl rfl,
  fun l1 l2 l3 st h Q => pf_S pb_u_179 rfl rfl,
  fun L J st h Q a => pf_gf pb_u_179 rfl rfl,
  fun L J st h Q => pf_S pb_u_179 rfl rfl,
  fun L J st h Q x y => pf_ic pb_u_179 rfl rfl pf_ne,
  fun l1 l2 l3 st h Q x => pf_S pb_u_179 rfl rfl,
  fun l1 l2 l3 st h Q => pf_S pb_u_179 rfl rfl,
  fun L J st h Q a => pf_gf pb_u_179 rfl rfl,
  fun L J st h Q => pf_S pb_u_179 rfl rfl,
  fun L J st x y h Q => pf_S pb_u_179 rfl rfl,
  fun L J st h Q => pf_S pb_u_179 rfl rfl,
  fun l1 l2 l3 st h Q x => pf_S pb_u_179 rfl rfl,
  fun l1 l2 l3 st h Q => pf_S pb_u_179 rfl rfl,
  fun L J st h Q a => pf_gf pb_u_179 rfl rfl,
  fun l0 l1 l2 l3 st h Q x => pf_S pb_u_179 rfl rfl,
  fun L J st h Q => pf_S pb_u_179 rfl rfl,
  fun l0 l1 l2 l3 st h Q x => pf_S pb_u_179 rfl rfl,
  fun l0 l2 l3 st h Q x => pf_S pb_u_179 rfl rfl,
  fun L J st h Q => pf_S pb_u_179 rfl rfl,
  fun L J st x y h Q => pf_S pb_u_179 rfl rfl,
  fun l0 l1 l2 l3 st h Q x => pf_S pb_u_179 rfl rfl,
  fun l1 l2 l3 st h Q x => pf_S pb_u_179 rfl rfl,
  fun l1 l2 l3 st h Q => pf_S pb_u_179 rfl rfl,
  fun L J st h Q a => pf_gf pb_u_179 rfl rfl,
  fun L J st h Q x y => pf_ic pb_u_179 rfl rfl rfl,
  fun L J st h Q => pf_S pb_u_179 rfl rfl,
  fun l0 l1 l3 st h Q x => pf_S pb_u_179 rfl rfl,
  fun L J st x y h Q => pf_S pb_u_179 rfl rfl,
  fun l1 l2 l3 st h Q x => pf_S pb_u_179 rfl rfl,
  fun l1 l2 l3 st h Q => pf_S pb_u_179 rfl rfl,
  fun L J st h Q a => pf_gf pb_u_179 rfl rfl,
  fun l0 l1 l2 st h Q x => pf_S pb_u_179 rfl rfl,
  fun L J st h Q a i => pf_ab pb_u_179 rfl rfl,
  fun L J st x y h Q => pf_S pb_u_179 rfl rfl,
  fun L J st h Q => pf_S pb_u_179 rfl rfl,
  fun L J st x y h Q => pf_S pb_u_179 rfl rfl,
  fun l0 l1 l2 l3 st h Q x => pf_S pb_u_179 rfl rfl,
  fun l0 l1 l2 st h Q x => pf_S pb_u_179 rfl rfl,
  fun L J st h Q => pf_S pb_u_179 rfl rfl,
  fun l1 l2 l3 st h Q x => pf_S pb_u_179 rfl rfl,
  fun l1 l2 l3 st h Q => pf_S pb_u_179 rfl rfl,
  fun L J st h Q a => pf_gf pb_u_179 rfl rfl,
  fun L J st h Q => pf_S pb_u_179 rfl rfl,
  fun L J st h Q x y => pf_ic pb_u_179 rfl rfl pf_ne,
  fun l0 l1 l3 st h Q x => pf_S pb_u_179 rfl rfl,
  fun L J st x h Q => pf_S pb_u_179 rfl rfl,
  fun L J st h Q => pf_S pb_u_179 rfl rfl,
  fun l0 l1 l3 st h Q x => pf_S pb_u_179 rfl rfl,
  fun L J h Q x => pf_ri pb_u_179 rfl rfl⟩
theorem pb_c179 (x0 : Nat) (h : pb_H) (Q : Option Value → pb_H → Prop) : pb_call 179 [.ref x0] h Q ↔ pb_R 179 0 [some (.ref x0), none, none, none] [] [] h Q := Iff.rfl
/-! 180: PlaneBenchModel.isVariable(I)Z -/
theorem pb_u_180 : pb_t 180 = pb_t180 := rfl
theorem pb_ci_180 : pb_ci 180 = 12 := by decide +kernel
set_option maxRecDepth 100000 in
theorem pb_e180 : (∀ (l0 l2 : Option Value) (st : List Value) (h : pb_H) (Q : Option Value → pb_H → Prop) (x : Int32), pb_R 180 0 [l0, some (.int x), l2] [] st h Q ↔ pb_R 180 1 [l0, some (.int x), l2] [] (.int x :: st) h Q) ∧
  (∀ (L : pb_L) (J : pb_J) (st : List Value) (h : pb_H) (Q : Option Value → pb_H → Prop) (x : Int32), pb_R 180 1 L J (.int x :: st) h Q ↔ if 0 ≤ x then pb_R 180 9 L J st h Q else pb_R 180 4 L J st h Q) ∧
  (∀ (l0 l2 : Option Value) (st : List Value) (h : pb_H) (Q : Option Value → pb_H → Prop) (x : Int32), pb_R 180 4 [l0, some (.int x), l2] [] st h Q ↔ pb_R 180 5 [l0, some (.int x), l2] [] (.int x :: st) h Q) ∧
  (∀ (L : pb_L) (J : pb_J) (st : List Value) (x : Int32) (h : pb_H) (Q : Option Value → pb_H → Prop), pb_R 180 5 L J (.int x :: st) h Q ↔ pb_R 180 6 L J (.int (-x) :: st) h Q) ∧
  (∀ (L : pb_L) (J : pb_J) (st : List Value) (h : pb_H) (Q : Option Value → pb_H → Prop), pb_R 180 6 L J st h Q ↔ pb_R 180 10 L J st h Q) ∧
  (∀ (l0 l2 : Option Value) (st : List Value) (h : pb_H) (Q : Option Value → pb_H → Prop) (x : Int32), pb_R 180 9 [l0, some (.int x), l2] [] st h Q ↔ pb_R 180 10 [l0, some (.int x), l2] [] (.int x :: st) h Q) ∧
  (∀ (l0 l1 l2 : Option Value) (st : List Value) (h : pb_H) (Q : Option Value → pb_H → Prop) (x : Int32), pb_R 180 10 [l0, l1, l2] [] (.int x :: st) h Q ↔ pb_R 180 11 [l0, l1, some (.int x)] [] st h Q) ∧
  (∀ (l0 l1 : Option Value) (st : List Value) (h : pb_H) (Q : Option Value → pb_H → Prop) (x : Int32), pb_R 180 11 [l0, l1, some (.int x)] [] st h Q ↔ pb_R 180 12 [l0, l1, some (.int x)] [] (.int x :: st) h Q) ∧
  (∀ (L : pb_L) (J : pb_J) (st : List Value) (h : pb_H) (Q : Option Value → pb_H → Prop), pb_R 180 12 L J st h Q ↔ pb_R 180 13 L J (.int (1 : Int32) :: st) h Q) ∧
  (∀ (L : pb_L) (J : pb_J) (st : List Value) (h : pb_H) (Q : Option Value → pb_H → Prop) (x y : Int32), pb_R 180 13 L J (.int y :: .int x :: st) h Q ↔ if x < y then pb_R 180 28 L J st h Q else pb_R 180 16 L J st h Q) ∧
  (∀ (l0 l1 : Option Value) (st : List Value) (h : pb_H) (Q : Option Value → pb_H → Prop) (x : Int32), pb_R 180 16 [l0, l1, some (.int x)] [] st h Q ↔ pb_R 180 17 [l0, l1, some (.int x)] [] (.int x :: st) h Q) ∧
  (∀ (l1 l2 : Option Value) (st : List Value) (h : pb_H) (Q : Option Value → pb_H → Prop) (x : Nat), pb_R 180 17 [some (.ref x), l1, l2] [] st h Q ↔ pb_R 180 18 [some (.ref x), l1, l2] [] (.ref x :: st) h Q) ∧
  (∀ (l1 l2 : Option Value) (st : List Value) (h : pb_H) (Q : Option Value → pb_H → Prop), pb_R 180 17 [some .null, l1, l2] [] st h Q ↔ pb_R 180 18 [some .null, l1, l2] [] (.null :: st) h Q) ∧
  (∀ (L : pb_L) (J : pb_J) (st : List Value) (h : pb_H) (Q : Option Value → pb_H → Prop) (a : Nat), pb_R 180 18 L J (.ref a :: st) h Q ↔ pb_o (pb_gf (h.2 a) 12 3) (fun v => pb_R 180 21 L J (v :: st) h Q)) ∧
  (∀ (L : pb_L) (J : pb_J) (st : List Value) (h : pb_H) (Q : Option Value → pb_H → Prop) (x y : Int32), pb_R 180 21 L J (.int y :: .int x :: st) h Q ↔ if y < x then pb_R 180 28 L J st h Q else pb_R 180 24 L J st h Q) ∧
  (∀ (L : pb_L) (J : pb_J) (st : List Value) (h : pb_H) (Q : Option Value → pb_H → Prop), pb_R 180 24 L J st h Q ↔ pb_R 180 25 L J (.int (1 : Int32) :: st) h Q) ∧
  (∀ (L : pb_L) (J : pb_J) (st : List Value) (h : pb_H) (Q : Option Value → pb_H → Prop), pb_R 180 25 L J st h Q ↔ pb_R 180 29 L J st h Q) ∧
  (∀ (L : pb_L) (J : pb_J) (st : List Value) (h : pb_H) (Q : Option Value → pb_H → Prop), pb_R 180 28 L J st h Q ↔ pb_R 180 29 L J (.int (0 : Int32) :: st) h Q) ∧
  (∀ (L : pb_L) (J : pb_J) (h : pb_H) (Q : Option Value → pb_H → Prop) (x : Int32), pb_R 180 29 L J [.int x] h Q ↔ narrow .boolean (.int x) = .int x ∧ Q (some (.int x)) h) := ⟨
  fun l0 l2 st h Q x => pf_S pb_u_180 rfl rfl,
  fun L J st h Q x => pf_ii pb_u_180 rfl rfl rfl,
  fun l0 l2 st h Q x => pf_S pb_u_180 rfl rfl,
  fun L J st x h Q => pf_S pb_u_180 rfl rfl,
  fun L J st h Q => pf_S pb_u_180 rfl rfl,
  fun l0 l2 st h Q x => pf_S pb_u_180 rfl rfl,
  fun l0 l1 l2 st h Q x => pf_S pb_u_180 rfl rfl,
  fun l0 l1 st h Q x => pf_S pb_u_180 rfl rfl,
  fun L J st h Q => pf_S pb_u_180 rfl rfl,
  fun L J st h Q x y => pf_ic pb_u_180 rfl rfl rfl,
  fun l0 l1 st h Q x => pf_S pb_u_180 rfl rfl,
  fun l1 l2 st h Q x => pf_S pb_u_180 rfl rfl,
  fun l1 l2 st h Q => pf_S pb_u_180 rfl rfl,
  fun L J st h Q a => pf_gf pb_u_180 rfl rfl,
  fun L J st h Q x y => pf_ic pb_u_180 rfl rfl rfl,
  fun L J st h Q => pf_S pb_u_180 rfl rfl,
  fun L J st h Q => pf_S pb_u_180 rfl rfl,
  fun L J st h Q => pf_S pb_u_180 rfl rfl,
  fun L J h Q x => pf_rz pb_u_180 rfl rfl⟩
theorem pb_c180 (x0 : Nat) (x1 : Int32) (h : pb_H) (Q : Option Value → pb_H → Prop) : pb_call 180 [.ref x0, .int x1] h Q ↔ pb_R 180 0 [some (.ref x0), some (.int x1), none] [] [] h Q := Iff.rfl
/-! 181: PlaneBenchModel.read(III)V -/
theorem pb_u_181 : pb_t 181 = pb_t181 := rfl
theorem pb_ci_181 : pb_ci 181 = 12 := by decide +kernel
set_option maxRecDepth 100000 in
theorem pb_q181_8 (l0 l1 l2 l3 l5 l6 l7 : Option Value) (st : List Value) (h : pb_H) (Q : Option Value → pb_H → Prop) (x : Int32) : pb_R 181 8 [l0, l1, l2, l3, some (.int x), l5, l6, l7] [] st h Q ↔ pb_R 181 10 [l0, l1, l2, l3, some (.int x), l5, l6, l7] [] (.int x :: st) h Q := pf_S pb_u_181 rfl rfl
set_option maxRecDepth 100000 in
theorem pb_q181_29 (l0 l1 l2 l3 l4 l5 l7 : Option Value) (st : List Value) (h : pb_H) (Q : Option Value → pb_H → Prop) (x : Int32) : pb_R 181 29 [l0, l1, l2, l3, l4, l5, some (.int x), l7] [] st h Q ↔ pb_R 181 31 [l0, l1, l2, l3, l4, l5, some (.int x), l7] [] (.int x :: st) h Q := pf_S pb_u_181 rfl rfl
set_option maxRecDepth 100000 in
theorem pb_e181 : (∀ (l1 l2 l3 l4 l5 l6 l7 : Option Value) (st : List Value) (h : pb_H) (Q : Option Value → pb_H → Prop) (x : Nat), pb_R 181 0 [some (.ref x), l1, l2, l3, l4, l5, l6, l7] [] st h Q ↔ pb_R 181 1 [some (.ref x), l1, l2, l3, l4, l5, l6, l7] [] (.ref x :: st) h Q) ∧
  (∀ (l1 l2 l3 l4 l5 l6 l7 : Option Value) (st : List Value) (h : pb_H) (Q : Option Value → pb_H → Prop), pb_R 181 0 [some .null, l1, l2, l3, l4, l5, l6, l7] [] st h Q ↔ pb_R 181 1 [some .null, l1, l2, l3, l4, l5, l6, l7] [] (.null :: st) h Q) ∧
  (∀ (l0 l1 l2 l4 l5 l6 l7 : Option Value) (st : List Value) (h : pb_H) (Q : Option Value → pb_H → Prop) (x : Int32), pb_R 181 1 [l0, l1, l2, some (.int x), l4, l5, l6, l7] [] st h Q ↔ pb_R 181 2 [l0, l1, l2, some (.int x), l4, l5, l6, l7] [] (.int x :: st) h Q) ∧
  (∀ (L : pb_L) (J : pb_J) (h : pb_H) (Q : Option Value → pb_H → Prop) (x0 : Int32) (x1 : Nat), pb_R 181 2 L J [.int x0, .ref x1] h Q ↔ pb_is0 (h.2 x1) 12 = true ∧ pb_call 144 [.ref x1, .int x0] h (fun v t => pb_R 181 5 L J (v.toList ++ []) t Q)) ∧
  (∀ (l0 l2 l3 l4 l5 l6 l7 : Option Value) (st : List Value) (h : pb_H) (Q : Option Value → pb_H → Prop) (x : Int32), pb_R 181 5 [l0, some (.int x), l2, l3, l4, l5, l6, l7] [] st h Q ↔ pb_R 181 6 [l0, some (.int x), l2, l3, l4, l5, l6, l7] [] (.int x :: st) h Q) ∧
  (∀ (l0 l1 l2 l3 l4 l5 l6 l7 : Option Value) (st : List Value) (h : pb_H) (Q : Option Value → pb_H → Prop) (x : Int32), pb_R 181 6 [l0, l1, l2, l3, l4, l5, l6, l7] [] (.int x :: st) h Q ↔ pb_R 181 8 [l0, l1, l2, l3, some (.int x), l5, l6, l7] [] st h Q) ∧
  (∀ (l0 l1 l3 l4 l5 l6 l7 : Option Value) (st : List Value) (h : pb_H) (Q : Option Value → pb_H → Prop) (x : Int32), pb_R 181 10 [l0, l1, some (.int x), l3, l4, l5, l6, l7] [] st h Q ↔ pb_R 181 11 [l0, l1, some (.int x), l3, l4, l5, l6, l7] [] (.int x :: st) h Q) ∧
  (∀ (L : pb_L) (J : pb_J) (st : List Value) (h : pb_H) (Q : Option Value → pb_H → Prop) (x y : Int32), pb_R 181 11 L J (.int y :: .int x :: st) h Q ↔ if y ≤ x then pb_R 181 86 L J st h Q else pb_R 181 14 L J st h Q) ∧
  (∀ (l1 l2 l3 l4 l5 l6 l7 : Option Value) (st : List Value) (h : pb_H) (Q : Option Value → pb_H → Prop) (x : Nat), pb_R 181 14 [some (.ref x), l1, l2, l3, l4, l5, l6, l7] [] st h Q ↔ pb_R 181 15 [some (.ref x), l1, l2, l3, l4, l5, l6, l7] [] (.ref x :: st) h Q) ∧
  (∀ (l1 l2 l3 l4 l5 l6 l7 : Option Value) (st : List Value) (h : pb_H) (Q : Option Value → pb_H → Prop), pb_R 181 14 [some .null, l1, l2, l3, l4, l5, l6, l7] [] st h Q ↔ pb_R 181 15 [some .null, l1, l2, l3, l4, l5, l6, l7] [] (.null :: st) h Q) ∧
  (∀ (L : pb_L) (J : pb_J) (st : List Value) (h : pb_H) (Q : Option Value → pb_H → Prop) (a : Nat), pb_R 181 15 L J (.ref a :: st) h Q ↔ pb_o (pb_gf (h.2 a) 12 6) (fun v => pb_R 181 18 L J (v :: st) h Q)) ∧
  (∀ (l0 l1 l2 l3 l5 l6 l7 : Option Value) (st : List Value) (h : pb_H) (Q : Option Value → pb_H → Prop) (x : Int32), pb_R 181 18 [l0, l1, l2, l3, some (.int x), l5, l6, l7] [] st h Q ↔ pb_R 181 20 [l0, l1, l2, l3, some (.int x), l5, l6, l7] [] (.int x :: st) h Q) ∧
  (∀ (L : pb_L) (J : pb_J) (st : List Value) (h : pb_H) (Q : Option Value → pb_H → Prop) (a : Nat) (i : Int32), pb_R 181 20 L J (.int i :: .ref a :: st) h Q ↔ pb_o (pb_ab (h.2 a) i) (fun v => pb_R 181 21 L J (.int v :: st) h Q)) ∧
  (∀ (L : pb_L) (J : pb_J) (st : List Value) (h : pb_H) (Q : Option Value → pb_H → Prop), pb_R 181 21 L J st h Q ↔ pb_R 181 23 L J (.int (48 : Int32) :: st) h Q) ∧
  (∀ (L : pb_L) (J : pb_J) (st : List Value) (x y : Int32) (h : pb_H) (Q : Option Value → pb_H → Prop), pb_R 181 23 L J (.int y :: .int x :: st) h Q ↔ pb_R 181 24 L J (.int (x - y) :: st) h Q) ∧
  (∀ (l0 l1 l2 l3 l4 l5 l6 l7 : Option Value) (st : List Value) (h : pb_H) (Q : Option Value → pb_H → Prop) (x : Int32), pb_R 181 24 [l0, l1, l2, l3, l4, l5, l6, l7] [] (.int x :: st) h Q ↔ pb_R 181 26 [l0, l1, l2, l3, l4, some (.int x), l6, l7] [] st h Q) ∧
  (∀ (L : pb_L) (J : pb_J) (st : List Value) (h : pb_H) (Q : Option Value → pb_H → Prop), pb_R 181 26 L J st h Q ↔ pb_R 181 27 L J (.int (0 : Int32) :: st) h Q) ∧
  (∀ (l0 l1 l2 l3 l4 l5 l6 l7 : Option Value) (st : List Value) (h : pb_H) (Q : Option Value → pb_H → Prop) (x : Int32), pb_R 181 27 [l0, l1, l2, l3, l4, l5, l6, l7] [] (.int x :: st) h Q ↔ pb_R 181 29 [l0, l1, l2, l3, l4, l5, some (.int x), l7] [] st h Q) ∧
  (∀ (L : pb_L) (J : pb_J) (st : List Value) (h : pb_H) (Q : Option Value → pb_H → Prop), pb_R 181 31 L J st h Q ↔ pb_R 181 33 L J (.int (20 : Int32) :: st) h Q) ∧
  (∀ (L : pb_L) (J : pb_J) (st : List Value) (h : pb_H) (Q : Option Value → pb_H → Prop) (x y : Int32), pb_R 181 33 L J (.int y :: .int x :: st) h Q ↔ if y ≤ x then pb_R 181 80 L J st h Q else pb_R 181 36 L J st h Q) ∧
  (∀ (L : pb_L) (J : pb_J) (st : List Value) (h : pb_H) (Q : Option Value → pb_H → Prop), pb_R 181 36 L J st h Q ↔ pb_R 181 38 L J (.int (10 : Int32) :: st) h Q) ∧
  (∀ (l1 l2 l3 l4 l5 l6 l7 : Option Value) (st : List Value) (h : pb_H) (Q : Option Value → pb_H → Prop) (x : Nat), pb_R 181 38 [some (.ref x), l1, l2, l3, l4, l5, l6, l7] [] st h Q ↔ pb_R 181 39 [some (.ref x), l1, l2, l3, l4, l5, l6, l7] [] (.ref x :: st) h Q) ∧
  (∀ (l1 l2 l3 l4 l5 l6 l7 : Option Value) (st : List Value) (h : pb_H) (Q : Option Value → pb_H → Prop), pb_R 181 38 [some .null, l1, l2, l3, l4, l5, l6, l7] [] st h Q ↔ pb_R 181 39 [some .null, l1, l2, l3, l4, l5, l6, l7] [] (.null :: st) h Q) ∧
  (∀ (L : pb_L) (J : pb_J) (st : List Value) (h : pb_H) (Q : Option Value → pb_H → Prop) (a : Nat), pb_R 181 39 L J (.ref a :: st) h Q ↔ pb_o (pb_gf (h.2 a) 12 0) (fun v => pb_R 181 42 L J (v :: st) h Q)) ∧
  (∀ (l0 l1 l2 l4 l5 l6 l7 : Option Value) (st : List Value) (h : pb_H) (Q : Option Value → pb_H → Prop) (x : Int32), pb_R 181 42 [l0, l1, l2, some (.int x), l4, l5, l6, l7] [] st h Q ↔ pb_R 181 43 [l0, l1, l2, some (.int x), l4, l5, l6, l7] [] (.int x :: st) h Q) ∧
  (∀ (l0 l1 l2 l3 l4 l5 l7 : Option Value) (st : List Value) (h : pb_H) (Q : Option Value → pb_H → Prop) (x : Int32), pb_R 181 43 [l0, l1, l2, l3, l4, l5, some (.int x), l7] [] st h Q ↔ pb_R 181 45 [l0, l1, l2, l3, l4, l5, some (.int x), l7] [] (.int x :: st) h Q) ∧
  (∀ (L : pb_L) (J : pb_J) (st : List Value) (x y : Int32) (h : pb_H) (Q : Option Value → pb_H → Prop), pb_R 181 45 L J (.int y :: .int x :: st) h Q ↔ pb_R 181 46 L J (.int (x + y) :: st) h Q) ∧
  (∀ (L : pb_L) (J : pb_J) (st : List Value) (h : pb_H) (Q : Option Value → pb_H → Prop) (a : Nat) (i : Int32), pb_R 181 46 L J (.int i :: .ref a :: st) h Q ↔ pb_o (pb_ai (h.2 a) i) (fun v => pb_R 181 47 L J (.int v :: st) h Q)) ∧
  (∀ (L : pb_L) (J : pb_J) (st : List Value) (x y : Int32) (h : pb_H) (Q : Option Value → pb_H → Prop), pb_R 181 47 L J (.int y :: .int x :: st) h Q ↔ pb_R 181 48 L J (.int (x * y) :: st) h Q) ∧
  (∀ (l0 l1 l2 l3 l4 l6 l7 : Option Value) (st : List Value) (h : pb_H) (Q : Option Value → pb_H → Prop) (x : Int32), pb_R 181 48 [l0, l1, l2, l3, l4, some (.int x), l6, l7] [] st h Q ↔ pb_R 181 50 [l0, l1, l2, l3, l4, some (.int x), l6, l7] [] (.int x :: st) h Q) ∧
  (∀ (L : pb_L) (J : pb_J) (st : List Value) (x y : Int32) (h : pb_H) (Q : Option Value → pb_H → Prop), pb_R 181 50 L J (.int y :: .int x :: st) h Q ↔ pb_R 181 51 L J (.int (x + y) :: st) h Q) ∧
  (∀ (l0 l1 l2 l3 l4 l5 l6 l7 : Option Value) (st : List Value) (h : pb_H) (Q : Option Value → pb_H → Prop) (x : Int32), pb_R 181 51 [l0, l1, l2, l3, l4, l5, l6, l7] [] (.int x :: st) h Q ↔ pb_R 181 53 [l0, l1, l2, l3, l4, l5, l6, some (.int x)] [] st h Q) ∧
  (∀ (l1 l2 l3 l4 l5 l6 l7 : Option Value) (st : List Value) (h : pb_H) (Q : Option Value → pb_H → Prop) (x : Nat), pb_R 181 53 [some (.ref x), l1, l2, l3, l4, l5, l6, l7] [] st h Q ↔ pb_R 181 54 [some (.ref x), l1, l2, l3, l4, l5, l6, l7] [] (.ref x :: st) h Q) ∧
  (∀ (l1 l2 l3 l4 l5 l6 l7 : Option Value) (st : List Value) (h : pb_H) (Q : Option Value → pb_H → Prop), pb_R 181 53 [some .null, l1, l2, l3, l4, l5, l6, l7] [] st h Q ↔ pb_R 181 54 [some .null, l1, l2, l3, l4, l5, l6, l7] [] (.null :: st) h Q) ∧
  (∀ (L : pb_L) (J : pb_J) (st : List Value) (h : pb_H) (Q : Option Value → pb_H → Prop) (a : Nat), pb_R 181 54 L J (.ref a :: st) h Q ↔ pb_o (pb_gf (h.2 a) 12 0) (fun v => pb_R 181 57 L J (v :: st) h Q)) ∧
  (∀ (l0 l1 l2 l4 l5 l6 l7 : Option Value) (st : List Value) (h : pb_H) (Q : Option Value → pb_H → Prop) (x : Int32), pb_R 181 57 [l0, l1, l2, some (.int x), l4, l5, l6, l7] [] st h Q ↔ pb_R 181 58 [l0, l1, l2, some (.int x), l4, l5, l6, l7] [] (.int x :: st) h Q) ∧
  (∀ (l0 l1 l2 l3 l4 l5 l7 : Option Value) (st : List Value) (h : pb_H) (Q : Option Value → pb_H → Prop) (x : Int32), pb_R 181 58 [l0, l1, l2, l3, l4, l5, some (.int x), l7] [] st h Q ↔ pb_R 181 60 [l0, l1, l2, l3, l4, l5, some (.int x), l7] [] (.int x :: st) h Q) ∧
  (∀ (L : pb_L) (J : pb_J) (st : List Value) (x y : Int32) (h : pb_H) (Q : Option Value → pb_H → Prop), pb_R 181 60 L J (.int y :: .int x :: st) h Q ↔ pb_R 181 61 L J (.int (x + y) :: st) h Q) ∧
  (∀ (l0 l1 l2 l3 l4 l5 l6 : Option Value) (st : List Value) (h : pb_H) (Q : Option Value → pb_H → Prop) (x : Int32), pb_R 181 61 [l0, l1, l2, l3, l4, l5, l6, some (.int x)] [] st h Q ↔ pb_R 181 63 [l0, l1, l2, l3, l4, l5, l6, some (.int x)] [] (.int x :: st) h Q) ∧
  (∀ (L : pb_L) (J : pb_J) (st : List Value) (h : pb_H) (Q : Option Value → pb_H → Prop), pb_R 181 63 L J st h Q ↔ pb_R 181 65 L J (.int (65535 : Int32) :: st) h Q) ∧
  (∀ (L : pb_L) (J : pb_J) (st : List Value) (x y : Int32) (h : pb_H) (Q : Option Value → pb_H → Prop), pb_R 181 65 L J (.int y :: .int x :: st) h Q ↔ pb_R 181 66 L J (.int (x &&& y) :: st) h Q) ∧
  (∀ (L : pb_L) (J : pb_J) (st : List Value) (h : pb_H) (Q : Option Value → pb_H → Prop) (a : Nat) (i x : Int32), pb_R 181 66 L J (.int x :: .int i :: .ref a :: st) h Q ↔ pb_o (pb_si (h.2 a) i x) (fun c => pb_R 181 67 L J st (pb_set h a c) Q)) ∧
  (∀ (l0 l1 l2 l3 l4 l5 l6 : Option Value) (st : List Value) (h : pb_H) (Q : Option Value → pb_H → Prop) (x : Int32), pb_R 181 67 [l0, l1, l2, l3, l4, l5, l6, some (.int x)] [] st h Q ↔ pb_R 181 69 [l0, l1, l2, l3, l4, l5, l6, some (.int x)] [] (.int x :: st) h Q) ∧
  (∀ (L : pb_L) (J : pb_J) (st : List Value) (h : pb_H) (Q : Option Value → pb_H → Prop), pb_R 181 69 L J st h Q ↔ pb_R 181 71 L J (.int (16 : Int32) :: st) h Q) ∧
  (∀ (L : pb_L) (J : pb_J) (st : List Value) (x y : Int32) (h : pb_H) (Q : Option Value → pb_H → Prop), pb_R 181 71 L J (.int y :: .int x :: st) h Q ↔ pb_R 181 72 L J (.int (x >>> (y &&& 31)) :: st) h Q) ∧
  (∀ (l0 l1 l2 l3 l4 l5 l6 l7 : Option Value) (st : List Value) (h : pb_H) (Q : Option Value → pb_H → Prop) (x : Int32), pb_R 181 72 [l0, l1, l2, l3, l4, l5, l6, l7] [] (.int x :: st) h Q ↔ pb_R 181 74 [l0, l1, l2, l3, l4, some (.int x), l6, l7] [] st h Q) ∧
  (∀ (l0 l1 l2 l3 l4 l5 l7 : Option Value) (st : List Value) (h : pb_H) (Q : Option Value → pb_H → Prop) (x : Int32), pb_R 181 74 [l0, l1, l2, l3, l4, l5, some (.int x), l7] [] st h Q ↔ pb_R 181 77 [l0, l1, l2, l3, l4, l5, some (.int (x + (1 : Int32))), l7] [] st h Q) ∧
  (∀ (L : pb_L) (J : pb_J) (st : List Value) (h : pb_H) (Q : Option Value → pb_H → Prop), pb_R 181 77 L J st h Q ↔ pb_R 181 29 L J st h Q) ∧
  (∀ (l0 l1 l2 l3 l5 l6 l7 : Option Value) (st : List Value) (h : pb_H) (Q : Option Value → pb_H → Prop) (x : Int32), pb_R 181 80 [l0, l1, l2, l3, some (.int x), l5, l6, l7] [] st h Q ↔ pb_R 181 83 [l0, l1, l2, l3, some (.int (x + (1 : Int32))), l5, l6, l7] [] st h Q) ∧
  (∀ (L : pb_L) (J : pb_J) (st : List Value) (h : pb_H) (Q : Option Value → pb_H → Prop), pb_R 181 83 L J st h Q ↔ pb_R 181 8 L J st h Q) ∧
  (∀ (L : pb_L) (J : pb_J) (h : pb_H) (Q : Option Value → pb_H → Prop), pb_R 181 86 L J [] h Q ↔ Q none h) := ⟨
  fun l1 l2 l3 l4 l5 l6 l7 st h Q x => pf_S pb_u_181 rfl rfl,
  fun l1 l2 l3 l4 l5 l6 l7 st h Q => pf_S pb_u_181 rfl rfl,
  fun l0 l1 l2 l4 l5 l6 l7 st h Q x => pf_S pb_u_181 rfl rfl,
  fun L J h Q x0 x1 => pf_kv pb_u_181 rfl pb_ci_144 rfl ⟨Nat.le_of_ble_eq_true rfl, Nat.le_of_ble_eq_true rfl, Nat.le_of_ble_eq_true rfl, Nat.le_of_ble_eq_true rfl, rfl⟩ rfl rfl,
  fun l0 l2 l3 l4 l5 l6 l7 st h Q x => pf_S pb_u_181 rfl rfl,
  fun l0 l1 l2 l3 l4 l5 l6 l7 st h Q x => pf_S pb_u_181 rfl rfl,
  fun l0 l1 l3 l4 l5 l6 l7 st h Q x => pf_S pb_u_181 rfl rfl,
  fun L J st h Q x y => pf_ic pb_u_181 rfl rfl rfl,
  fun l1 l2 l3 l4 l5 l6 l7 st h Q x => pf_S pb_u_181 rfl rfl,
  fun l1 l2 l3 l4 l5 l6 l7 st h Q => pf_S pb_u_181 rfl rfl,
  fun L J st h Q a => pf_gf pb_u_181 rfl rfl,
  fun l0 l1 l2 l3 l5 l6 l7 st h Q x => pf_S pb_u_181 rfl rfl,
  fun L J st h Q a i => pf_ab pb_u_181 rfl rfl,
  fun L J st h Q => pf_S pb_u_181 rfl rfl,
  fun L J st x y h Q => pf_S pb_u_181 rfl rfl,
  fun l0 l1 l2 l3 l4 l5 l6 l7 st h Q x => pf_S pb_u_181 rfl rfl,
  fun L J st h Q => pf_S pb_u_181 rfl rfl,
  fun l0 l1 l2 l3 l4 l5 l6 l7 st h Q x => pf_S pb_u_181 rfl rfl,
  fun L J st h Q => pf_S pb_u_181 rfl rfl,
  fun L J st h Q x y => pf_ic pb_u_181 rfl rfl rfl,
  fun L J st h Q => pf_S pb_u_181 rfl rfl,
  fun l1 l2 l3 l4 l5 l6 l7 st h Q x => pf_S pb_u_181 rfl rfl,
  fun l1 l2 l3 l4 l5 l6 l7 st h Q => pf_S pb_u_181 rfl rfl,
  fun L J st h Q a => pf_gf pb_u_181 rfl rfl,
  fun l0 l1 l2 l4 l5 l6 l7 st h Q x => pf_S pb_u_181 rfl rfl,
  fun l0 l1 l2 l3 l4 l5 l7 st h Q x => pf_S pb_u_181 rfl rfl,
  fun L J st x y h Q => pf_S pb_u_181 rfl rfl,
  fun L J st h Q a i => pf_ai pb_u_181 rfl rfl,
  fun L J st x y h Q => pf_S pb_u_181 rfl rfl,
  fun l0 l1 l2 l3 l4 l6 l7 st h Q x => pf_S pb_u_181 rfl rfl,
  fun L J st x y h Q => pf_S pb_u_181 rfl rfl,
  fun l0 l1 l2 l3 l4 l5 l6 l7 st h Q x => pf_S pb_u_181 rfl rfl,
  fun l1 l2 l3 l4 l5 l6 l7 st h Q x => pf_S pb_u_181 rfl rfl,
  fun l1 l2 l3 l4 l5 l6 l7 st h Q => pf_S pb_u_181 rfl rfl,
  fun L J st h Q a => pf_gf pb_u_181 rfl rfl,
  fun l0 l1 l2 l4 l5 l6 l7 st h Q x => pf_S pb_u_181 rfl rfl,
  fun l0 l1 l2 l3 l4 l5 l7 st h Q x => pf_S pb_u_181 rfl rfl,
  fun L J st x y h Q => pf_S pb_u_181 rfl rfl,
  fun l0 l1 l2 l3 l4 l5 l6 st h Q x => pf_S pb_u_181 rfl rfl,
  fun L J st h Q => pf_S pb_u_181 rfl rfl,
  fun L J st x y h Q => pf_S pb_u_181 rfl rfl,
  fun L J st h Q a i x => pf_si pb_u_181 rfl rfl,
  fun l0 l1 l2 l3 l4 l5 l6 st h Q x => pf_S pb_u_181 rfl rfl,
  fun L J st h Q => pf_S pb_u_181 rfl rfl,
  fun L J st x y h Q => pf_S pb_u_181 rfl rfl,
  fun l0 l1 l2 l3 l4 l5 l6 l7 st h Q x => pf_S pb_u_181 rfl rfl,
  fun l0 l1 l2 l3 l4 l5 l7 st h Q x => pf_S pb_u_181 rfl rfl,
  fun L J st h Q => pf_S pb_u_181 rfl rfl,
  fun l0 l1 l2 l3 l5 l6 l7 st h Q x => pf_S pb_u_181 rfl rfl,
  fun L J st h Q => pf_S pb_u_181 rfl rfl,
  fun L J h Q => pf_rv pb_u_181 rfl rfl⟩
theorem pb_c181 (x0 : Nat) (x1 : Int32) (x2 : Int32) (x3 : Int32) (h : pb_H) (Q : Option Value → pb_H → Prop) : pb_call 181 [.ref x0, .int x1, .int x2, .int x3] h Q ↔ pb_R 181 0 [some (.ref x0), some (.int x1), some (.int x2), some (.int x3), none, none, none, none] [] [] h Q := Iff.rfl
/-! 182: PlaneBenchModel.line(II)I -/
theorem pb_u_182 : pb_t 182 = pb_t182 := rfl
theorem pb_ci_182 : pb_ci 182 = 12 := by decide +kernel
set_option maxRecDepth 100000 in
theorem pb_q182_5 (l0 l1 l2 l3 : Option Value) (st : List Value) (h : pb_H) (Q : Option Value → pb_H → Prop) (x : Int32) : pb_R 182 5 [l0, l1, l2, l3, some (.int x)] [] st h Q ↔ pb_R 182 7 [l0, l1, l2, l3, some (.int x)] [] (.int x :: st) h Q := pf_S pb_u_182 rfl rfl
set_option maxRecDepth 100000 in
theorem pb_e182 : (∀ (L : pb_L) (J : pb_J) (st : List Value) (h : pb_H) (Q : Option Value → pb_H → Prop), pb_R 182 0 L J st h Q ↔ pb_R 182 1 L J (.int (0 : Int32) :: st) h Q) ∧
  (∀ (l0 l1 l2 l3 l4 : Option Value) (st : List Value) (h : pb_H) (Q : Option Value → pb_H → Prop) (x : Int32), pb_R 182 1 [l0, l1, l2, l3, l4] [] (.int x :: st) h Q ↔ pb_R 182 2 [l0, l1, l2, some (.int x), l4] [] st h Q) ∧
  (∀ (l0 l2 l3 l4 : Option Value) (st : List Value) (h : pb_H) (Q : Option Value → pb_H → Prop) (x : Int32), pb_R 182 2 [l0, some (.int x), l2, l3, l4] [] st h Q ↔ pb_R 182 3 [l0, some (.int x), l2, l3, l4] [] (.int x :: st) h Q) ∧
  (∀ (l0 l1 l2 l3 l4 : Option Value) (st : List Value) (h : pb_H) (Q : Option Value → pb_H → Prop) (x : Int32), pb_R 182 3 [l0, l1, l2, l3, l4] [] (.int x :: st) h Q ↔ pb_R 182 5 [l0, l1, l2, l3, some (.int x)] [] st h Q) ∧
  (∀ (l0 l1 l3 l4 : Option Value) (st : List Value) (h : pb_H) (Q : Option Value → pb_H → Prop) (x : Int32), pb_R 182 7 [l0, l1, some (.int x), l3, l4] [] st h Q ↔ pb_R 182 8 [l0, l1, some (.int x), l3, l4] [] (.int x :: st) h Q) ∧
  (∀ (L : pb_L) (J : pb_J) (st : List Value) (h : pb_H) (Q : Option Value → pb_H → Prop) (x y : Int32), pb_R 182 8 L J (.int y :: .int x :: st) h Q ↔ if y ≤ x then pb_R 182 48 L J st h Q else pb_R 182 11 L J st h Q) ∧
  (∀ (L : pb_L) (J : pb_J) (st : List Value) (h : pb_H) (Q : Option Value → pb_H → Prop), pb_R 182 11 L J st h Q ↔ pb_R 182 13 L J (.int (10 : Int32) :: st) h Q) ∧
  (∀ (l0 l1 l2 l4 : Option Value) (st : List Value) (h : pb_H) (Q : Option Value → pb_H → Prop) (x : Int32), pb_R 182 13 [l0, l1, l2, some (.int x), l4] [] st h Q ↔ pb_R 182 14 [l0, l1, l2, some (.int x), l4] [] (.int x :: st) h Q) ∧
  (∀ (L : pb_L) (J : pb_J) (st : List Value) (x y : Int32) (h : pb_H) (Q : Option Value → pb_H → Prop), pb_R 182 14 L J (.int y :: .int x :: st) h Q ↔ pb_R 182 15 L J (.int (x * y) :: st) h Q) ∧
  (∀ (l1 l2 l3 l4 : Option Value) (st : List Value) (h : pb_H) (Q : Option Value → pb_H → Prop) (x : Nat), pb_R 182 15 [some (.ref x), l1, l2, l3, l4] [] st h Q ↔ pb_R 182 16 [some (.ref x), l1, l2, l3, l4] [] (.ref x :: st) h Q) ∧
  (∀ (l1 l2 l3 l4 : Option Value) (st : List Value) (h : pb_H) (Q : Option Value → pb_H → Prop), pb_R 182 15 [some .null, l1, l2, l3, l4] [] st h Q ↔ pb_R 182 16 [some .null, l1, l2, l3, l4] [] (.null :: st) h Q) ∧
  (∀ (L : pb_L) (J : pb_J) (st : List Value) (h : pb_H) (Q : Option Value → pb_H → Prop) (a : Nat), pb_R 182 16 L J (.ref a :: st) h Q ↔ pb_o (pb_gf (h.2 a) 12 6) (fun v => pb_R 182 19 L J (v :: st) h Q)) ∧
  (∀ (l0 l1 l2 l3 : Option Value) (st : List Value) (h : pb_H) (Q : Option Value → pb_H → Prop) (x : Int32), pb_R 182 19 [l0, l1, l2, l3, some (.int x)] [] st h Q ↔ pb_R 182 21 [l0, l1, l2, l3, some (.int x)] [] (.int x :: st) h Q) ∧
  (∀ (L : pb_L) (J : pb_J) (st : List Value) (h : pb_H) (Q : Option Value → pb_H → Prop) (a : Nat) (i : Int32), pb_R 182 21 L J (.int i :: .ref a :: st) h Q ↔ pb_o (pb_ab (h.2 a) i) (fun v => pb_R 182 22 L J (.int v :: st) h Q)) ∧
  (∀ (L : pb_L) (J : pb_J) (st : List Value) (x y : Int32) (h : pb_H) (Q : Option Value → pb_H → Prop), pb_R 182 22 L J (.int y :: .int x :: st) h Q ↔ pb_R 182 23 L J (.int (x + y) :: st) h Q) ∧
  (∀ (L : pb_L) (J : pb_J) (st : List Value) (h : pb_H) (Q : Option Value → pb_H → Prop), pb_R 182 23 L J st h Q ↔ pb_R 182 25 L J (.int (48 : Int32) :: st) h Q) ∧
  (∀ (L : pb_L) (J : pb_J) (st : List Value) (x y : Int32) (h : pb_H) (Q : Option Value → pb_H → Prop), pb_R 182 25 L J (.int y :: .int x :: st) h Q ↔ pb_R 182 26 L J (.int (x - y) :: st) h Q) ∧
  (∀ (l0 l1 l2 l3 l4 : Option Value) (st : List Value) (h : pb_H) (Q : Option Value → pb_H → Prop) (x : Int32), pb_R 182 26 [l0, l1, l2, l3, l4] [] (.int x :: st) h Q ↔ pb_R 182 27 [l0, l1, l2, some (.int x), l4] [] st h Q) ∧
  (∀ (l0 l1 l2 l4 : Option Value) (st : List Value) (h : pb_H) (Q : Option Value → pb_H → Prop) (x : Int32), pb_R 182 27 [l0, l1, l2, some (.int x), l4] [] st h Q ↔ pb_R 182 28 [l0, l1, l2, some (.int x), l4] [] (.int x :: st) h Q) ∧
  (∀ (L : pb_L) (J : pb_J) (st : List Value) (h : pb_H) (Q : Option Value → pb_H → Prop), pb_R 182 28 L J st h Q ↔ pb_R 182 31 L J (.int (1000 : Int32) :: st) h Q) ∧
  (∀ (L : pb_L) (J : pb_J) (st : List Value) (h : pb_H) (Q : Option Value → pb_H → Prop) (x y : Int32), pb_R 182 31 L J (.int y :: .int x :: st) h Q ↔ if x ≤ y then pb_R 182 40 L J st h Q else pb_R 182 34 L J st h Q) ∧
  (∀ (L : pb_L) (J : pb_J) (st : List Value) (h : pb_H) (Q : Option Value → pb_H → Prop), pb_R 182 34 L J st h Q ↔ pb_R 182 37 L J (.int (1000 : Int32) :: st) h Q) ∧
  (∀ (L : pb_L) (J : pb_J) (st : List Value) (h : pb_H) (Q : Option Value → pb_H → Prop), pb_R 182 37 L J st h Q ↔ pb_R 182 41 L J st h Q) ∧
  (∀ (l0 l1 l2 l4 : Option Value) (st : List Value) (h : pb_H) (Q : Option Value → pb_H → Prop) (x : Int32), pb_R 182 40 [l0, l1, l2, some (.int x), l4] [] st h Q ↔ pb_R 182 41 [l0, l1, l2, some (.int x), l4] [] (.int x :: st) h Q) ∧
  (∀ (l0 l1 l2 l3 l4 : Option Value) (st : List Value) (h : pb_H) (Q : Option Value → pb_H → Prop) (x : Int32), pb_R 182 41 [l0, l1, l2, l3, l4] [] (.int x :: st) h Q ↔ pb_R 182 42 [l0, l1, l2, some (.int x), l4] [] st h Q) ∧
  (∀ (l0 l1 l2 l3 : Option Value) (st : List Value) (h : pb_H) (Q : Option Value → pb_H → Prop) (x : Int32), pb_R 182 42 [l0, l1, l2, l3, some (.int x)] [] st h Q ↔ pb_R 182 45 [l0, l1, l2, l3, some (.int (x + (1 : Int32)))] [] st h Q) ∧
  (∀ (L : pb_L) (J : pb_J) (st : List Value) (h : pb_H) (Q : Option Value → pb_H → Prop), pb_R 182 45 L J st h Q ↔ pb_R 182 5 L J st h Q) ∧
  (∀ (l0 l1 l2 l4 : Option Value) (st : List Value) (h : pb_H) (Q : Option Value → pb_H → Prop) (x : Int32), pb_R 182 48 [l0, l1, l2, some (.int x), l4] [] st h Q ↔ pb_R 182 49 [l0, l1, l2, some (.int x), l4] [] (.int x :: st) h Q) ∧
  (∀ (l1 l2 l3 l4 : Option Value) (st : List Value) (h : pb_H) (Q : Option Value → pb_H → Prop) (x : Nat), pb_R 182 49 [some (.ref x), l1, l2, l3, l4] [] st h Q ↔ pb_R 182 50 [some (.ref x), l1, l2, l3, l4] [] (.ref x :: st) h Q) ∧
  (∀ (l1 l2 l3 l4 : Option Value) (st : List Value) (h : pb_H) (Q : Option Value → pb_H → Prop), pb_R 182 49 [some .null, l1, l2, l3, l4] [] st h Q ↔ pb_R 182 50 [some .null, l1, l2, l3, l4] [] (.null :: st) h Q) ∧
  (∀ (L : pb_L) (J : pb_J) (st : List Value) (h : pb_H) (Q : Option Value → pb_H → Prop) (a : Nat), pb_R 182 50 L J (.ref a :: st) h Q ↔ pb_o (pb_gf (h.2 a) 12 4) (fun v => pb_R 182 53 L J (v :: st) h Q)) ∧
  (∀ (L : pb_L) (J : pb_J) (st : List Value) (h : pb_H) (Q : Option Value → pb_H → Prop) (x y : Int32), pb_R 182 53 L J (.int y :: .int x :: st) h Q ↔ if y < x then pb_R 182 60 L J st h Q else pb_R 182 56 L J st h Q) ∧
  (∀ (l0 l1 l2 l4 : Option Value) (st : List Value) (h : pb_H) (Q : Option Value → pb_H → Prop) (x : Int32), pb_R 182 56 [l0, l1, l2, some (.int x), l4] [] st h Q ↔ pb_R 182 57 [l0, l1, l2, some (.int x), l4] [] (.int x :: st) h Q) ∧
  (∀ (L : pb_L) (J : pb_J) (st : List Value) (h : pb_H) (Q : Option Value → pb_H → Prop), pb_R 182 57 L J st h Q ↔ pb_R 182 61 L J st h Q) ∧
  (∀ (L : pb_L) (J : pb_J) (st : List Value) (h : pb_H) (Q : Option Value → pb_H → Prop), pb_R 182 60 L J st h Q ↔ pb_R 182 61 L J (.int (0 : Int32) :: st) h Q) ∧
  (∀ (L : pb_L) (J : pb_J) (h : pb_H) (Q : Option Value → pb_H → Prop) (x : Int32), pb_R 182 61 L J [.int x] h Q ↔ Q (some (.int x)) h) := ⟨
  fun L J st h Q => pf_S pb_u_182 rfl rfl,
  fun l0 l1 l2 l3 l4 st h Q x => pf_S pb_u_182 rfl rfl,
  fun l0 l2 l3 l4 st h Q x => pf_S pb_u_182 rfl rfl,
  fun l0 l1 l2 l3 l4 st h Q x => pf_S pb_u_182 rfl rfl,
  fun l0 l1 l3 l4 st h Q x => pf_S pb_u_182 rfl rfl,
  fun L J st h Q x y => pf_ic pb_u_182 rfl rfl rfl,
  fun L J st h Q => pf_S pb_u_182 rfl rfl,
  fun l0 l1 l2 l4 st h Q x => pf_S pb_u_182 rfl rfl,
  fun L J st x y h Q => pf_S pb_u_182 rfl rfl,
  fun l1 l2 l3 l4 st h Q x => pf_S pb_u_182 rfl rfl,
  fun l1 l2 l3 l4 st h Q => pf_S pb_u_182 rfl rfl,
  fun L J st h Q a => pf_gf pb_u_182 rfl rfl,
  fun l0 l1 l2 l3 st h Q x => pf_S pb_u_182 rfl rfl,
  fun L J st h Q a i => pf_ab pb_u_182 rfl rfl,
  fun L J st x y h Q => pf_S pb_u_182 rfl rfl,
  fun L J st h Q => pf_S pb_u_182 rfl rfl,
  fun L J st x y h Q => pf_S pb_u_182 rfl rfl,
  fun l0 l1 l2 l3 l4 st h Q x => pf_S pb_u_182 rfl rfl,
  fun l0 l1 l2 l4 st h Q x => pf_S pb_u_182 rfl rfl,
  fun L J st h Q => pf_S pb_u_182 rfl rfl,
  fun L J st h Q x y => pf_ic pb_u_182 rfl rfl rfl,
  fun L J st h Q => pf_S pb_u_182 rfl rfl,
  fun L J st h Q => pf_S pb_u_182 rfl rfl,
  fun l0 l1 l2 l4 st h Q x => pf_S pb_u_182 rfl rfl,
  fun l0 l1 l2 l3 l4 st h Q x => pf_S pb_u_182 rfl rfl,
  fun l0 l1 l2 l3 st h Q x => pf_S pb_u_182 rfl rfl,
  fun L J st h Q => pf_S pb_u_182 rfl rfl,
  fun l0 l1 l2 l4 st h Q x => pf_S pb_u_182 rfl rfl,
  fun l1 l2 l3 l4 st h Q x => pf_S pb_u_182 rfl rfl,
  fun l1 l2 l3 l4 st h Q => pf_S pb_u_182 rfl rfl,
  fun L J st h Q a => pf_gf pb_u_182 rfl rfl,
  fun L J st h Q x y => pf_ic pb_u_182 rfl rfl rfl,
  fun l0 l1 l2 l4 st h Q x => pf_S pb_u_182 rfl rfl,
  fun L J st h Q => pf_S pb_u_182 rfl rfl,
  fun L J st h Q => pf_S pb_u_182 rfl rfl,
  fun L J h Q x => pf_ri pb_u_182 rfl rfl⟩
theorem pb_c182 (x0 : Nat) (x1 : Int32) (x2 : Int32) (h : pb_H) (Q : Option Value → pb_H → Prop) : pb_call 182 [.ref x0, .int x1, .int x2] h Q ↔ pb_R 182 0 [some (.ref x0), some (.int x1), some (.int x2), none, none] [] [] h Q := Iff.rfl
/-! 183: PlaneBenchModel.fault(II)Z -/
theorem pb_u_183 : pb_t 183 = pb_t183 := rfl
theorem pb_ci_183 : pb_ci 183 = 12 := by decide +kernel
set_option maxRecDepth 100000 in
theorem pb_e183 : (∀ (l1 l2 : Option Value) (st : List Value) (h : pb_H) (Q : Option Value → pb_H → Prop) (x : Nat), pb_R 183 0 [some (.ref x), l1, l2] [] st h Q ↔ pb_R 183 1 [some (.ref x), l1, l2] [] (.ref x :: st) h Q) ∧
  (∀ (l1 l2 : Option Value) (st : List Value) (h : pb_H) (Q : Option Value → pb_H → Prop), pb_R 183 0 [some .null, l1, l2] [] st h Q ↔ pb_R 183 1 [some .null, l1, l2] [] (.null :: st) h Q) ∧
  (∀ (l0 l2 : Option Value) (st : List Value) (h : pb_H) (Q : Option Value → pb_H → Prop) (x : Int32), pb_R 183 1 [l0, some (.int x), l2] [] st h Q ↔ pb_R 183 2 [l0, some (.int x), l2] [] (.int x :: st) h Q) ∧
  (∀ (L : pb_L) (J : pb_J) (st : List Value) (h : pb_H) (Q : Option Value → pb_H → Prop) (a : Nat) (x : Int32), pb_R 183 2 L J (.int x :: .ref a :: st) h Q ↔ pb_o (pb_pf (h.2 a) 12 8 (.int x)) (fun c => pb_R 183 5 L J st (pb_set h a c) Q)) ∧
  (∀ (l1 l2 : Option Value) (st : List Value) (h : pb_H) (Q : Option Value → pb_H → Prop) (x : Nat), pb_R 183 5 [some (.ref x), l1, l2] [] st h Q ↔ pb_R 183 6 [some (.ref x), l1, l2] [] (.ref x :: st) h Q) ∧
  (∀ (l1 l2 : Option Value) (st : List Value) (h : pb_H) (Q : Option Value → pb_H → Prop), pb_R 183 5 [some .null, l1, l2] [] st h Q ↔ pb_R 183 6 [some .null, l1, l2] [] (.null :: st) h Q) ∧
  (∀ (l0 l1 : Option Value) (st : List Value) (h : pb_H) (Q : Option Value → pb_H → Prop) (x : Int32), pb_R 183 6 [l0, l1, some (.int x)] [] st h Q ↔ pb_R 183 7 [l0, l1, some (.int x)] [] (.int x :: st) h Q) ∧
  (∀ (L : pb_L) (J : pb_J) (st : List Value) (h : pb_H) (Q : Option Value → pb_H → Prop) (a : Nat) (x : Int32), pb_R 183 7 L J (.int x :: .ref a :: st) h Q ↔ pb_o (pb_pf (h.2 a) 12 9 (.int x)) (fun c => pb_R 183 10 L J st (pb_set h a c) Q)) ∧
  (∀ (L : pb_L) (J : pb_J) (st : List Value) (h : pb_H) (Q : Option Value → pb_H → Prop), pb_R 183 10 L J st h Q ↔ pb_R 183 11 L J (.int (0 : Int32) :: st) h Q) ∧
  (∀ (L : pb_L) (J : pb_J) (h : pb_H) (Q : Option Value → pb_H → Prop) (x : Int32), pb_R 183 11 L J [.int x] h Q ↔ narrow .boolean (.int x) = .int x ∧ Q (some (.int x)) h) := ⟨
  fun l1 l2 st h Q x => pf_S pb_u_183 rfl rfl,
  fun l1 l2 st h Q => pf_S pb_u_183 rfl rfl,
  fun l0 l2 st h Q x => pf_S pb_u_183 rfl rfl,
  fun L J st h Q a x => pf_pf pb_u_183 rfl rfl,
  fun l1 l2 st h Q x => pf_S pb_u_183 rfl rfl,
  fun l1 l2 st h Q => pf_S pb_u_183 rfl rfl,
  fun l0 l1 st h Q x => pf_S pb_u_183 rfl rfl,
  fun L J st h Q a x => pf_pf pb_u_183 rfl rfl,
  fun L J st h Q => pf_S pb_u_183 rfl rfl,
  fun L J h Q x => pf_rz pb_u_183 rfl rfl⟩
theorem pb_c183 (x0 : Nat) (x1 : Int32) (x2 : Int32) (h : pb_H) (Q : Option Value → pb_H → Prop) : pb_call 183 [.ref x0, .int x1, .int x2] h Q ↔ pb_R 183 0 [some (.ref x0), some (.int x1), some (.int x2)] [] [] h Q := Iff.rfl
/-! 184: PlaneBenchModel.right(I)V -/
theorem pb_u_184 : pb_t 184 = pb_t184 := rfl
theorem pb_ci_184 : pb_ci 184 = 12 := by decide +kernel
set_option maxRecDepth 100000 in
theorem pb_e184 : (∀ (l1 : Option Value) (st : List Value) (h : pb_H) (Q : Option Value → pb_H → Prop) (x : Nat), pb_R 184 0 [some (.ref x), l1] [] st h Q ↔ pb_R 184 1 [some (.ref x), l1] [] (.ref x :: st) h Q) ∧
  (∀ (l1 : Option Value) (st : List Value) (h : pb_H) (Q : Option Value → pb_H → Prop), pb_R 184 0 [some .null, l1] [] st h Q ↔ pb_R 184 1 [some .null, l1] [] (.null :: st) h Q) ∧
  (∀ (l0 : Option Value) (st : List Value) (h : pb_H) (Q : Option Value → pb_H → Prop) (x : Int32), pb_R 184 1 [l0, some (.int x)] [] st h Q ↔ pb_R 184 2 [l0, some (.int x)] [] (.int x :: st) h Q) ∧
  (∀ (L : pb_L) (J : pb_J) (st : List Value) (h : pb_H) (Q : Option Value → pb_H → Prop) (x : Int32), pb_R 184 2 L J (.int x :: st) h Q ↔ if x ≤ 0 then pb_R 184 11 L J st h Q else pb_R 184 5 L J st h Q) ∧
  (∀ (L : pb_L) (J : pb_J) (st : List Value) (h : pb_H) (Q : Option Value → pb_H → Prop), pb_R 184 5 L J st h Q ↔ pb_R 184 8 L J (.int (316 : Int32) :: st) h Q) ∧
  (∀ (L : pb_L) (J : pb_J) (st : List Value) (h : pb_H) (Q : Option Value → pb_H → Prop), pb_R 184 8 L J st h Q ↔ pb_R 184 14 L J st h Q) ∧
  (∀ (L : pb_L) (J : pb_J) (st : List Value) (h : pb_H) (Q : Option Value → pb_H → Prop), pb_R 184 11 L J st h Q ↔ pb_R 184 14 L J (.int (317 : Int32) :: st) h Q) ∧
  (∀ (L : pb_L) (J : pb_J) (st : List Value) (h : pb_H) (Q : Option Value → pb_H → Prop), pb_R 184 14 L J st h Q ↔ pb_R 184 15 L J (.int (0 : Int32) :: st) h Q) ∧
  (∀ (L : pb_L) (J : pb_J) (h : pb_H) (Q : Option Value → pb_H → Prop) (x0 : Int32) (x1 : Int32) (x2 : Nat), pb_R 184 15 L J [.int x0, .int x1, .ref x2] h Q ↔ pb_call 143 [.int x1, .int x0] h (fun v t => pb_R 184 18 L J (v.toList ++ [.ref x2]) t Q)) ∧
  (∀ (L : pb_L) (J : pb_J) (st : List Value) (h : pb_H) (Q : Option Value → pb_H → Prop), pb_R 184 18 L J st h Q ↔ pb_R 184 21 L J (.int (320 : Int32) :: st) h Q) ∧
  (∀ (L : pb_L) (J : pb_J) (st : List Value) (h : pb_H) (Q : Option Value → pb_H → Prop), pb_R 184 21 L J st h Q ↔ pb_R 184 22 L J (.int (2 : Int32) :: st) h Q) ∧
  (∀ (L : pb_L) (J : pb_J) (h : pb_H) (Q : Option Value → pb_H → Prop) (x0 : Int32) (x1 : Int32) (x2 : Int32) (x3 : Nat), pb_R 184 22 L J [.int x0, .int x1, .int x2, .ref x3] h Q ↔ pb_call 143 [.int x1, .int x0] h (fun v t => pb_R 184 25 L J (v.toList ++ [.int x2, .ref x3]) t Q)) ∧
  (∀ (L : pb_L) (J : pb_J) (h : pb_H) (Q : Option Value → pb_H → Prop) (x0 : Int32) (x1 : Int32) (x2 : Nat), pb_R 184 25 L J [.int x0, .int x1, .ref x2] h Q ↔ pb_is0 (h.2 x2) 12 = true ∧ pb_call 151 [.ref x2, .int x1, .int x0] h (fun v t => pb_R 184 28 L J (v.toList ++ []) t Q)) ∧
  (∀ (L : pb_L) (J : pb_J) (h : pb_H) (Q : Option Value → pb_H → Prop), pb_R 184 28 L J [] h Q ↔ Q none h) := ⟨
  fun l1 st h Q x => pf_S pb_u_184 rfl rfl,
  fun l1 st h Q => pf_S pb_u_184 rfl rfl,
  fun l0 st h Q x => pf_S pb_u_184 rfl rfl,
  fun L J st h Q x => pf_ii pb_u_184 rfl rfl rfl,
  fun L J st h Q => pf_S pb_u_184 rfl rfl,
  fun L J st h Q => pf_S pb_u_184 rfl rfl,
  fun L J st h Q => pf_S pb_u_184 rfl rfl,
  fun L J st h Q => pf_S pb_u_184 rfl rfl,
  fun L J h Q x0 x1 x2 => pf_ks pb_u_184 rfl rfl rfl rfl,
  fun L J st h Q => pf_S pb_u_184 rfl rfl,
  fun L J st h Q => pf_S pb_u_184 rfl rfl,
  fun L J h Q x0 x1 x2 x3 => pf_ks pb_u_184 rfl rfl rfl rfl,
  fun L J h Q x0 x1 x2 => pf_kv pb_u_184 rfl pb_ci_151 rfl ⟨Nat.le_of_ble_eq_true rfl, Nat.le_of_ble_eq_true rfl, Nat.le_of_ble_eq_true rfl, Nat.le_of_ble_eq_true rfl, rfl⟩ rfl rfl,
  fun L J h Q => pf_rv pb_u_184 rfl rfl⟩
theorem pb_c184 (x0 : Nat) (x1 : Int32) (h : pb_H) (Q : Option Value → pb_H → Prop) : pb_call 184 [.ref x0, .int x1] h Q ↔ pb_R 184 0 [some (.ref x0), some (.int x1)] [] [] h Q := Iff.rfl
/-! 185: PlaneBenchModel.term(II)V -/
theorem pb_u_185 : pb_t 185 = pb_t185 := rfl
theorem pb_ci_185 : pb_ci 185 = 12 := by decide +kernel
set_option maxRecDepth 100000 in
theorem pb_e185 : (∀ (l0 l2 l3 l4 : Option Value) (st : List Value) (h : pb_H) (Q : Option Value → pb_H → Prop) (x : Int32), pb_R 185 0 [l0, some (.int x), l2, l3, l4] [] st h Q ↔ pb_R 185 1 [l0, some (.int x), l2, l3, l4] [] (.int x :: st) h Q) ∧
  (∀ (L : pb_L) (J : pb_J) (st : List Value) (h : pb_H) (Q : Option Value → pb_H → Prop) (x : Int32), pb_R 185 1 L J (.int x :: st) h Q ↔ if 0 ≤ x then pb_R 185 9 L J st h Q else pb_R 185 4 L J st h Q) ∧
  (∀ (l0 l2 l3 l4 : Option Value) (st : List Value) (h : pb_H) (Q : Option Value → pb_H → Prop) (x : Int32), pb_R 185 4 [l0, some (.int x), l2, l3, l4] [] st h Q ↔ pb_R 185 5 [l0, some (.int x), l2, l3, l4] [] (.int x :: st) h Q) ∧
  (∀ (L : pb_L) (J : pb_J) (st : List Value) (x : Int32) (h : pb_H) (Q : Option Value → pb_H → Prop), pb_R 185 5 L J (.int x :: st) h Q ↔ pb_R 185 6 L J (.int (-x) :: st) h Q) ∧
  (∀ (L : pb_L) (J : pb_J) (st : List Value) (h : pb_H) (Q : Option Value → pb_H → Prop), pb_R 185 6 L J st h Q ↔ pb_R 185 10 L J st h Q) ∧
  (∀ (l0 l2 l3 l4 : Option Value) (st : List Value) (h : pb_H) (Q : Option Value → pb_H → Prop) (x : Int32), pb_R 185 9 [l0, some (.int x), l2, l3, l4] [] st h Q ↔ pb_R 185 10 [l0, some (.int x), l2, l3, l4] [] (.int x :: st) h Q) ∧
  (∀ (l0 l1 l2 l3 l4 : Option Value) (st : List Value) (h : pb_H) (Q : Option Value → pb_H → Prop) (x : Int32), pb_R 185 10 [l0, l1, l2, l3, l4] [] (.int x :: st) h Q ↔ pb_R 185 11 [l0, l1, l2, some (.int x), l4] [] st h Q) ∧
  (∀ (l0 l2 l3 l4 : Option Value) (st : List Value) (h : pb_H) (Q : Option Value → pb_H → Prop) (x : Int32), pb_R 185 11 [l0, some (.int x), l2, l3, l4] [] st h Q ↔ pb_R 185 12 [l0, some (.int x), l2, l3, l4] [] (.int x :: st) h Q) ∧
  (∀ (L : pb_L) (J : pb_J) (st : List Value) (h : pb_H) (Q : Option Value → pb_H → Prop) (x : Int32), pb_R 185 12 L J (.int x :: st) h Q ↔ if 0 ≤ x then pb_R 185 20 L J st h Q else pb_R 185 15 L J st h Q) ∧
  (∀ (l0 l1 l3 l4 : Option Value) (st : List Value) (h : pb_H) (Q : Option Value → pb_H → Prop) (x : Int32), pb_R 185 15 [l0, l1, some (.int x), l3, l4] [] st h Q ↔ pb_R 185 16 [l0, l1, some (.int x), l3, l4] [] (.int x :: st) h Q) ∧
  (∀ (L : pb_L) (J : pb_J) (st : List Value) (x : Int32) (h : pb_H) (Q : Option Value → pb_H → Prop), pb_R 185 16 L J (.int x :: st) h Q ↔ pb_R 185 17 L J (.int (-x) :: st) h Q) ∧
  (∀ (L : pb_L) (J : pb_J) (st : List Value) (h : pb_H) (Q : Option Value → pb_H → Prop), pb_R 185 17 L J st h Q ↔ pb_R 185 21 L J st h Q) ∧
  (∀ (l0 l1 l3 l4 : Option Value) (st : List Value) (h : pb_H) (Q : Option Value → pb_H → Prop) (x : Int32), pb_R 185 20 [l0, l1, some (.int x), l3, l4] [] st h Q ↔ pb_R 185 21 [l0, l1, some (.int x), l3, l4] [] (.int x :: st) h Q) ∧
  (∀ (l0 l1 l2 l3 l4 : Option Value) (st : List Value) (h : pb_H) (Q : Option Value → pb_H → Prop) (x : Int32), pb_R 185 21 [l0, l1, l2, l3, l4] [] (.int x :: st) h Q ↔ pb_R 185 23 [l0, l1, l2, l3, some (.int x)] [] st h Q) ∧
  (∀ (l1 l2 l3 l4 : Option Value) (st : List Value) (h : pb_H) (Q : Option Value → pb_H → Prop) (x : Nat), pb_R 185 23 [some (.ref x), l1, l2, l3, l4] [] st h Q ↔ pb_R 185 24 [some (.ref x), l1, l2, l3, l4] [] (.ref x :: st) h Q) ∧
  (∀ (l1 l2 l3 l4 : Option Value) (st : List Value) (h : pb_H) (Q : Option Value → pb_H → Prop), pb_R 185 23 [some .null, l1, l2, l3, l4] [] st h Q ↔ pb_R 185 24 [some .null, l1, l2, l3, l4] [] (.null :: st) h Q) ∧
  (∀ (l0 l1 l2 l3 : Option Value) (st : List Value) (h : pb_H) (Q : Option Value → pb_H → Prop) (x : Int32), pb_R 185 24 [l0, l1, l2, l3, some (.int x)] [] st h Q ↔ pb_R 185 26 [l0, l1, l2, l3, some (.int x)] [] (.int x :: st) h Q) ∧
  (∀ (L : pb_L) (J : pb_J) (st : List Value) (h : pb_H) (Q : Option Value → pb_H → Prop) (x : Int32), pb_R 185 26 L J (.int x :: st) h Q ↔ if x ≤ 0 then pb_R 185 35 L J st h Q else pb_R 185 29 L J st h Q) ∧
  (∀ (L : pb_L) (J : pb_J) (st : List Value) (h : pb_H) (Q : Option Value → pb_H → Prop), pb_R 185 29 L J st h Q ↔ pb_R 185 32 L J (.int (316 : Int32) :: st) h Q) ∧
  (∀ (L : pb_L) (J : pb_J) (st : List Value) (h : pb_H) (Q : Option Value → pb_H → Prop), pb_R 185 32 L J st h Q ↔ pb_R 185 38 L J st h Q) ∧
  (∀ (L : pb_L) (J : pb_J) (st : List Value) (h : pb_H) (Q : Option Value → pb_H → Prop), pb_R 185 35 L J st h Q ↔ pb_R 185 38 L J (.int (317 : Int32) :: st) h Q) ∧
  (∀ (l0 l1 l2 l4 : Option Value) (st : List Value) (h : pb_H) (Q : Option Value → pb_H → Prop) (x : Int32), pb_R 185 38 [l0, l1, l2, some (.int x), l4] [] st h Q ↔ pb_R 185 39 [l0, l1, l2, some (.int x), l4] [] (.int x :: st) h Q) ∧
  (∀ (L : pb_L) (J : pb_J) (h : pb_H) (Q : Option Value → pb_H → Prop) (x0 : Int32) (x1 : Int32) (x2 : Nat), pb_R 185 39 L J [.int x0, .int x1, .ref x2] h Q ↔ pb_call 143 [.int x1, .int x0] h (fun v t => pb_R 185 42 L J (v.toList ++ [.ref x2]) t Q)) ∧
  (∀ (L : pb_L) (J : pb_J) (st : List Value) (h : pb_H) (Q : Option Value → pb_H → Prop), pb_R 185 42 L J st h Q ↔ pb_R 185 45 L J (.int (320 : Int32) :: st) h Q) ∧
  (∀ (L : pb_L) (J : pb_J) (st : List Value) (h : pb_H) (Q : Option Value → pb_H → Prop), pb_R 185 45 L J st h Q ↔ pb_R 185 46 L J (.int (2 : Int32) :: st) h Q) ∧
  (∀ (L : pb_L) (J : pb_J) (h : pb_H) (Q : Option Value → pb_H → Prop) (x0 : Int32) (x1 : Int32) (x2 : Int32) (x3 : Nat), pb_R 185 46 L J [.int x0, .int x1, .int x2, .ref x3] h Q ↔ pb_call 143 [.int x1, .int x0] h (fun v t => pb_R 185 49 L J (v.toList ++ [.int x2, .ref x3]) t Q)) ∧
  (∀ (L : pb_L) (J : pb_J) (h : pb_H) (Q : Option Value → pb_H → Prop) (x0 : Int32) (x1 : Int32) (x2 : Nat), pb_R 185 49 L J [.int x0, .int x1, .ref x2] h Q ↔ pb_is0 (h.2 x2) 12 = true ∧ pb_call 151 [.ref x2, .int x1, .int x0] h (fun v t => pb_R 185 52 L J (v.toList ++ []) t Q)) ∧
  (∀ (l0 l2 l3 l4 : Option Value) (st : List Value) (h : pb_H) (Q : Option Value → pb_H → Prop) (x : Int32), pb_R 185 52 [l0, some (.int x), l2, l3, l4] [] st h Q ↔ pb_R 185 53 [l0, some (.int x), l2, l3, l4] [] (.int x :: st) h Q) ∧
  (∀ (L : pb_L) (J : pb_J) (st : List Value) (h : pb_H) (Q : Option Value → pb_H → Prop) (x : Int32), pb_R 185 53 L J (.int x :: st) h Q ↔ if 0 ≤ x then pb_R 185 62 L J st h Q else pb_R 185 56 L J st h Q) ∧
  (∀ (l1 l2 l3 l4 : Option Value) (st : List Value) (h : pb_H) (Q : Option Value → pb_H → Prop) (x : Nat), pb_R 185 56 [some (.ref x), l1, l2, l3, l4] [] st h Q ↔ pb_R 185 57 [some (.ref x), l1, l2, l3, l4] [] (.ref x :: st) h Q) ∧
  (∀ (l1 l2 l3 l4 : Option Value) (st : List Value) (h : pb_H) (Q : Option Value → pb_H → Prop), pb_R 185 56 [some .null, l1, l2, l3, l4] [] st h Q ↔ pb_R 185 57 [some .null, l1, l2, l3, l4] [] (.null :: st) h Q) ∧
  (∀ (l0 l1 l3 l4 : Option Value) (st : List Value) (h : pb_H) (Q : Option Value → pb_H → Prop) (x : Int32), pb_R 185 57 [l0, l1, some (.int x), l3, l4] [] st h Q ↔ pb_R 185 58 [l0, l1, some (.int x), l3, l4] [] (.int x :: st) h Q) ∧
  (∀ (L : pb_L) (J : pb_J) (st : List Value) (x : Int32) (h : pb_H) (Q : Option Value → pb_H → Prop), pb_R 185 58 L J (.int x :: st) h Q ↔ pb_R 185 59 L J (.int (-x) :: st) h Q) ∧
  (∀ (L : pb_L) (J : pb_J) (h : pb_H) (Q : Option Value → pb_H → Prop) (x0 : Int32) (x1 : Nat), pb_R 185 59 L J [.int x0, .ref x1] h Q ↔ pb_is0 (h.2 x1) 12 = true ∧ pb_call 184 [.ref x1, .int x0] h (fun v t => pb_R 185 62 L J (v.toList ++ []) t Q)) ∧
  (∀ (L : pb_L) (J : pb_J) (h : pb_H) (Q : Option Value → pb_H → Prop), pb_R 185 62 L J [] h Q ↔ Q none h) := ⟨
  fun l0 l2 l3 l4 st h Q x => pf_S pb_u_185 rfl rfl,
  fun L J st h Q x => pf_ii pb_u_185 rfl rfl rfl,
  fun l0 l2 l3 l4 st h Q x => pf_S pb_u_185 rfl rfl,
  fun L J st x h Q => pf_S pb_u_185 rfl rfl,
  fun L J st h Q => pf_S pb_u_185 rfl rfl,
  fun l0 l2 l3 l4 st h Q x => pf_S pb_u_185 rfl rfl,
  fun l0 l1 l2 l3 l4 st h Q x => pf_S pb_u_185 rfl rfl,
  fun l0 l2 l3 l4 st h Q x => pf_S pb_u_185 rfl rfl,
  fun L J st h Q x => pf_ii pb_u_185 rfl rfl rfl,
  fun l0 l1 l3 l4 st h Q x => pf_S pb_u_185 rfl rfl,
  fun L J st x h Q => pf_S pb_u_185 rfl rfl,
  fun L J st h Q => pf_S pb_u_185 rfl rfl,
  fun l0 l1 l3 l4 st h Q x => pf_S pb_u_185 rfl rfl,
  fun l0 l1 l2 l3 l4 st h Q x => pf_S pb_u_185 rfl rfl,
  fun l1 l2 l3 l4 st h Q x => pf_S pb_u_185 rfl rfl,
  fun l1 l2 l3 l4 st h Q => pf_S pb_u_185 rfl rfl,
  fun l0 l1 l2 l3 st h Q x => pf_S pb_u_185 rfl rfl,
  fun L J st h Q x => pf_ii pb_u_185 rfl rfl rfl,
  fun L J st h Q => pf_S pb_u_185 rfl rfl,
  fun L J st h Q => pf_S pb_u_185 rfl rfl,
  fun L J st h Q => pf_S pb_u_185 rfl rfl,
  fun l0 l1 l2 l4 st h Q x => pf_S pb_u_185 rfl rfl,
  fun L J h Q x0 x1 x2 => pf_ks pb_u_185 rfl rfl rfl rfl,
  fun L J st h Q => pf_S pb_u_185 rfl rfl,
  fun L J st h Q => pf_S pb_u_185 rfl rfl,
  fun L J h Q x0 x1 x2 x3 => pf_ks pb_u_185 rfl rfl rfl rfl,
  fun L J h Q x0 x1 x2 => pf_kv pb_u_185 rfl pb_ci_151 rfl ⟨Nat.le_of_ble_eq_true rfl, Nat.le_of_ble_eq_true rfl, Nat.le_of_ble_eq_true rfl, Nat.le_of_ble_eq_true rfl, rfl⟩ rfl rfl,
  fun l0 l2 l3 l4 st h Q x => pf_S pb_u_185 rfl rfl,
  fun L J st h Q x => pf_ii pb_u_185 rfl rfl rfl,
  fun l1 l2 l3 l4 st h Q x => pf_S pb_u_185 rfl rfl,
  fun l1 l2 l3 l4 st h Q => pf_S pb_u_185 rfl rfl,
  fun l0 l1 l3 l4 st h Q x => pf_S pb_u_185 rfl rfl,
  fun L J st x h Q => pf_S pb_u_185 rfl rfl,
  fun L J h Q x0 x1 => pf_kv pb_u_185 rfl pb_ci_184 rfl ⟨Nat.le_of_ble_eq_true rfl, Nat.le_of_ble_eq_true rfl, Nat.le_of_ble_eq_true rfl, Nat.le_of_ble_eq_true rfl, rfl⟩ rfl rfl,
  fun L J h Q => pf_rv pb_u_185 rfl rfl⟩
theorem pb_c185 (x0 : Nat) (x1 : Int32) (x2 : Int32) (h : pb_H) (Q : Option Value → pb_H → Prop) : pb_call 185 [.ref x0, .int x1, .int x2] h Q ↔ pb_R 185 0 [some (.ref x0), some (.int x1), some (.int x2), none, none] [] [] h Q := Iff.rfl
/-! 186: PlaneBenchModel.signed()Z -/
theorem pb_u_186 : pb_t 186 = pb_t186 := rfl
theorem pb_ci_186 : pb_ci 186 = 12 := by decide +kernel
set_option maxRecDepth 100000 in
theorem pb_e186 : (∀ (st : List Value) (h : pb_H) (Q : Option Value → pb_H → Prop) (x : Nat), pb_R 186 0 [some (.ref x)] [] st h Q ↔ pb_R 186 1 [some (.ref x)] [] (.ref x :: st) h Q) ∧
  (∀ (st : List Value) (h : pb_H) (Q : Option Value → pb_H → Prop), pb_R 186 0 [some .null] [] st h Q ↔ pb_R 186 1 [some .null] [] (.null :: st) h Q) ∧
  (∀ (st : List Value) (h : pb_H) (Q : Option Value → pb_H → Prop) (x : Nat), pb_R 186 1 [some (.ref x)] [] st h Q ↔ pb_R 186 2 [some (.ref x)] [] (.ref x :: st) h Q) ∧
  (∀ (st : List Value) (h : pb_H) (Q : Option Value → pb_H → Prop), pb_R 186 1 [some .null] [] st h Q ↔ pb_R 186 2 [some .null] [] (.null :: st) h Q) ∧
  (∀ (L : pb_L) (J : pb_J) (st : List Value) (h : pb_H) (Q : Option Value → pb_H → Prop), pb_R 186 2 L J st h Q ↔ pb_R 186 4 L J (.int (45 : Int32) :: st) h Q) ∧
  (∀ (L : pb_L) (J : pb_J) (h : pb_H) (Q : Option Value → pb_H → Prop) (x0 : Int32) (x1 : Nat) (x2 : Nat), pb_R 186 4 L J [.int x0, .ref x1, .ref x2] h Q ↔ pb_is0 (h.2 x1) 12 = true ∧ pb_call 178 [.ref x1, .int x0] h (fun v t => pb_R 186 7 L J (v.toList ++ [.ref x2]) t Q)) ∧
  (∀ (L : pb_L) (J : pb_J) (st : List Value) (h : pb_H) (Q : Option Value → pb_H → Prop) (a : Nat) (x : Int32), pb_R 186 7 L J (.int x :: .ref a :: st) h Q ↔ pb_o (pb_pf (h.2 a) 12 19 (.int x)) (fun c => pb_R 186 10 L J st (pb_set h a c) Q)) ∧
  (∀ (st : List Value) (h : pb_H) (Q : Option Value → pb_H → Prop) (x : Nat), pb_R 186 10 [some (.ref x)] [] st h Q ↔ pb_R 186 11 [some (.ref x)] [] (.ref x :: st) h Q) ∧
  (∀ (st : List Value) (h : pb_H) (Q : Option Value → pb_H → Prop), pb_R 186 10 [some .null] [] st h Q ↔ pb_R 186 11 [some .null] [] (.null :: st) h Q) ∧
  (∀ (L : pb_L) (J : pb_J) (st : List Value) (h : pb_H) (Q : Option Value → pb_H → Prop) (a : Nat), pb_R 186 11 L J (.ref a :: st) h Q ↔ pb_o (pb_gf (h.2 a) 12 15) (fun v => pb_R 186 14 L J (v :: st) h Q)) ∧
  (∀ (L : pb_L) (J : pb_J) (st : List Value) (h : pb_H) (Q : Option Value → pb_H → Prop), pb_R 186 14 L J st h Q ↔ pb_R 186 15 L J (.int (3 : Int32) :: st) h Q) ∧
  (∀ (L : pb_L) (J : pb_J) (st : List Value) (h : pb_H) (Q : Option Value → pb_H → Prop) (x y : Int32), pb_R 186 15 L J (.int y :: .int x :: st) h Q ↔ if ¬ x = y then pb_R 186 22 L J st h Q else pb_R 186 18 L J st h Q) ∧
  (∀ (st : List Value) (h : pb_H) (Q : Option Value → pb_H → Prop) (x : Nat), pb_R 186 18 [some (.ref x)] [] st h Q ↔ pb_R 186 19 [some (.ref x)] [] (.ref x :: st) h Q) ∧
  (∀ (st : List Value) (h : pb_H) (Q : Option Value → pb_H → Prop), pb_R 186 18 [some .null] [] st h Q ↔ pb_R 186 19 [some .null] [] (.null :: st) h Q) ∧
  (∀ (L : pb_L) (J : pb_J) (h : pb_H) (Q : Option Value → pb_H → Prop) (x0 : Nat), pb_R 186 19 L J [.ref x0] h Q ↔ pb_is0 (h.2 x0) 12 = true ∧ pb_call 177 [.ref x0] h (fun v t => pb_R 186 22 L J (v.toList ++ []) t Q)) ∧
  (∀ (st : List Value) (h : pb_H) (Q : Option Value → pb_H → Prop) (x : Nat), pb_R 186 22 [some (.ref x)] [] st h Q ↔ pb_R 186 23 [some (.ref x)] [] (.ref x :: st) h Q) ∧
  (∀ (st : List Value) (h : pb_H) (Q : Option Value → pb_H → Prop), pb_R 186 22 [some .null] [] st h Q ↔ pb_R 186 23 [some .null] [] (.null :: st) h Q) ∧
  (∀ (L : pb_L) (J : pb_J) (st : List Value) (h : pb_H) (Q : Option Value → pb_H → Prop) (a : Nat), pb_R 186 23 L J (.ref a :: st) h Q ↔ pb_o (pb_gf (h.2 a) 12 15) (fun v => pb_R 186 26 L J (v :: st) h Q)) ∧
  (∀ (L : pb_L) (J : pb_J) (st : List Value) (h : pb_H) (Q : Option Value → pb_H → Prop), pb_R 186 26 L J st h Q ↔ pb_R 186 27 L J (.int (1 : Int32) :: st) h Q) ∧
  (∀ (L : pb_L) (J : pb_J) (st : List Value) (h : pb_H) (Q : Option Value → pb_H → Prop) (x y : Int32), pb_R 186 27 L J (.int y :: .int x :: st) h Q ↔ if x = y then pb_R 186 45 L J st h Q else pb_R 186 30 L J st h Q) ∧
  (∀ (st : List Value) (h : pb_H) (Q : Option Value → pb_H → Prop) (x : Nat), pb_R 186 30 [some (.ref x)] [] st h Q ↔ pb_R 186 31 [some (.ref x)] [] (.ref x :: st) h Q) ∧
  (∀ (st : List Value) (h : pb_H) (Q : Option Value → pb_H → Prop), pb_R 186 30 [some .null] [] st h Q ↔ pb_R 186 31 [some .null] [] (.null :: st) h Q) ∧
  (∀ (L : pb_L) (J : pb_J) (st : List Value) (h : pb_H) (Q : Option Value → pb_H → Prop), pb_R 186 31 L J st h Q ↔ pb_R 186 32 L J (.int (0 : Int32) :: st) h Q) ∧
  (∀ (L : pb_L) (J : pb_J) (st : List Value) (h : pb_H) (Q : Option Value → pb_H → Prop) (a : Nat) (x : Int32), pb_R 186 32 L J (.int x :: .ref a :: st) h Q ↔ pb_o (pb_pf (h.2 a) 12 19 (.int x)) (fun c => pb_R 186 35 L J st (pb_set h a c) Q)) ∧
  (∀ (st : List Value) (h : pb_H) (Q : Option Value → pb_H → Prop) (x : Nat), pb_R 186 35 [some (.ref x)] [] st h Q ↔ pb_R 186 36 [some (.ref x)] [] (.ref x :: st) h Q) ∧
  (∀ (st : List Value) (h : pb_H) (Q : Option Value → pb_H → Prop), pb_R 186 35 [some .null] [] st h Q ↔ pb_R 186 36 [some .null] [] (.null :: st) h Q) ∧
  (∀ (L : pb_L) (J : pb_J) (st : List Value) (h : pb_H) (Q : Option Value → pb_H → Prop), pb_R 186 36 L J st h Q ↔ pb_R 186 37 L J (.int (1 : Int32) :: st) h Q) ∧
  (∀ (st : List Value) (h : pb_H) (Q : Option Value → pb_H → Prop) (x : Nat), pb_R 186 37 [some (.ref x)] [] st h Q ↔ pb_R 186 38 [some (.ref x)] [] (.ref x :: st) h Q) ∧
  (∀ (st : List Value) (h : pb_H) (Q : Option Value → pb_H → Prop), pb_R 186 37 [some .null] [] st h Q ↔ pb_R 186 38 [some .null] [] (.null :: st) h Q) ∧
  (∀ (L : pb_L) (J : pb_J) (st : List Value) (h : pb_H) (Q : Option Value → pb_H → Prop) (a : Nat), pb_R 186 38 L J (.ref a :: st) h Q ↔ pb_o (pb_gf (h.2 a) 12 16) (fun v => pb_R 186 41 L J (v :: st) h Q)) ∧
  (∀ (L : pb_L) (J : pb_J) (h : pb_H) (Q : Option Value → pb_H → Prop) (x0 : Int32) (x1 : Int32) (x2 : Nat), pb_R 186 41 L J [.int x0, .int x1, .ref x2] h Q ↔ pb_is0 (h.2 x2) 12 = true ∧ pb_call 183 [.ref x2, .int x1, .int x0] h (fun v t => pb_R 186 44 L J (v.toList ++ []) t Q)) ∧
  (∀ (L : pb_L) (J : pb_J) (h : pb_H) (Q : Option Value → pb_H → Prop) (x : Int32), pb_R 186 44 L J [.int x] h Q ↔ narrow .boolean (.int x) = .int x ∧ Q (some (.int x)) h) ∧
  (∀ (st : List Value) (h : pb_H) (Q : Option Value → pb_H → Prop) (x : Nat), pb_R 186 45 [some (.ref x)] [] st h Q ↔ pb_R 186 46 [some (.ref x)] [] (.ref x :: st) h Q) ∧
  (∀ (st : List Value) (h : pb_H) (Q : Option Value → pb_H → Prop), pb_R 186 45 [some .null] [] st h Q ↔ pb_R 186 46 [some .null] [] (.null :: st) h Q) ∧
  (∀ (st : List Value) (h : pb_H) (Q : Option Value → pb_H → Prop) (x : Nat), pb_R 186 46 [some (.ref x)] [] st h Q ↔ pb_R 186 47 [some (.ref x)] [] (.ref x :: st) h Q) ∧
  (∀ (st : List Value) (h : pb_H) (Q : Option Value → pb_H → Prop), pb_R 186 46 [some .null] [] st h Q ↔ pb_R 186 47 [some .null] [] (.null :: st) h Q) ∧
  (∀ (L : pb_L) (J : pb_J) (st : List Value) (h : pb_H) (Q : Option Value → pb_H → Prop) (a : Nat), pb_R 186 47 L J (.ref a :: st) h Q ↔ pb_o (pb_gf (h.2 a) 12 16) (fun v => pb_R 186 50 L J (v :: st) h Q)) ∧
  (∀ (st : List Value) (h : pb_H) (Q : Option Value → pb_H → Prop) (x : Nat), pb_R 186 50 [some (.ref x)] [] st h Q ↔ pb_R 186 51 [some (.ref x)] [] (.ref x :: st) h Q) ∧
  (∀ (st : List Value) (h : pb_H) (Q : Option Value → pb_H → Prop), pb_R 186 50 [some .null] [] st h Q ↔ pb_R 186 51 [some .null] [] (.null :: st) h Q) ∧
  (∀ (L : pb_L) (J : pb_J) (st : List Value) (h : pb_H) (Q : Option Value → pb_H → Prop) (a : Nat), pb_R 186 51 L J (.ref a :: st) h Q ↔ pb_o (pb_gf (h.2 a) 12 17) (fun v => pb_R 186 54 L J (v :: st) h Q)) ∧
  (∀ (L : pb_L) (J : pb_J) (st : List Value) (h : pb_H) (Q : Option Value → pb_H → Prop), pb_R 186 54 L J st h Q ↔ pb_R 186 57 L J (.int (320 : Int32) :: st) h Q) ∧
  (∀ (L : pb_L) (J : pb_J) (st : List Value) (h : pb_H) (Q : Option Value → pb_H → Prop), pb_R 186 57 L J st h Q ↔ pb_R 186 58 L J (.int (2 : Int32) :: st) h Q) ∧
  (∀ (L : pb_L) (J : pb_J) (h : pb_H) (Q : Option Value → pb_H → Prop) (x0 : Int32) (x1 : Int32) (x2 : Int32) (x3 : Int32) (x4 : Nat), pb_R 186 58 L J [.int x0, .int x1, .int x2, .int x3, .ref x4] h Q ↔ pb_call 143 [.int x1, .int x0] h (fun v t => pb_R 186 61 L J (v.toList ++ [.int x2, .int x3, .ref x4]) t Q)) ∧
  (∀ (L : pb_L) (J : pb_J) (h : pb_H) (Q : Option Value → pb_H → Prop) (x0 : Int32) (x1 : Int32) (x2 : Int32) (x3 : Nat), pb_R 186 61 L J [.int x0, .int x1, .int x2, .ref x3] h Q ↔ pb_is0 (h.2 x3) 12 = true ∧ pb_call 181 [.ref x3, .int x2, .int x1, .int x0] h (fun v t => pb_R 186 64 L J (v.toList ++ []) t Q)) ∧
  (∀ (st : List Value) (h : pb_H) (Q : Option Value → pb_H → Prop) (x : Nat), pb_R 186 64 [some (.ref x)] [] st h Q ↔ pb_R 186 65 [some (.ref x)] [] (.ref x :: st) h Q) ∧
  (∀ (st : List Value) (h : pb_H) (Q : Option Value → pb_H → Prop), pb_R 186 64 [some .null] [] st h Q ↔ pb_R 186 65 [some .null] [] (.null :: st) h Q) ∧
  (∀ (L : pb_L) (J : pb_J) (h : pb_H) (Q : Option Value → pb_H → Prop) (x0 : Nat), pb_R 186 65 L J [.ref x0] h Q ↔ pb_is0 (h.2 x0) 12 = true ∧ pb_call 177 [.ref x0] h (fun v t => pb_R 186 68 L J (v.toList ++ []) t Q)) ∧
  (∀ (L : pb_L) (J : pb_J) (st : List Value) (h : pb_H) (Q : Option Value → pb_H → Prop), pb_R 186 68 L J st h Q ↔ pb_R 186 69 L J (.int (1 : Int32) :: st) h Q) ∧
  (∀ (L : pb_L) (J : pb_J) (h : pb_H) (Q : Option Value → pb_H → Prop) (x : Int32), pb_R 186 69 L J [.int x] h Q ↔ narrow .boolean (.int x) = .int x ∧ Q (some (.int x)) h) := ⟨
  fun st h Q x => pf_S pb_u_186 rfl rfl,
  fun st h Q => pf_S pb_u_186 rfl rfl,
  fun st h Q x => pf_S pb_u_186 rfl rfl,
  fun st h Q => pf_S pb_u_186 rfl rfl,
  fun L J st h Q => pf_S pb_u_186 rfl rfl,
  fun L J h Q x0 x1 x2 => pf_kv pb_u_186 rfl pb_ci_178 rfl ⟨Nat.le_of_ble_eq_true rfl, Nat.le_of_ble_eq_true rfl, Nat.le_of_ble_eq_true rfl, Nat.le_of_ble_eq_true rfl, rfl⟩ rfl rfl,
  fun L J st h Q a x => pf_pf pb_u_186 rfl rfl,
  fun st h Q x => pf_S pb_u_186 rfl rfl,
  fun st h Q => pf_S pb_u_186 rfl rfl,
  fun L J st h Q a => pf_gf pb_u_186 rfl rfl,
  fun L J st h Q => pf_S pb_u_186 rfl rfl,
  fun L J st h Q x y => pf_ic pb_u_186 rfl rfl pf_ne,
  fun st h Q x => pf_S pb_u_186 rfl rfl,
  fun st h Q => pf_S pb_u_186 rfl rfl,
  fun L J h Q x0 => pf_kv pb_u_186 rfl pb_ci_177 rfl ⟨Nat.le_of_ble_eq_true rfl, Nat.le_of_ble_eq_true rfl, Nat.le_of_ble_eq_true rfl, Nat.le_of_ble_eq_true rfl, rfl⟩ rfl rfl,
  fun st h Q x => pf_S pb_u_186 rfl rfl,
  fun st h Q => pf_S pb_u_186 rfl rfl,
  fun L J st h Q a => pf_gf pb_u_186 rfl rfl,
  fun L J st h Q => pf_S pb_u_186 rfl rfl,
  fun L J st h Q x y => pf_ic pb_u_186 rfl rfl rfl,
  fun st h Q x => pf_S pb_u_186 rfl rfl,
  fun st h Q => pf_S pb_u_186 rfl rfl,
  fun L J st h Q => pf_S pb_u_186 rfl rfl,
  fun L J st h Q a x => pf_pf pb_u_186 rfl rfl,
  fun st h Q x => pf_S pb_u_186 rfl rfl,
  fun st h Q => pf_S pb_u_186 rfl rfl,
  fun L J st h Q => pf_S pb_u_186 rfl rfl,
  fun st h Q x => pf_S pb_u_186 rfl rfl,
  fun st h Q => pf_S pb_u_186 rfl rfl,
  fun L J st h Q a => pf_gf pb_u_186 rfl rfl,
  fun L J h Q x0 x1 x2 => pf_kv pb_u_186 rfl pb_ci_183 rfl ⟨Nat.le_of_ble_eq_true rfl, Nat.le_of_ble_eq_true rfl, Nat.le_of_ble_eq_true rfl, Nat.le_of_ble_eq_true rfl, rfl⟩ rfl rfl,
  fun L J h Q x => pf_rz pb_u_186 rfl rfl,
  fun st h Q x => pf_S pb_u_186 rfl rfl,
  fun st h Q => pf_S pb_u_186 rfl rfl,
  fun st h Q x => pf_S pb_u_186 rfl rfl,
  fun st h Q => pf_S pb_u_186 rfl rfl,
  fun L J st h Q a => pf_gf pb_u_186 rfl rfl,
  fun st h Q x => pf_S pb_u_186 rfl rfl,
  fun st h Q => pf_S pb_u_186 rfl rfl,
  fun L J st h Q a => pf_gf pb_u_186 rfl rfl,
  fun L J st h Q => pf_S pb_u_186 rfl rfl,
  fun L J st h Q => pf_S pb_u_186 rfl rfl,
  fun L J h Q x0 x1 x2 x3 x4 => pf_ks pb_u_186 rfl rfl rfl rfl,
  fun L J h Q x0 x1 x2 x3 => pf_kv pb_u_186 rfl pb_ci_181 rfl ⟨Nat.le_of_ble_eq_true rfl, Nat.le_of_ble_eq_true rfl, Nat.le_of_ble_eq_true rfl, Nat.le_of_ble_eq_true rfl, rfl⟩ rfl rfl,
  fun st h Q x => pf_S pb_u_186 rfl rfl,
  fun st h Q => pf_S pb_u_186 rfl rfl,
  fun L J h Q x0 => pf_kv pb_u_186 rfl pb_ci_177 rfl ⟨Nat.le_of_ble_eq_true rfl, Nat.le_of_ble_eq_true rfl, Nat.le_of_ble_eq_true rfl, Nat.le_of_ble_eq_true rfl, rfl⟩ rfl rfl,
  fun L J st h Q => pf_S pb_u_186 rfl rfl,
  fun L J h Q x => pf_rz pb_u_186 rfl rfl⟩
theorem pb_c186 (x0 : Nat) (h : pb_H) (Q : Option Value → pb_H → Prop) : pb_call 186 [.ref x0] h Q ↔ pb_R 186 0 [some (.ref x0)] [] [] h Q := Iff.rfl
/-! 187: PlaneBenchModel.terms()Z -/
theorem pb_u_187 : pb_t 187 = pb_t187 := rfl
theorem pb_ci_187 : pb_ci 187 = 12 := by decide +kernel
set_option maxRecDepth 100000 in
theorem pb_q187_14 (l1 : Option Value) (st : List Value) (h : pb_H) (Q : Option Value → pb_H → Prop) (x : Nat) : pb_R 187 14 [some (.ref x), l1] [] st h Q ↔ pb_R 187 15 [some (.ref x), l1] [] (.ref x :: st) h Q := pf_S pb_u_187 rfl rfl
set_option maxRecDepth 100000 in
theorem pb_q187_14n (l1 : Option Value) (st : List Value) (h : pb_H) (Q : Option Value → pb_H → Prop) : pb_R 187 14 [some .null, l1] [] st h Q ↔ pb_R 187 15 [some .null, l1] [] (.null :: st) h Q := pf_S pb_u_187 rfl rfl
set_option maxRecDepth 100000 in
theorem pb_e187 : (∀ (l1 : Option Value) (st : List Value) (h : pb_H) (Q : Option Value → pb_H → Prop) (x : Nat), pb_R 187 0 [some (.ref x), l1] [] st h Q ↔ pb_R 187 1 [some (.ref x), l1] [] (.ref x :: st) h Q) ∧
  (∀ (l1 : Option Value) (st : List Value) (h : pb_H) (Q : Option Value → pb_H → Prop), pb_R 187 0 [some .null, l1] [] st h Q ↔ pb_R 187 1 [some .null, l1] [] (.null :: st) h Q) ∧
  (∀ (L : pb_L) (J : pb_J) (st : List Value) (h : pb_H) (Q : Option Value → pb_H → Prop), pb_R 187 1 L J st h Q ↔ pb_R 187 4 L J (.int (316 : Int32) :: st) h Q) ∧
  (∀ (L : pb_L) (J : pb_J) (h : pb_H) (Q : Option Value → pb_H → Prop) (x0 : Int32) (x1 : Nat), pb_R 187 4 L J [.int x0, .ref x1] h Q ↔ pb_is0 (h.2 x1) 12 = true ∧ pb_call 161 [.ref x1, .int x0] h (fun v t => pb_R 187 7 L J (v.toList ++ []) t Q)) ∧
  (∀ (l1 : Option Value) (st : List Value) (h : pb_H) (Q : Option Value → pb_H → Prop) (x : Nat), pb_R 187 7 [some (.ref x), l1] [] st h Q ↔ pb_R 187 8 [some (.ref x), l1] [] (.ref x :: st) h Q) ∧
  (∀ (l1 : Option Value) (st : List Value) (h : pb_H) (Q : Option Value → pb_H → Prop), pb_R 187 7 [some .null, l1] [] st h Q ↔ pb_R 187 8 [some .null, l1] [] (.null :: st) h Q) ∧
  (∀ (L : pb_L) (J : pb_J) (st : List Value) (h : pb_H) (Q : Option Value → pb_H → Prop), pb_R 187 8 L J st h Q ↔ pb_R 187 11 L J (.int (317 : Int32) :: st) h Q) ∧
  (∀ (L : pb_L) (J : pb_J) (h : pb_H) (Q : Option Value → pb_H → Prop) (x0 : Int32) (x1 : Nat), pb_R 187 11 L J [.int x0, .ref x1] h Q ↔ pb_is0 (h.2 x1) 12 = true ∧ pb_call 161 [.ref x1, .int x0] h (fun v t => pb_R 187 14 L J (v.toList ++ []) t Q)) ∧
  (∀ (L : pb_L) (J : pb_J) (st : List Value) (h : pb_H) (Q : Option Value → pb_H → Prop) (a : Nat), pb_R 187 15 L J (.ref a :: st) h Q ↔ pb_o (pb_gf (h.2 a) 12 15) (fun v => pb_R 187 18 L J (v :: st) h Q)) ∧
  (∀ (L : pb_L) (J : pb_J) (st : List Value) (h : pb_H) (Q : Option Value → pb_H → Prop), pb_R 187 18 L J st h Q ↔ pb_R 187 19 L J (.int (1 : Int32) :: st) h Q) ∧
  (∀ (L : pb_L) (J : pb_J) (st : List Value) (h : pb_H) (Q : Option Value → pb_H → Prop) (x y : Int32), pb_R 187 19 L J (.int y :: .int x :: st) h Q ↔ if x = y then pb_R 187 48 L J st h Q else pb_R 187 22 L J st h Q) ∧
  (∀ (l1 : Option Value) (st : List Value) (h : pb_H) (Q : Option Value → pb_H → Prop) (x : Nat), pb_R 187 22 [some (.ref x), l1] [] st h Q ↔ pb_R 187 23 [some (.ref x), l1] [] (.ref x :: st) h Q) ∧
  (∀ (l1 : Option Value) (st : List Value) (h : pb_H) (Q : Option Value → pb_H → Prop), pb_R 187 22 [some .null, l1] [] st h Q ↔ pb_R 187 23 [some .null, l1] [] (.null :: st) h Q) ∧
  (∀ (L : pb_L) (J : pb_J) (st : List Value) (h : pb_H) (Q : Option Value → pb_H → Prop) (a : Nat), pb_R 187 23 L J (.ref a :: st) h Q ↔ pb_o (pb_gf (h.2 a) 12 15) (fun v => pb_R 187 26 L J (v :: st) h Q)) ∧
  (∀ (L : pb_L) (J : pb_J) (st : List Value) (h : pb_H) (Q : Option Value → pb_H → Prop), pb_R 187 26 L J st h Q ↔ pb_R 187 27 L J (.int (2 : Int32) :: st) h Q) ∧
  (∀ (L : pb_L) (J : pb_J) (st : List Value) (h : pb_H) (Q : Option Value → pb_H → Prop) (x y : Int32), pb_R 187 27 L J (.int y :: .int x :: st) h Q ↔ if x = y then pb_R 187 48 L J st h Q else pb_R 187 30 L J st h Q) ∧
  (∀ (l1 : Option Value) (st : List Value) (h : pb_H) (Q : Option Value → pb_H → Prop) (x : Nat), pb_R 187 30 [some (.ref x), l1] [] st h Q ↔ pb_R 187 31 [some (.ref x), l1] [] (.ref x :: st) h Q) ∧
  (∀ (l1 : Option Value) (st : List Value) (h : pb_H) (Q : Option Value → pb_H → Prop), pb_R 187 30 [some .null, l1] [] st h Q ↔ pb_R 187 31 [some .null, l1] [] (.null :: st) h Q) ∧
  (∀ (L : pb_L) (J : pb_J) (st : List Value) (h : pb_H) (Q : Option Value → pb_H → Prop), pb_R 187 31 L J st h Q ↔ pb_R 187 33 L J (.int (43 : Int32) :: st) h Q) ∧
  (∀ (L : pb_L) (J : pb_J) (h : pb_H) (Q : Option Value → pb_H → Prop) (x0 : Int32) (x1 : Nat), pb_R 187 33 L J [.int x0, .ref x1] h Q ↔ pb_is0 (h.2 x1) 12 = true ∧ pb_call 178 [.ref x1, .int x0] h (fun v t => pb_R 187 36 L J (v.toList ++ []) t Q)) ∧
  (∀ (L : pb_L) (J : pb_J) (st : List Value) (h : pb_H) (Q : Option Value → pb_H → Prop) (x : Int32), pb_R 187 36 L J (.int x :: st) h Q ↔ if ¬ x = 0 then pb_R 187 48 L J st h Q else pb_R 187 39 L J st h Q) ∧
  (∀ (l1 : Option Value) (st : List Value) (h : pb_H) (Q : Option Value → pb_H → Prop) (x : Nat), pb_R 187 39 [some (.ref x), l1] [] st h Q ↔ pb_R 187 40 [some (.ref x), l1] [] (.ref x :: st) h Q) ∧
  (∀ (l1 : Option Value) (st : List Value) (h : pb_H) (Q : Option Value → pb_H → Prop), pb_R 187 39 [some .null, l1] [] st h Q ↔ pb_R 187 40 [some .null, l1] [] (.null :: st) h Q) ∧
  (∀ (L : pb_L) (J : pb_J) (st : List Value) (h : pb_H) (Q : Option Value → pb_H → Prop), pb_R 187 40 L J st h Q ↔ pb_R 187 42 L J (.int (45 : Int32) :: st) h Q) ∧
  (∀ (L : pb_L) (J : pb_J) (h : pb_H) (Q : Option Value → pb_H → Prop) (x0 : Int32) (x1 : Nat), pb_R 187 42 L J [.int x0, .ref x1] h Q ↔ pb_is0 (h.2 x1) 12 = true ∧ pb_call 178 [.ref x1, .int x0] h (fun v t => pb_R 187 45 L J (v.toList ++ []) t Q)) ∧
  (∀ (L : pb_L) (J : pb_J) (st : List Value) (h : pb_H) (Q : Option Value → pb_H → Prop) (x : Int32), pb_R 187 45 L J (.int x :: st) h Q ↔ if x = 0 then pb_R 187 152 L J st h Q else pb_R 187 48 L J st h Q) ∧
  (∀ (L : pb_L) (J : pb_J) (st : List Value) (h : pb_H) (Q : Option Value → pb_H → Prop), pb_R 187 48 L J st h Q ↔ pb_R 187 49 L J (.int (1 : Int32) :: st) h Q) ∧
  (∀ (l0 l1 : Option Value) (st : List Value) (h : pb_H) (Q : Option Value → pb_H → Prop) (x : Int32), pb_R 187 49 [l0, l1] [] (.int x :: st) h Q ↔ pb_R 187 50 [l0, some (.int x)] [] st h Q) ∧
  (∀ (l1 : Option Value) (st : List Value) (h : pb_H) (Q : Option Value → pb_H → Prop) (x : Nat), pb_R 187 50 [some (.ref x), l1] [] st h Q ↔ pb_R 187 51 [some (.ref x), l1] [] (.ref x :: st) h Q) ∧
  (∀ (l1 : Option Value) (st : List Value) (h : pb_H) (Q : Option Value → pb_H → Prop), pb_R 187 50 [some .null, l1] [] st h Q ↔ pb_R 187 51 [some .null, l1] [] (.null :: st) h Q) ∧
  (∀ (L : pb_L) (J : pb_J) (st : List Value) (h : pb_H) (Q : Option Value → pb_H → Prop), pb_R 187 51 L J st h Q ↔ pb_R 187 54 L J (.int (320 : Int32) :: st) h Q) ∧
  (∀ (L : pb_L) (J : pb_J) (st : List Value) (h : pb_H) (Q : Option Value → pb_H → Prop), pb_R 187 54 L J st h Q ↔ pb_R 187 55 L J (.int (2 : Int32) :: st) h Q) ∧
  (∀ (L : pb_L) (J : pb_J) (h : pb_H) (Q : Option Value → pb_H → Prop) (x0 : Int32) (x1 : Int32) (x2 : Nat), pb_R 187 55 L J [.int x0, .int x1, .ref x2] h Q ↔ pb_call 143 [.int x1, .int x0] h (fun v t => pb_R 187 58 L J (v.toList ++ [.ref x2]) t Q)) ∧
  (∀ (L : pb_L) (J : pb_J) (st : List Value) (h : pb_H) (Q : Option Value → pb_H → Prop), pb_R 187 58 L J st h Q ↔ pb_R 187 59 L J (.int (1 : Int32) :: st) h Q) ∧
  (∀ (L : pb_L) (J : pb_J) (h : pb_H) (Q : Option Value → pb_H → Prop) (x0 : Int32) (x1 : Int32) (x2 : Nat), pb_R 187 59 L J [.int x0, .int x1, .ref x2] h Q ↔ pb_is0 (h.2 x2) 12 = true ∧ pb_call 145 [.ref x2, .int x1, .int x0] h (fun v t => pb_R 187 62 L J (v.toList ++ []) t Q)) ∧
  (∀ (l1 : Option Value) (st : List Value) (h : pb_H) (Q : Option Value → pb_H → Prop) (x : Nat), pb_R 187 62 [some (.ref x), l1] [] st h Q ↔ pb_R 187 63 [some (.ref x), l1] [] (.ref x :: st) h Q) ∧
  (∀ (l1 : Option Value) (st : List Value) (h : pb_H) (Q : Option Value → pb_H → Prop), pb_R 187 62 [some .null, l1] [] st h Q ↔ pb_R 187 63 [some .null, l1] [] (.null :: st) h Q) ∧
  (∀ (L : pb_L) (J : pb_J) (st : List Value) (h : pb_H) (Q : Option Value → pb_H → Prop) (a : Nat), pb_R 187 63 L J (.ref a :: st) h Q ↔ pb_o (pb_gf (h.2 a) 12 15) (fun v => pb_R 187 66 L J (v :: st) h Q)) ∧
  (∀ (L : pb_L) (J : pb_J) (st : List Value) (h : pb_H) (Q : Option Value → pb_H → Prop), pb_R 187 66 L J st h Q ↔ pb_R 187 67 L J (.int (2 : Int32) :: st) h Q) ∧
  (∀ (L : pb_L) (J : pb_J) (st : List Value) (h : pb_H) (Q : Option Value → pb_H → Prop) (x y : Int32), pb_R 187 67 L J (.int y :: .int x :: st) h Q ↔ if x = y then pb_R 187 79 L J st h Q else pb_R 187 70 L J st h Q) ∧
  (∀ (l1 : Option Value) (st : List Value) (h : pb_H) (Q : Option Value → pb_H → Prop) (x : Nat), pb_R 187 70 [some (.ref x), l1] [] st h Q ↔ pb_R 187 71 [some (.ref x), l1] [] (.ref x :: st) h Q) ∧
  (∀ (l1 : Option Value) (st : List Value) (h : pb_H) (Q : Option Value → pb_H → Prop), pb_R 187 70 [some .null, l1] [] st h Q ↔ pb_R 187 71 [some .null, l1] [] (.null :: st) h Q) ∧
  (∀ (L : pb_L) (J : pb_J) (h : pb_H) (Q : Option Value → pb_H → Prop) (x0 : Nat), pb_R 187 71 L J [.ref x0] h Q ↔ pb_is0 (h.2 x0) 12 = true ∧ pb_call 186 [.ref x0] h (fun v t => pb_R 187 74 L J (v.toList ++ []) t Q)) ∧
  (∀ (L : pb_L) (J : pb_J) (st : List Value) (h : pb_H) (Q : Option Value → pb_H → Prop) (x : Int32), pb_R 187 74 L J (.int x :: st) h Q ↔ if ¬ x = 0 then pb_R 187 79 L J st h Q else pb_R 187 77 L J st h Q) ∧
  (∀ (L : pb_L) (J : pb_J) (st : List Value) (h : pb_H) (Q : Option Value → pb_H → Prop), pb_R 187 77 L J st h Q ↔ pb_R 187 78 L J (.int (0 : Int32) :: st) h Q) ∧
  (∀ (L : pb_L) (J : pb_J) (h : pb_H) (Q : Option Value → pb_H → Prop) (x : Int32), pb_R 187 78 L J [.int x] h Q ↔ narrow .boolean (.int x) = .int x ∧ Q (some (.int x)) h) ∧
  (∀ (l1 : Option Value) (st : List Value) (h : pb_H) (Q : Option Value → pb_H → Prop) (x : Nat), pb_R 187 79 [some (.ref x), l1] [] st h Q ↔ pb_R 187 80 [some (.ref x), l1] [] (.ref x :: st) h Q) ∧
  (∀ (l1 : Option Value) (st : List Value) (h : pb_H) (Q : Option Value → pb_H → Prop), pb_R 187 79 [some .null, l1] [] st h Q ↔ pb_R 187 80 [some .null, l1] [] (.null :: st) h Q) ∧
  (∀ (L : pb_L) (J : pb_J) (st : List Value) (h : pb_H) (Q : Option Value → pb_H → Prop) (a : Nat), pb_R 187 80 L J (.ref a :: st) h Q ↔ pb_o (pb_gf (h.2 a) 12 19) (fun v => pb_R 187 83 L J (v :: st) h Q)) ∧
  (∀ (L : pb_L) (J : pb_J) (st : List Value) (h : pb_H) (Q : Option Value → pb_H → Prop) (x : Int32), pb_R 187 83 L J (.int x :: st) h Q ↔ if x = 0 then pb_R 187 90 L J st h Q else pb_R 187 86 L J st h Q) ∧
  (∀ (L : pb_L) (J : pb_J) (st : List Value) (h : pb_H) (Q : Option Value → pb_H → Prop), pb_R 187 86 L J st h Q ↔ pb_R 187 87 L J (.int (-1 : Int32) :: st) h Q) ∧
  (∀ (L : pb_L) (J : pb_J) (st : List Value) (h : pb_H) (Q : Option Value → pb_H → Prop), pb_R 187 87 L J st h Q ↔ pb_R 187 91 L J st h Q) ∧
  (∀ (L : pb_L) (J : pb_J) (st : List Value) (h : pb_H) (Q : Option Value → pb_H → Prop), pb_R 187 90 L J st h Q ↔ pb_R 187 91 L J (.int (1 : Int32) :: st) h Q) ∧
  (∀ (l0 l1 : Option Value) (st : List Value) (h : pb_H) (Q : Option Value → pb_H → Prop) (x : Int32), pb_R 187 91 [l0, l1] [] (.int x :: st) h Q ↔ pb_R 187 92 [l0, some (.int x)] [] st h Q) ∧
  (∀ (l1 : Option Value) (st : List Value) (h : pb_H) (Q : Option Value → pb_H → Prop) (x : Nat), pb_R 187 92 [some (.ref x), l1] [] st h Q ↔ pb_R 187 93 [some (.ref x), l1] [] (.ref x :: st) h Q) ∧
  (∀ (l1 : Option Value) (st : List Value) (h : pb_H) (Q : Option Value → pb_H → Prop), pb_R 187 92 [some .null, l1] [] st h Q ↔ pb_R 187 93 [some .null, l1] [] (.null :: st) h Q) ∧
  (∀ (L : pb_L) (J : pb_J) (st : List Value) (h : pb_H) (Q : Option Value → pb_H → Prop), pb_R 187 93 L J st h Q ↔ pb_R 187 94 L J (.int (0 : Int32) :: st) h Q) ∧
  (∀ (L : pb_L) (J : pb_J) (st : List Value) (h : pb_H) (Q : Option Value → pb_H → Prop) (a : Nat) (x : Int32), pb_R 187 94 L J (.int x :: .ref a :: st) h Q ↔ pb_o (pb_pf (h.2 a) 12 19 (.int x)) (fun c => pb_R 187 97 L J st (pb_set h a c) Q)) ∧
  (∀ (l1 : Option Value) (st : List Value) (h : pb_H) (Q : Option Value → pb_H → Prop) (x : Nat), pb_R 187 97 [some (.ref x), l1] [] st h Q ↔ pb_R 187 98 [some (.ref x), l1] [] (.ref x :: st) h Q) ∧
  (∀ (l1 : Option Value) (st : List Value) (h : pb_H) (Q : Option Value → pb_H → Prop), pb_R 187 97 [some .null, l1] [] st h Q ↔ pb_R 187 98 [some .null, l1] [] (.null :: st) h Q) ∧
  (∀ (L : pb_L) (J : pb_J) (st : List Value) (h : pb_H) (Q : Option Value → pb_H → Prop) (a : Nat), pb_R 187 98 L J (.ref a :: st) h Q ↔ pb_o (pb_gf (h.2 a) 12 15) (fun v => pb_R 187 101 L J (v :: st) h Q)) ∧
  (∀ (L : pb_L) (J : pb_J) (st : List Value) (h : pb_H) (Q : Option Value → pb_H → Prop), pb_R 187 101 L J st h Q ↔ pb_R 187 102 L J (.int (2 : Int32) :: st) h Q) ∧
  (∀ (L : pb_L) (J : pb_J) (st : List Value) (h : pb_H) (Q : Option Value → pb_H → Prop) (x y : Int32), pb_R 187 102 L J (.int y :: .int x :: st) h Q ↔ if x = y then pb_R 187 115 L J st h Q else pb_R 187 105 L J st h Q) ∧
  (∀ (l1 : Option Value) (st : List Value) (h : pb_H) (Q : Option Value → pb_H → Prop) (x : Nat), pb_R 187 105 [some (.ref x), l1] [] st h Q ↔ pb_R 187 106 [some (.ref x), l1] [] (.ref x :: st) h Q) ∧
  (∀ (l1 : Option Value) (st : List Value) (h : pb_H) (Q : Option Value → pb_H → Prop), pb_R 187 105 [some .null, l1] [] st h Q ↔ pb_R 187 106 [some .null, l1] [] (.null :: st) h Q) ∧
  (∀ (L : pb_L) (J : pb_J) (st : List Value) (h : pb_H) (Q : Option Value → pb_H → Prop), pb_R 187 106 L J st h Q ↔ pb_R 187 107 L J (.int (1 : Int32) :: st) h Q) ∧
  (∀ (l1 : Option Value) (st : List Value) (h : pb_H) (Q : Option Value → pb_H → Prop) (x : Nat), pb_R 187 107 [some (.ref x), l1] [] st h Q ↔ pb_R 187 108 [some (.ref x), l1] [] (.ref x :: st) h Q) ∧
  (∀ (l1 : Option Value) (st : List Value) (h : pb_H) (Q : Option Value → pb_H → Prop), pb_R 187 107 [some .null, l1] [] st h Q ↔ pb_R 187 108 [some .null, l1] [] (.null :: st) h Q) ∧
  (∀ (L : pb_L) (J : pb_J) (st : List Value) (h : pb_H) (Q : Option Value → pb_H → Prop) (a : Nat), pb_R 187 108 L J (.ref a :: st) h Q ↔ pb_o (pb_gf (h.2 a) 12 16) (fun v => pb_R 187 111 L J (v :: st) h Q)) ∧
  (∀ (L : pb_L) (J : pb_J) (h : pb_H) (Q : Option Value → pb_H → Prop) (x0 : Int32) (x1 : Int32) (x2 : Nat), pb_R 187 111 L J [.int x0, .int x1, .ref x2] h Q ↔ pb_is0 (h.2 x2) 12 = true ∧ pb_call 183 [.ref x2, .int x1, .int x0] h (fun v t => pb_R 187 114 L J (v.toList ++ []) t Q)) ∧
  (∀ (L : pb_L) (J : pb_J) (h : pb_H) (Q : Option Value → pb_H → Prop) (x : Int32), pb_R 187 114 L J [.int x] h Q ↔ narrow .boolean (.int x) = .int x ∧ Q (some (.int x)) h) ∧
  (∀ (l1 : Option Value) (st : List Value) (h : pb_H) (Q : Option Value → pb_H → Prop) (x : Nat), pb_R 187 115 [some (.ref x), l1] [] st h Q ↔ pb_R 187 116 [some (.ref x), l1] [] (.ref x :: st) h Q) ∧
  (∀ (l1 : Option Value) (st : List Value) (h : pb_H) (Q : Option Value → pb_H → Prop), pb_R 187 115 [some .null, l1] [] st h Q ↔ pb_R 187 116 [some .null, l1] [] (.null :: st) h Q) ∧
  (∀ (l1 : Option Value) (st : List Value) (h : pb_H) (Q : Option Value → pb_H → Prop) (x : Nat), pb_R 187 116 [some (.ref x), l1] [] st h Q ↔ pb_R 187 117 [some (.ref x), l1] [] (.ref x :: st) h Q) ∧
  (∀ (l1 : Option Value) (st : List Value) (h : pb_H) (Q : Option Value → pb_H → Prop), pb_R 187 116 [some .null, l1] [] st h Q ↔ pb_R 187 117 [some .null, l1] [] (.null :: st) h Q) ∧
  (∀ (L : pb_L) (J : pb_J) (h : pb_H) (Q : Option Value → pb_H → Prop) (x0 : Nat) (x1 : Nat), pb_R 187 117 L J [.ref x0, .ref x1] h Q ↔ pb_is0 (h.2 x0) 12 = true ∧ pb_call 179 [.ref x0] h (fun v t => pb_R 187 120 L J (v.toList ++ [.ref x1]) t Q)) ∧
  (∀ (L : pb_L) (J : pb_J) (h : pb_H) (Q : Option Value → pb_H → Prop) (x0 : Int32) (x1 : Nat), pb_R 187 120 L J [.int x0, .ref x1] h Q ↔ pb_is0 (h.2 x1) 12 = true ∧ pb_call 180 [.ref x1, .int x0] h (fun v t => pb_R 187 123 L J (v.toList ++ []) t Q)) ∧
  (∀ (L : pb_L) (J : pb_J) (st : List Value) (h : pb_H) (Q : Option Value → pb_H → Prop) (x : Int32), pb_R 187 123 L J (.int x :: st) h Q ↔ if ¬ x = 0 then pb_R 187 136 L J st h Q else pb_R 187 126 L J st h Q) ∧
  (∀ (l1 : Option Value) (st : List Value) (h : pb_H) (Q : Option Value → pb_H → Prop) (x : Nat), pb_R 187 126 [some (.ref x), l1] [] st h Q ↔ pb_R 187 127 [some (.ref x), l1] [] (.ref x :: st) h Q) ∧
  (∀ (l1 : Option Value) (st : List Value) (h : pb_H) (Q : Option Value → pb_H → Prop), pb_R 187 126 [some .null, l1] [] st h Q ↔ pb_R 187 127 [some .null, l1] [] (.null :: st) h Q) ∧
  (∀ (L : pb_L) (J : pb_J) (st : List Value) (h : pb_H) (Q : Option Value → pb_H → Prop), pb_R 187 127 L J st h Q ↔ pb_R 187 128 L J (.int (2 : Int32) :: st) h Q) ∧
  (∀ (l1 : Option Value) (st : List Value) (h : pb_H) (Q : Option Value → pb_H → Prop) (x : Nat), pb_R 187 128 [some (.ref x), l1] [] st h Q ↔ pb_R 187 129 [some (.ref x), l1] [] (.ref x :: st) h Q) ∧
  (∀ (l1 : Option Value) (st : List Value) (h : pb_H) (Q : Option Value → pb_H → Prop), pb_R 187 128 [some .null, l1] [] st h Q ↔ pb_R 187 129 [some .null, l1] [] (.null :: st) h Q) ∧
  (∀ (L : pb_L) (J : pb_J) (st : List Value) (h : pb_H) (Q : Option Value → pb_H → Prop) (a : Nat), pb_R 187 129 L J (.ref a :: st) h Q ↔ pb_o (pb_gf (h.2 a) 12 16) (fun v => pb_R 187 132 L J (v :: st) h Q)) ∧
  (∀ (L : pb_L) (J : pb_J) (h : pb_H) (Q : Option Value → pb_H → Prop) (x0 : Int32) (x1 : Int32) (x2 : Nat), pb_R 187 132 L J [.int x0, .int x1, .ref x2] h Q ↔ pb_is0 (h.2 x2) 12 = true ∧ pb_call 183 [.ref x2, .int x1, .int x0] h (fun v t => pb_R 187 135 L J (v.toList ++ []) t Q)) ∧
  (∀ (L : pb_L) (J : pb_J) (h : pb_H) (Q : Option Value → pb_H → Prop) (x : Int32), pb_R 187 135 L J [.int x] h Q ↔ narrow .boolean (.int x) = .int x ∧ Q (some (.int x)) h) ∧
  (∀ (l1 : Option Value) (st : List Value) (h : pb_H) (Q : Option Value → pb_H → Prop) (x : Nat), pb_R 187 136 [some (.ref x), l1] [] st h Q ↔ pb_R 187 137 [some (.ref x), l1] [] (.ref x :: st) h Q) ∧
  (∀ (l1 : Option Value) (st : List Value) (h : pb_H) (Q : Option Value → pb_H → Prop), pb_R 187 136 [some .null, l1] [] st h Q ↔ pb_R 187 137 [some .null, l1] [] (.null :: st) h Q) ∧
  (∀ (l1 : Option Value) (st : List Value) (h : pb_H) (Q : Option Value → pb_H → Prop) (x : Nat), pb_R 187 137 [some (.ref x), l1] [] st h Q ↔ pb_R 187 138 [some (.ref x), l1] [] (.ref x :: st) h Q) ∧
  (∀ (l1 : Option Value) (st : List Value) (h : pb_H) (Q : Option Value → pb_H → Prop), pb_R 187 137 [some .null, l1] [] st h Q ↔ pb_R 187 138 [some .null, l1] [] (.null :: st) h Q) ∧
  (∀ (L : pb_L) (J : pb_J) (h : pb_H) (Q : Option Value → pb_H → Prop) (x0 : Nat) (x1 : Nat), pb_R 187 138 L J [.ref x0, .ref x1] h Q ↔ pb_is0 (h.2 x0) 12 = true ∧ pb_call 179 [.ref x0] h (fun v t => pb_R 187 141 L J (v.toList ++ [.ref x1]) t Q)) ∧
  (∀ (l0 : Option Value) (st : List Value) (h : pb_H) (Q : Option Value → pb_H → Prop) (x : Int32), pb_R 187 141 [l0, some (.int x)] [] st h Q ↔ pb_R 187 142 [l0, some (.int x)] [] (.int x :: st) h Q) ∧
  (∀ (L : pb_L) (J : pb_J) (h : pb_H) (Q : Option Value → pb_H → Prop) (x0 : Int32) (x1 : Int32) (x2 : Nat), pb_R 187 142 L J [.int x0, .int x1, .ref x2] h Q ↔ pb_is0 (h.2 x2) 12 = true ∧ pb_call 185 [.ref x2, .int x1, .int x0] h (fun v t => pb_R 187 145 L J (v.toList ++ []) t Q)) ∧
  (∀ (l1 : Option Value) (st : List Value) (h : pb_H) (Q : Option Value → pb_H → Prop) (x : Nat), pb_R 187 145 [some (.ref x), l1] [] st h Q ↔ pb_R 187 146 [some (.ref x), l1] [] (.ref x :: st) h Q) ∧
  (∀ (l1 : Option Value) (st : List Value) (h : pb_H) (Q : Option Value → pb_H → Prop), pb_R 187 145 [some .null, l1] [] st h Q ↔ pb_R 187 146 [some .null, l1] [] (.null :: st) h Q) ∧
  (∀ (L : pb_L) (J : pb_J) (h : pb_H) (Q : Option Value → pb_H → Prop) (x0 : Nat), pb_R 187 146 L J [.ref x0] h Q ↔ pb_is0 (h.2 x0) 12 = true ∧ pb_call 177 [.ref x0] h (fun v t => pb_R 187 149 L J (v.toList ++ []) t Q)) ∧
  (∀ (L : pb_L) (J : pb_J) (st : List Value) (h : pb_H) (Q : Option Value → pb_H → Prop), pb_R 187 149 L J st h Q ↔ pb_R 187 14 L J st h Q) ∧
  (∀ (L : pb_L) (J : pb_J) (st : List Value) (h : pb_H) (Q : Option Value → pb_H → Prop), pb_R 187 152 L J st h Q ↔ pb_R 187 153 L J (.int (1 : Int32) :: st) h Q) ∧
  (∀ (L : pb_L) (J : pb_J) (h : pb_H) (Q : Option Value → pb_H → Prop) (x : Int32), pb_R 187 153 L J [.int x] h Q ↔ narrow .boolean (.int x) = .int x ∧ Q (some (.int x)) h) := ⟨
  fun l1 st h Q x => pf_S pb_u_187 rfl rfl,
  fun l1 st h Q => pf_S pb_u_187 rfl rfl,
  fun L J st h Q => pf_S pb_u_187 rfl rfl,
  fun L J h Q x0 x1 => pf_kv pb_u_187 rfl pb_ci_161 rfl ⟨Nat.le_of_ble_eq_true rfl, Nat.le_of_ble_eq_true rfl, Nat.le_of_ble_eq_true rfl, Nat.le_of_ble_eq_true rfl, rfl⟩ rfl rfl,
  fun l1 st h Q x => pf_S pb_u_187 rfl rfl,
  fun l1 st h Q => pf_S pb_u_187 rfl rfl,
  fun L J st h Q => pf_S pb_u_187 rfl rfl,
  fun L J h Q x0 x1 => pf_kv pb_u_187 rfl pb_ci_161 rfl ⟨Nat.le_of_ble_eq_true rfl, Nat.le_of_ble_eq_true rfl, Nat.le_of_ble_eq_true rfl, Nat.le_of_ble_eq_true rfl, rfl⟩ rfl rfl,
  fun L J st h Q a => pf_gf pb_u_187 rfl rfl,
  fun L J st h Q => pf_S pb_u_187 rfl rfl,
  fun L J st h Q x y => pf_ic pb_u_187 rfl rfl rfl,
  fun l1 st h Q x => pf_S pb_u_187 rfl rfl,
  fun l1 st h Q => pf_S pb_u_187 rfl rfl,
  fun L J st h Q a => pf_gf pb_u_187 rfl rfl,
  fun L J st h Q => pf_S pb_u_187 rfl rfl,
  fun L J st h Q x y => pf_ic pb_u_187 rfl rfl rfl,
  fun l1 st h Q x => pf_S pb_u_187 rfl rfl,
  fun l1 st h Q => pf_S pb_u_187 rfl rfl,
  fun L J st h Q => pf_S pb_u_187 rfl rfl,
  fun L J h Q x0 x1 => pf_kv pb_u_187 rfl pb_ci_178 rfl ⟨Nat.le_of_ble_eq_true rfl, Nat.le_of_ble_eq_true rfl, Nat.le_of_ble_eq_true rfl, Nat.le_of_ble_eq_true rfl, rfl⟩ rfl rfl,
  fun L J st h Q x => pf_ii pb_u_187 rfl rfl pf_ne,
  fun l1 st h Q x => pf_S pb_u_187 rfl rfl,
  fun l1 st h Q => pf_S pb_u_187 rfl rfl,
  fun L J st h Q => pf_S pb_u_187 rfl rfl,
  fun L J h Q x0 x1 => pf_kv pb_u_187 rfl pb_ci_178 rfl ⟨Nat.le_of_ble_eq_true rfl, Nat.le_of_ble_eq_true rfl, Nat.le_of_ble_eq_true rfl, Nat.le_of_ble_eq_true rfl, rfl⟩ rfl rfl,
  fun L J st h Q x => pf_ii pb_u_187 rfl rfl rfl,
  fun L J st h Q => pf_S pb_u_187 rfl rfl,
  fun l0 l1 st h Q x => pf_S pb_u_187 rfl rfl,
  fun l1 st h Q x => pf_S pb_u_187 rfl rfl,
  fun l1 st h Q => pf_S pb_u_187 rfl rfl,
  fun L J st h Q => pf_S pb_u_187 rfl rfl,
  fun L J st h Q => pf_S pb_u_187 rfl rfl,
  fun L J h Q x0 x1 x2 => pf_ks pb_u_187 rfl rfl rfl rfl,
  fun L J st h Q => pf_S pb_u_187 rfl rfl,
  fun L J h Q x0 x1 x2 => pf_kv pb_u_187 rfl pb_ci_145 rfl ⟨Nat.le_of_ble_eq_true rfl, Nat.le_of_ble_eq_true rfl, Nat.le_of_ble_eq_true rfl, Nat.le_of_ble_eq_true rfl, rfl⟩ rfl rfl,
  fun l1 st h Q x => pf_S pb_u_187 rfl rfl,
  fun l1 st h Q => pf_S pb_u_187 rfl rfl,
  fun L J st h Q a => pf_gf pb_u_187 rfl rfl,
  fun L J st h Q => pf_S pb_u_187 rfl rfl,
  fun L J st h Q x y => pf_ic pb_u_187 rfl rfl rfl,
  fun l1 st h Q x => pf_S pb_u_187 rfl rfl,
  fun l1 st h Q => pf_S pb_u_187 rfl rfl,
  fun L J h Q x0 => pf_kv pb_u_187 rfl pb_ci_186 rfl ⟨Nat.le_of_ble_eq_true rfl, Nat.le_of_ble_eq_true rfl, Nat.le_of_ble_eq_true rfl, Nat.le_of_ble_eq_true rfl, rfl⟩ rfl rfl,
  fun L J st h Q x => pf_ii pb_u_187 rfl rfl pf_ne,
  fun L J st h Q => pf_S pb_u_187 rfl rfl,
  fun L J h Q x => pf_rz pb_u_187 rfl rfl,
  fun l1 st h Q x => pf_S pb_u_187 rfl rfl,
  fun l1 st h Q => pf_S pb_u_187 rfl rfl,
  fun L J st h Q a => pf_gf pb_u_187 rfl rfl,
  fun L J st h Q x => pf_ii pb_u_187 rfl rfl rfl,
  fun L J st h Q => pf_S pb_u_187 rfl rfl,
  fun L J st h Q => pf_S pb_u_187 rfl rfl,
  fun L J st h Q => pf_S pb_u_187 rfl rfl,
  fun l0 l1 st h Q x => pf_S pb_u_187 rfl rfl,
  fun l1 st h Q x => pf_S pb_u_187 rfl rfl,
  fun l1 st h Q => pf_S pb_u_187 rfl rfl,
  fun L J st h Q => pf_S pb_u_187 rfl rfl,
  fun L J st h Q a x => pf_pf pb_u_187 rfl rfl,
  fun l1 st h Q x => pf_S pb_u_187 rfl rfl,
  fun l1 st h Q => pf_S pb_u_187 rfl rfl,
  fun L J st h Q a => pf_gf pb_u_187 rfl rfl,
  fun L J st h Q => pf_S pb_u_187 rfl rfl,
  fun L J st h Q x y => pf_ic pb_u_187 rfl rfl rfl,
  fun l1 st h Q x => pf_S pb_u_187 rfl rfl,
  fun l1 st h Q => pf_S pb_u_187 rfl rfl,
  fun L J st h Q => pf_S pb_u_187 rfl rfl,
  fun l1 st h Q x => pf_S pb_u_187 rfl rfl,
  fun l1 st h Q => pf_S pb_u_187 rfl rfl,
  fun L J st h Q a => pf_gf pb_u_187 rfl rfl,
  fun L J h Q x0 x1 x2 => pf_kv pb_u_187 rfl pb_ci_183 rfl ⟨Nat.le_of_ble_eq_true rfl, Nat.le_of_ble_eq_true rfl, Nat.le_of_ble_eq_true rfl, Nat.le_of_ble_eq_true rfl, rfl⟩ rfl rfl,
  fun L J h Q x => pf_rz pb_u_187 rfl rfl,
  fun l1 st h Q x => pf_S pb_u_187 rfl rfl,
  fun l1 st h Q => pf_S pb_u_187 rfl rfl,
  fun l1 st h Q x => pf_S pb_u_187 rfl rfl,
  fun l1 st h Q => pf_S pb_u_187 rfl rfl,
  fun L J h Q x0 x1 => pf_kv pb_u_187 rfl pb_ci_179 rfl ⟨Nat.le_of_ble_eq_true rfl, Nat.le_of_ble_eq_true rfl, Nat.le_of_ble_eq_true rfl, Nat.le_of_ble_eq_true rfl, rfl⟩ rfl rfl,
  fun L J h Q x0 x1 => pf_kv pb_u_187 rfl pb_ci_180 rfl ⟨Nat.le_of_ble_eq_true rfl, Nat.le_of_ble_eq_true rfl, Nat.le_of_ble_eq_true rfl, Nat.le_of_ble_eq_true rfl, rfl⟩ rfl rfl,
  fun L J st h Q x => pf_ii pb_u_187 rfl rfl pf_ne,
  fun l1 st h Q x => pf_S pb_u_187 rfl rfl,
  fun l1 st h Q => pf_S pb_u_187 rfl rfl,
  fun L J st h Q => pf_S pb_u_187 rfl rfl,
  fun l1 st h Q x => pf_S pb_u_187 rfl rfl,
  fun l1 st h Q => pf_S pb_u_187 rfl rfl,
  fun L J st h Q a => pf_gf pb_u_187 rfl rfl,
  fun L J h Q x0 x1 x2 => pf_kv pb_u_187 rfl pb_ci_183 rfl ⟨Nat.le_of_ble_eq_true rfl, Nat.le_of_ble_eq_true rfl, Nat.le_of_ble_eq_true rfl, Nat.le_of_ble_eq_true rfl, rfl⟩ rfl rfl,
  fun L J h Q x => pf_rz pb_u_187 rfl rfl,
  fun l1 st h Q x => pf_S pb_u_187 rfl rfl,
  fun l1 st h Q => pf_S pb_u_187 rfl rfl,
  fun l1 st h Q x => pf_S pb_u_187 rfl rfl,
  fun l1 st h Q => pf_S pb_u_187 rfl rfl,
  fun L J h Q x0 x1 => pf_kv pb_u_187 rfl pb_ci_179 rfl ⟨Nat.le_of_ble_eq_true rfl, Nat.le_of_ble_eq_true rfl, Nat.le_of_ble_eq_true rfl, Nat.le_of_ble_eq_true rfl, rfl⟩ rfl rfl,
  fun l0 st h Q x => pf_S pb_u_187 rfl rfl,
  fun L J h Q x0 x1 x2 => pf_kv pb_u_187 rfl pb_ci_185 rfl ⟨Nat.le_of_ble_eq_true rfl, Nat.le_of_ble_eq_true rfl, Nat.le_of_ble_eq_true rfl, Nat.le_of_ble_eq_true rfl, rfl⟩ rfl rfl,
  fun l1 st h Q x => pf_S pb_u_187 rfl rfl,
  fun l1 st h Q => pf_S pb_u_187 rfl rfl,
  fun L J h Q x0 => pf_kv pb_u_187 rfl pb_ci_177 rfl ⟨Nat.le_of_ble_eq_true rfl, Nat.le_of_ble_eq_true rfl, Nat.le_of_ble_eq_true rfl, Nat.le_of_ble_eq_true rfl, rfl⟩ rfl rfl,
  fun L J st h Q => pf_S pb_u_187 rfl rfl,
  fun L J st h Q => pf_S pb_u_187 rfl rfl,
  fun L J h Q x => pf_rz pb_u_187 rfl rfl⟩
theorem pb_c187 (x0 : Nat) (h : pb_H) (Q : Option Value → pb_H → Prop) : pb_call 187 [.ref x0] h Q ↔ pb_R 187 0 [some (.ref x0), none] [] [] h Q := Iff.rfl
/-! 188: PlaneBenchModel.make(IZ)V -/
theorem pb_u_188 : pb_t 188 = pb_t188 := rfl
theorem pb_ci_188 : pb_ci 188 = 12 := by decide +kernel
set_option maxRecDepth 100000 in
theorem pb_q188_51 (l0 l1 l2 l3 l4 l6 l7 : Option Value) (st : List Value) (h : pb_H) (Q : Option Value → pb_H → Prop) (x : Int32) : pb_R 188 51 [l0, l1, l2, l3, l4, some (.int x), l6, l7] [] st h Q ↔ pb_R 188 53 [l0, l1, l2, l3, l4, some (.int x), l6, l7] [] (.int x :: st) h Q := pf_S pb_u_188 rfl rfl
set_option maxRecDepth 100000 in
theorem pb_e188 : (∀ (l0 l1 l3 l4 l5 l6 l7 : Option Value) (st : List Value) (h : pb_H) (Q : Option Value → pb_H → Prop) (x : Int32), pb_R 188 0 [l0, l1, some (.int x), l3, l4, l5, l6, l7] [] st h Q ↔ pb_R 188 1 [l0, l1, some (.int x), l3, l4, l5, l6, l7] [] (.int x :: st) h Q) ∧
  (∀ (L : pb_L) (J : pb_J) (st : List Value) (h : pb_H) (Q : Option Value → pb_H → Prop) (x : Int32), pb_R 188 1 L J (.int x :: st) h Q ↔ if x = 0 then pb_R 188 10 L J st h Q else pb_R 188 4 L J st h Q) ∧
  (∀ (L : pb_L) (J : pb_J) (st : List Value) (h : pb_H) (Q : Option Value → pb_H → Prop), pb_R 188 4 L J st h Q ↔ pb_R 188 7 L J (.int (316 : Int32) :: st) h Q) ∧
  (∀ (L : pb_L) (J : pb_J) (st : List Value) (h : pb_H) (Q : Option Value → pb_H → Prop), pb_R 188 7 L J st h Q ↔ pb_R 188 13 L J st h Q) ∧
  (∀ (L : pb_L) (J : pb_J) (st : List Value) (h : pb_H) (Q : Option Value → pb_H → Prop), pb_R 188 10 L J st h Q ↔ pb_R 188 13 L J (.int (317 : Int32) :: st) h Q) ∧
  (∀ (l0 l1 l2 l3 l4 l5 l6 l7 : Option Value) (st : List Value) (h : pb_H) (Q : Option Value → pb_H → Prop) (x : Int32), pb_R 188 13 [l0, l1, l2, l3, l4, l5, l6, l7] [] (.int x :: st) h Q ↔ pb_R 188 14 [l0, l1, l2, some (.int x), l4, l5, l6, l7] [] st h Q) ∧
  (∀ (l0 l1 l3 l4 l5 l6 l7 : Option Value) (st : List Value) (h : pb_H) (Q : Option Value → pb_H → Prop) (x : Int32), pb_R 188 14 [l0, l1, some (.int x), l3, l4, l5, l6, l7] [] st h Q ↔ pb_R 188 15 [l0, l1, some (.int x), l3, l4, l5, l6, l7] [] (.int x :: st) h Q) ∧
  (∀ (L : pb_L) (J : pb_J) (st : List Value) (h : pb_H) (Q : Option Value → pb_H → Prop) (x : Int32), pb_R 188 15 L J (.int x :: st) h Q ↔ if x = 0 then pb_R 188 24 L J st h Q else pb_R 188 18 L J st h Q) ∧
  (∀ (L : pb_L) (J : pb_J) (st : List Value) (h : pb_H) (Q : Option Value → pb_H → Prop), pb_R 188 18 L J st h Q ↔ pb_R 188 21 L J (.int (317 : Int32) :: st) h Q) ∧
  (∀ (L : pb_L) (J : pb_J) (st : List Value) (h : pb_H) (Q : Option Value → pb_H → Prop), pb_R 188 21 L J st h Q ↔ pb_R 188 27 L J st h Q) ∧
  (∀ (L : pb_L) (J : pb_J) (st : List Value) (h : pb_H) (Q : Option Value → pb_H → Prop), pb_R 188 24 L J st h Q ↔ pb_R 188 27 L J (.int (316 : Int32) :: st) h Q) ∧
  (∀ (l0 l1 l2 l3 l4 l5 l6 l7 : Option Value) (st : List Value) (h : pb_H) (Q : Option Value → pb_H → Prop) (x : Int32), pb_R 188 27 [l0, l1, l2, l3, l4, l5, l6, l7] [] (.int x :: st) h Q ↔ pb_R 188 29 [l0, l1, l2, l3, some (.int x), l5, l6, l7] [] st h Q) ∧
  (∀ (l1 l2 l3 l4 l5 l6 l7 : Option Value) (st : List Value) (h : pb_H) (Q : Option Value → pb_H → Prop) (x : Nat), pb_R 188 29 [some (.ref x), l1, l2, l3, l4, l5, l6, l7] [] st h Q ↔ pb_R 188 30 [some (.ref x), l1, l2, l3, l4, l5, l6, l7] [] (.ref x :: st) h Q) ∧
  (∀ (l1 l2 l3 l4 l5 l6 l7 : Option Value) (st : List Value) (h : pb_H) (Q : Option Value → pb_H → Prop), pb_R 188 29 [some .null, l1, l2, l3, l4, l5, l6, l7] [] st h Q ↔ pb_R 188 30 [some .null, l1, l2, l3, l4, l5, l6, l7] [] (.null :: st) h Q) ∧
  (∀ (l0 l2 l3 l4 l5 l6 l7 : Option Value) (st : List Value) (h : pb_H) (Q : Option Value → pb_H → Prop) (x : Int32), pb_R 188 30 [l0, some (.int x), l2, l3, l4, l5, l6, l7] [] st h Q ↔ pb_R 188 31 [l0, some (.int x), l2, l3, l4, l5, l6, l7] [] (.int x :: st) h Q) ∧
  (∀ (L : pb_L) (J : pb_J) (h : pb_H) (Q : Option Value → pb_H → Prop) (x0 : Int32) (x1 : Nat), pb_R 188 31 L J [.int x0, .ref x1] h Q ↔ pb_is0 (h.2 x1) 12 = true ∧ pb_call 161 [.ref x1, .int x0] h (fun v t => pb_R 188 34 L J (v.toList ++ []) t Q)) ∧
  (∀ (l1 l2 l3 l4 l5 l6 l7 : Option Value) (st : List Value) (h : pb_H) (Q : Option Value → pb_H → Prop) (x : Nat), pb_R 188 34 [some (.ref x), l1, l2, l3, l4, l5, l6, l7] [] st h Q ↔ pb_R 188 35 [some (.ref x), l1, l2, l3, l4, l5, l6, l7] [] (.ref x :: st) h Q) ∧
  (∀ (l1 l2 l3 l4 l5 l6 l7 : Option Value) (st : List Value) (h : pb_H) (Q : Option Value → pb_H → Prop), pb_R 188 34 [some .null, l1, l2, l3, l4, l5, l6, l7] [] st h Q ↔ pb_R 188 35 [some .null, l1, l2, l3, l4, l5, l6, l7] [] (.null :: st) h Q) ∧
  (∀ (l0 l1 l2 l4 l5 l6 l7 : Option Value) (st : List Value) (h : pb_H) (Q : Option Value → pb_H → Prop) (x : Int32), pb_R 188 35 [l0, l1, l2, some (.int x), l4, l5, l6, l7] [] st h Q ↔ pb_R 188 36 [l0, l1, l2, some (.int x), l4, l5, l6, l7] [] (.int x :: st) h Q) ∧
  (∀ (L : pb_L) (J : pb_J) (st : List Value) (h : pb_H) (Q : Option Value → pb_H → Prop), pb_R 188 36 L J st h Q ↔ pb_R 188 37 L J (.int (0 : Int32) :: st) h Q) ∧
  (∀ (L : pb_L) (J : pb_J) (h : pb_H) (Q : Option Value → pb_H → Prop) (x0 : Int32) (x1 : Int32) (x2 : Nat), pb_R 188 37 L J [.int x0, .int x1, .ref x2] h Q ↔ pb_call 143 [.int x1, .int x0] h (fun v t => pb_R 188 40 L J (v.toList ++ [.ref x2]) t Q)) ∧
  (∀ (l0 l2 l3 l4 l5 l6 l7 : Option Value) (st : List Value) (h : pb_H) (Q : Option Value → pb_H → Prop) (x : Int32), pb_R 188 40 [l0, some (.int x), l2, l3, l4, l5, l6, l7] [] st h Q ↔ pb_R 188 41 [l0, some (.int x), l2, l3, l4, l5, l6, l7] [] (.int x :: st) h Q) ∧
  (∀ (L : pb_L) (J : pb_J) (st : List Value) (h : pb_H) (Q : Option Value → pb_H → Prop), pb_R 188 41 L J st h Q ↔ pb_R 188 42 L J (.int (0 : Int32) :: st) h Q) ∧
  (∀ (L : pb_L) (J : pb_J) (h : pb_H) (Q : Option Value → pb_H → Prop) (x0 : Int32) (x1 : Int32) (x2 : Int32) (x3 : Nat), pb_R 188 42 L J [.int x0, .int x1, .int x2, .ref x3] h Q ↔ pb_call 143 [.int x1, .int x0] h (fun v t => pb_R 188 45 L J (v.toList ++ [.int x2, .ref x3]) t Q)) ∧
  (∀ (L : pb_L) (J : pb_J) (h : pb_H) (Q : Option Value → pb_H → Prop) (x0 : Int32) (x1 : Int32) (x2 : Nat), pb_R 188 45 L J [.int x0, .int x1, .ref x2] h Q ↔ pb_is0 (h.2 x2) 12 = true ∧ pb_call 146 [.ref x2, .int x1, .int x0] h (fun v t => pb_R 188 48 L J (v.toList ++ []) t Q)) ∧
  (∀ (L : pb_L) (J : pb_J) (st : List Value) (h : pb_H) (Q : Option Value → pb_H → Prop), pb_R 188 48 L J st h Q ↔ pb_R 188 49 L J (.int (1 : Int32) :: st) h Q) ∧
  (∀ (l0 l1 l2 l3 l4 l5 l6 l7 : Option Value) (st : List Value) (h : pb_H) (Q : Option Value → pb_H → Prop) (x : Int32), pb_R 188 49 [l0, l1, l2, l3, l4, l5, l6, l7] [] (.int x :: st) h Q ↔ pb_R 188 51 [l0, l1, l2, l3, l4, some (.int x), l6, l7] [] st h Q) ∧
  (∀ (l1 l2 l3 l4 l5 l6 l7 : Option Value) (st : List Value) (h : pb_H) (Q : Option Value → pb_H → Prop) (x : Nat), pb_R 188 53 [some (.ref x), l1, l2, l3, l4, l5, l6, l7] [] st h Q ↔ pb_R 188 54 [some (.ref x), l1, l2, l3, l4, l5, l6, l7] [] (.ref x :: st) h Q) ∧
  (∀ (l1 l2 l3 l4 l5 l6 l7 : Option Value) (st : List Value) (h : pb_H) (Q : Option Value → pb_H → Prop), pb_R 188 53 [some .null, l1, l2, l3, l4, l5, l6, l7] [] st h Q ↔ pb_R 188 54 [some .null, l1, l2, l3, l4, l5, l6, l7] [] (.null :: st) h Q) ∧
  (∀ (L : pb_L) (J : pb_J) (st : List Value) (h : pb_H) (Q : Option Value → pb_H → Prop) (a : Nat), pb_R 188 54 L J (.ref a :: st) h Q ↔ pb_o (pb_gf (h.2 a) 12 3) (fun v => pb_R 188 57 L J (v :: st) h Q)) ∧
  (∀ (L : pb_L) (J : pb_J) (st : List Value) (h : pb_H) (Q : Option Value → pb_H → Prop) (x y : Int32), pb_R 188 57 L J (.int y :: .int x :: st) h Q ↔ if y < x then pb_R 188 167 L J st h Q else pb_R 188 60 L J st h Q) ∧
  (∀ (l1 l2 l3 l4 l5 l6 l7 : Option Value) (st : List Value) (h : pb_H) (Q : Option Value → pb_H → Prop) (x : Nat), pb_R 188 60 [some (.ref x), l1, l2, l3, l4, l5, l6, l7] [] st h Q ↔ pb_R 188 61 [some (.ref x), l1, l2, l3, l4, l5, l6, l7] [] (.ref x :: st) h Q) ∧
  (∀ (l1 l2 l3 l4 l5 l6 l7 : Option Value) (st : List Value) (h : pb_H) (Q : Option Value → pb_H → Prop), pb_R 188 60 [some .null, l1, l2, l3, l4, l5, l6, l7] [] st h Q ↔ pb_R 188 61 [some .null, l1, l2, l3, l4, l5, l6, l7] [] (.null :: st) h Q) ∧
  (∀ (l0 l1 l2 l4 l5 l6 l7 : Option Value) (st : List Value) (h : pb_H) (Q : Option Value → pb_H → Prop) (x : Int32), pb_R 188 61 [l0, l1, l2, some (.int x), l4, l5, l6, l7] [] st h Q ↔ pb_R 188 62 [l0, l1, l2, some (.int x), l4, l5, l6, l7] [] (.int x :: st) h Q) ∧
  (∀ (l0 l1 l2 l3 l4 l6 l7 : Option Value) (st : List Value) (h : pb_H) (Q : Option Value → pb_H → Prop) (x : Int32), pb_R 188 62 [l0, l1, l2, l3, l4, some (.int x), l6, l7] [] st h Q ↔ pb_R 188 64 [l0, l1, l2, l3, l4, some (.int x), l6, l7] [] (.int x :: st) h Q) ∧
  (∀ (L : pb_L) (J : pb_J) (h : pb_H) (Q : Option Value → pb_H → Prop) (x0 : Int32) (x1 : Int32) (x2 : Nat), pb_R 188 64 L J [.int x0, .int x1, .ref x2] h Q ↔ pb_call 143 [.int x1, .int x0] h (fun v t => pb_R 188 67 L J (v.toList ++ [.ref x2]) t Q)) ∧
  (∀ (l0 l1 l2 l3 l5 l6 l7 : Option Value) (st : List Value) (h : pb_H) (Q : Option Value → pb_H → Prop) (x : Int32), pb_R 188 67 [l0, l1, l2, l3, some (.int x), l5, l6, l7] [] st h Q ↔ pb_R 188 69 [l0, l1, l2, l3, some (.int x), l5, l6, l7] [] (.int x :: st) h Q) ∧
  (∀ (l0 l1 l2 l3 l4 l6 l7 : Option Value) (st : List Value) (h : pb_H) (Q : Option Value → pb_H → Prop) (x : Int32), pb_R 188 69 [l0, l1, l2, l3, l4, some (.int x), l6, l7] [] st h Q ↔ pb_R 188 71 [l0, l1, l2, l3, l4, some (.int x), l6, l7] [] (.int x :: st) h Q) ∧
  (∀ (L : pb_L) (J : pb_J) (h : pb_H) (Q : Option Value → pb_H → Prop) (x0 : Int32) (x1 : Int32) (x2 : Int32) (x3 : Nat), pb_R 188 71 L J [.int x0, .int x1, .int x2, .ref x3] h Q ↔ pb_call 143 [.int x1, .int x0] h (fun v t => pb_R 188 74 L J (v.toList ++ [.int x2, .ref x3]) t Q)) ∧
  (∀ (L : pb_L) (J : pb_J) (h : pb_H) (Q : Option Value → pb_H → Prop) (x0 : Int32) (x1 : Int32) (x2 : Nat), pb_R 188 74 L J [.int x0, .int x1, .ref x2] h Q ↔ pb_is0 (h.2 x2) 12 = true ∧ pb_call 150 [.ref x2, .int x1, .int x0] h (fun v t => pb_R 188 77 L J (v.toList ++ []) t Q)) ∧
  (∀ (l0 l1 l2 l3 l4 l5 l6 l7 : Option Value) (st : List Value) (h : pb_H) (Q : Option Value → pb_H → Prop) (x : Int32), pb_R 188 77 [l0, l1, l2, l3, l4, l5, l6, l7] [] (.int x :: st) h Q ↔ pb_R 188 79 [l0, l1, l2, l3, l4, l5, some (.int x), l7] [] st h Q) ∧
  (∀ (l0 l2 l3 l4 l5 l6 l7 : Option Value) (st : List Value) (h : pb_H) (Q : Option Value → pb_H → Prop) (x : Int32), pb_R 188 79 [l0, some (.int x), l2, l3, l4, l5, l6, l7] [] st h Q ↔ pb_R 188 80 [l0, some (.int x), l2, l3, l4, l5, l6, l7] [] (.int x :: st) h Q) ∧
  (∀ (l0 l1 l2 l3 l4 l6 l7 : Option Value) (st : List Value) (h : pb_H) (Q : Option Value → pb_H → Prop) (x : Int32), pb_R 188 80 [l0, l1, l2, l3, l4, some (.int x), l6, l7] [] st h Q ↔ pb_R 188 82 [l0, l1, l2, l3, l4, some (.int x), l6, l7] [] (.int x :: st) h Q) ∧
  (∀ (L : pb_L) (J : pb_J) (h : pb_H) (Q : Option Value → pb_H → Prop) (x0 : Int32) (x1 : Int32), pb_R 188 82 L J [.int x0, .int x1] h Q ↔ pb_call 143 [.int x1, .int x0] h (fun v t => pb_R 188 85 L J (v.toList ++ []) t Q)) ∧
  (∀ (l0 l1 l2 l3 l4 l5 l6 l7 : Option Value) (st : List Value) (h : pb_H) (Q : Option Value → pb_H → Prop) (x : Int32), pb_R 188 85 [l0, l1, l2, l3, l4, l5, l6, l7] [] (.int x :: st) h Q ↔ pb_R 188 87 [l0, l1, l2, l3, l4, l5, l6, some (.int x)] [] st h Q) ∧
  (∀ (l1 l2 l3 l4 l5 l6 l7 : Option Value) (st : List Value) (h : pb_H) (Q : Option Value → pb_H → Prop) (x : Nat), pb_R 188 87 [some (.ref x), l1, l2, l3, l4, l5, l6, l7] [] st h Q ↔ pb_R 188 88 [some (.ref x), l1, l2, l3, l4, l5, l6, l7] [] (.ref x :: st) h Q) ∧
  (∀ (l1 l2 l3 l4 l5 l6 l7 : Option Value) (st : List Value) (h : pb_H) (Q : Option Value → pb_H → Prop), pb_R 188 87 [some .null, l1, l2, l3, l4, l5, l6, l7] [] st h Q ↔ pb_R 188 88 [some .null, l1, l2, l3, l4, l5, l6, l7] [] (.null :: st) h Q) ∧
  (∀ (L : pb_L) (J : pb_J) (st : List Value) (h : pb_H) (Q : Option Value → pb_H → Prop) (a : Nat), pb_R 188 88 L J (.ref a :: st) h Q ↔ pb_o (pb_gf (h.2 a) 12 1) (fun v => pb_R 188 91 L J (v :: st) h Q)) ∧
  (∀ (l0 l2 l3 l4 l5 l6 l7 : Option Value) (st : List Value) (h : pb_H) (Q : Option Value → pb_H → Prop) (x : Int32), pb_R 188 91 [l0, some (.int x), l2, l3, l4, l5, l6, l7] [] st h Q ↔ pb_R 188 92 [l0, some (.int x), l2, l3, l4, l5, l6, l7] [] (.int x :: st) h Q) ∧
  (∀ (L : pb_L) (J : pb_J) (st : List Value) (h : pb_H) (Q : Option Value → pb_H → Prop), pb_R 188 92 L J st h Q ↔ pb_R 188 94 L J (.int (17 : Int32) :: st) h Q) ∧
  (∀ (L : pb_L) (J : pb_J) (st : List Value) (x y : Int32) (h : pb_H) (Q : Option Value → pb_H → Prop), pb_R 188 94 L J (.int y :: .int x :: st) h Q ↔ pb_R 188 95 L J (.int (x * y) :: st) h Q) ∧
  (∀ (l0 l1 l2 l3 l4 l6 l7 : Option Value) (st : List Value) (h : pb_H) (Q : Option Value → pb_H → Prop) (x : Int32), pb_R 188 95 [l0, l1, l2, l3, l4, some (.int x), l6, l7] [] st h Q ↔ pb_R 188 97 [l0, l1, l2, l3, l4, some (.int x), l6, l7] [] (.int x :: st) h Q) ∧
  (∀ (L : pb_L) (J : pb_J) (st : List Value) (x y : Int32) (h : pb_H) (Q : Option Value → pb_H → Prop), pb_R 188 97 L J (.int y :: .int x :: st) h Q ↔ pb_R 188 98 L J (.int (x + y) :: st) h Q) ∧
  (∀ (l0 l1 l2 l3 l4 l5 l7 : Option Value) (st : List Value) (h : pb_H) (Q : Option Value → pb_H → Prop) (x : Int32), pb_R 188 98 [l0, l1, l2, l3, l4, l5, some (.int x), l7] [] st h Q ↔ pb_R 188 100 [l0, l1, l2, l3, l4, l5, some (.int x), l7] [] (.int x :: st) h Q) ∧
  (∀ (L : pb_L) (J : pb_J) (st : List Value) (h : pb_H) (Q : Option Value → pb_H → Prop) (a : Nat) (i x : Int32), pb_R 188 100 L J (.int x :: .int i :: .ref a :: st) h Q ↔ pb_o (pb_si (h.2 a) i x) (fun c => pb_R 188 101 L J st (pb_set h a c) Q)) ∧
  (∀ (l1 l2 l3 l4 l5 l6 l7 : Option Value) (st : List Value) (h : pb_H) (Q : Option Value → pb_H → Prop) (x : Nat), pb_R 188 101 [some (.ref x), l1, l2, l3, l4, l5, l6, l7] [] st h Q ↔ pb_R 188 102 [some (.ref x), l1, l2, l3, l4, l5, l6, l7] [] (.ref x :: st) h Q) ∧
  (∀ (l1 l2 l3 l4 l5 l6 l7 : Option Value) (st : List Value) (h : pb_H) (Q : Option Value → pb_H → Prop), pb_R 188 101 [some .null, l1, l2, l3, l4, l5, l6, l7] [] st h Q ↔ pb_R 188 102 [some .null, l1, l2, l3, l4, l5, l6, l7] [] (.null :: st) h Q) ∧
  (∀ (l0 l1 l2 l3 l4 l5 l7 : Option Value) (st : List Value) (h : pb_H) (Q : Option Value → pb_H → Prop) (x : Int32), pb_R 188 102 [l0, l1, l2, l3, l4, l5, some (.int x), l7] [] st h Q ↔ pb_R 188 104 [l0, l1, l2, l3, l4, l5, some (.int x), l7] [] (.int x :: st) h Q) ∧
  (∀ (L : pb_L) (J : pb_J) (st : List Value) (h : pb_H) (Q : Option Value → pb_H → Prop) (x : Int32), pb_R 188 104 L J (.int x :: st) h Q ↔ if x < 0 then pb_R 188 111 L J st h Q else pb_R 188 107 L J st h Q) ∧
  (∀ (l0 l1 l2 l4 l5 l6 l7 : Option Value) (st : List Value) (h : pb_H) (Q : Option Value → pb_H → Prop) (x : Int32), pb_R 188 107 [l0, l1, l2, some (.int x), l4, l5, l6, l7] [] st h Q ↔ pb_R 188 108 [l0, l1, l2, some (.int x), l4, l5, l6, l7] [] (.int x :: st) h Q) ∧
  (∀ (L : pb_L) (J : pb_J) (st : List Value) (h : pb_H) (Q : Option Value → pb_H → Prop), pb_R 188 108 L J st h Q ↔ pb_R 188 113 L J st h Q) ∧
  (∀ (l0 l1 l2 l3 l5 l6 l7 : Option Value) (st : List Value) (h : pb_H) (Q : Option Value → pb_H → Prop) (x : Int32), pb_R 188 111 [l0, l1, l2, l3, some (.int x), l5, l6, l7] [] st h Q ↔ pb_R 188 113 [l0, l1, l2, l3, some (.int x), l5, l6, l7] [] (.int x :: st) h Q) ∧
  (∀ (l0 l1 l2 l3 l4 l6 l7 : Option Value) (st : List Value) (h : pb_H) (Q : Option Value → pb_H → Prop) (x : Int32), pb_R 188 113 [l0, l1, l2, l3, l4, some (.int x), l6, l7] [] st h Q ↔ pb_R 188 115 [l0, l1, l2, l3, l4, some (.int x), l6, l7] [] (.int x :: st) h Q) ∧
  (∀ (L : pb_L) (J : pb_J) (h : pb_H) (Q : Option Value → pb_H → Prop) (x0 : Int32) (x1 : Int32) (x2 : Nat), pb_R 188 115 L J [.int x0, .int x1, .ref x2] h Q ↔ pb_call 143 [.int x1, .int x0] h (fun v t => pb_R 188 118 L J (v.toList ++ [.ref x2]) t Q)) ∧
  (∀ (l0 l1 l2 l3 l4 l5 l6 : Option Value) (st : List Value) (h : pb_H) (Q : Option Value → pb_H → Prop) (x : Int32), pb_R 188 118 [l0, l1, l2, l3, l4, l5, l6, some (.int x)] [] st h Q ↔ pb_R 188 120 [l0, l1, l2, l3, l4, l5, l6, some (.int x)] [] (.int x :: st) h Q) ∧
  (∀ (L : pb_L) (J : pb_J) (h : pb_H) (Q : Option Value → pb_H → Prop) (x0 : Int32) (x1 : Int32) (x2 : Nat), pb_R 188 120 L J [.int x0, .int x1, .ref x2] h Q ↔ pb_is0 (h.2 x2) 12 = true ∧ pb_call 146 [.ref x2, .int x1, .int x0] h (fun v t => pb_R 188 123 L J (v.toList ++ []) t Q)) ∧
  (∀ (l1 l2 l3 l4 l5 l6 l7 : Option Value) (st : List Value) (h : pb_H) (Q : Option Value → pb_H → Prop) (x : Nat), pb_R 188 123 [some (.ref x), l1, l2, l3, l4, l5, l6, l7] [] st h Q ↔ pb_R 188 124 [some (.ref x), l1, l2, l3, l4, l5, l6, l7] [] (.ref x :: st) h Q) ∧
  (∀ (l1 l2 l3 l4 l5 l6 l7 : Option Value) (st : List Value) (h : pb_H) (Q : Option Value → pb_H → Prop), pb_R 188 123 [some .null, l1, l2, l3, l4, l5, l6, l7] [] st h Q ↔ pb_R 188 124 [some .null, l1, l2, l3, l4, l5, l6, l7] [] (.null :: st) h Q) ∧
  (∀ (l0 l1 l2 l3 l4 l5 l6 : Option Value) (st : List Value) (h : pb_H) (Q : Option Value → pb_H → Prop) (x : Int32), pb_R 188 124 [l0, l1, l2, l3, l4, l5, l6, some (.int x)] [] st h Q ↔ pb_R 188 126 [l0, l1, l2, l3, l4, l5, l6, some (.int x)] [] (.int x :: st) h Q) ∧
  (∀ (l0 l1 l2 l3 l4 l5 l7 : Option Value) (st : List Value) (h : pb_H) (Q : Option Value → pb_H → Prop) (x : Int32), pb_R 188 126 [l0, l1, l2, l3, l4, l5, some (.int x), l7] [] st h Q ↔ pb_R 188 128 [l0, l1, l2, l3, l4, l5, some (.int x), l7] [] (.int x :: st) h Q) ∧
  (∀ (L : pb_L) (J : pb_J) (st : List Value) (h : pb_H) (Q : Option Value → pb_H → Prop) (x : Int32), pb_R 188 128 L J (.int x :: st) h Q ↔ if x < 0 then pb_R 188 136 L J st h Q else pb_R 188 131 L J st h Q) ∧
  (∀ (l0 l1 l2 l3 l5 l6 l7 : Option Value) (st : List Value) (h : pb_H) (Q : Option Value → pb_H → Prop) (x : Int32), pb_R 188 131 [l0, l1, l2, l3, some (.int x), l5, l6, l7] [] st h Q ↔ pb_R 188 133 [l0, l1, l2, l3, some (.int x), l5, l6, l7] [] (.int x :: st) h Q) ∧
  (∀ (L : pb_L) (J : pb_J) (st : List Value) (h : pb_H) (Q : Option Value → pb_H → Prop), pb_R 188 133 L J st h Q ↔ pb_R 188 137 L J st h Q) ∧
  (∀ (l0 l1 l2 l4 l5 l6 l7 : Option Value) (st : List Value) (h : pb_H) (Q : Option Value → pb_H → Prop) (x : Int32), pb_R 188 136 [l0, l1, l2, some (.int x), l4, l5, l6, l7] [] st h Q ↔ pb_R 188 137 [l0, l1, l2, some (.int x), l4, l5, l6, l7] [] (.int x :: st) h Q) ∧
  (∀ (l0 l1 l2 l3 l4 l6 l7 : Option Value) (st : List Value) (h : pb_H) (Q : Option Value → pb_H → Prop) (x : Int32), pb_R 188 137 [l0, l1, l2, l3, l4, some (.int x), l6, l7] [] st h Q ↔ pb_R 188 139 [l0, l1, l2, l3, l4, some (.int x), l6, l7] [] (.int x :: st) h Q) ∧
  (∀ (L : pb_L) (J : pb_J) (h : pb_H) (Q : Option Value → pb_H → Prop) (x0 : Int32) (x1 : Int32) (x2 : Int32) (x3 : Nat), pb_R 188 139 L J [.int x0, .int x1, .int x2, .ref x3] h Q ↔ pb_call 143 [.int x1, .int x0] h (fun v t => pb_R 188 142 L J (v.toList ++ [.int x2, .ref x3]) t Q)) ∧
  (∀ (L : pb_L) (J : pb_J) (h : pb_H) (Q : Option Value → pb_H → Prop) (x0 : Int32) (x1 : Int32) (x2 : Nat), pb_R 188 142 L J [.int x0, .int x1, .ref x2] h Q ↔ pb_is0 (h.2 x2) 12 = true ∧ pb_call 152 [.ref x2, .int x1, .int x0] h (fun v t => pb_R 188 145 L J (v.toList ++ []) t Q)) ∧
  (∀ (l0 l1 l2 l3 l4 l5 l7 : Option Value) (st : List Value) (h : pb_H) (Q : Option Value → pb_H → Prop) (x : Int32), pb_R 188 145 [l0, l1, l2, l3, l4, l5, some (.int x), l7] [] st h Q ↔ pb_R 188 147 [l0, l1, l2, l3, l4, l5, some (.int x), l7] [] (.int x :: st) h Q) ∧
  (∀ (L : pb_L) (J : pb_J) (st : List Value) (h : pb_H) (Q : Option Value → pb_H → Prop) (x : Int32), pb_R 188 147 L J (.int x :: st) h Q ↔ if 0 ≤ x then pb_R 188 161 L J st h Q else pb_R 188 150 L J st h Q) ∧
  (∀ (l1 l2 l3 l4 l5 l6 l7 : Option Value) (st : List Value) (h : pb_H) (Q : Option Value → pb_H → Prop) (x : Nat), pb_R 188 150 [some (.ref x), l1, l2, l3, l4, l5, l6, l7] [] st h Q ↔ pb_R 188 151 [some (.ref x), l1, l2, l3, l4, l5, l6, l7] [] (.ref x :: st) h Q) ∧
  (∀ (l1 l2 l3 l4 l5 l6 l7 : Option Value) (st : List Value) (h : pb_H) (Q : Option Value → pb_H → Prop), pb_R 188 150 [some .null, l1, l2, l3, l4, l5, l6, l7] [] st h Q ↔ pb_R 188 151 [some .null, l1, l2, l3, l4, l5, l6, l7] [] (.null :: st) h Q) ∧
  (∀ (l0 l2 l3 l4 l5 l6 l7 : Option Value) (st : List Value) (h : pb_H) (Q : Option Value → pb_H → Prop) (x : Int32), pb_R 188 151 [l0, some (.int x), l2, l3, l4, l5, l6, l7] [] st h Q ↔ pb_R 188 152 [l0, some (.int x), l2, l3, l4, l5, l6, l7] [] (.int x :: st) h Q) ∧
  (∀ (L : pb_L) (J : pb_J) (st : List Value) (h : pb_H) (Q : Option Value → pb_H → Prop), pb_R 188 152 L J st h Q ↔ pb_R 188 153 L J (.int (0 : Int32) :: st) h Q) ∧
  (∀ (L : pb_L) (J : pb_J) (h : pb_H) (Q : Option Value → pb_H → Prop) (x0 : Int32) (x1 : Int32) (x2 : Nat), pb_R 188 153 L J [.int x0, .int x1, .ref x2] h Q ↔ pb_call 143 [.int x1, .int x0] h (fun v t => pb_R 188 156 L J (v.toList ++ [.ref x2]) t Q)) ∧
  (∀ (l0 l1 l2 l3 l4 l5 l6 : Option Value) (st : List Value) (h : pb_H) (Q : Option Value → pb_H → Prop) (x : Int32), pb_R 188 156 [l0, l1, l2, l3, l4, l5, l6, some (.int x)] [] st h Q ↔ pb_R 188 158 [l0, l1, l2, l3, l4, l5, l6, some (.int x)] [] (.int x :: st) h Q) ∧
  (∀ (L : pb_L) (J : pb_J) (h : pb_H) (Q : Option Value → pb_H → Prop) (x0 : Int32) (x1 : Int32) (x2 : Nat), pb_R 188 158 L J [.int x0, .int x1, .ref x2] h Q ↔ pb_is0 (h.2 x2) 12 = true ∧ pb_call 151 [.ref x2, .int x1, .int x0] h (fun v t => pb_R 188 161 L J (v.toList ++ []) t Q)) ∧
  (∀ (l0 l1 l2 l3 l4 l6 l7 : Option Value) (st : List Value) (h : pb_H) (Q : Option Value → pb_H → Prop) (x : Int32), pb_R 188 161 [l0, l1, l2, l3, l4, some (.int x), l6, l7] [] st h Q ↔ pb_R 188 164 [l0, l1, l2, l3, l4, some (.int (x + (1 : Int32))), l6, l7] [] st h Q) ∧
  (∀ (L : pb_L) (J : pb_J) (st : List Value) (h : pb_H) (Q : Option Value → pb_H → Prop), pb_R 188 164 L J st h Q ↔ pb_R 188 51 L J st h Q) ∧
  (∀ (l1 l2 l3 l4 l5 l6 l7 : Option Value) (st : List Value) (h : pb_H) (Q : Option Value → pb_H → Prop) (x : Nat), pb_R 188 167 [some (.ref x), l1, l2, l3, l4, l5, l6, l7] [] st h Q ↔ pb_R 188 168 [some (.ref x), l1, l2, l3, l4, l5, l6, l7] [] (.ref x :: st) h Q) ∧
  (∀ (l1 l2 l3 l4 l5 l6 l7 : Option Value) (st : List Value) (h : pb_H) (Q : Option Value → pb_H → Prop), pb_R 188 167 [some .null, l1, l2, l3, l4, l5, l6, l7] [] st h Q ↔ pb_R 188 168 [some .null, l1, l2, l3, l4, l5, l6, l7] [] (.null :: st) h Q) ∧
  (∀ (l0 l2 l3 l4 l5 l6 l7 : Option Value) (st : List Value) (h : pb_H) (Q : Option Value → pb_H → Prop) (x : Int32), pb_R 188 168 [l0, some (.int x), l2, l3, l4, l5, l6, l7] [] st h Q ↔ pb_R 188 169 [l0, some (.int x), l2, l3, l4, l5, l6, l7] [] (.int x :: st) h Q) ∧
  (∀ (L : pb_L) (J : pb_J) (st : List Value) (h : pb_H) (Q : Option Value → pb_H → Prop), pb_R 188 169 L J st h Q ↔ pb_R 188 170 L J (.int (0 : Int32) :: st) h Q) ∧
  (∀ (L : pb_L) (J : pb_J) (h : pb_H) (Q : Option Value → pb_H → Prop) (x0 : Int32) (x1 : Int32) (x2 : Nat), pb_R 188 170 L J [.int x0, .int x1, .ref x2] h Q ↔ pb_call 143 [.int x1, .int x0] h (fun v t => pb_R 188 173 L J (v.toList ++ [.ref x2]) t Q)) ∧
  (∀ (l0 l1 l2 l3 l5 l6 l7 : Option Value) (st : List Value) (h : pb_H) (Q : Option Value → pb_H → Prop) (x : Int32), pb_R 188 173 [l0, l1, l2, l3, some (.int x), l5, l6, l7] [] st h Q ↔ pb_R 188 175 [l0, l1, l2, l3, some (.int x), l5, l6, l7] [] (.int x :: st) h Q) ∧
  (∀ (L : pb_L) (J : pb_J) (st : List Value) (h : pb_H) (Q : Option Value → pb_H → Prop), pb_R 188 175 L J st h Q ↔ pb_R 188 176 L J (.int (0 : Int32) :: st) h Q) ∧
  (∀ (L : pb_L) (J : pb_J) (h : pb_H) (Q : Option Value → pb_H → Prop) (x0 : Int32) (x1 : Int32) (x2 : Int32) (x3 : Nat), pb_R 188 176 L J [.int x0, .int x1, .int x2, .ref x3] h Q ↔ pb_call 143 [.int x1, .int x0] h (fun v t => pb_R 188 179 L J (v.toList ++ [.int x2, .ref x3]) t Q)) ∧
  (∀ (L : pb_L) (J : pb_J) (h : pb_H) (Q : Option Value → pb_H → Prop) (x0 : Int32) (x1 : Int32) (x2 : Nat), pb_R 188 179 L J [.int x0, .int x1, .ref x2] h Q ↔ pb_is0 (h.2 x2) 12 = true ∧ pb_call 153 [.ref x2, .int x1, .int x0] h (fun v t => pb_R 188 182 L J (v.toList ++ []) t Q)) ∧
  (∀ (L : pb_L) (J : pb_J) (h : pb_H) (Q : Option Value → pb_H → Prop), pb_R 188 182 L J [] h Q ↔ Q none h) := ⟨
  fun l0 l1 l3 l4 l5 l6 l7 st h Q x => pf_S pb_u_188 rfl rfl,
  fun L J st h Q x => pf_ii pb_u_188 rfl rfl rfl,
  fun L J st h Q => pf_S pb_u_188 rfl rfl,
  fun L J st h Q => pf_S pb_u_188 rfl rfl,
  fun L J st h Q => pf_S pb_u_188 rfl rfl,
  fun l0 l1 l2 l3 l4 l5 l6 l7 st h Q x => pf_S pb_u_188 rfl rfl,
  fun l0 l1 l3 l4 l5 l6 l7 st h Q x => pf_S pb_u_188 rfl rfl,
  fun L J st h Q x => pf_ii pb_u_188 rfl rfl rfl,
  fun L J st h Q => pf_S pb_u_188 rfl rfl,
  fun L J st h Q => pf_S pb_u_188 rfl rfl,
  fun L J st h Q => pf_S pb_u_188 rfl rfl,
  fun l0 l1 l2 l3 l4 l5 l6 l7 st h Q x => pf_S pb_u_188 rfl rfl,
  fun l1 l2 l3 l4 l5 l6 l7 st h Q x => pf_S pb_u_188 rfl rfl,
  fun l1 l2 l3 l4 l5 l6 l7 st h Q => pf_S pb_u_188 rfl rfl,
  fun l0 l2 l3 l4 l5 l6 l7 st h Q x => pf_S pb_u_188 rfl rfl,
  fun L J h Q x0 x1 => pf_kv pb_u_188 rfl pb_ci_161 rfl ⟨Nat.le_of_ble_eq_true rfl, Nat.le_of_ble_eq_true rfl, Nat.le_of_ble_eq_true rfl, Nat.le_of_ble_eq_true rfl, rfl⟩ rfl rfl,
  fun l1 l2 l3 l4 l5 l6 l7 st h Q x => pf_S pb_u_188 rfl rfl,
  fun l1 l2 l3 l4 l5 l6 l7 st h Q => pf_S pb_u_188 rfl rfl,
  fun l0 l1 l2 l4 l5 l6 l7 st h Q x => pf_S pb_u_188 rfl rfl,
  fun L J st h Q => pf_S pb_u_188 rfl rfl,
  fun L J h Q x0 x1 x2 => pf_ks pb_u_188 rfl rfl rfl rfl,
  fun l0 l2 l3 l4 l5 l6 l7 st h Q x => pf_S pb_u_188 rfl rfl,
  fun L J st h Q => pf_S pb_u_188 rfl rfl,
  fun L J h Q x0 x1 x2 x3 => pf_ks pb_u_188 rfl rfl rfl rfl,
  fun L J h Q x0 x1 x2 => pf_kv pb_u_188 rfl pb_ci_146 rfl ⟨Nat.le_of_ble_eq_true rfl, Nat.le_of_ble_eq_true rfl, Nat.le_of_ble_eq_true rfl, Nat.le_of_ble_eq_true rfl, rfl⟩ rfl rfl,
  fun L J st h Q => pf_S pb_u_188 rfl rfl,
  fun l0 l1 l2 l3 l4 l5 l6 l7 st h Q x => pf_S pb_u_188 rfl rfl,
  fun l1 l2 l3 l4 l5 l6 l7 st h Q x => pf_S pb_u_188 rfl rfl,
  fun l1 l2 l3 l4 l5 l6 l7 st h Q => pf_S pb_u_188 rfl rfl,
  fun L J st h Q a => pf_gf pb_u_188 rfl rfl,
  fun L J st h Q x y => pf_ic pb_u_188 rfl rfl rfl,
  fun l1 l2 l3 l4 l5 l6 l7 st h Q x => pf_S pb_u_188 rfl rfl,
  fun l1 l2 l3 l4 l5 l6 l7 st h Q => pf_S pb_u_188 rfl rfl,
  fun l0 l1 l2 l4 l5 l6 l7 st h Q x => pf_S pb_u_188 rfl rfl,
  fun l0 l1 l2 l3 l4 l6 l7 st h Q x => pf_S pb_u_188 rfl rfl,
  fun L J h Q x0 x1 x2 => pf_ks pb_u_188 rfl rfl rfl rfl,
  fun l0 l1 l2 l3 l5 l6 l7 st h Q x => pf_S pb_u_188 rfl rfl,
  fun l0 l1 l2 l3 l4 l6 l7 st h Q x => pf_S pb_u_188 rfl rfl,
  fun L J h Q x0 x1 x2 x3 => pf_ks pb_u_188 rfl rfl rfl rfl,
  fun L J h Q x0 x1 x2 => pf_kv pb_u_188 rfl pb_ci_150 rfl ⟨Nat.le_of_ble_eq_true rfl, Nat.le_of_ble_eq_true rfl, Nat.le_of_ble_eq_true rfl, Nat.le_of_ble_eq_true rfl, rfl⟩ rfl rfl,
  fun l0 l1 l2 l3 l4 l5 l6 l7 st h Q x => pf_S pb_u_188 rfl rfl,
  fun l0 l2 l3 l4 l5 l6 l7 st h Q x => pf_S pb_u_188 rfl rfl,
  fun l0 l1 l2 l3 l4 l6 l7 st h Q x => pf_S pb_u_188 rfl rfl,
  fun L J h Q x0 x1 => pf_ks pb_u_188 rfl rfl rfl rfl,
  fun l0 l1 l2 l3 l4 l5 l6 l7 st h Q x => pf_S pb_u_188 rfl rfl,
  fun l1 l2 l3 l4 l5 l6 l7 st h Q x => pf_S pb_u_188 rfl rfl,
  fun l1 l2 l3 l4 l5 l6 l7 st h Q => pf_S pb_u_188 rfl rfl,
  fun L J st h Q a => pf_gf pb_u_188 rfl rfl,
  fun l0 l2 l3 l4 l5 l6 l7 st h Q x => pf_S pb_u_188 rfl rfl,
  fun L J st h Q => pf_S pb_u_188 rfl rfl,
  fun L J st x y h Q => pf_S pb_u_188 rfl rfl,
  fun l0 l1 l2 l3 l4 l6 l7 st h Q x => pf_S pb_u_188 rfl rfl,
  fun L J st x y h Q => pf_S pb_u_188 rfl rfl,
  fun l0 l1 l2 l3 l4 l5 l7 st h Q x => pf_S pb_u_188 rfl rfl,
  fun L J st h Q a i x => pf_si pb_u_188 rfl rfl,
  fun l1 l2 l3 l4 l5 l6 l7 st h Q x => pf_S pb_u_188 rfl rfl,
  fun l1 l2 l3 l4 l5 l6 l7 st h Q => pf_S pb_u_188 rfl rfl,
  fun l0 l1 l2 l3 l4 l5 l7 st h Q x => pf_S pb_u_188 rfl rfl,
  fun L J st h Q x => pf_ii pb_u_188 rfl rfl rfl,
  fun l0 l1 l2 l4 l5 l6 l7 st h Q x => pf_S pb_u_188 rfl rfl,
  fun L J st h Q => pf_S pb_u_188 rfl rfl,
  fun l0 l1 l2 l3 l5 l6 l7 st h Q x => pf_S pb_u_188 rfl rfl,
  fun l0 l1 l2 l3 l4 l6 l7 st h Q x => pf_S pb_u_188 rfl rfl,
  fun L J h Q x0 x1 x2 => pf_ks pb_u_188 rfl rfl rfl rfl,
  fun l0 l1 l2 l3 l4 l5 l6 st h Q x => pf_S pb_u_188 rfl rfl,
  fun L J h Q x0 x1 x2 => pf_kv pb_u_188 rfl pb_ci_146 rfl ⟨Nat.le_of_ble_eq_true rfl, Nat.le_of_ble_eq_true rfl, Nat.le_of_ble_eq_true rfl, Nat.le_of_ble_eq_true rfl, rfl⟩ rfl rfl,
  fun l1 l2 l3 l4 l5 l6 l7 st h Q x => pf_S pb_u_188 rfl rfl,
  fun l1 l2 l3 l4 l5 l6 l7 st h Q => pf_S pb_u_188 rfl rfl,
  fun l0 l1 l2 l3 l4 l5 l6 st h Q x => pf_S pb_u_188 rfl rfl,
  fun l0 l1 l2 l3 l4 l5 l7 st h Q x => pf_S pb_u_188 rfl rfl,
  fun L J st h Q x => pf_ii pb_u_188 rfl rfl rfl,
  fun l0 l1 l2 l3 l5 l6 l7 st h Q x => pf_S pb_u_188 rfl rfl,
  fun L J st h Q => pf_S pb_u_188 rfl rfl,
  fun l0 l1 l2 l4 l5 l6 l7 st h Q x => pf_S pb_u_188 rfl rfl,
  fun l0 l1 l2 l3 l4 l6 l7 st h Q x => pf_S pb_u_188 rfl rfl,
  fun L J h Q x0 x1 x2 x3 => pf_ks pb_u_188 rfl rfl rfl rfl,
  fun L J h Q x0 x1 x2 => pf_kv pb_u_188 rfl pb_ci_152 rfl ⟨Nat.le_of_ble_eq_true rfl, Nat.le_of_ble_eq_true rfl, Nat.le_of_ble_eq_true rfl, Nat.le_of_ble_eq_true rfl, rfl⟩ rfl rfl,
  fun l0 l1 l2 l3 l4 l5 l7 st h Q x => pf_S pb_u_188 rfl rfl,
  fun L J st h Q x => pf_ii pb_u_188 rfl rfl rfl,
  fun l1 l2 l3 l4 l5 l6 l7 st h Q x => pf_S pb_u_188 rfl rfl,
  fun l1 l2 l3 l4 l5 l6 l7 st h Q => pf_S pb_u_188 rfl rfl,
  fun l0 l2 l3 l4 l5 l6 l7 st h Q x => pf_S pb_u_188 rfl rfl,
  fun L J st h Q => pf_S pb_u_188 rfl rfl,
  fun L J h Q x0 x1 x2 => pf_ks pb_u_188 rfl rfl rfl rfl,
  fun l0 l1 l2 l3 l4 l5 l6 st h Q x => pf_S pb_u_188 rfl rfl,
  fun L J h Q x0 x1 x2 => pf_kv pb_u_188 rfl pb_ci_151 rfl ⟨Nat.le_of_ble_eq_true rfl, Nat.le_of_ble_eq_true rfl, Nat.le_of_ble_eq_true rfl, Nat.le_of_ble_eq_true rfl, rfl⟩ rfl rfl,
  fun l0 l1 l2 l3 l4 l6 l7 st h Q x => pf_S pb_u_188 rfl rfl,
  fun L J st h Q => pf_S pb_u_188 rfl rfl,
  fun l1 l2 l3 l4 l5 l6 l7 st h Q x => pf_S pb_u_188 rfl rfl,
  fun l1 l2 l3 l4 l5 l6 l7 st h Q => pf_S pb_u_188 rfl rfl,
  fun l0 l2 l3 l4 l5 l6 l7 st h Q x => pf_S pb_u_188 rfl rfl,
  fun L J st h Q => pf_S pb_u_188 rfl rfl,
  fun L J h Q x0 x1 x2 => pf_ks pb_u_188 rfl rfl rfl rfl,
  fun l0 l1 l2 l3 l5 l6 l7 st h Q x => pf_S pb_u_188 rfl rfl,
  fun L J st h Q => pf_S pb_u_188 rfl rfl,
  fun L J h Q x0 x1 x2 x3 => pf_ks pb_u_188 rfl rfl rfl rfl,
  fun L J h Q x0 x1 x2 => pf_kv pb_u_188 rfl pb_ci_153 rfl ⟨Nat.le_of_ble_eq_true rfl, Nat.le_of_ble_eq_true rfl, Nat.le_of_ble_eq_true rfl, Nat.le_of_ble_eq_true rfl, rfl⟩ rfl rfl,
  fun L J h Q => pf_rv pb_u_188 rfl rfl⟩
theorem pb_c188 (x0 : Nat) (x1 : Int32) (x2 : Int32) (h : pb_H) (Q : Option Value → pb_H → Prop) : pb_call 188 [.ref x0, .int x1, .int x2] h Q ↔ pb_R 188 0 [some (.ref x0), some (.int x1), some (.int x2), none, none, none, none, none] [] [] h Q := Iff.rfl
/-! 189: PlaneBenchModel.bound()Z -/
theorem pb_u_189 : pb_t 189 = pb_t189 := rfl
theorem pb_ci_189 : pb_ci 189 = 12 := by decide +kernel
set_option maxRecDepth 100000 in
theorem pb_e189 : (∀ (st : List Value) (h : pb_H) (Q : Option Value → pb_H → Prop) (x : Nat), pb_R 189 0 [some (.ref x)] [] st h Q ↔ pb_R 189 1 [some (.ref x)] [] (.ref x :: st) h Q) ∧
  (∀ (st : List Value) (h : pb_H) (Q : Option Value → pb_H → Prop), pb_R 189 0 [some .null] [] st h Q ↔ pb_R 189 1 [some .null] [] (.null :: st) h Q) ∧
  (∀ (L : pb_L) (J : pb_J) (st : List Value) (h : pb_H) (Q : Option Value → pb_H → Prop) (a : Nat), pb_R 189 1 L J (.ref a :: st) h Q ↔ pb_o (pb_gf (h.2 a) 12 15) (fun v => pb_R 189 4 L J (v :: st) h Q)) ∧
  (∀ (L : pb_L) (J : pb_J) (st : List Value) (h : pb_H) (Q : Option Value → pb_H → Prop), pb_R 189 4 L J st h Q ↔ pb_R 189 5 L J (.int (1 : Int32) :: st) h Q) ∧
  (∀ (L : pb_L) (J : pb_J) (st : List Value) (h : pb_H) (Q : Option Value → pb_H → Prop) (x y : Int32), pb_R 189 5 L J (.int y :: .int x :: st) h Q ↔ if x = y then pb_R 189 36 L J st h Q else pb_R 189 8 L J st h Q) ∧
  (∀ (st : List Value) (h : pb_H) (Q : Option Value → pb_H → Prop) (x : Nat), pb_R 189 8 [some (.ref x)] [] st h Q ↔ pb_R 189 9 [some (.ref x)] [] (.ref x :: st) h Q) ∧
  (∀ (st : List Value) (h : pb_H) (Q : Option Value → pb_H → Prop), pb_R 189 8 [some .null] [] st h Q ↔ pb_R 189 9 [some .null] [] (.null :: st) h Q) ∧
  (∀ (L : pb_L) (J : pb_J) (st : List Value) (h : pb_H) (Q : Option Value → pb_H → Prop), pb_R 189 9 L J st h Q ↔ pb_R 189 11 L J (.int (43 : Int32) :: st) h Q) ∧
  (∀ (L : pb_L) (J : pb_J) (h : pb_H) (Q : Option Value → pb_H → Prop) (x0 : Int32) (x1 : Nat), pb_R 189 11 L J [.int x0, .ref x1] h Q ↔ pb_is0 (h.2 x1) 12 = true ∧ pb_call 178 [.ref x1, .int x0] h (fun v t => pb_R 189 14 L J (v.toList ++ []) t Q)) ∧
  (∀ (L : pb_L) (J : pb_J) (st : List Value) (h : pb_H) (Q : Option Value → pb_H → Prop) (x : Int32), pb_R 189 14 L J (.int x :: st) h Q ↔ if ¬ x = 0 then pb_R 189 36 L J st h Q else pb_R 189 17 L J st h Q) ∧
  (∀ (st : List Value) (h : pb_H) (Q : Option Value → pb_H → Prop) (x : Nat), pb_R 189 17 [some (.ref x)] [] st h Q ↔ pb_R 189 18 [some (.ref x)] [] (.ref x :: st) h Q) ∧
  (∀ (st : List Value) (h : pb_H) (Q : Option Value → pb_H → Prop), pb_R 189 17 [some .null] [] st h Q ↔ pb_R 189 18 [some .null] [] (.null :: st) h Q) ∧
  (∀ (L : pb_L) (J : pb_J) (st : List Value) (h : pb_H) (Q : Option Value → pb_H → Prop), pb_R 189 18 L J st h Q ↔ pb_R 189 20 L J (.int (45 : Int32) :: st) h Q) ∧
  (∀ (L : pb_L) (J : pb_J) (h : pb_H) (Q : Option Value → pb_H → Prop) (x0 : Int32) (x1 : Nat), pb_R 189 20 L J [.int x0, .ref x1] h Q ↔ pb_is0 (h.2 x1) 12 = true ∧ pb_call 178 [.ref x1, .int x0] h (fun v t => pb_R 189 23 L J (v.toList ++ []) t Q)) ∧
  (∀ (L : pb_L) (J : pb_J) (st : List Value) (h : pb_H) (Q : Option Value → pb_H → Prop) (x : Int32), pb_R 189 23 L J (.int x :: st) h Q ↔ if ¬ x = 0 then pb_R 189 36 L J st h Q else pb_R 189 26 L J st h Q) ∧
  (∀ (st : List Value) (h : pb_H) (Q : Option Value → pb_H → Prop) (x : Nat), pb_R 189 26 [some (.ref x)] [] st h Q ↔ pb_R 189 27 [some (.ref x)] [] (.ref x :: st) h Q) ∧
  (∀ (st : List Value) (h : pb_H) (Q : Option Value → pb_H → Prop), pb_R 189 26 [some .null] [] st h Q ↔ pb_R 189 27 [some .null] [] (.null :: st) h Q) ∧
  (∀ (L : pb_L) (J : pb_J) (st : List Value) (h : pb_H) (Q : Option Value → pb_H → Prop), pb_R 189 27 L J st h Q ↔ pb_R 189 28 L J (.int (1 : Int32) :: st) h Q) ∧
  (∀ (st : List Value) (h : pb_H) (Q : Option Value → pb_H → Prop) (x : Nat), pb_R 189 28 [some (.ref x)] [] st h Q ↔ pb_R 189 29 [some (.ref x)] [] (.ref x :: st) h Q) ∧
  (∀ (st : List Value) (h : pb_H) (Q : Option Value → pb_H → Prop), pb_R 189 28 [some .null] [] st h Q ↔ pb_R 189 29 [some .null] [] (.null :: st) h Q) ∧
  (∀ (L : pb_L) (J : pb_J) (st : List Value) (h : pb_H) (Q : Option Value → pb_H → Prop) (a : Nat), pb_R 189 29 L J (.ref a :: st) h Q ↔ pb_o (pb_gf (h.2 a) 12 16) (fun v => pb_R 189 32 L J (v :: st) h Q)) ∧
  (∀ (L : pb_L) (J : pb_J) (h : pb_H) (Q : Option Value → pb_H → Prop) (x0 : Int32) (x1 : Int32) (x2 : Nat), pb_R 189 32 L J [.int x0, .int x1, .ref x2] h Q ↔ pb_is0 (h.2 x2) 12 = true ∧ pb_call 183 [.ref x2, .int x1, .int x0] h (fun v t => pb_R 189 35 L J (v.toList ++ []) t Q)) ∧
  (∀ (L : pb_L) (J : pb_J) (h : pb_H) (Q : Option Value → pb_H → Prop) (x : Int32), pb_R 189 35 L J [.int x] h Q ↔ narrow .boolean (.int x) = .int x ∧ Q (some (.int x)) h) ∧
  (∀ (st : List Value) (h : pb_H) (Q : Option Value → pb_H → Prop) (x : Nat), pb_R 189 36 [some (.ref x)] [] st h Q ↔ pb_R 189 37 [some (.ref x)] [] (.ref x :: st) h Q) ∧
  (∀ (st : List Value) (h : pb_H) (Q : Option Value → pb_H → Prop), pb_R 189 36 [some .null] [] st h Q ↔ pb_R 189 37 [some .null] [] (.null :: st) h Q) ∧
  (∀ (L : pb_L) (J : pb_J) (h : pb_H) (Q : Option Value → pb_H → Prop) (x0 : Nat), pb_R 189 37 L J [.ref x0] h Q ↔ pb_is0 (h.2 x0) 12 = true ∧ pb_call 186 [.ref x0] h (fun v t => pb_R 189 40 L J (v.toList ++ []) t Q)) ∧
  (∀ (L : pb_L) (J : pb_J) (st : List Value) (h : pb_H) (Q : Option Value → pb_H → Prop) (x : Int32), pb_R 189 40 L J (.int x :: st) h Q ↔ if ¬ x = 0 then pb_R 189 45 L J st h Q else pb_R 189 43 L J st h Q) ∧
  (∀ (L : pb_L) (J : pb_J) (st : List Value) (h : pb_H) (Q : Option Value → pb_H → Prop), pb_R 189 43 L J st h Q ↔ pb_R 189 44 L J (.int (0 : Int32) :: st) h Q) ∧
  (∀ (L : pb_L) (J : pb_J) (h : pb_H) (Q : Option Value → pb_H → Prop) (x : Int32), pb_R 189 44 L J [.int x] h Q ↔ narrow .boolean (.int x) = .int x ∧ Q (some (.int x)) h) ∧
  (∀ (st : List Value) (h : pb_H) (Q : Option Value → pb_H → Prop) (x : Nat), pb_R 189 45 [some (.ref x)] [] st h Q ↔ pb_R 189 46 [some (.ref x)] [] (.ref x :: st) h Q) ∧
  (∀ (st : List Value) (h : pb_H) (Q : Option Value → pb_H → Prop), pb_R 189 45 [some .null] [] st h Q ↔ pb_R 189 46 [some .null] [] (.null :: st) h Q) ∧
  (∀ (st : List Value) (h : pb_H) (Q : Option Value → pb_H → Prop) (x : Nat), pb_R 189 46 [some (.ref x)] [] st h Q ↔ pb_R 189 47 [some (.ref x)] [] (.ref x :: st) h Q) ∧
  (∀ (st : List Value) (h : pb_H) (Q : Option Value → pb_H → Prop), pb_R 189 46 [some .null] [] st h Q ↔ pb_R 189 47 [some .null] [] (.null :: st) h Q) ∧
  (∀ (L : pb_L) (J : pb_J) (st : List Value) (h : pb_H) (Q : Option Value → pb_H → Prop) (a : Nat), pb_R 189 47 L J (.ref a :: st) h Q ↔ pb_o (pb_gf (h.2 a) 12 19) (fun v => pb_R 189 50 L J (v :: st) h Q)) ∧
  (∀ (L : pb_L) (J : pb_J) (st : List Value) (h : pb_H) (Q : Option Value → pb_H → Prop) (x : Int32), pb_R 189 50 L J (.int x :: st) h Q ↔ if x = 0 then pb_R 189 57 L J st h Q else pb_R 189 53 L J st h Q) ∧
  (∀ (L : pb_L) (J : pb_J) (st : List Value) (h : pb_H) (Q : Option Value → pb_H → Prop), pb_R 189 53 L J st h Q ↔ pb_R 189 54 L J (.int (-1 : Int32) :: st) h Q) ∧
  (∀ (L : pb_L) (J : pb_J) (st : List Value) (h : pb_H) (Q : Option Value → pb_H → Prop), pb_R 189 54 L J st h Q ↔ pb_R 189 58 L J st h Q) ∧
  (∀ (L : pb_L) (J : pb_J) (st : List Value) (h : pb_H) (Q : Option Value → pb_H → Prop), pb_R 189 57 L J st h Q ↔ pb_R 189 58 L J (.int (1 : Int32) :: st) h Q) ∧
  (∀ (L : pb_L) (J : pb_J) (h : pb_H) (Q : Option Value → pb_H → Prop) (x0 : Int32) (x1 : Nat), pb_R 189 58 L J [.int x0, .ref x1] h Q ↔ pb_is0 (h.2 x1) 12 = true ∧ pb_call 184 [.ref x1, .int x0] h (fun v t => pb_R 189 61 L J (v.toList ++ []) t Q)) ∧
  (∀ (st : List Value) (h : pb_H) (Q : Option Value → pb_H → Prop) (x : Nat), pb_R 189 61 [some (.ref x)] [] st h Q ↔ pb_R 189 62 [some (.ref x)] [] (.ref x :: st) h Q) ∧
  (∀ (st : List Value) (h : pb_H) (Q : Option Value → pb_H → Prop), pb_R 189 61 [some .null] [] st h Q ↔ pb_R 189 62 [some .null] [] (.null :: st) h Q) ∧
  (∀ (L : pb_L) (J : pb_J) (st : List Value) (h : pb_H) (Q : Option Value → pb_H → Prop), pb_R 189 62 L J st h Q ↔ pb_R 189 63 L J (.int (0 : Int32) :: st) h Q) ∧
  (∀ (L : pb_L) (J : pb_J) (st : List Value) (h : pb_H) (Q : Option Value → pb_H → Prop) (a : Nat) (x : Int32), pb_R 189 63 L J (.int x :: .ref a :: st) h Q ↔ pb_o (pb_pf (h.2 a) 12 19 (.int x)) (fun c => pb_R 189 66 L J st (pb_set h a c) Q)) ∧
  (∀ (st : List Value) (h : pb_H) (Q : Option Value → pb_H → Prop) (x : Nat), pb_R 189 66 [some (.ref x)] [] st h Q ↔ pb_R 189 67 [some (.ref x)] [] (.ref x :: st) h Q) ∧
  (∀ (st : List Value) (h : pb_H) (Q : Option Value → pb_H → Prop), pb_R 189 66 [some .null] [] st h Q ↔ pb_R 189 67 [some .null] [] (.null :: st) h Q) ∧
  (∀ (L : pb_L) (J : pb_J) (st : List Value) (h : pb_H) (Q : Option Value → pb_H → Prop), pb_R 189 67 L J st h Q ↔ pb_R 189 69 L J (.int (59 : Int32) :: st) h Q) ∧
  (∀ (L : pb_L) (J : pb_J) (h : pb_H) (Q : Option Value → pb_H → Prop) (x0 : Int32) (x1 : Nat), pb_R 189 69 L J [.int x0, .ref x1] h Q ↔ pb_is0 (h.2 x1) 12 = true ∧ pb_call 178 [.ref x1, .int x0] h (fun v t => pb_R 189 72 L J (v.toList ++ []) t Q)) ∧
  (∀ (L : pb_L) (J : pb_J) (st : List Value) (h : pb_H) (Q : Option Value → pb_H → Prop) (x : Int32), pb_R 189 72 L J (.int x :: st) h Q ↔ if ¬ x = 0 then pb_R 189 87 L J st h Q else pb_R 189 75 L J st h Q) ∧
  (∀ (st : List Value) (h : pb_H) (Q : Option Value → pb_H → Prop) (x : Nat), pb_R 189 75 [some (.ref x)] [] st h Q ↔ pb_R 189 76 [some (.ref x)] [] (.ref x :: st) h Q) ∧
  (∀ (st : List Value) (h : pb_H) (Q : Option Value → pb_H → Prop), pb_R 189 75 [some .null] [] st h Q ↔ pb_R 189 76 [some .null] [] (.null :: st) h Q) ∧
  (∀ (L : pb_L) (J : pb_J) (st : List Value) (h : pb_H) (Q : Option Value → pb_H → Prop), pb_R 189 76 L J st h Q ↔ pb_R 189 77 L J (.int (1 : Int32) :: st) h Q) ∧
  (∀ (st : List Value) (h : pb_H) (Q : Option Value → pb_H → Prop) (x : Nat), pb_R 189 77 [some (.ref x)] [] st h Q ↔ pb_R 189 78 [some (.ref x)] [] (.ref x :: st) h Q) ∧
  (∀ (st : List Value) (h : pb_H) (Q : Option Value → pb_H → Prop), pb_R 189 77 [some .null] [] st h Q ↔ pb_R 189 78 [some .null] [] (.null :: st) h Q) ∧
  (∀ (L : pb_L) (J : pb_J) (st : List Value) (h : pb_H) (Q : Option Value → pb_H → Prop) (a : Nat), pb_R 189 78 L J (.ref a :: st) h Q ↔ pb_o (pb_gf (h.2 a) 12 16) (fun v => pb_R 189 81 L J (v :: st) h Q)) ∧
  (∀ (L : pb_L) (J : pb_J) (h : pb_H) (Q : Option Value → pb_H → Prop) (x0 : Int32) (x1 : Int32) (x2 : Nat), pb_R 189 81 L J [.int x0, .int x1, .ref x2] h Q ↔ pb_is0 (h.2 x2) 12 = true ∧ pb_call 183 [.ref x2, .int x1, .int x0] h (fun v t => pb_R 189 84 L J (v.toList ++ []) t Q)) ∧
  (∀ (L : pb_L) (J : pb_J) (st : List Value) (h : pb_H) (Q : Option Value → pb_H → Prop) (x : Int32), pb_R 189 84 L J (.int x :: st) h Q ↔ if x = 0 then pb_R 189 91 L J st h Q else pb_R 189 87 L J st h Q) ∧
  (∀ (L : pb_L) (J : pb_J) (st : List Value) (h : pb_H) (Q : Option Value → pb_H → Prop), pb_R 189 87 L J st h Q ↔ pb_R 189 88 L J (.int (1 : Int32) :: st) h Q) ∧
  (∀ (L : pb_L) (J : pb_J) (st : List Value) (h : pb_H) (Q : Option Value → pb_H → Prop), pb_R 189 88 L J st h Q ↔ pb_R 189 92 L J st h Q) ∧
  (∀ (L : pb_L) (J : pb_J) (st : List Value) (h : pb_H) (Q : Option Value → pb_H → Prop), pb_R 189 91 L J st h Q ↔ pb_R 189 92 L J (.int (0 : Int32) :: st) h Q) ∧
  (∀ (L : pb_L) (J : pb_J) (h : pb_H) (Q : Option Value → pb_H → Prop) (x : Int32), pb_R 189 92 L J [.int x] h Q ↔ narrow .boolean (.int x) = .int x ∧ Q (some (.int x)) h) := ⟨
  fun st h Q x => pf_S pb_u_189 rfl rfl,
  fun st h Q => pf_S pb_u_189 rfl rfl,
  fun L J st h Q a => pf_gf pb_u_189 rfl rfl,
  fun L J st h Q => pf_S pb_u_189 rfl rfl,
  fun L J st h Q x y => pf_ic pb_u_189 rfl rfl rfl,
  fun st h Q x => pf_S pb_u_189 rfl rfl,
  fun st h Q => pf_S pb_u_189 rfl rfl,
  fun L J st h Q => pf_S pb_u_189 rfl rfl,
  fun L J h Q x0 x1 => pf_kv pb_u_189 rfl pb_ci_178 rfl ⟨Nat.le_of_ble_eq_true rfl, Nat.le_of_ble_eq_true rfl, Nat.le_of_ble_eq_true rfl, Nat.le_of_ble_eq_true rfl, rfl⟩ rfl rfl,
  fun L J st h Q x => pf_ii pb_u_189 rfl rfl pf_ne,
  fun st h Q x => pf_S pb_u_189 rfl rfl,
  fun st h Q => pf_S pb_u_189 rfl rfl,
  fun L J st h Q => pf_S pb_u_189 rfl rfl,
  fun L J h Q x0 x1 => pf_kv pb_u_189 rfl pb_ci_178 rfl ⟨Nat.le_of_ble_eq_true rfl, Nat.le_of_ble_eq_true rfl, Nat.le_of_ble_eq_true rfl, Nat.le_of_ble_eq_true rfl, rfl⟩ rfl rfl,
  fun L J st h Q x => pf_ii pb_u_189 rfl rfl pf_ne,
  fun st h Q x => pf_S pb_u_189 rfl rfl,
  fun st h Q => pf_S pb_u_189 rfl rfl,
  fun L J st h Q => pf_S pb_u_189 rfl rfl,
  fun st h Q x => pf_S pb_u_189 rfl rfl,
  fun st h Q => pf_S pb_u_189 rfl rfl,
  fun L J st h Q a => pf_gf pb_u_189 rfl rfl,
  fun L J h Q x0 x1 x2 => pf_kv pb_u_189 rfl pb_ci_183 rfl ⟨Nat.le_of_ble_eq_true rfl, Nat.le_of_ble_eq_true rfl, Nat.le_of_ble_eq_true rfl, Nat.le_of_ble_eq_true rfl, rfl⟩ rfl rfl,
  fun L J h Q x => pf_rz pb_u_189 rfl rfl,
  fun st h Q x => pf_S pb_u_189 rfl rfl,
  fun st h Q => pf_S pb_u_189 rfl rfl,
  fun L J h Q x0 => pf_kv pb_u_189 rfl pb_ci_186 rfl ⟨Nat.le_of_ble_eq_true rfl, Nat.le_of_ble_eq_true rfl, Nat.le_of_ble_eq_true rfl, Nat.le_of_ble_eq_true rfl, rfl⟩ rfl rfl,
  fun L J st h Q x => pf_ii pb_u_189 rfl rfl pf_ne,
  fun L J st h Q => pf_S pb_u_189 rfl rfl,
  fun L J h Q x => pf_rz pb_u_189 rfl rfl,
  fun st h Q x => pf_S pb_u_189 rfl rfl,
  fun st h Q => pf_S pb_u_189 rfl rfl,
  fun st h Q x => pf_S pb_u_189 rfl rfl,
  fun st h Q => pf_S pb_u_189 rfl rfl,
  fun L J st h Q a => pf_gf pb_u_189 rfl rfl,
  fun L J st h Q x => pf_ii pb_u_189 rfl rfl rfl,
  fun L J st h Q => pf_S pb_u_189 rfl rfl,
  fun L J st h Q => pf_S pb_u_189 rfl rfl,
  fun L J st h Q => pf_S pb_u_189 rfl rfl,
  fun L J h Q x0 x1 => pf_kv pb_u_189 rfl pb_ci_184 rfl ⟨Nat.le_of_ble_eq_true rfl, Nat.le_of_ble_eq_true rfl, Nat.le_of_ble_eq_true rfl, Nat.le_of_ble_eq_true rfl, rfl⟩ rfl rfl,
  fun st h Q x => pf_S pb_u_189 rfl rfl,
  fun st h Q => pf_S pb_u_189 rfl rfl,
  fun L J st h Q => pf_S pb_u_189 rfl rfl,
  fun L J st h Q a x => pf_pf pb_u_189 rfl rfl,
  fun st h Q x => pf_S pb_u_189 rfl rfl,
  fun st h Q => pf_S pb_u_189 rfl rfl,
  fun L J st h Q => pf_S pb_u_189 rfl rfl,
  fun L J h Q x0 x1 => pf_kv pb_u_189 rfl pb_ci_178 rfl ⟨Nat.le_of_ble_eq_true rfl, Nat.le_of_ble_eq_true rfl, Nat.le_of_ble_eq_true rfl, Nat.le_of_ble_eq_true rfl, rfl⟩ rfl rfl,
  fun L J st h Q x => pf_ii pb_u_189 rfl rfl pf_ne,
  fun st h Q x => pf_S pb_u_189 rfl rfl,
  fun st h Q => pf_S pb_u_189 rfl rfl,
  fun L J st h Q => pf_S pb_u_189 rfl rfl,
  fun st h Q x => pf_S pb_u_189 rfl rfl,
  fun st h Q => pf_S pb_u_189 rfl rfl,
  fun L J st h Q a => pf_gf pb_u_189 rfl rfl,
  fun L J h Q x0 x1 x2 => pf_kv pb_u_189 rfl pb_ci_183 rfl ⟨Nat.le_of_ble_eq_true rfl, Nat.le_of_ble_eq_true rfl, Nat.le_of_ble_eq_true rfl, Nat.le_of_ble_eq_true rfl, rfl⟩ rfl rfl,
  fun L J st h Q x => pf_ii pb_u_189 rfl rfl rfl,
  fun L J st h Q => pf_S pb_u_189 rfl rfl,
  fun L J st h Q => pf_S pb_u_189 rfl rfl,
  fun L J st h Q => pf_S pb_u_189 rfl rfl,
  fun L J h Q x => pf_rz pb_u_189 rfl rfl⟩
theorem pb_c189 (x0 : Nat) (h : pb_H) (Q : Option Value → pb_H → Prop) : pb_call 189 [.ref x0] h Q ↔ pb_R 189 0 [some (.ref x0)] [] [] h Q := Iff.rfl
/-! 190: PlaneBenchModel.problems()I -/
theorem pb_u_190 : pb_t 190 = pb_t190 := rfl
theorem pb_ci_190 : pb_ci 190 = 12 := by decide +kernel
set_option maxRecDepth 100000 in
theorem pb_q190_6 (l1 l2 : Option Value) (st : List Value) (h : pb_H) (Q : Option Value → pb_H → Prop) (x : Nat) : pb_R 190 6 [some (.ref x), l1, l2] [] st h Q ↔ pb_R 190 7 [some (.ref x), l1, l2] [] (.ref x :: st) h Q := pf_S pb_u_190 rfl rfl
set_option maxRecDepth 100000 in
theorem pb_q190_6n (l1 l2 : Option Value) (st : List Value) (h : pb_H) (Q : Option Value → pb_H → Prop) : pb_R 190 6 [some .null, l1, l2] [] st h Q ↔ pb_R 190 7 [some .null, l1, l2] [] (.null :: st) h Q := pf_S pb_u_190 rfl rfl
set_option maxRecDepth 100000 in
theorem pb_e190 : (∀ (L : pb_L) (J : pb_J) (st : List Value) (h : pb_H) (Q : Option Value → pb_H → Prop), pb_R 190 0 L J st h Q ↔ pb_R 190 1 L J (.int (0 : Int32) :: st) h Q) ∧
  (∀ (l0 l1 l2 : Option Value) (st : List Value) (h : pb_H) (Q : Option Value → pb_H → Prop) (x : Int32), pb_R 190 1 [l0, l1, l2] [] (.int x :: st) h Q ↔ pb_R 190 2 [l0, some (.int x), l2] [] st h Q) ∧
  (∀ (l1 l2 : Option Value) (st : List Value) (h : pb_H) (Q : Option Value → pb_H → Prop) (x : Nat), pb_R 190 2 [some (.ref x), l1, l2] [] st h Q ↔ pb_R 190 3 [some (.ref x), l1, l2] [] (.ref x :: st) h Q) ∧
  (∀ (l1 l2 : Option Value) (st : List Value) (h : pb_H) (Q : Option Value → pb_H → Prop), pb_R 190 2 [some .null, l1, l2] [] st h Q ↔ pb_R 190 3 [some .null, l1, l2] [] (.null :: st) h Q) ∧
  (∀ (L : pb_L) (J : pb_J) (h : pb_H) (Q : Option Value → pb_H → Prop) (x0 : Nat), pb_R 190 3 L J [.ref x0] h Q ↔ pb_is0 (h.2 x0) 12 = true ∧ pb_call 177 [.ref x0] h (fun v t => pb_R 190 6 L J (v.toList ++ []) t Q)) ∧
  (∀ (L : pb_L) (J : pb_J) (st : List Value) (h : pb_H) (Q : Option Value → pb_H → Prop) (a : Nat), pb_R 190 7 L J (.ref a :: st) h Q ↔ pb_o (pb_gf (h.2 a) 12 15) (fun v => pb_R 190 10 L J (v :: st) h Q)) ∧
  (∀ (L : pb_L) (J : pb_J) (st : List Value) (h : pb_H) (Q : Option Value → pb_H → Prop) (x : Int32), pb_R 190 10 L J (.int x :: st) h Q ↔ if x = 0 then pb_R 190 170 L J st h Q else pb_R 190 13 L J st h Q) ∧
  (∀ (l1 l2 : Option Value) (st : List Value) (h : pb_H) (Q : Option Value → pb_H → Prop) (x : Nat), pb_R 190 13 [some (.ref x), l1, l2] [] st h Q ↔ pb_R 190 14 [some (.ref x), l1, l2] [] (.ref x :: st) h Q) ∧
  (∀ (l1 l2 : Option Value) (st : List Value) (h : pb_H) (Q : Option Value → pb_H → Prop), pb_R 190 13 [some .null, l1, l2] [] st h Q ↔ pb_R 190 14 [some .null, l1, l2] [] (.null :: st) h Q) ∧
  (∀ (L : pb_L) (J : pb_J) (h : pb_H) (Q : Option Value → pb_H → Prop) (x0 : Nat), pb_R 190 14 L J [.ref x0] h Q ↔ pb_is0 (h.2 x0) 12 = true ∧ pb_call 187 [.ref x0] h (fun v t => pb_R 190 17 L J (v.toList ++ []) t Q)) ∧
  (∀ (L : pb_L) (J : pb_J) (st : List Value) (h : pb_H) (Q : Option Value → pb_H → Prop) (x : Int32), pb_R 190 17 L J (.int x :: st) h Q ↔ if ¬ x = 0 then pb_R 190 22 L J st h Q else pb_R 190 20 L J st h Q) ∧
  (∀ (L : pb_L) (J : pb_J) (st : List Value) (h : pb_H) (Q : Option Value → pb_H → Prop), pb_R 190 20 L J st h Q ↔ pb_R 190 21 L J (.int (-1 : Int32) :: st) h Q) ∧
  (∀ (L : pb_L) (J : pb_J) (h : pb_H) (Q : Option Value → pb_H → Prop) (x : Int32), pb_R 190 21 L J [.int x] h Q ↔ Q (some (.int x)) h) ∧
  (∀ (l1 l2 : Option Value) (st : List Value) (h : pb_H) (Q : Option Value → pb_H → Prop) (x : Nat), pb_R 190 22 [some (.ref x), l1, l2] [] st h Q ↔ pb_R 190 23 [some (.ref x), l1, l2] [] (.ref x :: st) h Q) ∧
  (∀ (l1 l2 : Option Value) (st : List Value) (h : pb_H) (Q : Option Value → pb_H → Prop), pb_R 190 22 [some .null, l1, l2] [] st h Q ↔ pb_R 190 23 [some .null, l1, l2] [] (.null :: st) h Q) ∧
  (∀ (L : pb_L) (J : pb_J) (st : List Value) (h : pb_H) (Q : Option Value → pb_H → Prop) (a : Nat), pb_R 190 23 L J (.ref a :: st) h Q ↔ pb_o (pb_gf (h.2 a) 12 15) (fun v => pb_R 190 26 L J (v :: st) h Q)) ∧
  (∀ (L : pb_L) (J : pb_J) (st : List Value) (h : pb_H) (Q : Option Value → pb_H → Prop), pb_R 190 26 L J st h Q ↔ pb_R 190 27 L J (.int (3 : Int32) :: st) h Q) ∧
  (∀ (L : pb_L) (J : pb_J) (st : List Value) (h : pb_H) (Q : Option Value → pb_H → Prop) (x y : Int32), pb_R 190 27 L J (.int y :: .int x :: st) h Q ↔ if ¬ x = y then pb_R 190 64 L J st h Q else pb_R 190 30 L J st h Q) ∧
  (∀ (l1 l2 : Option Value) (st : List Value) (h : pb_H) (Q : Option Value → pb_H → Prop) (x : Nat), pb_R 190 30 [some (.ref x), l1, l2] [] st h Q ↔ pb_R 190 31 [some (.ref x), l1, l2] [] (.ref x :: st) h Q) ∧
  (∀ (l1 l2 : Option Value) (st : List Value) (h : pb_H) (Q : Option Value → pb_H → Prop), pb_R 190 30 [some .null, l1, l2] [] st h Q ↔ pb_R 190 31 [some .null, l1, l2] [] (.null :: st) h Q) ∧
  (∀ (L : pb_L) (J : pb_J) (st : List Value) (h : pb_H) (Q : Option Value → pb_H → Prop) (a : Nat), pb_R 190 31 L J (.ref a :: st) h Q ↔ pb_o (pb_gf (h.2 a) 12 18) (fun v => pb_R 190 34 L J (v :: st) h Q)) ∧
  (∀ (L : pb_L) (J : pb_J) (st : List Value) (h : pb_H) (Q : Option Value → pb_H → Prop), pb_R 190 34 L J st h Q ↔ pb_R 190 36 L J (.int (62 : Int32) :: st) h Q) ∧
  (∀ (L : pb_L) (J : pb_J) (st : List Value) (h : pb_H) (Q : Option Value → pb_H → Prop) (x y : Int32), pb_R 190 36 L J (.int y :: .int x :: st) h Q ↔ if x = y then pb_R 190 57 L J st h Q else pb_R 190 39 L J st h Q) ∧
  (∀ (l1 l2 : Option Value) (st : List Value) (h : pb_H) (Q : Option Value → pb_H → Prop) (x : Nat), pb_R 190 39 [some (.ref x), l1, l2] [] st h Q ↔ pb_R 190 40 [some (.ref x), l1, l2] [] (.ref x :: st) h Q) ∧
  (∀ (l1 l2 : Option Value) (st : List Value) (h : pb_H) (Q : Option Value → pb_H → Prop), pb_R 190 39 [some .null, l1, l2] [] st h Q ↔ pb_R 190 40 [some .null, l1, l2] [] (.null :: st) h Q) ∧
  (∀ (L : pb_L) (J : pb_J) (st : List Value) (h : pb_H) (Q : Option Value → pb_H → Prop) (a : Nat), pb_R 190 40 L J (.ref a :: st) h Q ↔ pb_o (pb_gf (h.2 a) 12 18) (fun v => pb_R 190 43 L J (v :: st) h Q)) ∧
  (∀ (L : pb_L) (J : pb_J) (st : List Value) (h : pb_H) (Q : Option Value → pb_H → Prop), pb_R 190 43 L J st h Q ↔ pb_R 190 45 L J (.int (60 : Int32) :: st) h Q) ∧
  (∀ (L : pb_L) (J : pb_J) (st : List Value) (h : pb_H) (Q : Option Value → pb_H → Prop) (x y : Int32), pb_R 190 45 L J (.int y :: .int x :: st) h Q ↔ if x = y then pb_R 190 57 L J st h Q else pb_R 190 48 L J st h Q) ∧
  (∀ (l1 l2 : Option Value) (st : List Value) (h : pb_H) (Q : Option Value → pb_H → Prop) (x : Nat), pb_R 190 48 [some (.ref x), l1, l2] [] st h Q ↔ pb_R 190 49 [some (.ref x), l1, l2] [] (.ref x :: st) h Q) ∧
  (∀ (l1 l2 : Option Value) (st : List Value) (h : pb_H) (Q : Option Value → pb_H → Prop), pb_R 190 48 [some .null, l1, l2] [] st h Q ↔ pb_R 190 49 [some .null, l1, l2] [] (.null :: st) h Q) ∧
  (∀ (L : pb_L) (J : pb_J) (st : List Value) (h : pb_H) (Q : Option Value → pb_H → Prop) (a : Nat), pb_R 190 49 L J (.ref a :: st) h Q ↔ pb_o (pb_gf (h.2 a) 12 18) (fun v => pb_R 190 52 L J (v :: st) h Q)) ∧
  (∀ (L : pb_L) (J : pb_J) (st : List Value) (h : pb_H) (Q : Option Value → pb_H → Prop), pb_R 190 52 L J st h Q ↔ pb_R 190 54 L J (.int (61 : Int32) :: st) h Q) ∧
  (∀ (L : pb_L) (J : pb_J) (st : List Value) (h : pb_H) (Q : Option Value → pb_H → Prop) (x y : Int32), pb_R 190 54 L J (.int y :: .int x :: st) h Q ↔ if ¬ x = y then pb_R 190 64 L J st h Q else pb_R 190 57 L J st h Q) ∧
  (∀ (l1 l2 : Option Value) (st : List Value) (h : pb_H) (Q : Option Value → pb_H → Prop) (x : Nat), pb_R 190 57 [some (.ref x), l1, l2] [] st h Q ↔ pb_R 190 58 [some (.ref x), l1, l2] [] (.ref x :: st) h Q) ∧
  (∀ (l1 l2 : Option Value) (st : List Value) (h : pb_H) (Q : Option Value → pb_H → Prop), pb_R 190 57 [some .null, l1, l2] [] st h Q ↔ pb_R 190 58 [some .null, l1, l2] [] (.null :: st) h Q) ∧
  (∀ (L : pb_L) (J : pb_J) (st : List Value) (h : pb_H) (Q : Option Value → pb_H → Prop) (a : Nat), pb_R 190 58 L J (.ref a :: st) h Q ↔ pb_o (pb_gf (h.2 a) 12 18) (fun v => pb_R 190 61 L J (v :: st) h Q)) ∧
  (∀ (L : pb_L) (J : pb_J) (st : List Value) (h : pb_H) (Q : Option Value → pb_H → Prop), pb_R 190 61 L J st h Q ↔ pb_R 190 65 L J st h Q) ∧
  (∀ (L : pb_L) (J : pb_J) (st : List Value) (h : pb_H) (Q : Option Value → pb_H → Prop), pb_R 190 64 L J st h Q ↔ pb_R 190 65 L J (.int (0 : Int32) :: st) h Q) ∧
  (∀ (l0 l1 l2 : Option Value) (st : List Value) (h : pb_H) (Q : Option Value → pb_H → Prop) (x : Int32), pb_R 190 65 [l0, l1, l2] [] (.int x :: st) h Q ↔ pb_R 190 66 [l0, l1, some (.int x)] [] st h Q) ∧
  (∀ (l0 l1 : Option Value) (st : List Value) (h : pb_H) (Q : Option Value → pb_H → Prop) (x : Int32), pb_R 190 66 [l0, l1, some (.int x)] [] st h Q ↔ pb_R 190 67 [l0, l1, some (.int x)] [] (.int x :: st) h Q) ∧
  (∀ (L : pb_L) (J : pb_J) (st : List Value) (h : pb_H) (Q : Option Value → pb_H → Prop) (x : Int32), pb_R 190 67 L J (.int x :: st) h Q ↔ if ¬ x = 0 then pb_R 190 82 L J st h Q else pb_R 190 70 L J st h Q) ∧
  (∀ (l1 l2 : Option Value) (st : List Value) (h : pb_H) (Q : Option Value → pb_H → Prop) (x : Nat), pb_R 190 70 [some (.ref x), l1, l2] [] st h Q ↔ pb_R 190 71 [some (.ref x), l1, l2] [] (.ref x :: st) h Q) ∧
  (∀ (l1 l2 : Option Value) (st : List Value) (h : pb_H) (Q : Option Value → pb_H → Prop), pb_R 190 70 [some .null, l1, l2] [] st h Q ↔ pb_R 190 71 [some .null, l1, l2] [] (.null :: st) h Q) ∧
  (∀ (L : pb_L) (J : pb_J) (st : List Value) (h : pb_H) (Q : Option Value → pb_H → Prop), pb_R 190 71 L J st h Q ↔ pb_R 190 72 L J (.int (1 : Int32) :: st) h Q) ∧
  (∀ (l1 l2 : Option Value) (st : List Value) (h : pb_H) (Q : Option Value → pb_H → Prop) (x : Nat), pb_R 190 72 [some (.ref x), l1, l2] [] st h Q ↔ pb_R 190 73 [some (.ref x), l1, l2] [] (.ref x :: st) h Q) ∧
  (∀ (l1 l2 : Option Value) (st : List Value) (h : pb_H) (Q : Option Value → pb_H → Prop), pb_R 190 72 [some .null, l1, l2] [] st h Q ↔ pb_R 190 73 [some .null, l1, l2] [] (.null :: st) h Q) ∧
  (∀ (L : pb_L) (J : pb_J) (st : List Value) (h : pb_H) (Q : Option Value → pb_H → Prop) (a : Nat), pb_R 190 73 L J (.ref a :: st) h Q ↔ pb_o (pb_gf (h.2 a) 12 16) (fun v => pb_R 190 76 L J (v :: st) h Q)) ∧
  (∀ (L : pb_L) (J : pb_J) (h : pb_H) (Q : Option Value → pb_H → Prop) (x0 : Int32) (x1 : Int32) (x2 : Nat), pb_R 190 76 L J [.int x0, .int x1, .ref x2] h Q ↔ pb_is0 (h.2 x2) 12 = true ∧ pb_call 183 [.ref x2, .int x1, .int x0] h (fun v t => pb_R 190 79 L J (v.toList ++ []) t Q)) ∧
  (∀ (L : pb_L) (J : pb_J) (st : List Value) (x : Int32) (h : pb_H) (Q : Option Value → pb_H → Prop), pb_R 190 79 L J (.int x :: st) h Q ↔ pb_R 190 80 L J st h Q) ∧
  (∀ (L : pb_L) (J : pb_J) (st : List Value) (h : pb_H) (Q : Option Value → pb_H → Prop), pb_R 190 80 L J st h Q ↔ pb_R 190 81 L J (.int (-1 : Int32) :: st) h Q) ∧
  (∀ (L : pb_L) (J : pb_J) (h : pb_H) (Q : Option Value → pb_H → Prop) (x : Int32), pb_R 190 81 L J [.int x] h Q ↔ Q (some (.int x)) h) ∧
  (∀ (l1 l2 : Option Value) (st : List Value) (h : pb_H) (Q : Option Value → pb_H → Prop) (x : Nat), pb_R 190 82 [some (.ref x), l1, l2] [] st h Q ↔ pb_R 190 83 [some (.ref x), l1, l2] [] (.ref x :: st) h Q) ∧
  (∀ (l1 l2 : Option Value) (st : List Value) (h : pb_H) (Q : Option Value → pb_H → Prop), pb_R 190 82 [some .null, l1, l2] [] st h Q ↔ pb_R 190 83 [some .null, l1, l2] [] (.null :: st) h Q) ∧
  (∀ (L : pb_L) (J : pb_J) (h : pb_H) (Q : Option Value → pb_H → Prop) (x0 : Nat), pb_R 190 83 L J [.ref x0] h Q ↔ pb_is0 (h.2 x0) 12 = true ∧ pb_call 177 [.ref x0] h (fun v t => pb_R 190 86 L J (v.toList ++ []) t Q)) ∧
  (∀ (l1 l2 : Option Value) (st : List Value) (h : pb_H) (Q : Option Value → pb_H → Prop) (x : Nat), pb_R 190 86 [some (.ref x), l1, l2] [] st h Q ↔ pb_R 190 87 [some (.ref x), l1, l2] [] (.ref x :: st) h Q) ∧
  (∀ (l1 l2 : Option Value) (st : List Value) (h : pb_H) (Q : Option Value → pb_H → Prop), pb_R 190 86 [some .null, l1, l2] [] st h Q ↔ pb_R 190 87 [some .null, l1, l2] [] (.null :: st) h Q) ∧
  (∀ (L : pb_L) (J : pb_J) (h : pb_H) (Q : Option Value → pb_H → Prop) (x0 : Nat), pb_R 190 87 L J [.ref x0] h Q ↔ pb_is0 (h.2 x0) 12 = true ∧ pb_call 189 [.ref x0] h (fun v t => pb_R 190 90 L J (v.toList ++ []) t Q)) ∧
  (∀ (L : pb_L) (J : pb_J) (st : List Value) (h : pb_H) (Q : Option Value → pb_H → Prop) (x : Int32), pb_R 190 90 L J (.int x :: st) h Q ↔ if ¬ x = 0 then pb_R 190 95 L J st h Q else pb_R 190 93 L J st h Q) ∧
  (∀ (L : pb_L) (J : pb_J) (st : List Value) (h : pb_H) (Q : Option Value → pb_H → Prop), pb_R 190 93 L J st h Q ↔ pb_R 190 94 L J (.int (-1 : Int32) :: st) h Q) ∧
  (∀ (L : pb_L) (J : pb_J) (h : pb_H) (Q : Option Value → pb_H → Prop) (x : Int32), pb_R 190 94 L J [.int x] h Q ↔ Q (some (.int x)) h) ∧
  (∀ (l0 l2 : Option Value) (st : List Value) (h : pb_H) (Q : Option Value → pb_H → Prop) (x : Int32), pb_R 190 95 [l0, some (.int x), l2] [] st h Q ↔ pb_R 190 96 [l0, some (.int x), l2] [] (.int x :: st) h Q) ∧
  (∀ (l0 l1 : Option Value) (st : List Value) (h : pb_H) (Q : Option Value → pb_H → Prop) (x : Int32), pb_R 190 96 [l0, l1, some (.int x)] [] st h Q ↔ pb_R 190 97 [l0, l1, some (.int x)] [] (.int x :: st) h Q) ∧
  (∀ (L : pb_L) (J : pb_J) (st : List Value) (h : pb_H) (Q : Option Value → pb_H → Prop), pb_R 190 97 L J st h Q ↔ pb_R 190 99 L J (.int (61 : Int32) :: st) h Q) ∧
  (∀ (L : pb_L) (J : pb_J) (st : List Value) (h : pb_H) (Q : Option Value → pb_H → Prop) (x y : Int32), pb_R 190 99 L J (.int y :: .int x :: st) h Q ↔ if ¬ x = y then pb_R 190 106 L J st h Q else pb_R 190 102 L J st h Q) ∧
  (∀ (L : pb_L) (J : pb_J) (st : List Value) (h : pb_H) (Q : Option Value → pb_H → Prop), pb_R 190 102 L J st h Q ↔ pb_R 190 103 L J (.int (2 : Int32) :: st) h Q) ∧
  (∀ (L : pb_L) (J : pb_J) (st : List Value) (h : pb_H) (Q : Option Value → pb_H → Prop), pb_R 190 103 L J st h Q ↔ pb_R 190 107 L J st h Q) ∧
  (∀ (L : pb_L) (J : pb_J) (st : List Value) (h : pb_H) (Q : Option Value → pb_H → Prop), pb_R 190 106 L J st h Q ↔ pb_R 190 107 L J (.int (1 : Int32) :: st) h Q) ∧
  (∀ (L : pb_L) (J : pb_J) (st : List Value) (x y : Int32) (h : pb_H) (Q : Option Value → pb_H → Prop), pb_R 190 107 L J (.int y :: .int x :: st) h Q ↔ pb_R 190 108 L J (.int (x + y) :: st) h Q) ∧
  (∀ (L : pb_L) (J : pb_J) (st : List Value) (h : pb_H) (Q : Option Value → pb_H → Prop), pb_R 190 108 L J st h Q ↔ pb_R 190 110 L J (.int (40 : Int32) :: st) h Q) ∧
  (∀ (L : pb_L) (J : pb_J) (st : List Value) (h : pb_H) (Q : Option Value → pb_H → Prop) (x y : Int32), pb_R 190 110 L J (.int y :: .int x :: st) h Q ↔ if x ≤ y then pb_R 190 125 L J st h Q else pb_R 190 113 L J st h Q) ∧
  (∀ (l1 l2 : Option Value) (st : List Value) (h : pb_H) (Q : Option Value → pb_H → Prop) (x : Nat), pb_R 190 113 [some (.ref x), l1, l2] [] st h Q ↔ pb_R 190 114 [some (.ref x), l1, l2] [] (.ref x :: st) h Q) ∧
  (∀ (l1 l2 : Option Value) (st : List Value) (h : pb_H) (Q : Option Value → pb_H → Prop), pb_R 190 113 [some .null, l1, l2] [] st h Q ↔ pb_R 190 114 [some .null, l1, l2] [] (.null :: st) h Q) ∧
  (∀ (L : pb_L) (J : pb_J) (st : List Value) (h : pb_H) (Q : Option Value → pb_H → Prop), pb_R 190 114 L J st h Q ↔ pb_R 190 115 L J (.int (5 : Int32) :: st) h Q) ∧
  (∀ (l1 l2 : Option Value) (st : List Value) (h : pb_H) (Q : Option Value → pb_H → Prop) (x : Nat), pb_R 190 115 [some (.ref x), l1, l2] [] st h Q ↔ pb_R 190 116 [some (.ref x), l1, l2] [] (.ref x :: st) h Q) ∧
  (∀ (l1 l2 : Option Value) (st : List Value) (h : pb_H) (Q : Option Value → pb_H → Prop), pb_R 190 115 [some .null, l1, l2] [] st h Q ↔ pb_R 190 116 [some .null, l1, l2] [] (.null :: st) h Q) ∧
  (∀ (L : pb_L) (J : pb_J) (st : List Value) (h : pb_H) (Q : Option Value → pb_H → Prop) (a : Nat), pb_R 190 116 L J (.ref a :: st) h Q ↔ pb_o (pb_gf (h.2 a) 12 16) (fun v => pb_R 190 119 L J (v :: st) h Q)) ∧
  (∀ (L : pb_L) (J : pb_J) (h : pb_H) (Q : Option Value → pb_H → Prop) (x0 : Int32) (x1 : Int32) (x2 : Nat), pb_R 190 119 L J [.int x0, .int x1, .ref x2] h Q ↔ pb_is0 (h.2 x2) 12 = true ∧ pb_call 183 [.ref x2, .int x1, .int x0] h (fun v t => pb_R 190 122 L J (v.toList ++ []) t Q)) ∧
  (∀ (L : pb_L) (J : pb_J) (st : List Value) (x : Int32) (h : pb_H) (Q : Option Value → pb_H → Prop), pb_R 190 122 L J (.int x :: st) h Q ↔ pb_R 190 123 L J st h Q) ∧
  (∀ (L : pb_L) (J : pb_J) (st : List Value) (h : pb_H) (Q : Option Value → pb_H → Prop), pb_R 190 123 L J st h Q ↔ pb_R 190 124 L J (.int (-1 : Int32) :: st) h Q) ∧
  (∀ (L : pb_L) (J : pb_J) (h : pb_H) (Q : Option Value → pb_H → Prop) (x : Int32), pb_R 190 124 L J [.int x] h Q ↔ Q (some (.int x)) h) ∧
  (∀ (l0 l1 : Option Value) (st : List Value) (h : pb_H) (Q : Option Value → pb_H → Prop) (x : Int32), pb_R 190 125 [l0, l1, some (.int x)] [] st h Q ↔ pb_R 190 126 [l0, l1, some (.int x)] [] (.int x :: st) h Q) ∧
  (∀ (L : pb_L) (J : pb_J) (st : List Value) (h : pb_H) (Q : Option Value → pb_H → Prop), pb_R 190 126 L J st h Q ↔ pb_R 190 128 L J (.int (60 : Int32) :: st) h Q) ∧
  (∀ (L : pb_L) (J : pb_J) (st : List Value) (h : pb_H) (Q : Option Value → pb_H → Prop) (x y : Int32), pb_R 190 128 L J (.int y :: .int x :: st) h Q ↔ if x = y then pb_R 190 144 L J st h Q else pb_R 190 131 L J st h Q) ∧
  (∀ (l1 l2 : Option Value) (st : List Value) (h : pb_H) (Q : Option Value → pb_H → Prop) (x : Nat), pb_R 190 131 [some (.ref x), l1, l2] [] st h Q ↔ pb_R 190 132 [some (.ref x), l1, l2] [] (.ref x :: st) h Q) ∧
  (∀ (l1 l2 : Option Value) (st : List Value) (h : pb_H) (Q : Option Value → pb_H → Prop), pb_R 190 131 [some .null, l1, l2] [] st h Q ↔ pb_R 190 132 [some .null, l1, l2] [] (.null :: st) h Q) ∧
  (∀ (L : pb_L) (J : pb_J) (st : List Value) (h : pb_H) (Q : Option Value → pb_H → Prop), pb_R 190 132 L J st h Q ↔ pb_R 190 135 L J (.int (321 : Int32) :: st) h Q) ∧
  (∀ (l0 l2 : Option Value) (st : List Value) (h : pb_H) (Q : Option Value → pb_H → Prop) (x : Int32), pb_R 190 135 [l0, some (.int x), l2] [] st h Q ↔ pb_R 190 136 [l0, some (.int x), l2] [] (.int x :: st) h Q) ∧
  (∀ (L : pb_L) (J : pb_J) (st : List Value) (x y : Int32) (h : pb_H) (Q : Option Value → pb_H → Prop), pb_R 190 136 L J (.int y :: .int x :: st) h Q ↔ pb_R 190 137 L J (.int (x + y) :: st) h Q) ∧
  (∀ (L : pb_L) (J : pb_J) (st : List Value) (h : pb_H) (Q : Option Value → pb_H → Prop), pb_R 190 137 L J st h Q ↔ pb_R 190 138 L J (.int (1 : Int32) :: st) h Q) ∧
  (∀ (L : pb_L) (J : pb_J) (h : pb_H) (Q : Option Value → pb_H → Prop) (x0 : Int32) (x1 : Int32) (x2 : Nat), pb_R 190 138 L J [.int x0, .int x1, .ref x2] h Q ↔ pb_is0 (h.2 x2) 12 = true ∧ pb_call 188 [.ref x2, .int x1, .int x0] h (fun v t => pb_R 190 141 L J (v.toList ++ []) t Q)) ∧
  (∀ (l0 l2 : Option Value) (st : List Value) (h : pb_H) (Q : Option Value → pb_H → Prop) (x : Int32), pb_R 190 141 [l0, some (.int x), l2] [] st h Q ↔ pb_R 190 144 [l0, some (.int (x + (1 : Int32))), l2] [] st h Q) ∧
  (∀ (l0 l1 : Option Value) (st : List Value) (h : pb_H) (Q : Option Value → pb_H → Prop) (x : Int32), pb_R 190 144 [l0, l1, some (.int x)] [] st h Q ↔ pb_R 190 145 [l0, l1, some (.int x)] [] (.int x :: st) h Q) ∧
  (∀ (L : pb_L) (J : pb_J) (st : List Value) (h : pb_H) (Q : Option Value → pb_H → Prop), pb_R 190 145 L J st h Q ↔ pb_R 190 147 L J (.int (62 : Int32) :: st) h Q) ∧
  (∀ (L : pb_L) (J : pb_J) (st : List Value) (h : pb_H) (Q : Option Value → pb_H → Prop) (x y : Int32), pb_R 190 147 L J (.int y :: .int x :: st) h Q ↔ if x = y then pb_R 190 163 L J st h Q else pb_R 190 150 L J st h Q) ∧
  (∀ (l1 l2 : Option Value) (st : List Value) (h : pb_H) (Q : Option Value → pb_H → Prop) (x : Nat), pb_R 190 150 [some (.ref x), l1, l2] [] st h Q ↔ pb_R 190 151 [some (.ref x), l1, l2] [] (.ref x :: st) h Q) ∧
  (∀ (l1 l2 : Option Value) (st : List Value) (h : pb_H) (Q : Option Value → pb_H → Prop), pb_R 190 150 [some .null, l1, l2] [] st h Q ↔ pb_R 190 151 [some .null, l1, l2] [] (.null :: st) h Q) ∧
  (∀ (L : pb_L) (J : pb_J) (st : List Value) (h : pb_H) (Q : Option Value → pb_H → Prop), pb_R 190 151 L J st h Q ↔ pb_R 190 154 L J (.int (321 : Int32) :: st) h Q) ∧
  (∀ (l0 l2 : Option Value) (st : List Value) (h : pb_H) (Q : Option Value → pb_H → Prop) (x : Int32), pb_R 190 154 [l0, some (.int x), l2] [] st h Q ↔ pb_R 190 155 [l0, some (.int x), l2] [] (.int x :: st) h Q) ∧
  (∀ (L : pb_L) (J : pb_J) (st : List Value) (x y : Int32) (h : pb_H) (Q : Option Value → pb_H → Prop), pb_R 190 155 L J (.int y :: .int x :: st) h Q ↔ pb_R 190 156 L J (.int (x + y) :: st) h Q) ∧
  (∀ (L : pb_L) (J : pb_J) (st : List Value) (h : pb_H) (Q : Option Value → pb_H → Prop), pb_R 190 156 L J st h Q ↔ pb_R 190 157 L J (.int (0 : Int32) :: st) h Q) ∧
  (∀ (L : pb_L) (J : pb_J) (h : pb_H) (Q : Option Value → pb_H → Prop) (x0 : Int32) (x1 : Int32) (x2 : Nat), pb_R 190 157 L J [.int x0, .int x1, .ref x2] h Q ↔ pb_is0 (h.2 x2) 12 = true ∧ pb_call 188 [.ref x2, .int x1, .int x0] h (fun v t => pb_R 190 160 L J (v.toList ++ []) t Q)) ∧
  (∀ (l0 l2 : Option Value) (st : List Value) (h : pb_H) (Q : Option Value → pb_H → Prop) (x : Int32), pb_R 190 160 [l0, some (.int x), l2] [] st h Q ↔ pb_R 190 163 [l0, some (.int (x + (1 : Int32))), l2] [] st h Q) ∧
  (∀ (l1 l2 : Option Value) (st : List Value) (h : pb_H) (Q : Option Value → pb_H → Prop) (x : Nat), pb_R 190 163 [some (.ref x), l1, l2] [] st h Q ↔ pb_R 190 164 [some (.ref x), l1, l2] [] (.ref x :: st) h Q) ∧
  (∀ (l1 l2 : Option Value) (st : List Value) (h : pb_H) (Q : Option Value → pb_H → Prop), pb_R 190 163 [some .null, l1, l2] [] st h Q ↔ pb_R 190 164 [some .null, l1, l2] [] (.null :: st) h Q) ∧
  (∀ (L : pb_L) (J : pb_J) (h : pb_H) (Q : Option Value → pb_H → Prop) (x0 : Nat), pb_R 190 164 L J [.ref x0] h Q ↔ pb_is0 (h.2 x0) 12 = true ∧ pb_call 177 [.ref x0] h (fun v t => pb_R 190 167 L J (v.toList ++ []) t Q)) ∧
  (∀ (L : pb_L) (J : pb_J) (st : List Value) (h : pb_H) (Q : Option Value → pb_H → Prop), pb_R 190 167 L J st h Q ↔ pb_R 190 6 L J st h Q) ∧
  (∀ (l0 l2 : Option Value) (st : List Value) (h : pb_H) (Q : Option Value → pb_H → Prop) (x : Int32), pb_R 190 170 [l0, some (.int x), l2] [] st h Q ↔ pb_R 190 171 [l0, some (.int x), l2] [] (.int x :: st) h Q) ∧
  (∀ (L : pb_L) (J : pb_J) (h : pb_H) (Q : Option Value → pb_H → Prop) (x : Int32), pb_R 190 171 L J [.int x] h Q ↔ Q (some (.int x)) h) := ⟨
  fun L J st h Q => pf_S pb_u_190 rfl rfl,
  fun l0 l1 l2 st h Q x => pf_S pb_u_190 rfl rfl,
  fun l1 l2 st h Q x => pf_S pb_u_190 rfl rfl,
  fun l1 l2 st h Q => pf_S pb_u_190 rfl rfl,
  fun L J h Q x0 => pf_kv pb_u_190 rfl pb_ci_177 rfl ⟨Nat.le_of_ble_eq_true rfl, Nat.le_of_ble_eq_true rfl, Nat.le_of_ble_eq_true rfl, Nat.le_of_ble_eq_true rfl, rfl⟩ rfl rfl,
  fun L J st h Q a => pf_gf pb_u_190 rfl rfl,
  fun L J st h Q x => pf_ii pb_u_190 rfl rfl rfl,
  fun l1 l2 st h Q x => pf_S pb_u_190 rfl rfl,
  fun l1 l2 st h Q => pf_S pb_u_190 rfl rfl,
  fun L J h Q x0 => pf_kv pb_u_190 rfl pb_ci_187 rfl ⟨Nat.le_of_ble_eq_true rfl, Nat.le_of_ble_eq_true rfl, Nat.le_of_ble_eq_true rfl, Nat.le_of_ble_eq_true rfl, rfl⟩ rfl rfl,
  fun L J st h Q x => pf_ii pb_u_190 rfl rfl pf_ne,
  fun L J st h Q => pf_S pb_u_190 rfl rfl,
  fun L J h Q x => pf_ri pb_u_190 rfl rfl,
  fun l1 l2 st h Q x => pf_S pb_u_190 rfl rfl,
  fun l1 l2 st h Q => pf_S pb_u_190 rfl rfl,
  fun L J st h Q a => pf_gf pb_u_190 rfl rfl,
  fun L J st h Q => pf_S pb_u_190 rfl rfl,
  fun L J st h Q x y => pf_ic pb_u_190 rfl rfl pf_ne,
  fun l1 l2 st h Q x => pf_S pb_u_190 rfl rfl,
  fun l1 l2 st h Q => pf_S pb_u_190 rfl rfl,
  fun L J st h Q a => pf_gf pb_u_190 rfl rfl,
  fun L J st h Q => pf_S pb_u_190 rfl rfl,
  fun L J st h Q x y => pf_ic pb_u_190 rfl rfl rfl,
  fun l1 l2 st h Q x => pf_S pb_u_190 rfl rfl,
  fun l1 l2 st h Q => pf_S pb_u_190 rfl rfl,
  fun L J st h Q a => pf_gf pb_u_190 rfl rfl,
  fun L J st h Q => pf_S pb_u_190 rfl rfl,
  fun L J st h Q x y => pf_ic pb_u_190 rfl rfl rfl,
  fun l1 l2 st h Q x => pf_S pb_u_190 rfl rfl,
  fun l1 l2 st h Q => pf_S pb_u_190 rfl rfl,
  fun L J st h Q a => pf_gf pb_u_190 rfl rfl,
  fun L J st h Q => pf_S pb_u_190 rfl rfl,
  fun L J st h Q x y => pf_ic pb_u_190 rfl rfl pf_ne,
  fun l1 l2 st h Q x => pf_S pb_u_190 rfl rfl,
  fun l1 l2 st h Q => pf_S pb_u_190 rfl rfl,
  fun L J st h Q a => pf_gf pb_u_190 rfl rfl,
  fun L J st h Q => pf_S pb_u_190 rfl rfl,
  fun L J st h Q => pf_S pb_u_190 rfl rfl,
  fun l0 l1 l2 st h Q x => pf_S pb_u_190 rfl rfl,
  fun l0 l1 st h Q x => pf_S pb_u_190 rfl rfl,
  fun L J st h Q x => pf_ii pb_u_190 rfl rfl pf_ne,
  fun l1 l2 st h Q x => pf_S pb_u_190 rfl rfl,
  fun l1 l2 st h Q => pf_S pb_u_190 rfl rfl,
  fun L J st h Q => pf_S pb_u_190 rfl rfl,
  fun l1 l2 st h Q x => pf_S pb_u_190 rfl rfl,
  fun l1 l2 st h Q => pf_S pb_u_190 rfl rfl,
  fun L J st h Q a => pf_gf pb_u_190 rfl rfl,
  fun L J h Q x0 x1 x2 => pf_kv pb_u_190 rfl pb_ci_183 rfl ⟨Nat.le_of_ble_eq_true rfl, Nat.le_of_ble_eq_true rfl, Nat.le_of_ble_eq_true rfl, Nat.le_of_ble_eq_true rfl, rfl⟩ rfl rfl,
  fun L J st x h Q => pf_S pb_u_190 rfl rfl,
  fun L J st h Q => pf_S pb_u_190 rfl rfl,
  fun L J h Q x => pf_ri pb_u_190 rfl rfl,
  fun l1 l2 st h Q x => pf_S pb_u_190 rfl rfl,
  fun l1 l2 st h Q => pf_S pb_u_190 rfl rfl,
  fun L J h Q x0 => pf_kv pb_u_190 rfl pb_ci_177 rfl ⟨Nat.le_of_ble_eq_true rfl, Nat.le_of_ble_eq_true rfl, Nat.le_of_ble_eq_true rfl, Nat.le_of_ble_eq_true rfl, rfl⟩ rfl rfl,
  fun l1 l2 st h Q x => pf_S pb_u_190 rfl rfl,
  fun l1 l2 st h Q => pf_S pb_u_190 rfl rfl,
  fun L J h Q x0 => pf_kv pb_u_190 rfl pb_ci_189 rfl ⟨Nat.le_of_ble_eq_true rfl, Nat.le_of_ble_eq_true rfl, Nat.le_of_ble_eq_true rfl, Nat.le_of_ble_eq_true rfl, rfl⟩ rfl rfl,
  fun L J st h Q x => pf_ii pb_u_190 rfl rfl pf_ne,
  fun L J st h Q => pf_S pb_u_190 rfl rfl,
  fun L J h Q x => pf_ri pb_u_190 rfl rfl,
  fun l0 l2 st h Q x => pf_S pb_u_190 rfl rfl,
  fun l0 l1 st h Q x => pf_S pb_u_190 rfl rfl,
  fun L J st h Q => pf_S pb_u_190 rfl rfl,
  fun L J st h Q x y => pf_ic pb_u_190 rfl rfl pf_ne,
  fun L J st h Q => pf_S pb_u_190 rfl rfl,
  fun L J st h Q => pf_S pb_u_190 rfl rfl,
  fun L J st h Q => pf_S pb_u_190 rfl rfl,
  fun L J st x y h Q => pf_S pb_u_190 rfl rfl,
  fun L J st h Q => pf_S pb_u_190 rfl rfl,
  fun L J st h Q x y => pf_ic pb_u_190 rfl rfl rfl,
  fun l1 l2 st h Q x => pf_S pb_u_190 rfl rfl,
  fun l1 l2 st h Q => pf_S pb_u_190 rfl rfl,
  fun L J st h Q => pf_S pb_u_190 rfl rfl,
  fun l1 l2 st h Q x => pf_S pb_u_190 rfl rfl,
  fun l1 l2 st h Q => pf_S pb_u_190 rfl rfl,
  fun L J st h Q a => pf_gf pb_u_190 rfl rfl,
  fun L J h Q x0 x1 x2 => pf_kv pb_u_190 rfl pb_ci_183 rfl ⟨Nat.le_of_ble_eq_true rfl, Nat.le_of_ble_eq_true rfl, Nat.le_of_ble_eq_true rfl, Nat.le_of_ble_eq_true rfl, rfl⟩ rfl rfl,
  fun L J st x h Q => pf_S pb_u_190 rfl rfl,
  fun L J st h Q => pf_S pb_u_190 rfl rfl,
  fun L J h Q x => pf_ri pb_u_190 rfl rfl,
  fun l0 l1 st h Q x => pf_S pb_u_190 rfl rfl,
  fun L J st h Q => pf_S pb_u_190 rfl rfl,
  fun L J st h Q x y => pf_ic pb_u_190 rfl rfl rfl,
  fun l1 l2 st h Q x => pf_S pb_u_190 rfl rfl,
  fun l1 l2 st h Q => pf_S pb_u_190 rfl rfl,
  fun L J st h Q => pf_S pb_u_190 rfl rfl,
  fun l0 l2 st h Q x => pf_S pb_u_190 rfl rfl,
  fun L J st x y h Q => pf_S pb_u_190 rfl rfl,
  fun L J st h Q => pf_S pb_u_190 rfl rfl,
  fun L J h Q x0 x1 x2 => pf_kv pb_u_190 rfl pb_ci_188 rfl ⟨Nat.le_of_ble_eq_true rfl, Nat.le_of_ble_eq_true rfl, Nat.le_of_ble_eq_true rfl, Nat.le_of_ble_eq_true rfl, rfl⟩ rfl rfl,
  fun l0 l2 st h Q x => pf_S pb_u_190 rfl rfl,
  fun l0 l1 st h Q x => pf_S pb_u_190 rfl rfl,
  fun L J st h Q => pf_S pb_u_190 rfl rfl,
  fun L J st h Q x y => pf_ic pb_u_190 rfl rfl rfl,
  fun l1 l2 st h Q x => pf_S pb_u_190 rfl rfl,
  fun l1 l2 st h Q => pf_S pb_u_190 rfl rfl,
  fun L J st h Q => pf_S pb_u_190 rfl rfl,
  fun l0 l2 st h Q x => pf_S pb_u_190 rfl rfl,
  fun L J st x y h Q => pf_S pb_u_190 rfl rfl,
  fun L J st h Q => pf_S pb_u_190 rfl rfl,
  fun L J h Q x0 x1 x2 => pf_kv pb_u_190 rfl pb_ci_188 rfl ⟨Nat.le_of_ble_eq_true rfl, Nat.le_of_ble_eq_true rfl, Nat.le_of_ble_eq_true rfl, Nat.le_of_ble_eq_true rfl, rfl⟩ rfl rfl,
  fun l0 l2 st h Q x => pf_S pb_u_190 rfl rfl,
  fun l1 l2 st h Q x => pf_S pb_u_190 rfl rfl,
  fun l1 l2 st h Q => pf_S pb_u_190 rfl rfl,
  fun L J h Q x0 => pf_kv pb_u_190 rfl pb_ci_177 rfl ⟨Nat.le_of_ble_eq_true rfl, Nat.le_of_ble_eq_true rfl, Nat.le_of_ble_eq_true rfl, Nat.le_of_ble_eq_true rfl, rfl⟩ rfl rfl,
  fun L J st h Q => pf_S pb_u_190 rfl rfl,
  fun l0 l2 st h Q x => pf_S pb_u_190 rfl rfl,
  fun L J h Q x => pf_ri pb_u_190 rfl rfl⟩
theorem pb_c190 (x0 : Nat) (h : pb_H) (Q : Option Value → pb_H → Prop) : pb_call 190 [.ref x0] h Q ↔ pb_R 190 0 [some (.ref x0), none, none] [] [] h Q := Iff.rfl
/-! 191: PlaneBenchModel.forget()V -/
theorem pb_u_191 : pb_t 191 = pb_t191 := rfl
theorem pb_ci_191 : pb_ci 191 = 12 := by decide +kernel
set_option maxRecDepth 100000 in
theorem pb_q191_32 (l0 : Option Value) (st : List Value) (h : pb_H) (Q : Option Value → pb_H → Prop) (x : Int32) : pb_R 191 32 [l0, some (.int x)] [] st h Q ↔ pb_R 191 33 [l0, some (.int x)] [] (.int x :: st) h Q := pf_S pb_u_191 rfl rfl
set_option maxRecDepth 100000 in
theorem pb_e191 : (∀ (l1 : Option Value) (st : List Value) (h : pb_H) (Q : Option Value → pb_H → Prop) (x : Nat), pb_R 191 0 [some (.ref x), l1] [] st h Q ↔ pb_R 191 1 [some (.ref x), l1] [] (.ref x :: st) h Q) ∧
  (∀ (l1 : Option Value) (st : List Value) (h : pb_H) (Q : Option Value → pb_H → Prop), pb_R 191 0 [some .null, l1] [] st h Q ↔ pb_R 191 1 [some .null, l1] [] (.null :: st) h Q) ∧
  (∀ (L : pb_L) (J : pb_J) (st : List Value) (h : pb_H) (Q : Option Value → pb_H → Prop), pb_R 191 1 L J st h Q ↔ pb_R 191 2 L J (.int (0 : Int32) :: st) h Q) ∧
  (∀ (L : pb_L) (J : pb_J) (st : List Value) (h : pb_H) (Q : Option Value → pb_H → Prop) (a : Nat) (x : Int32), pb_R 191 2 L J (.int x :: .ref a :: st) h Q ↔ pb_o (pb_pf (h.2 a) 12 23 (.int x)) (fun c => pb_R 191 5 L J st (pb_set h a c) Q)) ∧
  (∀ (l1 : Option Value) (st : List Value) (h : pb_H) (Q : Option Value → pb_H → Prop) (x : Nat), pb_R 191 5 [some (.ref x), l1] [] st h Q ↔ pb_R 191 6 [some (.ref x), l1] [] (.ref x :: st) h Q) ∧
  (∀ (l1 : Option Value) (st : List Value) (h : pb_H) (Q : Option Value → pb_H → Prop), pb_R 191 5 [some .null, l1] [] st h Q ↔ pb_R 191 6 [some .null, l1] [] (.null :: st) h Q) ∧
  (∀ (L : pb_L) (J : pb_J) (st : List Value) (h : pb_H) (Q : Option Value → pb_H → Prop), pb_R 191 6 L J st h Q ↔ pb_R 191 7 L J (.int (0 : Int32) :: st) h Q) ∧
  (∀ (L : pb_L) (J : pb_J) (st : List Value) (h : pb_H) (Q : Option Value → pb_H → Prop) (a : Nat) (x : Int32), pb_R 191 7 L J (.int x :: .ref a :: st) h Q ↔ pb_o (pb_pf (h.2 a) 12 24 (.int x)) (fun c => pb_R 191 10 L J st (pb_set h a c) Q)) ∧
  (∀ (l1 : Option Value) (st : List Value) (h : pb_H) (Q : Option Value → pb_H → Prop) (x : Nat), pb_R 191 10 [some (.ref x), l1] [] st h Q ↔ pb_R 191 11 [some (.ref x), l1] [] (.ref x :: st) h Q) ∧
  (∀ (l1 : Option Value) (st : List Value) (h : pb_H) (Q : Option Value → pb_H → Prop), pb_R 191 10 [some .null, l1] [] st h Q ↔ pb_R 191 11 [some .null, l1] [] (.null :: st) h Q) ∧
  (∀ (L : pb_L) (J : pb_J) (st : List Value) (h : pb_H) (Q : Option Value → pb_H → Prop), pb_R 191 11 L J st h Q ↔ pb_R 191 12 L J (.int (0 : Int32) :: st) h Q) ∧
  (∀ (L : pb_L) (J : pb_J) (st : List Value) (h : pb_H) (Q : Option Value → pb_H → Prop) (a : Nat) (x : Int32), pb_R 191 12 L J (.int x :: .ref a :: st) h Q ↔ pb_o (pb_pf (h.2 a) 12 25 (.int x)) (fun c => pb_R 191 15 L J st (pb_set h a c) Q)) ∧
  (∀ (l1 : Option Value) (st : List Value) (h : pb_H) (Q : Option Value → pb_H → Prop) (x : Nat), pb_R 191 15 [some (.ref x), l1] [] st h Q ↔ pb_R 191 16 [some (.ref x), l1] [] (.ref x :: st) h Q) ∧
  (∀ (l1 : Option Value) (st : List Value) (h : pb_H) (Q : Option Value → pb_H → Prop), pb_R 191 15 [some .null, l1] [] st h Q ↔ pb_R 191 16 [some .null, l1] [] (.null :: st) h Q) ∧
  (∀ (L : pb_L) (J : pb_J) (st : List Value) (h : pb_H) (Q : Option Value → pb_H → Prop), pb_R 191 16 L J st h Q ↔ pb_R 191 17 L J (.int (0 : Int32) :: st) h Q) ∧
  (∀ (L : pb_L) (J : pb_J) (st : List Value) (h : pb_H) (Q : Option Value → pb_H → Prop) (a : Nat) (x : Int32), pb_R 191 17 L J (.int x :: .ref a :: st) h Q ↔ pb_o (pb_pf (h.2 a) 12 26 (.int x)) (fun c => pb_R 191 20 L J st (pb_set h a c) Q)) ∧
  (∀ (l1 : Option Value) (st : List Value) (h : pb_H) (Q : Option Value → pb_H → Prop) (x : Nat), pb_R 191 20 [some (.ref x), l1] [] st h Q ↔ pb_R 191 21 [some (.ref x), l1] [] (.ref x :: st) h Q) ∧
  (∀ (l1 : Option Value) (st : List Value) (h : pb_H) (Q : Option Value → pb_H → Prop), pb_R 191 20 [some .null, l1] [] st h Q ↔ pb_R 191 21 [some .null, l1] [] (.null :: st) h Q) ∧
  (∀ (L : pb_L) (J : pb_J) (st : List Value) (h : pb_H) (Q : Option Value → pb_H → Prop), pb_R 191 21 L J st h Q ↔ pb_R 191 22 L J (.int (0 : Int32) :: st) h Q) ∧
  (∀ (L : pb_L) (J : pb_J) (st : List Value) (h : pb_H) (Q : Option Value → pb_H → Prop) (a : Nat) (x : Int32), pb_R 191 22 L J (.int x :: .ref a :: st) h Q ↔ pb_o (pb_pf (h.2 a) 12 27 (.int x)) (fun c => pb_R 191 25 L J st (pb_set h a c) Q)) ∧
  (∀ (l1 : Option Value) (st : List Value) (h : pb_H) (Q : Option Value → pb_H → Prop) (x : Nat), pb_R 191 25 [some (.ref x), l1] [] st h Q ↔ pb_R 191 26 [some (.ref x), l1] [] (.ref x :: st) h Q) ∧
  (∀ (l1 : Option Value) (st : List Value) (h : pb_H) (Q : Option Value → pb_H → Prop), pb_R 191 25 [some .null, l1] [] st h Q ↔ pb_R 191 26 [some .null, l1] [] (.null :: st) h Q) ∧
  (∀ (L : pb_L) (J : pb_J) (st : List Value) (h : pb_H) (Q : Option Value → pb_H → Prop), pb_R 191 26 L J st h Q ↔ pb_R 191 27 L J (.int (0 : Int32) :: st) h Q) ∧
  (∀ (L : pb_L) (J : pb_J) (st : List Value) (h : pb_H) (Q : Option Value → pb_H → Prop) (a : Nat) (x : Int32), pb_R 191 27 L J (.int x :: .ref a :: st) h Q ↔ pb_o (pb_pf (h.2 a) 12 34 (.int x)) (fun c => pb_R 191 30 L J st (pb_set h a c) Q)) ∧
  (∀ (L : pb_L) (J : pb_J) (st : List Value) (h : pb_H) (Q : Option Value → pb_H → Prop), pb_R 191 30 L J st h Q ↔ pb_R 191 31 L J (.int (0 : Int32) :: st) h Q) ∧
  (∀ (l0 l1 : Option Value) (st : List Value) (h : pb_H) (Q : Option Value → pb_H → Prop) (x : Int32), pb_R 191 31 [l0, l1] [] (.int x :: st) h Q ↔ pb_R 191 32 [l0, some (.int x)] [] st h Q) ∧
  (∀ (L : pb_L) (J : pb_J) (st : List Value) (h : pb_H) (Q : Option Value → pb_H → Prop), pb_R 191 33 L J st h Q ↔ pb_R 191 35 L J (.int (17 : Int32) :: st) h Q) ∧
  (∀ (L : pb_L) (J : pb_J) (st : List Value) (h : pb_H) (Q : Option Value → pb_H → Prop) (x y : Int32), pb_R 191 35 L J (.int y :: .int x :: st) h Q ↔ if y ≤ x then pb_R 191 58 L J st h Q else pb_R 191 38 L J st h Q) ∧
  (∀ (l1 : Option Value) (st : List Value) (h : pb_H) (Q : Option Value → pb_H → Prop) (x : Nat), pb_R 191 38 [some (.ref x), l1] [] st h Q ↔ pb_R 191 39 [some (.ref x), l1] [] (.ref x :: st) h Q) ∧
  (∀ (l1 : Option Value) (st : List Value) (h : pb_H) (Q : Option Value → pb_H → Prop), pb_R 191 38 [some .null, l1] [] st h Q ↔ pb_R 191 39 [some .null, l1] [] (.null :: st) h Q) ∧
  (∀ (L : pb_L) (J : pb_J) (st : List Value) (h : pb_H) (Q : Option Value → pb_H → Prop) (a : Nat), pb_R 191 39 L J (.ref a :: st) h Q ↔ pb_o (pb_gf (h.2 a) 12 28) (fun v => pb_R 191 42 L J (v :: st) h Q)) ∧
  (∀ (l0 : Option Value) (st : List Value) (h : pb_H) (Q : Option Value → pb_H → Prop) (x : Int32), pb_R 191 42 [l0, some (.int x)] [] st h Q ↔ pb_R 191 43 [l0, some (.int x)] [] (.int x :: st) h Q) ∧
  (∀ (L : pb_L) (J : pb_J) (st : List Value) (h : pb_H) (Q : Option Value → pb_H → Prop), pb_R 191 43 L J st h Q ↔ pb_R 191 44 L J (.int (-1 : Int32) :: st) h Q) ∧
  (∀ (L : pb_L) (J : pb_J) (st : List Value) (h : pb_H) (Q : Option Value → pb_H → Prop) (a : Nat) (i x : Int32), pb_R 191 44 L J (.int x :: .int i :: .ref a :: st) h Q ↔ pb_o (pb_si (h.2 a) i x) (fun c => pb_R 191 45 L J st (pb_set h a c) Q)) ∧
  (∀ (l1 : Option Value) (st : List Value) (h : pb_H) (Q : Option Value → pb_H → Prop) (x : Nat), pb_R 191 45 [some (.ref x), l1] [] st h Q ↔ pb_R 191 46 [some (.ref x), l1] [] (.ref x :: st) h Q) ∧
  (∀ (l1 : Option Value) (st : List Value) (h : pb_H) (Q : Option Value → pb_H → Prop), pb_R 191 45 [some .null, l1] [] st h Q ↔ pb_R 191 46 [some .null, l1] [] (.null :: st) h Q) ∧
  (∀ (L : pb_L) (J : pb_J) (st : List Value) (h : pb_H) (Q : Option Value → pb_H → Prop) (a : Nat), pb_R 191 46 L J (.ref a :: st) h Q ↔ pb_o (pb_gf (h.2 a) 12 29) (fun v => pb_R 191 49 L J (v :: st) h Q)) ∧
  (∀ (l0 : Option Value) (st : List Value) (h : pb_H) (Q : Option Value → pb_H → Prop) (x : Int32), pb_R 191 49 [l0, some (.int x)] [] st h Q ↔ pb_R 191 50 [l0, some (.int x)] [] (.int x :: st) h Q) ∧
  (∀ (L : pb_L) (J : pb_J) (st : List Value) (h : pb_H) (Q : Option Value → pb_H → Prop), pb_R 191 50 L J st h Q ↔ pb_R 191 51 L J (.int (0 : Int32) :: st) h Q) ∧
  (∀ (L : pb_L) (J : pb_J) (st : List Value) (h : pb_H) (Q : Option Value → pb_H → Prop) (a : Nat) (i x : Int32), pb_R 191 51 L J (.int x :: .int i :: .ref a :: st) h Q ↔ pb_o (pb_si (h.2 a) i x) (fun c => pb_R 191 52 L J st (pb_set h a c) Q)) ∧
  (∀ (l0 : Option Value) (st : List Value) (h : pb_H) (Q : Option Value → pb_H → Prop) (x : Int32), pb_R 191 52 [l0, some (.int x)] [] st h Q ↔ pb_R 191 55 [l0, some (.int (x + (1 : Int32)))] [] st h Q) ∧
  (∀ (L : pb_L) (J : pb_J) (st : List Value) (h : pb_H) (Q : Option Value → pb_H → Prop), pb_R 191 55 L J st h Q ↔ pb_R 191 32 L J st h Q) ∧
  (∀ (L : pb_L) (J : pb_J) (h : pb_H) (Q : Option Value → pb_H → Prop), pb_R 191 58 L J [] h Q ↔ Q none h) := ⟨
  fun l1 st h Q x => pf_S pb_u_191 rfl rfl,
  fun l1 st h Q => pf_S pb_u_191 rfl rfl,
  fun L J st h Q => pf_S pb_u_191 rfl rfl,
  fun L J st h Q a x => pf_pf pb_u_191 rfl rfl,
  fun l1 st h Q x => pf_S pb_u_191 rfl rfl,
  fun l1 st h Q => pf_S pb_u_191 rfl rfl,
  fun L J st h Q => pf_S pb_u_191 rfl rfl,
  fun L J st h Q a x => pf_pf pb_u_191 rfl rfl,
  fun l1 st h Q x => pf_S pb_u_191 rfl rfl,
  fun l1 st h Q => pf_S pb_u_191 rfl rfl,
  fun L J st h Q => pf_S pb_u_191 rfl rfl,
  fun L J st h Q a x => pf_pf pb_u_191 rfl rfl,
  fun l1 st h Q x => pf_S pb_u_191 rfl rfl,
  fun l1 st h Q => pf_S pb_u_191 rfl rfl,
  fun L J st h Q => pf_S pb_u_191 rfl rfl,
  fun L J st h Q a x => pf_pf pb_u_191 rfl rfl,
  fun l1 st h Q x => pf_S pb_u_191 rfl rfl,
  fun l1 st h Q => pf_S pb_u_191 rfl rfl,
  fun L J st h Q => pf_S pb_u_191 rfl rfl,
  fun L J st h Q a x => pf_pf pb_u_191 rfl rfl,
  fun l1 st h Q x => pf_S pb_u_191 rfl rfl,
  fun l1 st h Q => pf_S pb_u_191 rfl rfl,
  fun L J st h Q => pf_S pb_u_191 rfl rfl,
  fun L J st h Q a x => pf_pf pb_u_191 rfl rfl,
  fun L J st h Q => pf_S pb_u_191 rfl rfl,
  fun l0 l1 st h Q x => pf_S pb_u_191 rfl rfl,
  fun L J st h Q => pf_S pb_u_191 rfl rfl,
  fun L J st h Q x y => pf_ic pb_u_191 rfl rfl rfl,
  fun l1 st h Q x => pf_S pb_u_191 rfl rfl,
  fun l1 st h Q => pf_S pb_u_191 rfl rfl,
  fun L J st h Q a => pf_gf pb_u_191 rfl rfl,
  fun l0 st h Q x => pf_S pb_u_191 rfl rfl,
  fun L J st h Q => pf_S pb_u_191 rfl rfl,
  fun L J st h Q a i x => pf_si pb_u_191 rfl rfl,
  fun l1 st h Q x => pf_S pb_u_191 rfl rfl,
  fun l1 st h Q => pf_S pb_u_191 rfl rfl,
  fun L J st h Q a => pf_gf pb_u_191 rfl rfl,
  fun l0 st h Q x => pf_S pb_u_191 rfl rfl,
  fun L J st h Q => pf_S pb_u_191 rfl rfl,
  fun L J st h Q a i x => pf_si pb_u_191 rfl rfl,
  fun l0 st h Q x => pf_S pb_u_191 rfl rfl,
  fun L J st h Q => pf_S pb_u_191 rfl rfl,
  fun L J h Q => pf_rv pb_u_191 rfl rfl⟩
theorem pb_c191 (x0 : Nat) (h : pb_H) (Q : Option Value → pb_H → Prop) : pb_call 191 [.ref x0] h Q ↔ pb_R 191 0 [some (.ref x0), none] [] [] h Q := Iff.rfl
/-! 192: PlaneBenchModel.load()I -/
theorem pb_u_192 : pb_t 192 = pb_t192 := rfl
theorem pb_ci_192 : pb_ci 192 = 12 := by decide +kernel
set_option maxRecDepth 100000 in
theorem pb_q192_28 (l0 l1 : Option Value) (st : List Value) (h : pb_H) (Q : Option Value → pb_H → Prop) (x : Int32) : pb_R 192 28 [l0, l1, some (.int x)] [] st h Q ↔ pb_R 192 29 [l0, l1, some (.int x)] [] (.int x :: st) h Q := pf_S pb_u_192 rfl rfl
set_option maxRecDepth 100000 in
theorem pb_e192 : (∀ (l1 l2 : Option Value) (st : List Value) (h : pb_H) (Q : Option Value → pb_H → Prop) (x : Nat), pb_R 192 0 [some (.ref x), l1, l2] [] st h Q ↔ pb_R 192 1 [some (.ref x), l1, l2] [] (.ref x :: st) h Q) ∧
  (∀ (l1 l2 : Option Value) (st : List Value) (h : pb_H) (Q : Option Value → pb_H → Prop), pb_R 192 0 [some .null, l1, l2] [] st h Q ↔ pb_R 192 1 [some .null, l1, l2] [] (.null :: st) h Q) ∧
  (∀ (L : pb_L) (J : pb_J) (st : List Value) (h : pb_H) (Q : Option Value → pb_H → Prop), pb_R 192 1 L J st h Q ↔ pb_R 192 2 L J (.int (0 : Int32) :: st) h Q) ∧
  (∀ (L : pb_L) (J : pb_J) (st : List Value) (h : pb_H) (Q : Option Value → pb_H → Prop) (a : Nat) (x : Int32), pb_R 192 2 L J (.int x :: .ref a :: st) h Q ↔ pb_o (pb_pf (h.2 a) 12 17 (.int x)) (fun c => pb_R 192 5 L J st (pb_set h a c) Q)) ∧
  (∀ (l1 l2 : Option Value) (st : List Value) (h : pb_H) (Q : Option Value → pb_H → Prop) (x : Nat), pb_R 192 5 [some (.ref x), l1, l2] [] st h Q ↔ pb_R 192 6 [some (.ref x), l1, l2] [] (.ref x :: st) h Q) ∧
  (∀ (l1 l2 : Option Value) (st : List Value) (h : pb_H) (Q : Option Value → pb_H → Prop), pb_R 192 5 [some .null, l1, l2] [] st h Q ↔ pb_R 192 6 [some .null, l1, l2] [] (.null :: st) h Q) ∧
  (∀ (L : pb_L) (J : pb_J) (st : List Value) (h : pb_H) (Q : Option Value → pb_H → Prop), pb_R 192 6 L J st h Q ↔ pb_R 192 7 L J (.int (0 : Int32) :: st) h Q) ∧
  (∀ (L : pb_L) (J : pb_J) (st : List Value) (h : pb_H) (Q : Option Value → pb_H → Prop) (a : Nat) (x : Int32), pb_R 192 7 L J (.int x :: .ref a :: st) h Q ↔ pb_o (pb_pf (h.2 a) 12 19 (.int x)) (fun c => pb_R 192 10 L J st (pb_set h a c) Q)) ∧
  (∀ (l1 l2 : Option Value) (st : List Value) (h : pb_H) (Q : Option Value → pb_H → Prop) (x : Nat), pb_R 192 10 [some (.ref x), l1, l2] [] st h Q ↔ pb_R 192 11 [some (.ref x), l1, l2] [] (.ref x :: st) h Q) ∧
  (∀ (l1 l2 : Option Value) (st : List Value) (h : pb_H) (Q : Option Value → pb_H → Prop), pb_R 192 10 [some .null, l1, l2] [] st h Q ↔ pb_R 192 11 [some .null, l1, l2] [] (.null :: st) h Q) ∧
  (∀ (L : pb_L) (J : pb_J) (h : pb_H) (Q : Option Value → pb_H → Prop) (x0 : Nat), pb_R 192 11 L J [.ref x0] h Q ↔ pb_is0 (h.2 x0) 12 = true ∧ pb_call 190 [.ref x0] h (fun v t => pb_R 192 14 L J (v.toList ++ []) t Q)) ∧
  (∀ (l0 l1 l2 : Option Value) (st : List Value) (h : pb_H) (Q : Option Value → pb_H → Prop) (x : Int32), pb_R 192 14 [l0, l1, l2] [] (.int x :: st) h Q ↔ pb_R 192 15 [l0, some (.int x), l2] [] st h Q) ∧
  (∀ (l1 l2 : Option Value) (st : List Value) (h : pb_H) (Q : Option Value → pb_H → Prop) (x : Nat), pb_R 192 15 [some (.ref x), l1, l2] [] st h Q ↔ pb_R 192 16 [some (.ref x), l1, l2] [] (.ref x :: st) h Q) ∧
  (∀ (l1 l2 : Option Value) (st : List Value) (h : pb_H) (Q : Option Value → pb_H → Prop), pb_R 192 15 [some .null, l1, l2] [] st h Q ↔ pb_R 192 16 [some .null, l1, l2] [] (.null :: st) h Q) ∧
  (∀ (L : pb_L) (J : pb_J) (st : List Value) (h : pb_H) (Q : Option Value → pb_H → Prop), pb_R 192 16 L J st h Q ↔ pb_R 192 17 L J (.int (0 : Int32) :: st) h Q) ∧
  (∀ (L : pb_L) (J : pb_J) (st : List Value) (h : pb_H) (Q : Option Value → pb_H → Prop) (a : Nat) (x : Int32), pb_R 192 17 L J (.int x :: .ref a :: st) h Q ↔ pb_o (pb_pf (h.2 a) 12 7 (.int x)) (fun c => pb_R 192 20 L J st (pb_set h a c) Q)) ∧
  (∀ (l0 l2 : Option Value) (st : List Value) (h : pb_H) (Q : Option Value → pb_H → Prop) (x : Int32), pb_R 192 20 [l0, some (.int x), l2] [] st h Q ↔ pb_R 192 21 [l0, some (.int x), l2] [] (.int x :: st) h Q) ∧
  (∀ (L : pb_L) (J : pb_J) (st : List Value) (h : pb_H) (Q : Option Value → pb_H → Prop) (x : Int32), pb_R 192 21 L J (.int x :: st) h Q ↔ if 0 ≤ x then pb_R 192 26 L J st h Q else pb_R 192 24 L J st h Q) ∧
  (∀ (L : pb_L) (J : pb_J) (st : List Value) (h : pb_H) (Q : Option Value → pb_H → Prop), pb_R 192 24 L J st h Q ↔ pb_R 192 25 L J (.int (-1 : Int32) :: st) h Q) ∧
  (∀ (L : pb_L) (J : pb_J) (h : pb_H) (Q : Option Value → pb_H → Prop) (x : Int32), pb_R 192 25 L J [.int x] h Q ↔ Q (some (.int x)) h) ∧
  (∀ (L : pb_L) (J : pb_J) (st : List Value) (h : pb_H) (Q : Option Value → pb_H → Prop), pb_R 192 26 L J st h Q ↔ pb_R 192 27 L J (.int (0 : Int32) :: st) h Q) ∧
  (∀ (l0 l1 l2 : Option Value) (st : List Value) (h : pb_H) (Q : Option Value → pb_H → Prop) (x : Int32), pb_R 192 27 [l0, l1, l2] [] (.int x :: st) h Q ↔ pb_R 192 28 [l0, l1, some (.int x)] [] st h Q) ∧
  (∀ (l0 l2 : Option Value) (st : List Value) (h : pb_H) (Q : Option Value → pb_H → Prop) (x : Int32), pb_R 192 29 [l0, some (.int x), l2] [] st h Q ↔ pb_R 192 30 [l0, some (.int x), l2] [] (.int x :: st) h Q) ∧
  (∀ (L : pb_L) (J : pb_J) (st : List Value) (h : pb_H) (Q : Option Value → pb_H → Prop) (x y : Int32), pb_R 192 30 L J (.int y :: .int x :: st) h Q ↔ if y ≤ x then pb_R 192 60 L J st h Q else pb_R 192 33 L J st h Q) ∧
  (∀ (l1 l2 : Option Value) (st : List Value) (h : pb_H) (Q : Option Value → pb_H → Prop) (x : Nat), pb_R 192 33 [some (.ref x), l1, l2] [] st h Q ↔ pb_R 192 34 [some (.ref x), l1, l2] [] (.ref x :: st) h Q) ∧
  (∀ (l1 l2 : Option Value) (st : List Value) (h : pb_H) (Q : Option Value → pb_H → Prop), pb_R 192 33 [some .null, l1, l2] [] st h Q ↔ pb_R 192 34 [some .null, l1, l2] [] (.null :: st) h Q) ∧
  (∀ (L : pb_L) (J : pb_J) (st : List Value) (h : pb_H) (Q : Option Value → pb_H → Prop), pb_R 192 34 L J st h Q ↔ pb_R 192 37 L J (.int (321 : Int32) :: st) h Q) ∧
  (∀ (l0 l1 : Option Value) (st : List Value) (h : pb_H) (Q : Option Value → pb_H → Prop) (x : Int32), pb_R 192 37 [l0, l1, some (.int x)] [] st h Q ↔ pb_R 192 38 [l0, l1, some (.int x)] [] (.int x :: st) h Q) ∧
  (∀ (L : pb_L) (J : pb_J) (st : List Value) (x y : Int32) (h : pb_H) (Q : Option Value → pb_H → Prop), pb_R 192 38 L J (.int y :: .int x :: st) h Q ↔ pb_R 192 39 L J (.int (x + y) :: st) h Q) ∧
  (∀ (L : pb_L) (J : pb_J) (st : List Value) (h : pb_H) (Q : Option Value → pb_H → Prop), pb_R 192 39 L J st h Q ↔ pb_R 192 40 L J (.int (1 : Int32) :: st) h Q) ∧
  (∀ (l0 l1 : Option Value) (st : List Value) (h : pb_H) (Q : Option Value → pb_H → Prop) (x : Int32), pb_R 192 40 [l0, l1, some (.int x)] [] st h Q ↔ pb_R 192 41 [l0, l1, some (.int x)] [] (.int x :: st) h Q) ∧
  (∀ (L : pb_L) (J : pb_J) (st : List Value) (x y : Int32) (h : pb_H) (Q : Option Value → pb_H → Prop), pb_R 192 41 L J (.int y :: .int x :: st) h Q ↔ pb_R 192 42 L J (.int (x + y) :: st) h Q) ∧
  (∀ (L : pb_L) (J : pb_J) (h : pb_H) (Q : Option Value → pb_H → Prop) (x0 : Int32) (x1 : Int32) (x2 : Nat), pb_R 192 42 L J [.int x0, .int x1, .ref x2] h Q ↔ pb_is0 (h.2 x2) 12 = true ∧ pb_call 162 [.ref x2, .int x1, .int x0] h (fun v t => pb_R 192 45 L J (v.toList ++ []) t Q)) ∧
  (∀ (l1 l2 : Option Value) (st : List Value) (h : pb_H) (Q : Option Value → pb_H → Prop) (x : Nat), pb_R 192 45 [some (.ref x), l1, l2] [] st h Q ↔ pb_R 192 46 [some (.ref x), l1, l2] [] (.ref x :: st) h Q) ∧
  (∀ (l1 l2 : Option Value) (st : List Value) (h : pb_H) (Q : Option Value → pb_H → Prop), pb_R 192 45 [some .null, l1, l2] [] st h Q ↔ pb_R 192 46 [some .null, l1, l2] [] (.null :: st) h Q) ∧
  (∀ (L : pb_L) (J : pb_J) (st : List Value) (h : pb_H) (Q : Option Value → pb_H → Prop) (a : Nat), pb_R 192 46 L J (.ref a :: st) h Q ↔ pb_o (pb_gf (h.2 a) 12 2) (fun v => pb_R 192 49 L J (v :: st) h Q)) ∧
  (∀ (L : pb_L) (J : pb_J) (st : List Value) (h : pb_H) (Q : Option Value → pb_H → Prop), pb_R 192 49 L J st h Q ↔ pb_R 192 50 L J (.int (1 : Int32) :: st) h Q) ∧
  (∀ (l0 l1 : Option Value) (st : List Value) (h : pb_H) (Q : Option Value → pb_H → Prop) (x : Int32), pb_R 192 50 [l0, l1, some (.int x)] [] st h Q ↔ pb_R 192 51 [l0, l1, some (.int x)] [] (.int x :: st) h Q) ∧
  (∀ (L : pb_L) (J : pb_J) (st : List Value) (x y : Int32) (h : pb_H) (Q : Option Value → pb_H → Prop), pb_R 192 51 L J (.int y :: .int x :: st) h Q ↔ pb_R 192 52 L J (.int (x + y) :: st) h Q) ∧
  (∀ (L : pb_L) (J : pb_J) (st : List Value) (h : pb_H) (Q : Option Value → pb_H → Prop), pb_R 192 52 L J st h Q ↔ pb_R 192 53 L J (.int (1 : Int32) :: st) h Q) ∧
  (∀ (L : pb_L) (J : pb_J) (st : List Value) (h : pb_H) (Q : Option Value → pb_H → Prop) (a : Nat) (i x : Int32), pb_R 192 53 L J (.int x :: .int i :: .ref a :: st) h Q ↔ pb_o (pb_si (h.2 a) i x) (fun c => pb_R 192 54 L J st (pb_set h a c) Q)) ∧
  (∀ (l0 l1 : Option Value) (st : List Value) (h : pb_H) (Q : Option Value → pb_H → Prop) (x : Int32), pb_R 192 54 [l0, l1, some (.int x)] [] st h Q ↔ pb_R 192 57 [l0, l1, some (.int (x + (1 : Int32)))] [] st h Q) ∧
  (∀ (L : pb_L) (J : pb_J) (st : List Value) (h : pb_H) (Q : Option Value → pb_H → Prop), pb_R 192 57 L J st h Q ↔ pb_R 192 28 L J st h Q) ∧
  (∀ (l1 l2 : Option Value) (st : List Value) (h : pb_H) (Q : Option Value → pb_H → Prop) (x : Nat), pb_R 192 60 [some (.ref x), l1, l2] [] st h Q ↔ pb_R 192 61 [some (.ref x), l1, l2] [] (.ref x :: st) h Q) ∧
  (∀ (l1 l2 : Option Value) (st : List Value) (h : pb_H) (Q : Option Value → pb_H → Prop), pb_R 192 60 [some .null, l1, l2] [] st h Q ↔ pb_R 192 61 [some .null, l1, l2] [] (.null :: st) h Q) ∧
  (∀ (l0 l2 : Option Value) (st : List Value) (h : pb_H) (Q : Option Value → pb_H → Prop) (x : Int32), pb_R 192 61 [l0, some (.int x), l2] [] st h Q ↔ pb_R 192 62 [l0, some (.int x), l2] [] (.int x :: st) h Q) ∧
  (∀ (L : pb_L) (J : pb_J) (st : List Value) (h : pb_H) (Q : Option Value → pb_H → Prop) (a : Nat) (x : Int32), pb_R 192 62 L J (.int x :: .ref a :: st) h Q ↔ pb_o (pb_pf (h.2 a) 12 4 (.int x)) (fun c => pb_R 192 65 L J st (pb_set h a c) Q)) ∧
  (∀ (l1 l2 : Option Value) (st : List Value) (h : pb_H) (Q : Option Value → pb_H → Prop) (x : Nat), pb_R 192 65 [some (.ref x), l1, l2] [] st h Q ↔ pb_R 192 66 [some (.ref x), l1, l2] [] (.ref x :: st) h Q) ∧
  (∀ (l1 l2 : Option Value) (st : List Value) (h : pb_H) (Q : Option Value → pb_H → Prop), pb_R 192 65 [some .null, l1, l2] [] st h Q ↔ pb_R 192 66 [some .null, l1, l2] [] (.null :: st) h Q) ∧
  (∀ (l0 l2 : Option Value) (st : List Value) (h : pb_H) (Q : Option Value → pb_H → Prop) (x : Int32), pb_R 192 66 [l0, some (.int x), l2] [] st h Q ↔ pb_R 192 67 [l0, some (.int x), l2] [] (.int x :: st) h Q) ∧
  (∀ (L : pb_L) (J : pb_J) (st : List Value) (h : pb_H) (Q : Option Value → pb_H → Prop) (a : Nat) (x : Int32), pb_R 192 67 L J (.int x :: .ref a :: st) h Q ↔ pb_o (pb_pf (h.2 a) 12 5 (.int x)) (fun c => pb_R 192 70 L J st (pb_set h a c) Q)) ∧
  (∀ (l1 l2 : Option Value) (st : List Value) (h : pb_H) (Q : Option Value → pb_H → Prop) (x : Nat), pb_R 192 70 [some (.ref x), l1, l2] [] st h Q ↔ pb_R 192 71 [some (.ref x), l1, l2] [] (.ref x :: st) h Q) ∧
  (∀ (l1 l2 : Option Value) (st : List Value) (h : pb_H) (Q : Option Value → pb_H → Prop), pb_R 192 70 [some .null, l1, l2] [] st h Q ↔ pb_R 192 71 [some .null, l1, l2] [] (.null :: st) h Q) ∧
  (∀ (L : pb_L) (J : pb_J) (st : List Value) (h : pb_H) (Q : Option Value → pb_H → Prop), pb_R 192 71 L J st h Q ↔ pb_R 192 72 L J (.int (0 : Int32) :: st) h Q) ∧
  (∀ (L : pb_L) (J : pb_J) (st : List Value) (h : pb_H) (Q : Option Value → pb_H → Prop) (a : Nat) (x : Int32), pb_R 192 72 L J (.int x :: .ref a :: st) h Q ↔ pb_o (pb_pf (h.2 a) 12 8 (.int x)) (fun c => pb_R 192 75 L J st (pb_set h a c) Q)) ∧
  (∀ (l1 l2 : Option Value) (st : List Value) (h : pb_H) (Q : Option Value → pb_H → Prop) (x : Nat), pb_R 192 75 [some (.ref x), l1, l2] [] st h Q ↔ pb_R 192 76 [some (.ref x), l1, l2] [] (.ref x :: st) h Q) ∧
  (∀ (l1 l2 : Option Value) (st : List Value) (h : pb_H) (Q : Option Value → pb_H → Prop), pb_R 192 75 [some .null, l1, l2] [] st h Q ↔ pb_R 192 76 [some .null, l1, l2] [] (.null :: st) h Q) ∧
  (∀ (L : pb_L) (J : pb_J) (st : List Value) (h : pb_H) (Q : Option Value → pb_H → Prop), pb_R 192 76 L J st h Q ↔ pb_R 192 77 L J (.int (-1 : Int32) :: st) h Q) ∧
  (∀ (L : pb_L) (J : pb_J) (st : List Value) (h : pb_H) (Q : Option Value → pb_H → Prop) (a : Nat) (x : Int32), pb_R 192 77 L J (.int x :: .ref a :: st) h Q ↔ pb_o (pb_pf (h.2 a) 12 9 (.int x)) (fun c => pb_R 192 80 L J st (pb_set h a c) Q)) ∧
  (∀ (l1 l2 : Option Value) (st : List Value) (h : pb_H) (Q : Option Value → pb_H → Prop) (x : Nat), pb_R 192 80 [some (.ref x), l1, l2] [] st h Q ↔ pb_R 192 81 [some (.ref x), l1, l2] [] (.ref x :: st) h Q) ∧
  (∀ (l1 l2 : Option Value) (st : List Value) (h : pb_H) (Q : Option Value → pb_H → Prop), pb_R 192 80 [some .null, l1, l2] [] st h Q ↔ pb_R 192 81 [some .null, l1, l2] [] (.null :: st) h Q) ∧
  (∀ (L : pb_L) (J : pb_J) (st : List Value) (h : pb_H) (Q : Option Value → pb_H → Prop), pb_R 192 81 L J st h Q ↔ pb_R 192 82 L J (.int (0 : Int32) :: st) h Q) ∧
  (∀ (L : pb_L) (J : pb_J) (st : List Value) (h : pb_H) (Q : Option Value → pb_H → Prop) (a : Nat) (x : Int32), pb_R 192 82 L J (.int x :: .ref a :: st) h Q ↔ pb_o (pb_pf (h.2 a) 12 22 (.int x)) (fun c => pb_R 192 85 L J st (pb_set h a c) Q)) ∧
  (∀ (l1 l2 : Option Value) (st : List Value) (h : pb_H) (Q : Option Value → pb_H → Prop) (x : Nat), pb_R 192 85 [some (.ref x), l1, l2] [] st h Q ↔ pb_R 192 86 [some (.ref x), l1, l2] [] (.ref x :: st) h Q) ∧
  (∀ (l1 l2 : Option Value) (st : List Value) (h : pb_H) (Q : Option Value → pb_H → Prop), pb_R 192 85 [some .null, l1, l2] [] st h Q ↔ pb_R 192 86 [some .null, l1, l2] [] (.null :: st) h Q) ∧
  (∀ (L : pb_L) (J : pb_J) (h : pb_H) (Q : Option Value → pb_H → Prop) (x0 : Nat), pb_R 192 86 L J [.ref x0] h Q ↔ pb_is0 (h.2 x0) 12 = true ∧ pb_call 191 [.ref x0] h (fun v t => pb_R 192 89 L J (v.toList ++ []) t Q)) ∧
  (∀ (l0 l2 : Option Value) (st : List Value) (h : pb_H) (Q : Option Value → pb_H → Prop) (x : Int32), pb_R 192 89 [l0, some (.int x), l2] [] st h Q ↔ pb_R 192 90 [l0, some (.int x), l2] [] (.int x :: st) h Q) ∧
  (∀ (L : pb_L) (J : pb_J) (h : pb_H) (Q : Option Value → pb_H → Prop) (x : Int32), pb_R 192 90 L J [.int x] h Q ↔ Q (some (.int x)) h) := ⟨
  fun l1 l2 st h Q x => pf_S pb_u_192 rfl rfl,
  fun l1 l2 st h Q => pf_S pb_u_192 rfl rfl,
  fun L J st h Q => pf_S pb_u_192 rfl rfl,
  fun L J st h Q a x => pf_pf pb_u_192 rfl rfl,
  fun l1 l2 st h Q x => pf_S pb_u_192 rfl rfl,
  fun l1 l2 st h Q => pf_S pb_u_192 rfl rfl,
  fun L J st h Q => pf_S pb_u_192 rfl rfl,
  fun L J st h Q a x => pf_pf pb_u_192 rfl rfl,
  fun l1 l2 st h Q x => pf_S pb_u_192 rfl rfl,
  fun l1 l2 st h Q => pf_S pb_u_192 rfl rfl,
  fun L J h Q x0 => pf_kv pb_u_192 rfl pb_ci_190 rfl ⟨Nat.le_of_ble_eq_true rfl, Nat.le_of_ble_eq_true rfl, Nat.le_of_ble_eq_true rfl, Nat.le_of_ble_eq_true rfl, rfl⟩ rfl rfl,
  fun l0 l1 l2 st h Q x => pf_S pb_u_192 rfl rfl,
  fun l1 l2 st h Q x => pf_S pb_u_192 rfl rfl,
  fun l1 l2 st h Q => pf_S pb_u_192 rfl rfl,
  fun L J st h Q => pf_S pb_u_192 rfl rfl,
  fun L J st h Q a x => pf_pf pb_u_192 rfl rfl,
  fun l0 l2 st h Q x => pf_S pb_u_192 rfl rfl,
  fun L J st h Q x => pf_ii pb_u_192 rfl rfl rfl,
  fun L J st h Q => pf_S pb_u_192 rfl rfl,
  fun L J h Q x => pf_ri pb_u_192 rfl rfl,
  fun L J st h Q => pf_S pb_u_192 rfl rfl,
  fun l0 l1 l2 st h Q x => pf_S pb_u_192 rfl rfl,
  fun l0 l2 st h Q x => pf_S pb_u_192 rfl rfl,
  fun L J st h Q x y => pf_ic pb_u_192 rfl rfl rfl,
  fun l1 l2 st h Q x => pf_S pb_u_192 rfl rfl,
  fun l1 l2 st h Q => pf_S pb_u_192 rfl rfl,
  fun L J st h Q => pf_S pb_u_192 rfl rfl,
  fun l0 l1 st h Q x => pf_S pb_u_192 rfl rfl,
  fun L J st x y h Q => pf_S pb_u_192 rfl rfl,
  fun L J st h Q => pf_S pb_u_192 rfl rfl,
  fun l0 l1 st h Q x => pf_S pb_u_192 rfl rfl,
  fun L J st x y h Q => pf_S pb_u_192 rfl rfl,
  fun L J h Q x0 x1 x2 => pf_kv pb_u_192 rfl pb_ci_162 rfl ⟨Nat.le_of_ble_eq_true rfl, Nat.le_of_ble_eq_true rfl, Nat.le_of_ble_eq_true rfl, Nat.le_of_ble_eq_true rfl, rfl⟩ rfl rfl,
  fun l1 l2 st h Q x => pf_S pb_u_192 rfl rfl,
  fun l1 l2 st h Q => pf_S pb_u_192 rfl rfl,
  fun L J st h Q a => pf_gf pb_u_192 rfl rfl,
  fun L J st h Q => pf_S pb_u_192 rfl rfl,
  fun l0 l1 st h Q x => pf_S pb_u_192 rfl rfl,
  fun L J st x y h Q => pf_S pb_u_192 rfl rfl,
  fun L J st h Q => pf_S pb_u_192 rfl rfl,
  fun L J st h Q a i x => pf_si pb_u_192 rfl rfl,
  fun l0 l1 st h Q x => pf_S pb_u_192 rfl rfl,
  fun L J st h Q => pf_S pb_u_192 rfl rfl,
  fun l1 l2 st h Q x => pf_S pb_u_192 rfl rfl,
  fun l1 l2 st h Q => pf_S pb_u_192 rfl rfl,
  fun l0 l2 st h Q x => pf_S pb_u_192 rfl rfl,
  fun L J st h Q a x => pf_pf pb_u_192 rfl rfl,
  fun l1 l2 st h Q x => pf_S pb_u_192 rfl rfl,
  fun l1 l2 st h Q => pf_S pb_u_192 rfl rfl,
  fun l0 l2 st h Q x => pf_S pb_u_192 rfl rfl,
  fun L J st h Q a x => pf_pf pb_u_192 rfl rfl,
  fun l1 l2 st h Q x => pf_S pb_u_192 rfl rfl,
  fun l1 l2 st h Q => pf_S pb_u_192 rfl rfl,
  fun L J st h Q => pf_S pb_u_192 rfl rfl,
  fun L J st h Q a x => pf_pf pb_u_192 rfl rfl,
  fun l1 l2 st h Q x => pf_S pb_u_192 rfl rfl,
  fun l1 l2 st h Q => pf_S pb_u_192 rfl rfl,
  fun L J st h Q => pf_S pb_u_192 rfl rfl,
  fun L J st h Q a x => pf_pf pb_u_192 rfl rfl,
  fun l1 l2 st h Q x => pf_S pb_u_192 rfl rfl,
  fun l1 l2 st h Q => pf_S pb_u_192 rfl rfl,
  fun L J st h Q => pf_S pb_u_192 rfl rfl,
  fun L J st h Q a x => pf_pf pb_u_192 rfl rfl,
  fun l1 l2 st h Q x => pf_S pb_u_192 rfl rfl,
  fun l1 l2 st h Q => pf_S pb_u_192 rfl rfl,
  fun L J h Q x0 => pf_kv pb_u_192 rfl pb_ci_191 rfl ⟨Nat.le_of_ble_eq_true rfl, Nat.le_of_ble_eq_true rfl, Nat.le_of_ble_eq_true rfl, Nat.le_of_ble_eq_true rfl, rfl⟩ rfl rfl,
  fun l0 l2 st h Q x => pf_S pb_u_192 rfl rfl,
  fun L J h Q x => pf_ri pb_u_192 rfl rfl⟩
theorem pb_c192 (x0 : Nat) (h : pb_H) (Q : Option Value → pb_H → Prop) : pb_call 192 [.ref x0] h Q ↔ pb_R 192 0 [some (.ref x0), none, none] [] [] h Q := Iff.rfl
/-! 193: PlaneBenchModel.numbered()Z -/
theorem pb_u_193 : pb_t 193 = pb_t193 := rfl
theorem pb_ci_193 : pb_ci 193 = 12 := by decide +kernel
set_option maxRecDepth 100000 in
theorem pb_e193 : (∀ (l1 l2 l3 l4 : Option Value) (st : List Value) (h : pb_H) (Q : Option Value → pb_H → Prop) (x : Nat), pb_R 193 0 [some (.ref x), l1, l2, l3, l4] [] st h Q ↔ pb_R 193 1 [some (.ref x), l1, l2, l3, l4] [] (.ref x :: st) h Q) ∧
  (∀ (l1 l2 l3 l4 : Option Value) (st : List Value) (h : pb_H) (Q : Option Value → pb_H → Prop), pb_R 193 0 [some .null, l1, l2, l3, l4] [] st h Q ↔ pb_R 193 1 [some .null, l1, l2, l3, l4] [] (.null :: st) h Q) ∧
  (∀ (L : pb_L) (J : pb_J) (st : List Value) (h : pb_H) (Q : Option Value → pb_H → Prop) (a : Nat), pb_R 193 1 L J (.ref a :: st) h Q ↔ pb_o (pb_gf (h.2 a) 12 16) (fun v => pb_R 193 4 L J (v :: st) h Q)) ∧
  (∀ (l0 l1 l2 l3 l4 : Option Value) (st : List Value) (h : pb_H) (Q : Option Value → pb_H → Prop) (x : Int32), pb_R 193 4 [l0, l1, l2, l3, l4] [] (.int x :: st) h Q ↔ pb_R 193 5 [l0, some (.int x), l2, l3, l4] [] st h Q) ∧
  (∀ (l1 l2 l3 l4 : Option Value) (st : List Value) (h : pb_H) (Q : Option Value → pb_H → Prop) (x : Nat), pb_R 193 5 [some (.ref x), l1, l2, l3, l4] [] st h Q ↔ pb_R 193 6 [some (.ref x), l1, l2, l3, l4] [] (.ref x :: st) h Q) ∧
  (∀ (l1 l2 l3 l4 : Option Value) (st : List Value) (h : pb_H) (Q : Option Value → pb_H → Prop), pb_R 193 5 [some .null, l1, l2, l3, l4] [] st h Q ↔ pb_R 193 6 [some .null, l1, l2, l3, l4] [] (.null :: st) h Q) ∧
  (∀ (L : pb_L) (J : pb_J) (st : List Value) (h : pb_H) (Q : Option Value → pb_H → Prop) (a : Nat), pb_R 193 6 L J (.ref a :: st) h Q ↔ pb_o (pb_gf (h.2 a) 12 17) (fun v => pb_R 193 9 L J (v :: st) h Q)) ∧
  (∀ (l0 l1 l2 l3 l4 : Option Value) (st : List Value) (h : pb_H) (Q : Option Value → pb_H → Prop) (x : Int32), pb_R 193 9 [l0, l1, l2, l3, l4] [] (.int x :: st) h Q ↔ pb_R 193 10 [l0, l1, some (.int x), l3, l4] [] st h Q) ∧
  (∀ (l1 l2 l3 l4 : Option Value) (st : List Value) (h : pb_H) (Q : Option Value → pb_H → Prop) (x : Nat), pb_R 193 10 [some (.ref x), l1, l2, l3, l4] [] st h Q ↔ pb_R 193 11 [some (.ref x), l1, l2, l3, l4] [] (.ref x :: st) h Q) ∧
  (∀ (l1 l2 l3 l4 : Option Value) (st : List Value) (h : pb_H) (Q : Option Value → pb_H → Prop), pb_R 193 10 [some .null, l1, l2, l3, l4] [] st h Q ↔ pb_R 193 11 [some .null, l1, l2, l3, l4] [] (.null :: st) h Q) ∧
  (∀ (L : pb_L) (J : pb_J) (h : pb_H) (Q : Option Value → pb_H → Prop) (x0 : Nat), pb_R 193 11 L J [.ref x0] h Q ↔ pb_is0 (h.2 x0) 12 = true ∧ pb_call 177 [.ref x0] h (fun v t => pb_R 193 14 L J (v.toList ++ []) t Q)) ∧
  (∀ (l1 l2 l3 l4 : Option Value) (st : List Value) (h : pb_H) (Q : Option Value → pb_H → Prop) (x : Nat), pb_R 193 14 [some (.ref x), l1, l2, l3, l4] [] st h Q ↔ pb_R 193 15 [some (.ref x), l1, l2, l3, l4] [] (.ref x :: st) h Q) ∧
  (∀ (l1 l2 l3 l4 : Option Value) (st : List Value) (h : pb_H) (Q : Option Value → pb_H → Prop), pb_R 193 14 [some .null, l1, l2, l3, l4] [] st h Q ↔ pb_R 193 15 [some .null, l1, l2, l3, l4] [] (.null :: st) h Q) ∧
  (∀ (L : pb_L) (J : pb_J) (st : List Value) (h : pb_H) (Q : Option Value → pb_H → Prop), pb_R 193 15 L J st h Q ↔ pb_R 193 17 L J (.int (42 : Int32) :: st) h Q) ∧
  (∀ (L : pb_L) (J : pb_J) (h : pb_H) (Q : Option Value → pb_H → Prop) (x0 : Int32) (x1 : Nat), pb_R 193 17 L J [.int x0, .ref x1] h Q ↔ pb_is0 (h.2 x1) 12 = true ∧ pb_call 178 [.ref x1, .int x0] h (fun v t => pb_R 193 20 L J (v.toList ++ []) t Q)) ∧
  (∀ (L : pb_L) (J : pb_J) (st : List Value) (h : pb_H) (Q : Option Value → pb_H → Prop) (x : Int32), pb_R 193 20 L J (.int x :: st) h Q ↔ if ¬ x = 0 then pb_R 193 91 L J st h Q else pb_R 193 23 L J st h Q) ∧
  (∀ (l1 l2 l3 l4 : Option Value) (st : List Value) (h : pb_H) (Q : Option Value → pb_H → Prop) (x : Nat), pb_R 193 23 [some (.ref x), l1, l2, l3, l4] [] st h Q ↔ pb_R 193 24 [some (.ref x), l1, l2, l3, l4] [] (.ref x :: st) h Q) ∧
  (∀ (l1 l2 l3 l4 : Option Value) (st : List Value) (h : pb_H) (Q : Option Value → pb_H → Prop), pb_R 193 23 [some .null, l1, l2, l3, l4] [] st h Q ↔ pb_R 193 24 [some .null, l1, l2, l3, l4] [] (.null :: st) h Q) ∧
  (∀ (L : pb_L) (J : pb_J) (st : List Value) (h : pb_H) (Q : Option Value → pb_H → Prop), pb_R 193 24 L J st h Q ↔ pb_R 193 26 L J (.int (100 : Int32) :: st) h Q) ∧
  (∀ (L : pb_L) (J : pb_J) (h : pb_H) (Q : Option Value → pb_H → Prop) (x0 : Int32) (x1 : Nat), pb_R 193 26 L J [.int x0, .ref x1] h Q ↔ pb_is0 (h.2 x1) 12 = true ∧ pb_call 178 [.ref x1, .int x0] h (fun v t => pb_R 193 29 L J (v.toList ++ []) t Q)) ∧
  (∀ (L : pb_L) (J : pb_J) (st : List Value) (h : pb_H) (Q : Option Value → pb_H → Prop) (x : Int32), pb_R 193 29 L J (.int x :: st) h Q ↔ if ¬ x = 0 then pb_R 193 91 L J st h Q else pb_R 193 32 L J st h Q) ∧
  (∀ (l1 l2 l3 l4 : Option Value) (st : List Value) (h : pb_H) (Q : Option Value → pb_H → Prop) (x : Nat), pb_R 193 32 [some (.ref x), l1, l2, l3, l4] [] st h Q ↔ pb_R 193 33 [some (.ref x), l1, l2, l3, l4] [] (.ref x :: st) h Q) ∧
  (∀ (l1 l2 l3 l4 : Option Value) (st : List Value) (h : pb_H) (Q : Option Value → pb_H → Prop), pb_R 193 32 [some .null, l1, l2, l3, l4] [] st h Q ↔ pb_R 193 33 [some .null, l1, l2, l3, l4] [] (.null :: st) h Q) ∧
  (∀ (l0 l2 l3 l4 : Option Value) (st : List Value) (h : pb_H) (Q : Option Value → pb_H → Prop) (x : Int32), pb_R 193 33 [l0, some (.int x), l2, l3, l4] [] st h Q ↔ pb_R 193 34 [l0, some (.int x), l2, l3, l4] [] (.int x :: st) h Q) ∧
  (∀ (l0 l1 l3 l4 : Option Value) (st : List Value) (h : pb_H) (Q : Option Value → pb_H → Prop) (x : Int32), pb_R 193 34 [l0, l1, some (.int x), l3, l4] [] st h Q ↔ pb_R 193 35 [l0, l1, some (.int x), l3, l4] [] (.int x :: st) h Q) ∧
  (∀ (L : pb_L) (J : pb_J) (h : pb_H) (Q : Option Value → pb_H → Prop) (x0 : Int32) (x1 : Int32) (x2 : Nat), pb_R 193 35 L J [.int x0, .int x1, .ref x2] h Q ↔ pb_is0 (h.2 x2) 12 = true ∧ pb_call 182 [.ref x2, .int x1, .int x0] h (fun v t => pb_R 193 38 L J (v.toList ++ []) t Q)) ∧
  (∀ (l0 l1 l2 l3 l4 : Option Value) (st : List Value) (h : pb_H) (Q : Option Value → pb_H → Prop) (x : Int32), pb_R 193 38 [l0, l1, l2, l3, l4] [] (.int x :: st) h Q ↔ pb_R 193 39 [l0, l1, l2, some (.int x), l4] [] st h Q) ∧
  (∀ (l0 l1 l2 l4 : Option Value) (st : List Value) (h : pb_H) (Q : Option Value → pb_H → Prop) (x : Int32), pb_R 193 39 [l0, l1, l2, some (.int x), l4] [] st h Q ↔ pb_R 193 40 [l0, l1, l2, some (.int x), l4] [] (.int x :: st) h Q) ∧
  (∀ (L : pb_L) (J : pb_J) (st : List Value) (h : pb_H) (Q : Option Value → pb_H → Prop) (x : Int32), pb_R 193 40 L J (.int x :: st) h Q ↔ if ¬ x = 0 then pb_R 193 50 L J st h Q else pb_R 193 43 L J st h Q) ∧
  (∀ (l1 l2 l3 l4 : Option Value) (st : List Value) (h : pb_H) (Q : Option Value → pb_H → Prop) (x : Nat), pb_R 193 43 [some (.ref x), l1, l2, l3, l4] [] st h Q ↔ pb_R 193 44 [some (.ref x), l1, l2, l3, l4] [] (.ref x :: st) h Q) ∧
  (∀ (l1 l2 l3 l4 : Option Value) (st : List Value) (h : pb_H) (Q : Option Value → pb_H → Prop), pb_R 193 43 [some .null, l1, l2, l3, l4] [] st h Q ↔ pb_R 193 44 [some .null, l1, l2, l3, l4] [] (.null :: st) h Q) ∧
  (∀ (L : pb_L) (J : pb_J) (st : List Value) (h : pb_H) (Q : Option Value → pb_H → Prop), pb_R 193 44 L J st h Q ↔ pb_R 193 45 L J (.int (2 : Int32) :: st) h Q) ∧
  (∀ (l0 l2 l3 l4 : Option Value) (st : List Value) (h : pb_H) (Q : Option Value → pb_H → Prop) (x : Int32), pb_R 193 45 [l0, some (.int x), l2, l3, l4] [] st h Q ↔ pb_R 193 46 [l0, some (.int x), l2, l3, l4] [] (.int x :: st) h Q) ∧
  (∀ (L : pb_L) (J : pb_J) (h : pb_H) (Q : Option Value → pb_H → Prop) (x0 : Int32) (x1 : Int32) (x2 : Nat), pb_R 193 46 L J [.int x0, .int x1, .ref x2] h Q ↔ pb_is0 (h.2 x2) 12 = true ∧ pb_call 183 [.ref x2, .int x1, .int x0] h (fun v t => pb_R 193 49 L J (v.toList ++ []) t Q)) ∧
  (∀ (L : pb_L) (J : pb_J) (h : pb_H) (Q : Option Value → pb_H → Prop) (x : Int32), pb_R 193 49 L J [.int x] h Q ↔ narrow .boolean (.int x) = .int x ∧ Q (some (.int x)) h) ∧
  (∀ (l1 l2 l3 l4 : Option Value) (st : List Value) (h : pb_H) (Q : Option Value → pb_H → Prop) (x : Nat), pb_R 193 50 [some (.ref x), l1, l2, l3, l4] [] st h Q ↔ pb_R 193 51 [some (.ref x), l1, l2, l3, l4] [] (.ref x :: st) h Q) ∧
  (∀ (l1 l2 l3 l4 : Option Value) (st : List Value) (h : pb_H) (Q : Option Value → pb_H → Prop), pb_R 193 50 [some .null, l1, l2, l3, l4] [] st h Q ↔ pb_R 193 51 [some .null, l1, l2, l3, l4] [] (.null :: st) h Q) ∧
  (∀ (L : pb_L) (J : pb_J) (st : List Value) (h : pb_H) (Q : Option Value → pb_H → Prop) (a : Nat), pb_R 193 51 L J (.ref a :: st) h Q ↔ pb_o (pb_gf (h.2 a) 12 20) (fun v => pb_R 193 54 L J (v :: st) h Q)) ∧
  (∀ (L : pb_L) (J : pb_J) (st : List Value) (h : pb_H) (Q : Option Value → pb_H → Prop), pb_R 193 54 L J st h Q ↔ pb_R 193 56 L J (.int (12 : Int32) :: st) h Q) ∧
  (∀ (L : pb_L) (J : pb_J) (st : List Value) (h : pb_H) (Q : Option Value → pb_H → Prop) (x y : Int32), pb_R 193 56 L J (.int y :: .int x :: st) h Q ↔ if ¬ x = y then pb_R 193 66 L J st h Q else pb_R 193 59 L J st h Q) ∧
  (∀ (l1 l2 l3 l4 : Option Value) (st : List Value) (h : pb_H) (Q : Option Value → pb_H → Prop) (x : Nat), pb_R 193 59 [some (.ref x), l1, l2, l3, l4] [] st h Q ↔ pb_R 193 60 [some (.ref x), l1, l2, l3, l4] [] (.ref x :: st) h Q) ∧
  (∀ (l1 l2 l3 l4 : Option Value) (st : List Value) (h : pb_H) (Q : Option Value → pb_H → Prop), pb_R 193 59 [some .null, l1, l2, l3, l4] [] st h Q ↔ pb_R 193 60 [some .null, l1, l2, l3, l4] [] (.null :: st) h Q) ∧
  (∀ (L : pb_L) (J : pb_J) (st : List Value) (h : pb_H) (Q : Option Value → pb_H → Prop), pb_R 193 60 L J st h Q ↔ pb_R 193 61 L J (.int (4 : Int32) :: st) h Q) ∧
  (∀ (l0 l2 l3 l4 : Option Value) (st : List Value) (h : pb_H) (Q : Option Value → pb_H → Prop) (x : Int32), pb_R 193 61 [l0, some (.int x), l2, l3, l4] [] st h Q ↔ pb_R 193 62 [l0, some (.int x), l2, l3, l4] [] (.int x :: st) h Q) ∧
  (∀ (L : pb_L) (J : pb_J) (h : pb_H) (Q : Option Value → pb_H → Prop) (x0 : Int32) (x1 : Int32) (x2 : Nat), pb_R 193 62 L J [.int x0, .int x1, .ref x2] h Q ↔ pb_is0 (h.2 x2) 12 = true ∧ pb_call 183 [.ref x2, .int x1, .int x0] h (fun v t => pb_R 193 65 L J (v.toList ++ []) t Q)) ∧
  (∀ (L : pb_L) (J : pb_J) (h : pb_H) (Q : Option Value → pb_H → Prop) (x : Int32), pb_R 193 65 L J [.int x] h Q ↔ narrow .boolean (.int x) = .int x ∧ Q (some (.int x)) h) ∧
  (∀ (l1 l2 l3 l4 : Option Value) (st : List Value) (h : pb_H) (Q : Option Value → pb_H → Prop) (x : Nat), pb_R 193 66 [some (.ref x), l1, l2, l3, l4] [] st h Q ↔ pb_R 193 67 [some (.ref x), l1, l2, l3, l4] [] (.ref x :: st) h Q) ∧
  (∀ (l1 l2 l3 l4 : Option Value) (st : List Value) (h : pb_H) (Q : Option Value → pb_H → Prop), pb_R 193 66 [some .null, l1, l2, l3, l4] [] st h Q ↔ pb_R 193 67 [some .null, l1, l2, l3, l4] [] (.null :: st) h Q) ∧
  (∀ (l0 l1 l2 l4 : Option Value) (st : List Value) (h : pb_H) (Q : Option Value → pb_H → Prop) (x : Int32), pb_R 193 67 [l0, l1, l2, some (.int x), l4] [] st h Q ↔ pb_R 193 68 [l0, l1, l2, some (.int x), l4] [] (.int x :: st) h Q) ∧
  (∀ (L : pb_L) (J : pb_J) (st : List Value) (h : pb_H) (Q : Option Value → pb_H → Prop), pb_R 193 68 L J st h Q ↔ pb_R 193 71 L J (.int (301 : Int32) :: st) h Q) ∧
  (∀ (l1 l2 l3 l4 : Option Value) (st : List Value) (h : pb_H) (Q : Option Value → pb_H → Prop) (x : Nat), pb_R 193 71 [some (.ref x), l1, l2, l3, l4] [] st h Q ↔ pb_R 193 72 [some (.ref x), l1, l2, l3, l4] [] (.ref x :: st) h Q) ∧
  (∀ (l1 l2 l3 l4 : Option Value) (st : List Value) (h : pb_H) (Q : Option Value → pb_H → Prop), pb_R 193 71 [some .null, l1, l2, l3, l4] [] st h Q ↔ pb_R 193 72 [some .null, l1, l2, l3, l4] [] (.null :: st) h Q) ∧
  (∀ (L : pb_L) (J : pb_J) (st : List Value) (h : pb_H) (Q : Option Value → pb_H → Prop) (a : Nat), pb_R 193 72 L J (.ref a :: st) h Q ↔ pb_o (pb_gf (h.2 a) 12 20) (fun v => pb_R 193 75 L J (v :: st) h Q)) ∧
  (∀ (L : pb_L) (J : pb_J) (st : List Value) (x y : Int32) (h : pb_H) (Q : Option Value → pb_H → Prop), pb_R 193 75 L J (.int y :: .int x :: st) h Q ↔ pb_R 193 76 L J (.int (x + y) :: st) h Q) ∧
  (∀ (L : pb_L) (J : pb_J) (h : pb_H) (Q : Option Value → pb_H → Prop) (x0 : Int32) (x1 : Int32) (x2 : Nat), pb_R 193 76 L J [.int x0, .int x1, .ref x2] h Q ↔ pb_is0 (h.2 x2) 12 = true ∧ pb_call 162 [.ref x2, .int x1, .int x0] h (fun v t => pb_R 193 79 L J (v.toList ++ []) t Q)) ∧
  (∀ (l1 l2 l3 l4 : Option Value) (st : List Value) (h : pb_H) (Q : Option Value → pb_H → Prop) (x : Nat), pb_R 193 79 [some (.ref x), l1, l2, l3, l4] [] st h Q ↔ pb_R 193 80 [some (.ref x), l1, l2, l3, l4] [] (.ref x :: st) h Q) ∧
  (∀ (l1 l2 l3 l4 : Option Value) (st : List Value) (h : pb_H) (Q : Option Value → pb_H → Prop), pb_R 193 79 [some .null, l1, l2, l3, l4] [] st h Q ↔ pb_R 193 80 [some .null, l1, l2, l3, l4] [] (.null :: st) h Q) ∧
  (∀ (L : pb_L) (J : pb_J) (st : List Value) (x : Nat) (h : pb_H) (Q : Option Value → pb_H → Prop), pb_R 193 80 L J (.ref x :: st) h Q ↔ pb_R 193 81 L J (.ref x :: .ref x :: st) h Q) ∧
  (∀ (L : pb_L) (J : pb_J) (st : List Value) (h : pb_H) (Q : Option Value → pb_H → Prop) (a : Nat), pb_R 193 81 L J (.ref a :: st) h Q ↔ pb_o (pb_gf (h.2 a) 12 20) (fun v => pb_R 193 84 L J (v :: st) h Q)) ∧
  (∀ (L : pb_L) (J : pb_J) (st : List Value) (h : pb_H) (Q : Option Value → pb_H → Prop), pb_R 193 84 L J st h Q ↔ pb_R 193 85 L J (.int (1 : Int32) :: st) h Q) ∧
  (∀ (L : pb_L) (J : pb_J) (st : List Value) (x y : Int32) (h : pb_H) (Q : Option Value → pb_H → Prop), pb_R 193 85 L J (.int y :: .int x :: st) h Q ↔ pb_R 193 86 L J (.int (x + y) :: st) h Q) ∧
  (∀ (L : pb_L) (J : pb_J) (st : List Value) (h : pb_H) (Q : Option Value → pb_H → Prop) (a : Nat) (x : Int32), pb_R 193 86 L J (.int x :: .ref a :: st) h Q ↔ pb_o (pb_pf (h.2 a) 12 20 (.int x)) (fun c => pb_R 193 89 L J st (pb_set h a c) Q)) ∧
  (∀ (L : pb_L) (J : pb_J) (st : List Value) (h : pb_H) (Q : Option Value → pb_H → Prop), pb_R 193 89 L J st h Q ↔ pb_R 193 90 L J (.int (1 : Int32) :: st) h Q) ∧
  (∀ (L : pb_L) (J : pb_J) (h : pb_H) (Q : Option Value → pb_H → Prop) (x : Int32), pb_R 193 90 L J [.int x] h Q ↔ narrow .boolean (.int x) = .int x ∧ Q (some (.int x)) h) ∧
  (∀ (L : pb_L) (J : pb_J) (st : List Value) (h : pb_H) (Q : Option Value → pb_H → Prop), pb_R 193 91 L J st h Q ↔ pb_R 193 94 L J (.int (320 : Int32) :: st) h Q) ∧
  (∀ (L : pb_L) (J : pb_J) (st : List Value) (h : pb_H) (Q : Option Value → pb_H → Prop), pb_R 193 94 L J st h Q ↔ pb_R 193 95 L J (.int (3 : Int32) :: st) h Q) ∧
  (∀ (L : pb_L) (J : pb_J) (h : pb_H) (Q : Option Value → pb_H → Prop) (x0 : Int32) (x1 : Int32), pb_R 193 95 L J [.int x0, .int x1] h Q ↔ pb_call 143 [.int x1, .int x0] h (fun v t => pb_R 193 98 L J (v.toList ++ []) t Q)) ∧
  (∀ (l0 l1 l2 l3 l4 : Option Value) (st : List Value) (h : pb_H) (Q : Option Value → pb_H → Prop) (x : Int32), pb_R 193 98 [l0, l1, l2, l3, l4] [] (.int x :: st) h Q ↔ pb_R 193 99 [l0, l1, l2, some (.int x), l4] [] st h Q) ∧
  (∀ (l1 l2 l3 l4 : Option Value) (st : List Value) (h : pb_H) (Q : Option Value → pb_H → Prop) (x : Nat), pb_R 193 99 [some (.ref x), l1, l2, l3, l4] [] st h Q ↔ pb_R 193 100 [some (.ref x), l1, l2, l3, l4] [] (.ref x :: st) h Q) ∧
  (∀ (l1 l2 l3 l4 : Option Value) (st : List Value) (h : pb_H) (Q : Option Value → pb_H → Prop), pb_R 193 99 [some .null, l1, l2, l3, l4] [] st h Q ↔ pb_R 193 100 [some .null, l1, l2, l3, l4] [] (.null :: st) h Q) ∧
  (∀ (l0 l2 l3 l4 : Option Value) (st : List Value) (h : pb_H) (Q : Option Value → pb_H → Prop) (x : Int32), pb_R 193 100 [l0, some (.int x), l2, l3, l4] [] st h Q ↔ pb_R 193 101 [l0, some (.int x), l2, l3, l4] [] (.int x :: st) h Q) ∧
  (∀ (l0 l1 l3 l4 : Option Value) (st : List Value) (h : pb_H) (Q : Option Value → pb_H → Prop) (x : Int32), pb_R 193 101 [l0, l1, some (.int x), l3, l4] [] st h Q ↔ pb_R 193 102 [l0, l1, some (.int x), l3, l4] [] (.int x :: st) h Q) ∧
  (∀ (l0 l1 l2 l4 : Option Value) (st : List Value) (h : pb_H) (Q : Option Value → pb_H → Prop) (x : Int32), pb_R 193 102 [l0, l1, l2, some (.int x), l4] [] st h Q ↔ pb_R 193 103 [l0, l1, l2, some (.int x), l4] [] (.int x :: st) h Q) ∧
  (∀ (L : pb_L) (J : pb_J) (h : pb_H) (Q : Option Value → pb_H → Prop) (x0 : Int32) (x1 : Int32) (x2 : Int32) (x3 : Nat), pb_R 193 103 L J [.int x0, .int x1, .int x2, .ref x3] h Q ↔ pb_is0 (h.2 x3) 12 = true ∧ pb_call 181 [.ref x3, .int x2, .int x1, .int x0] h (fun v t => pb_R 193 106 L J (v.toList ++ []) t Q)) ∧
  (∀ (l1 l2 l3 l4 : Option Value) (st : List Value) (h : pb_H) (Q : Option Value → pb_H → Prop) (x : Nat), pb_R 193 106 [some (.ref x), l1, l2, l3, l4] [] st h Q ↔ pb_R 193 107 [some (.ref x), l1, l2, l3, l4] [] (.ref x :: st) h Q) ∧
  (∀ (l1 l2 l3 l4 : Option Value) (st : List Value) (h : pb_H) (Q : Option Value → pb_H → Prop), pb_R 193 106 [some .null, l1, l2, l3, l4] [] st h Q ↔ pb_R 193 107 [some .null, l1, l2, l3, l4] [] (.null :: st) h Q) ∧
  (∀ (l0 l1 l2 l4 : Option Value) (st : List Value) (h : pb_H) (Q : Option Value → pb_H → Prop) (x : Int32), pb_R 193 107 [l0, l1, l2, some (.int x), l4] [] st h Q ↔ pb_R 193 108 [l0, l1, l2, some (.int x), l4] [] (.int x :: st) h Q) ∧
  (∀ (L : pb_L) (J : pb_J) (h : pb_H) (Q : Option Value → pb_H → Prop) (x0 : Int32) (x1 : Nat), pb_R 193 108 L J [.int x0, .ref x1] h Q ↔ pb_is0 (h.2 x1) 12 = true ∧ pb_call 147 [.ref x1, .int x0] h (fun v t => pb_R 193 111 L J (v.toList ++ []) t Q)) ∧
  (∀ (L : pb_L) (J : pb_J) (st : List Value) (h : pb_H) (Q : Option Value → pb_H → Prop) (x : Int32), pb_R 193 111 L J (.int x :: st) h Q ↔ if x = 0 then pb_R 193 121 L J st h Q else pb_R 193 114 L J st h Q) ∧
  (∀ (l1 l2 l3 l4 : Option Value) (st : List Value) (h : pb_H) (Q : Option Value → pb_H → Prop) (x : Nat), pb_R 193 114 [some (.ref x), l1, l2, l3, l4] [] st h Q ↔ pb_R 193 115 [some (.ref x), l1, l2, l3, l4] [] (.ref x :: st) h Q) ∧
  (∀ (l1 l2 l3 l4 : Option Value) (st : List Value) (h : pb_H) (Q : Option Value → pb_H → Prop), pb_R 193 114 [some .null, l1, l2, l3, l4] [] st h Q ↔ pb_R 193 115 [some .null, l1, l2, l3, l4] [] (.null :: st) h Q) ∧
  (∀ (L : pb_L) (J : pb_J) (st : List Value) (h : pb_H) (Q : Option Value → pb_H → Prop), pb_R 193 115 L J st h Q ↔ pb_R 193 116 L J (.int (3 : Int32) :: st) h Q) ∧
  (∀ (l0 l2 l3 l4 : Option Value) (st : List Value) (h : pb_H) (Q : Option Value → pb_H → Prop) (x : Int32), pb_R 193 116 [l0, some (.int x), l2, l3, l4] [] st h Q ↔ pb_R 193 117 [l0, some (.int x), l2, l3, l4] [] (.int x :: st) h Q) ∧
  (∀ (L : pb_L) (J : pb_J) (h : pb_H) (Q : Option Value → pb_H → Prop) (x0 : Int32) (x1 : Int32) (x2 : Nat), pb_R 193 117 L J [.int x0, .int x1, .ref x2] h Q ↔ pb_is0 (h.2 x2) 12 = true ∧ pb_call 183 [.ref x2, .int x1, .int x0] h (fun v t => pb_R 193 120 L J (v.toList ++ []) t Q)) ∧
  (∀ (L : pb_L) (J : pb_J) (h : pb_H) (Q : Option Value → pb_H → Prop) (x : Int32), pb_R 193 120 L J [.int x] h Q ↔ narrow .boolean (.int x) = .int x ∧ Q (some (.int x)) h) ∧
  (∀ (l1 l2 l3 l4 : Option Value) (st : List Value) (h : pb_H) (Q : Option Value → pb_H → Prop) (x : Nat), pb_R 193 121 [some (.ref x), l1, l2, l3, l4] [] st h Q ↔ pb_R 193 122 [some (.ref x), l1, l2, l3, l4] [] (.ref x :: st) h Q) ∧
  (∀ (l1 l2 l3 l4 : Option Value) (st : List Value) (h : pb_H) (Q : Option Value → pb_H → Prop), pb_R 193 121 [some .null, l1, l2, l3, l4] [] st h Q ↔ pb_R 193 122 [some .null, l1, l2, l3, l4] [] (.null :: st) h Q) ∧
  (∀ (L : pb_L) (J : pb_J) (st : List Value) (h : pb_H) (Q : Option Value → pb_H → Prop) (a : Nat), pb_R 193 122 L J (.ref a :: st) h Q ↔ pb_o (pb_gf (h.2 a) 12 20) (fun v => pb_R 193 125 L J (v :: st) h Q)) ∧
  (∀ (L : pb_L) (J : pb_J) (st : List Value) (h : pb_H) (Q : Option Value → pb_H → Prop) (x : Int32), pb_R 193 125 L J (.int x :: st) h Q ↔ if ¬ x = 0 then pb_R 193 138 L J st h Q else pb_R 193 128 L J st h Q) ∧
  (∀ (l1 l2 l3 l4 : Option Value) (st : List Value) (h : pb_H) (Q : Option Value → pb_H → Prop) (x : Nat), pb_R 193 128 [some (.ref x), l1, l2, l3, l4] [] st h Q ↔ pb_R 193 129 [some (.ref x), l1, l2, l3, l4] [] (.ref x :: st) h Q) ∧
  (∀ (l1 l2 l3 l4 : Option Value) (st : List Value) (h : pb_H) (Q : Option Value → pb_H → Prop), pb_R 193 128 [some .null, l1, l2, l3, l4] [] st h Q ↔ pb_R 193 129 [some .null, l1, l2, l3, l4] [] (.null :: st) h Q) ∧
  (∀ (L : pb_L) (J : pb_J) (st : List Value) (h : pb_H) (Q : Option Value → pb_H → Prop), pb_R 193 129 L J st h Q ↔ pb_R 193 130 L J (.int (4 : Int32) :: st) h Q) ∧
  (∀ (l1 l2 l3 l4 : Option Value) (st : List Value) (h : pb_H) (Q : Option Value → pb_H → Prop) (x : Nat), pb_R 193 130 [some (.ref x), l1, l2, l3, l4] [] st h Q ↔ pb_R 193 131 [some (.ref x), l1, l2, l3, l4] [] (.ref x :: st) h Q) ∧
  (∀ (l1 l2 l3 l4 : Option Value) (st : List Value) (h : pb_H) (Q : Option Value → pb_H → Prop), pb_R 193 130 [some .null, l1, l2, l3, l4] [] st h Q ↔ pb_R 193 131 [some .null, l1, l2, l3, l4] [] (.null :: st) h Q) ∧
  (∀ (L : pb_L) (J : pb_J) (st : List Value) (h : pb_H) (Q : Option Value → pb_H → Prop) (a : Nat), pb_R 193 131 L J (.ref a :: st) h Q ↔ pb_o (pb_gf (h.2 a) 12 16) (fun v => pb_R 193 134 L J (v :: st) h Q)) ∧
  (∀ (L : pb_L) (J : pb_J) (h : pb_H) (Q : Option Value → pb_H → Prop) (x0 : Int32) (x1 : Int32) (x2 : Nat), pb_R 193 134 L J [.int x0, .int x1, .ref x2] h Q ↔ pb_is0 (h.2 x2) 12 = true ∧ pb_call 183 [.ref x2, .int x1, .int x0] h (fun v t => pb_R 193 137 L J (v.toList ++ []) t Q)) ∧
  (∀ (L : pb_L) (J : pb_J) (h : pb_H) (Q : Option Value → pb_H → Prop) (x : Int32), pb_R 193 137 L J [.int x] h Q ↔ narrow .boolean (.int x) = .int x ∧ Q (some (.int x)) h) ∧
  (∀ (L : pb_L) (J : pb_J) (st : List Value) (h : pb_H) (Q : Option Value → pb_H → Prop), pb_R 193 138 L J st h Q ↔ pb_R 193 141 L J (.int (301 : Int32) :: st) h Q) ∧
  (∀ (l1 l2 l3 l4 : Option Value) (st : List Value) (h : pb_H) (Q : Option Value → pb_H → Prop) (x : Nat), pb_R 193 141 [some (.ref x), l1, l2, l3, l4] [] st h Q ↔ pb_R 193 142 [some (.ref x), l1, l2, l3, l4] [] (.ref x :: st) h Q) ∧
  (∀ (l1 l2 l3 l4 : Option Value) (st : List Value) (h : pb_H) (Q : Option Value → pb_H → Prop), pb_R 193 141 [some .null, l1, l2, l3, l4] [] st h Q ↔ pb_R 193 142 [some .null, l1, l2, l3, l4] [] (.null :: st) h Q) ∧
  (∀ (L : pb_L) (J : pb_J) (st : List Value) (h : pb_H) (Q : Option Value → pb_H → Prop) (a : Nat), pb_R 193 142 L J (.ref a :: st) h Q ↔ pb_o (pb_gf (h.2 a) 12 20) (fun v => pb_R 193 145 L J (v :: st) h Q)) ∧
  (∀ (L : pb_L) (J : pb_J) (st : List Value) (x y : Int32) (h : pb_H) (Q : Option Value → pb_H → Prop), pb_R 193 145 L J (.int y :: .int x :: st) h Q ↔ pb_R 193 146 L J (.int (x + y) :: st) h Q) ∧
  (∀ (L : pb_L) (J : pb_J) (st : List Value) (h : pb_H) (Q : Option Value → pb_H → Prop), pb_R 193 146 L J st h Q ↔ pb_R 193 147 L J (.int (1 : Int32) :: st) h Q) ∧
  (∀ (L : pb_L) (J : pb_J) (st : List Value) (x y : Int32) (h : pb_H) (Q : Option Value → pb_H → Prop), pb_R 193 147 L J (.int y :: .int x :: st) h Q ↔ pb_R 193 148 L J (.int (x - y) :: st) h Q) ∧
  (∀ (l0 l1 l2 l3 l4 : Option Value) (st : List Value) (h : pb_H) (Q : Option Value → pb_H → Prop) (x : Int32), pb_R 193 148 [l0, l1, l2, l3, l4] [] (.int x :: st) h Q ↔ pb_R 193 150 [l0, l1, l2, l3, some (.int x)] [] st h Q) ∧
  (∀ (l1 l2 l3 l4 : Option Value) (st : List Value) (h : pb_H) (Q : Option Value → pb_H → Prop) (x : Nat), pb_R 193 150 [some (.ref x), l1, l2, l3, l4] [] st h Q ↔ pb_R 193 151 [some (.ref x), l1, l2, l3, l4] [] (.ref x :: st) h Q) ∧
  (∀ (l1 l2 l3 l4 : Option Value) (st : List Value) (h : pb_H) (Q : Option Value → pb_H → Prop), pb_R 193 150 [some .null, l1, l2, l3, l4] [] st h Q ↔ pb_R 193 151 [some .null, l1, l2, l3, l4] [] (.null :: st) h Q) ∧
  (∀ (L : pb_L) (J : pb_J) (st : List Value) (h : pb_H) (Q : Option Value → pb_H → Prop), pb_R 193 151 L J st h Q ↔ pb_R 193 153 L J (.int (100 : Int32) :: st) h Q) ∧
  (∀ (L : pb_L) (J : pb_J) (h : pb_H) (Q : Option Value → pb_H → Prop) (x0 : Int32) (x1 : Nat), pb_R 193 153 L J [.int x0, .ref x1] h Q ↔ pb_is0 (h.2 x1) 12 = true ∧ pb_call 178 [.ref x1, .int x0] h (fun v t => pb_R 193 156 L J (v.toList ++ []) t Q)) ∧
  (∀ (L : pb_L) (J : pb_J) (st : List Value) (h : pb_H) (Q : Option Value → pb_H → Prop) (x : Int32), pb_R 193 156 L J (.int x :: st) h Q ↔ if x = 0 then pb_R 193 169 L J st h Q else pb_R 193 159 L J st h Q) ∧
  (∀ (l1 l2 l3 l4 : Option Value) (st : List Value) (h : pb_H) (Q : Option Value → pb_H → Prop) (x : Nat), pb_R 193 159 [some (.ref x), l1, l2, l3, l4] [] st h Q ↔ pb_R 193 160 [some (.ref x), l1, l2, l3, l4] [] (.ref x :: st) h Q) ∧
  (∀ (l1 l2 l3 l4 : Option Value) (st : List Value) (h : pb_H) (Q : Option Value → pb_H → Prop), pb_R 193 159 [some .null, l1, l2, l3, l4] [] st h Q ↔ pb_R 193 160 [some .null, l1, l2, l3, l4] [] (.null :: st) h Q) ∧
  (∀ (l0 l1 l2 l3 : Option Value) (st : List Value) (h : pb_H) (Q : Option Value → pb_H → Prop) (x : Int32), pb_R 193 160 [l0, l1, l2, l3, some (.int x)] [] st h Q ↔ pb_R 193 162 [l0, l1, l2, l3, some (.int x)] [] (.int x :: st) h Q) ∧
  (∀ (l0 l1 l2 l4 : Option Value) (st : List Value) (h : pb_H) (Q : Option Value → pb_H → Prop) (x : Int32), pb_R 193 162 [l0, l1, l2, some (.int x), l4] [] st h Q ↔ pb_R 193 163 [l0, l1, l2, some (.int x), l4] [] (.int x :: st) h Q) ∧
  (∀ (L : pb_L) (J : pb_J) (h : pb_H) (Q : Option Value → pb_H → Prop) (x0 : Int32) (x1 : Int32) (x2 : Nat), pb_R 193 163 L J [.int x0, .int x1, .ref x2] h Q ↔ pb_is0 (h.2 x2) 12 = true ∧ pb_call 167 [.ref x2, .int x1, .int x0] h (fun v t => pb_R 193 166 L J (v.toList ++ []) t Q)) ∧
  (∀ (L : pb_L) (J : pb_J) (st : List Value) (h : pb_H) (Q : Option Value → pb_H → Prop), pb_R 193 166 L J st h Q ↔ pb_R 193 189 L J st h Q) ∧
  (∀ (l1 l2 l3 l4 : Option Value) (st : List Value) (h : pb_H) (Q : Option Value → pb_H → Prop) (x : Nat), pb_R 193 169 [some (.ref x), l1, l2, l3, l4] [] st h Q ↔ pb_R 193 170 [some (.ref x), l1, l2, l3, l4] [] (.ref x :: st) h Q) ∧
  (∀ (l1 l2 l3 l4 : Option Value) (st : List Value) (h : pb_H) (Q : Option Value → pb_H → Prop), pb_R 193 169 [some .null, l1, l2, l3, l4] [] st h Q ↔ pb_R 193 170 [some .null, l1, l2, l3, l4] [] (.null :: st) h Q) ∧
  (∀ (l0 l1 l2 l3 : Option Value) (st : List Value) (h : pb_H) (Q : Option Value → pb_H → Prop) (x : Int32), pb_R 193 170 [l0, l1, l2, l3, some (.int x)] [] st h Q ↔ pb_R 193 172 [l0, l1, l2, l3, some (.int x)] [] (.int x :: st) h Q) ∧
  (∀ (l0 l1 l2 l4 : Option Value) (st : List Value) (h : pb_H) (Q : Option Value → pb_H → Prop) (x : Int32), pb_R 193 172 [l0, l1, l2, some (.int x), l4] [] st h Q ↔ pb_R 193 173 [l0, l1, l2, some (.int x), l4] [] (.int x :: st) h Q) ∧
  (∀ (L : pb_L) (J : pb_J) (h : pb_H) (Q : Option Value → pb_H → Prop) (x0 : Int32) (x1 : Int32) (x2 : Nat), pb_R 193 173 L J [.int x0, .int x1, .ref x2] h Q ↔ pb_is0 (h.2 x2) 12 = true ∧ pb_call 166 [.ref x2, .int x1, .int x0] h (fun v t => pb_R 193 176 L J (v.toList ++ []) t Q)) ∧
  (∀ (L : pb_L) (J : pb_J) (st : List Value) (h : pb_H) (Q : Option Value → pb_H → Prop) (x : Int32), pb_R 193 176 L J (.int x :: st) h Q ↔ if ¬ x = 0 then pb_R 193 189 L J st h Q else pb_R 193 179 L J st h Q) ∧
  (∀ (l1 l2 l3 l4 : Option Value) (st : List Value) (h : pb_H) (Q : Option Value → pb_H → Prop) (x : Nat), pb_R 193 179 [some (.ref x), l1, l2, l3, l4] [] st h Q ↔ pb_R 193 180 [some (.ref x), l1, l2, l3, l4] [] (.ref x :: st) h Q) ∧
  (∀ (l1 l2 l3 l4 : Option Value) (st : List Value) (h : pb_H) (Q : Option Value → pb_H → Prop), pb_R 193 179 [some .null, l1, l2, l3, l4] [] st h Q ↔ pb_R 193 180 [some .null, l1, l2, l3, l4] [] (.null :: st) h Q) ∧
  (∀ (L : pb_L) (J : pb_J) (st : List Value) (h : pb_H) (Q : Option Value → pb_H → Prop), pb_R 193 180 L J st h Q ↔ pb_R 193 181 L J (.int (5 : Int32) :: st) h Q) ∧
  (∀ (l1 l2 l3 l4 : Option Value) (st : List Value) (h : pb_H) (Q : Option Value → pb_H → Prop) (x : Nat), pb_R 193 181 [some (.ref x), l1, l2, l3, l4] [] st h Q ↔ pb_R 193 182 [some (.ref x), l1, l2, l3, l4] [] (.ref x :: st) h Q) ∧
  (∀ (l1 l2 l3 l4 : Option Value) (st : List Value) (h : pb_H) (Q : Option Value → pb_H → Prop), pb_R 193 181 [some .null, l1, l2, l3, l4] [] st h Q ↔ pb_R 193 182 [some .null, l1, l2, l3, l4] [] (.null :: st) h Q) ∧
  (∀ (L : pb_L) (J : pb_J) (st : List Value) (h : pb_H) (Q : Option Value → pb_H → Prop) (a : Nat), pb_R 193 182 L J (.ref a :: st) h Q ↔ pb_o (pb_gf (h.2 a) 12 16) (fun v => pb_R 193 185 L J (v :: st) h Q)) ∧
  (∀ (L : pb_L) (J : pb_J) (h : pb_H) (Q : Option Value → pb_H → Prop) (x0 : Int32) (x1 : Int32) (x2 : Nat), pb_R 193 185 L J [.int x0, .int x1, .ref x2] h Q ↔ pb_is0 (h.2 x2) 12 = true ∧ pb_call 183 [.ref x2, .int x1, .int x0] h (fun v t => pb_R 193 188 L J (v.toList ++ []) t Q)) ∧
  (∀ (L : pb_L) (J : pb_J) (h : pb_H) (Q : Option Value → pb_H → Prop) (x : Int32), pb_R 193 188 L J [.int x] h Q ↔ narrow .boolean (.int x) = .int x ∧ Q (some (.int x)) h) ∧
  (∀ (l1 l2 l3 l4 : Option Value) (st : List Value) (h : pb_H) (Q : Option Value → pb_H → Prop) (x : Nat), pb_R 193 189 [some (.ref x), l1, l2, l3, l4] [] st h Q ↔ pb_R 193 190 [some (.ref x), l1, l2, l3, l4] [] (.ref x :: st) h Q) ∧
  (∀ (l1 l2 l3 l4 : Option Value) (st : List Value) (h : pb_H) (Q : Option Value → pb_H → Prop), pb_R 193 189 [some .null, l1, l2, l3, l4] [] st h Q ↔ pb_R 193 190 [some .null, l1, l2, l3, l4] [] (.null :: st) h Q) ∧
  (∀ (L : pb_L) (J : pb_J) (h : pb_H) (Q : Option Value → pb_H → Prop) (x0 : Nat), pb_R 193 190 L J [.ref x0] h Q ↔ pb_is0 (h.2 x0) 12 = true ∧ pb_call 177 [.ref x0] h (fun v t => pb_R 193 193 L J (v.toList ++ []) t Q)) ∧
  (∀ (L : pb_L) (J : pb_J) (st : List Value) (h : pb_H) (Q : Option Value → pb_H → Prop), pb_R 193 193 L J st h Q ↔ pb_R 193 194 L J (.int (1 : Int32) :: st) h Q) ∧
  (∀ (L : pb_L) (J : pb_J) (h : pb_H) (Q : Option Value → pb_H → Prop) (x : Int32), pb_R 193 194 L J [.int x] h Q ↔ narrow .boolean (.int x) = .int x ∧ Q (some (.int x)) h) := ⟨
  fun l1 l2 l3 l4 st h Q x => pf_S pb_u_193 rfl rfl,
  fun l1 l2 l3 l4 st h Q => pf_S pb_u_193 rfl rfl,
  fun L J st h Q a => pf_gf pb_u_193 rfl rfl,
  fun l0 l1 l2 l3 l4 st h Q x => pf_S pb_u_193 rfl rfl,
  fun l1 l2 l3 l4 st h Q x => pf_S pb_u_193 rfl rfl,
  fun l1 l2 l3 l4 st h Q => pf_S pb_u_193 rfl rfl,
  fun L J st h Q a => pf_gf pb_u_193 rfl rfl,
  fun l0 l1 l2 l3 l4 st h Q x => pf_S pb_u_193 rfl rfl,
  fun l1 l2 l3 l4 st h Q x => pf_S pb_u_193 rfl rfl,
  fun l1 l2 l3 l4 st h Q => pf_S pb_u_193 rfl rfl,
  fun L J h Q x0 => pf_kv pb_u_193 rfl pb_ci_177 rfl ⟨Nat.le_of_ble_eq_true rfl, Nat.le_of_ble_eq_true rfl, Nat.le_of_ble_eq_true rfl, Nat.le_of_ble_eq_true rfl, rfl⟩ rfl rfl,
  fun l1 l2 l3 l4 st h Q x => pf_S pb_u_193 rfl rfl,
  fun l1 l2 l3 l4 st h Q => pf_S pb_u_193 rfl rfl,
  fun L J st h Q => pf_S pb_u_193 rfl rfl,
  fun L J h Q x0 x1 => pf_kv pb_u_193 rfl pb_ci_178 rfl ⟨Nat.le_of_ble_eq_true rfl, Nat.le_of_ble_eq_true rfl, Nat.le_of_ble_eq_true rfl, Nat.le_of_ble_eq_true rfl, rfl⟩ rfl rfl,
  fun L J st h Q x => pf_ii pb_u_193 rfl rfl pf_ne,
  fun l1 l2 l3 l4 st h Q x => pf_S pb_u_193 rfl rfl,
  fun l1 l2 l3 l4 st h Q => pf_S pb_u_193 rfl rfl,
  fun L J st h Q => pf_S pb_u_193 rfl rfl,
  fun L J h Q x0 x1 => pf_kv pb_u_193 rfl pb_ci_178 rfl ⟨Nat.le_of_ble_eq_true rfl, Nat.le_of_ble_eq_true rfl, Nat.le_of_ble_eq_true rfl, Nat.le_of_ble_eq_true rfl, rfl⟩ rfl rfl,
  fun L J st h Q x => pf_ii pb_u_193 rfl rfl pf_ne,
  fun l1 l2 l3 l4 st h Q x => pf_S pb_u_193 rfl rfl,
  fun l1 l2 l3 l4 st h Q => pf_S pb_u_193 rfl rfl,
  fun l0 l2 l3 l4 st h Q x => pf_S pb_u_193 rfl rfl,
  fun l0 l1 l3 l4 st h Q x => pf_S pb_u_193 rfl rfl,
  fun L J h Q x0 x1 x2 => pf_kv pb_u_193 rfl pb_ci_182 rfl ⟨Nat.le_of_ble_eq_true rfl, Nat.le_of_ble_eq_true rfl, Nat.le_of_ble_eq_true rfl, Nat.le_of_ble_eq_true rfl, rfl⟩ rfl rfl,
  fun l0 l1 l2 l3 l4 st h Q x => pf_S pb_u_193 rfl rfl,
  fun l0 l1 l2 l4 st h Q x => pf_S pb_u_193 rfl rfl,
  fun L J st h Q x => pf_ii pb_u_193 rfl rfl pf_ne,
  fun l1 l2 l3 l4 st h Q x => pf_S pb_u_193 rfl rfl,
  fun l1 l2 l3 l4 st h Q => pf_S pb_u_193 rfl rfl,
  fun L J st h Q => pf_S pb_u_193 rfl rfl,
  fun l0 l2 l3 l4 st h Q x => pf_S pb_u_193 rfl rfl,
  fun L J h Q x0 x1 x2 => pf_kv pb_u_193 rfl pb_ci_183 rfl ⟨Nat.le_of_ble_eq_true rfl, Nat.le_of_ble_eq_true rfl, Nat.le_of_ble_eq_true rfl, Nat.le_of_ble_eq_true rfl, rfl⟩ rfl rfl,
  fun L J h Q x => pf_rz pb_u_193 rfl rfl,
  fun l1 l2 l3 l4 st h Q x => pf_S pb_u_193 rfl rfl,
  fun l1 l2 l3 l4 st h Q => pf_S pb_u_193 rfl rfl,
  fun L J st h Q a => pf_gf pb_u_193 rfl rfl,
  fun L J st h Q => pf_S pb_u_193 rfl rfl,
  fun L J st h Q x y => pf_ic pb_u_193 rfl rfl pf_ne,
  fun l1 l2 l3 l4 st h Q x => pf_S pb_u_193 rfl rfl,
  fun l1 l2 l3 l4 st h Q => pf_S pb_u_193 rfl rfl,
  fun L J st h Q => pf_S pb_u_193 rfl rfl,
  fun l0 l2 l3 l4 st h Q x => pf_S pb_u_193 rfl rfl,
  fun L J h Q x0 x1 x2 => pf_kv pb_u_193 rfl pb_ci_183 rfl ⟨Nat.le_of_ble_eq_true rfl, Nat.le_of_ble_eq_true rfl, Nat.le_of_ble_eq_true rfl, Nat.le_of_ble_eq_true rfl, rfl⟩ rfl rfl,
  fun L J h Q x => pf_rz pb_u_193 rfl rfl,
  fun l1 l2 l3 l4 st h Q x => pf_S pb_u_193 rfl rfl,
  fun l1 l2 l3 l4 st h Q => pf_S pb_u_193 rfl rfl,
  fun l0 l1 l2 l4 st h Q x => pf_S pb_u_193 rfl rfl,
  fun L J st h Q => pf_S pb_u_193 rfl rfl,
  fun l1 l2 l3 l4 st h Q x => pf_S pb_u_193 rfl rfl,
  fun l1 l2 l3 l4 st h Q => pf_S pb_u_193 rfl rfl,
  fun L J st h Q a => pf_gf pb_u_193 rfl rfl,
  fun L J st x y h Q => pf_S pb_u_193 rfl rfl,
  fun L J h Q x0 x1 x2 => pf_kv pb_u_193 rfl pb_ci_162 rfl ⟨Nat.le_of_ble_eq_true rfl, Nat.le_of_ble_eq_true rfl, Nat.le_of_ble_eq_true rfl, Nat.le_of_ble_eq_true rfl, rfl⟩ rfl rfl,
  fun l1 l2 l3 l4 st h Q x => pf_S pb_u_193 rfl rfl,
  fun l1 l2 l3 l4 st h Q => pf_S pb_u_193 rfl rfl,
  fun L J st x h Q => pf_S pb_u_193 rfl rfl,
  fun L J st h Q a => pf_gf pb_u_193 rfl rfl,
  fun L J st h Q => pf_S pb_u_193 rfl rfl,
  fun L J st x y h Q => pf_S pb_u_193 rfl rfl,
  fun L J st h Q a x => pf_pf pb_u_193 rfl rfl,
  fun L J st h Q => pf_S pb_u_193 rfl rfl,
  fun L J h Q x => pf_rz pb_u_193 rfl rfl,
  fun L J st h Q => pf_S pb_u_193 rfl rfl,
  fun L J st h Q => pf_S pb_u_193 rfl rfl,
  fun L J h Q x0 x1 => pf_ks pb_u_193 rfl rfl rfl rfl,
  fun l0 l1 l2 l3 l4 st h Q x => pf_S pb_u_193 rfl rfl,
  fun l1 l2 l3 l4 st h Q x => pf_S pb_u_193 rfl rfl,
  fun l1 l2 l3 l4 st h Q => pf_S pb_u_193 rfl rfl,
  fun l0 l2 l3 l4 st h Q x => pf_S pb_u_193 rfl rfl,
  fun l0 l1 l3 l4 st h Q x => pf_S pb_u_193 rfl rfl,
  fun l0 l1 l2 l4 st h Q x => pf_S pb_u_193 rfl rfl,
  fun L J h Q x0 x1 x2 x3 => pf_kv pb_u_193 rfl pb_ci_181 rfl ⟨Nat.le_of_ble_eq_true rfl, Nat.le_of_ble_eq_true rfl, Nat.le_of_ble_eq_true rfl, Nat.le_of_ble_eq_true rfl, rfl⟩ rfl rfl,
  fun l1 l2 l3 l4 st h Q x => pf_S pb_u_193 rfl rfl,
  fun l1 l2 l3 l4 st h Q => pf_S pb_u_193 rfl rfl,
  fun l0 l1 l2 l4 st h Q x => pf_S pb_u_193 rfl rfl,
  fun L J h Q x0 x1 => pf_kv pb_u_193 rfl pb_ci_147 rfl ⟨Nat.le_of_ble_eq_true rfl, Nat.le_of_ble_eq_true rfl, Nat.le_of_ble_eq_true rfl, Nat.le_of_ble_eq_true rfl, rfl⟩ rfl rfl,
  fun L J st h Q x => pf_ii pb_u_193 rfl rfl rfl,
  fun l1 l2 l3 l4 st h Q x => pf_S pb_u_193 rfl rfl,
  fun l1 l2 l3 l4 st h Q => pf_S pb_u_193 rfl rfl,
  fun L J st h Q => pf_S pb_u_193 rfl rfl,
  fun l0 l2 l3 l4 st h Q x => pf_S pb_u_193 rfl rfl,
  fun L J h Q x0 x1 x2 => pf_kv pb_u_193 rfl pb_ci_183 rfl ⟨Nat.le_of_ble_eq_true rfl, Nat.le_of_ble_eq_true rfl, Nat.le_of_ble_eq_true rfl, Nat.le_of_ble_eq_true rfl, rfl⟩ rfl rfl,
  fun L J h Q x => pf_rz pb_u_193 rfl rfl,
  fun l1 l2 l3 l4 st h Q x => pf_S pb_u_193 rfl rfl,
  fun l1 l2 l3 l4 st h Q => pf_S pb_u_193 rfl rfl,
  fun L J st h Q a => pf_gf pb_u_193 rfl rfl,
  fun L J st h Q x => pf_ii pb_u_193 rfl rfl pf_ne,
  fun l1 l2 l3 l4 st h Q x => pf_S pb_u_193 rfl rfl,
  fun l1 l2 l3 l4 st h Q => pf_S pb_u_193 rfl rfl,
  fun L J st h Q => pf_S pb_u_193 rfl rfl,
  fun l1 l2 l3 l4 st h Q x => pf_S pb_u_193 rfl rfl,
  fun l1 l2 l3 l4 st h Q => pf_S pb_u_193 rfl rfl,
  fun L J st h Q a => pf_gf pb_u_193 rfl rfl,
  fun L J h Q x0 x1 x2 => pf_kv pb_u_193 rfl pb_ci_183 rfl ⟨Nat.le_of_ble_eq_true rfl, Nat.le_of_ble_eq_true rfl, Nat.le_of_ble_eq_true rfl, Nat.le_of_ble_eq_true rfl, rfl⟩ rfl rfl,
  fun L J h Q x => pf_rz pb_u_193 rfl rfl,
  fun L J st h Q => pf_S pb_u_193 rfl rfl,
  fun l1 l2 l3 l4 st h Q x => pf_S pb_u_193 rfl rfl,
  fun l1 l2 l3 l4 st h Q => pf_S pb_u_193 rfl rfl,
  fun L J st h Q a => pf_gf pb_u_193 rfl rfl,
  fun L J st x y h Q => pf_S pb_u_193 rfl rfl,
  fun L J st h Q => pf_S pb_u_193 rfl rfl,
  fun L J st x y h Q => pf_S pb_u_193 rfl rfl,
  fun l0 l1 l2 l3 l4 st h Q x => pf_S pb_u_193 rfl rfl,
  fun l1 l2 l3 l4 st h Q x => pf_S pb_u_193 rfl rfl,
  fun l1 l2 l3 l4 st h Q => pf_S pb_u_193 rfl rfl,
  fun L J st h Q => pf_S pb_u_193 rfl rfl,
  fun L J h Q x0 x1 => pf_kv pb_u_193 rfl pb_ci_178 rfl ⟨Nat.le_of_ble_eq_true rfl, Nat.le_of_ble_eq_true rfl, Nat.le_of_ble_eq_true rfl, Nat.le_of_ble_eq_true rfl, rfl⟩ rfl rfl,
  fun L J st h Q x => pf_ii pb_u_193 rfl rfl rfl,
  fun l1 l2 l3 l4 st h Q x => pf_S pb_u_193 rfl rfl,
  fun l1 l2 l3 l4 st h Q => pf_S pb_u_193 rfl rfl,
  fun l0 l1 l2 l3 st h Q x => pf_S pb_u_193 rfl rfl,
  fun l0 l1 l2 l4 st h Q x => pf_S pb_u_193 rfl rfl,
  fun L J h Q x0 x1 x2 => pf_kv pb_u_193 rfl pb_ci_167 rfl ⟨Nat.le_of_ble_eq_true rfl, Nat.le_of_ble_eq_true rfl, Nat.le_of_ble_eq_true rfl, Nat.le_of_ble_eq_true rfl, rfl⟩ rfl rfl,
  fun L J st h Q => pf_S pb_u_193 rfl rfl,
  fun l1 l2 l3 l4 st h Q x => pf_S pb_u_193 rfl rfl,
  fun l1 l2 l3 l4 st h Q => pf_S pb_u_193 rfl rfl,
  fun l0 l1 l2 l3 st h Q x => pf_S pb_u_193 rfl rfl,
  fun l0 l1 l2 l4 st h Q x => pf_S pb_u_193 rfl rfl,
  fun L J h Q x0 x1 x2 => pf_kv pb_u_193 rfl pb_ci_166 rfl ⟨Nat.le_of_ble_eq_true rfl, Nat.le_of_ble_eq_true rfl, Nat.le_of_ble_eq_true rfl, Nat.le_of_ble_eq_true rfl, rfl⟩ rfl rfl,
  fun L J st h Q x => pf_ii pb_u_193 rfl rfl pf_ne,
  fun l1 l2 l3 l4 st h Q x => pf_S pb_u_193 rfl rfl,
  fun l1 l2 l3 l4 st h Q => pf_S pb_u_193 rfl rfl,
  fun L J st h Q => pf_S pb_u_193 rfl rfl,
  fun l1 l2 l3 l4 st h Q x => pf_S pb_u_193 rfl rfl,
  fun l1 l2 l3 l4 st h Q => pf_S pb_u_193 rfl rfl,
  fun L J st h Q a => pf_gf pb_u_193 rfl rfl,
  fun L J h Q x0 x1 x2 => pf_kv pb_u_193 rfl pb_ci_183 rfl ⟨Nat.le_of_ble_eq_true rfl, Nat.le_of_ble_eq_true rfl, Nat.le_of_ble_eq_true rfl, Nat.le_of_ble_eq_true rfl, rfl⟩ rfl rfl,
  fun L J h Q x => pf_rz pb_u_193 rfl rfl,
  fun l1 l2 l3 l4 st h Q x => pf_S pb_u_193 rfl rfl,
  fun l1 l2 l3 l4 st h Q => pf_S pb_u_193 rfl rfl,
  fun L J h Q x0 => pf_kv pb_u_193 rfl pb_ci_177 rfl ⟨Nat.le_of_ble_eq_true rfl, Nat.le_of_ble_eq_true rfl, Nat.le_of_ble_eq_true rfl, Nat.le_of_ble_eq_true rfl, rfl⟩ rfl rfl,
  fun L J st h Q => pf_S pb_u_193 rfl rfl,
  fun L J h Q x => pf_rz pb_u_193 rfl rfl⟩
theorem pb_c193 (x0 : Nat) (h : pb_H) (Q : Option Value → pb_H → Prop) : pb_call 193 [.ref x0] h Q ↔ pb_R 193 0 [some (.ref x0), none, none, none, none] [] [] h Q := Iff.rfl
/-! 194: PlaneBenchModel.lettered()Z -/
theorem pb_u_194 : pb_t 194 = pb_t194 := rfl
theorem pb_ci_194 : pb_ci 194 = 12 := by decide +kernel
set_option maxRecDepth 100000 in
theorem pb_e194 : (∀ (l1 l2 l3 l4 : Option Value) (st : List Value) (h : pb_H) (Q : Option Value → pb_H → Prop) (x : Nat), pb_R 194 0 [some (.ref x), l1, l2, l3, l4] [] st h Q ↔ pb_R 194 1 [some (.ref x), l1, l2, l3, l4] [] (.ref x :: st) h Q) ∧
  (∀ (l1 l2 l3 l4 : Option Value) (st : List Value) (h : pb_H) (Q : Option Value → pb_H → Prop), pb_R 194 0 [some .null, l1, l2, l3, l4] [] st h Q ↔ pb_R 194 1 [some .null, l1, l2, l3, l4] [] (.null :: st) h Q) ∧
  (∀ (L : pb_L) (J : pb_J) (h : pb_H) (Q : Option Value → pb_H → Prop) (x0 : Nat), pb_R 194 1 L J [.ref x0] h Q ↔ pb_is0 (h.2 x0) 12 = true ∧ pb_call 179 [.ref x0] h (fun v t => pb_R 194 4 L J (v.toList ++ []) t Q)) ∧
  (∀ (l0 l1 l2 l3 l4 : Option Value) (st : List Value) (h : pb_H) (Q : Option Value → pb_H → Prop) (x : Int32), pb_R 194 4 [l0, l1, l2, l3, l4] [] (.int x :: st) h Q ↔ pb_R 194 5 [l0, some (.int x), l2, l3, l4] [] st h Q) ∧
  (∀ (l1 l2 l3 l4 : Option Value) (st : List Value) (h : pb_H) (Q : Option Value → pb_H → Prop) (x : Nat), pb_R 194 5 [some (.ref x), l1, l2, l3, l4] [] st h Q ↔ pb_R 194 6 [some (.ref x), l1, l2, l3, l4] [] (.ref x :: st) h Q) ∧
  (∀ (l1 l2 l3 l4 : Option Value) (st : List Value) (h : pb_H) (Q : Option Value → pb_H → Prop), pb_R 194 5 [some .null, l1, l2, l3, l4] [] st h Q ↔ pb_R 194 6 [some .null, l1, l2, l3, l4] [] (.null :: st) h Q) ∧
  (∀ (L : pb_L) (J : pb_J) (st : List Value) (h : pb_H) (Q : Option Value → pb_H → Prop) (a : Nat), pb_R 194 6 L J (.ref a :: st) h Q ↔ pb_o (pb_gf (h.2 a) 12 16) (fun v => pb_R 194 9 L J (v :: st) h Q)) ∧
  (∀ (l0 l1 l2 l3 l4 : Option Value) (st : List Value) (h : pb_H) (Q : Option Value → pb_H → Prop) (x : Int32), pb_R 194 9 [l0, l1, l2, l3, l4] [] (.int x :: st) h Q ↔ pb_R 194 10 [l0, l1, some (.int x), l3, l4] [] st h Q) ∧
  (∀ (l1 l2 l3 l4 : Option Value) (st : List Value) (h : pb_H) (Q : Option Value → pb_H → Prop) (x : Nat), pb_R 194 10 [some (.ref x), l1, l2, l3, l4] [] st h Q ↔ pb_R 194 11 [some (.ref x), l1, l2, l3, l4] [] (.ref x :: st) h Q) ∧
  (∀ (l1 l2 l3 l4 : Option Value) (st : List Value) (h : pb_H) (Q : Option Value → pb_H → Prop), pb_R 194 10 [some .null, l1, l2, l3, l4] [] st h Q ↔ pb_R 194 11 [some .null, l1, l2, l3, l4] [] (.null :: st) h Q) ∧
  (∀ (l0 l2 l3 l4 : Option Value) (st : List Value) (h : pb_H) (Q : Option Value → pb_H → Prop) (x : Int32), pb_R 194 11 [l0, some (.int x), l2, l3, l4] [] st h Q ↔ pb_R 194 12 [l0, some (.int x), l2, l3, l4] [] (.int x :: st) h Q) ∧
  (∀ (L : pb_L) (J : pb_J) (h : pb_H) (Q : Option Value → pb_H → Prop) (x0 : Int32) (x1 : Nat), pb_R 194 12 L J [.int x0, .ref x1] h Q ↔ pb_is0 (h.2 x1) 12 = true ∧ pb_call 180 [.ref x1, .int x0] h (fun v t => pb_R 194 15 L J (v.toList ++ []) t Q)) ∧
  (∀ (L : pb_L) (J : pb_J) (st : List Value) (h : pb_H) (Q : Option Value → pb_H → Prop) (x : Int32), pb_R 194 15 L J (.int x :: st) h Q ↔ if ¬ x = 0 then pb_R 194 25 L J st h Q else pb_R 194 18 L J st h Q) ∧
  (∀ (l1 l2 l3 l4 : Option Value) (st : List Value) (h : pb_H) (Q : Option Value → pb_H → Prop) (x : Nat), pb_R 194 18 [some (.ref x), l1, l2, l3, l4] [] st h Q ↔ pb_R 194 19 [some (.ref x), l1, l2, l3, l4] [] (.ref x :: st) h Q) ∧
  (∀ (l1 l2 l3 l4 : Option Value) (st : List Value) (h : pb_H) (Q : Option Value → pb_H → Prop), pb_R 194 18 [some .null, l1, l2, l3, l4] [] st h Q ↔ pb_R 194 19 [some .null, l1, l2, l3, l4] [] (.null :: st) h Q) ∧
  (∀ (L : pb_L) (J : pb_J) (st : List Value) (h : pb_H) (Q : Option Value → pb_H → Prop), pb_R 194 19 L J st h Q ↔ pb_R 194 20 L J (.int (2 : Int32) :: st) h Q) ∧
  (∀ (l0 l1 l3 l4 : Option Value) (st : List Value) (h : pb_H) (Q : Option Value → pb_H → Prop) (x : Int32), pb_R 194 20 [l0, l1, some (.int x), l3, l4] [] st h Q ↔ pb_R 194 21 [l0, l1, some (.int x), l3, l4] [] (.int x :: st) h Q) ∧
  (∀ (L : pb_L) (J : pb_J) (h : pb_H) (Q : Option Value → pb_H → Prop) (x0 : Int32) (x1 : Int32) (x2 : Nat), pb_R 194 21 L J [.int x0, .int x1, .ref x2] h Q ↔ pb_is0 (h.2 x2) 12 = true ∧ pb_call 183 [.ref x2, .int x1, .int x0] h (fun v t => pb_R 194 24 L J (v.toList ++ []) t Q)) ∧
  (∀ (L : pb_L) (J : pb_J) (h : pb_H) (Q : Option Value → pb_H → Prop) (x : Int32), pb_R 194 24 L J [.int x] h Q ↔ narrow .boolean (.int x) = .int x ∧ Q (some (.int x)) h) ∧
  (∀ (l0 l2 l3 l4 : Option Value) (st : List Value) (h : pb_H) (Q : Option Value → pb_H → Prop) (x : Int32), pb_R 194 25 [l0, some (.int x), l2, l3, l4] [] st h Q ↔ pb_R 194 26 [l0, some (.int x), l2, l3, l4] [] (.int x :: st) h Q) ∧
  (∀ (L : pb_L) (J : pb_J) (st : List Value) (h : pb_H) (Q : Option Value → pb_H → Prop) (x : Int32), pb_R 194 26 L J (.int x :: st) h Q ↔ if 0 ≤ x then pb_R 194 34 L J st h Q else pb_R 194 29 L J st h Q) ∧
  (∀ (l0 l2 l3 l4 : Option Value) (st : List Value) (h : pb_H) (Q : Option Value → pb_H → Prop) (x : Int32), pb_R 194 29 [l0, some (.int x), l2, l3, l4] [] st h Q ↔ pb_R 194 30 [l0, some (.int x), l2, l3, l4] [] (.int x :: st) h Q) ∧
  (∀ (L : pb_L) (J : pb_J) (st : List Value) (x : Int32) (h : pb_H) (Q : Option Value → pb_H → Prop), pb_R 194 30 L J (.int x :: st) h Q ↔ pb_R 194 31 L J (.int (-x) :: st) h Q) ∧
  (∀ (L : pb_L) (J : pb_J) (st : List Value) (h : pb_H) (Q : Option Value → pb_H → Prop), pb_R 194 31 L J st h Q ↔ pb_R 194 35 L J st h Q) ∧
  (∀ (l0 l2 l3 l4 : Option Value) (st : List Value) (h : pb_H) (Q : Option Value → pb_H → Prop) (x : Int32), pb_R 194 34 [l0, some (.int x), l2, l3, l4] [] st h Q ↔ pb_R 194 35 [l0, some (.int x), l2, l3, l4] [] (.int x :: st) h Q) ∧
  (∀ (l0 l1 l2 l3 l4 : Option Value) (st : List Value) (h : pb_H) (Q : Option Value → pb_H → Prop) (x : Int32), pb_R 194 35 [l0, l1, l2, l3, l4] [] (.int x :: st) h Q ↔ pb_R 194 36 [l0, l1, l2, some (.int x), l4] [] st h Q) ∧
  (∀ (l1 l2 l3 l4 : Option Value) (st : List Value) (h : pb_H) (Q : Option Value → pb_H → Prop) (x : Nat), pb_R 194 36 [some (.ref x), l1, l2, l3, l4] [] st h Q ↔ pb_R 194 37 [some (.ref x), l1, l2, l3, l4] [] (.ref x :: st) h Q) ∧
  (∀ (l1 l2 l3 l4 : Option Value) (st : List Value) (h : pb_H) (Q : Option Value → pb_H → Prop), pb_R 194 36 [some .null, l1, l2, l3, l4] [] st h Q ↔ pb_R 194 37 [some .null, l1, l2, l3, l4] [] (.null :: st) h Q) ∧
  (∀ (L : pb_L) (J : pb_J) (h : pb_H) (Q : Option Value → pb_H → Prop) (x0 : Nat), pb_R 194 37 L J [.ref x0] h Q ↔ pb_is0 (h.2 x0) 12 = true ∧ pb_call 177 [.ref x0] h (fun v t => pb_R 194 40 L J (v.toList ++ []) t Q)) ∧
  (∀ (l1 l2 l3 l4 : Option Value) (st : List Value) (h : pb_H) (Q : Option Value → pb_H → Prop) (x : Nat), pb_R 194 40 [some (.ref x), l1, l2, l3, l4] [] st h Q ↔ pb_R 194 41 [some (.ref x), l1, l2, l3, l4] [] (.ref x :: st) h Q) ∧
  (∀ (l1 l2 l3 l4 : Option Value) (st : List Value) (h : pb_H) (Q : Option Value → pb_H → Prop), pb_R 194 40 [some .null, l1, l2, l3, l4] [] st h Q ↔ pb_R 194 41 [some .null, l1, l2, l3, l4] [] (.null :: st) h Q) ∧
  (∀ (L : pb_L) (J : pb_J) (st : List Value) (h : pb_H) (Q : Option Value → pb_H → Prop), pb_R 194 41 L J st h Q ↔ pb_R 194 43 L J (.int (119 : Int32) :: st) h Q) ∧
  (∀ (L : pb_L) (J : pb_J) (h : pb_H) (Q : Option Value → pb_H → Prop) (x0 : Int32) (x1 : Nat), pb_R 194 43 L J [.int x0, .ref x1] h Q ↔ pb_is0 (h.2 x1) 12 = true ∧ pb_call 178 [.ref x1, .int x0] h (fun v t => pb_R 194 46 L J (v.toList ++ []) t Q)) ∧
  (∀ (L : pb_L) (J : pb_J) (st : List Value) (h : pb_H) (Q : Option Value → pb_H → Prop) (x : Int32), pb_R 194 46 L J (.int x :: st) h Q ↔ if x = 0 then pb_R 194 87 L J st h Q else pb_R 194 49 L J st h Q) ∧
  (∀ (l1 l2 l3 l4 : Option Value) (st : List Value) (h : pb_H) (Q : Option Value → pb_H → Prop) (x : Nat), pb_R 194 49 [some (.ref x), l1, l2, l3, l4] [] st h Q ↔ pb_R 194 50 [some (.ref x), l1, l2, l3, l4] [] (.ref x :: st) h Q) ∧
  (∀ (l1 l2 l3 l4 : Option Value) (st : List Value) (h : pb_H) (Q : Option Value → pb_H → Prop), pb_R 194 49 [some .null, l1, l2, l3, l4] [] st h Q ↔ pb_R 194 50 [some .null, l1, l2, l3, l4] [] (.null :: st) h Q) ∧
  (∀ (L : pb_L) (J : pb_J) (st : List Value) (h : pb_H) (Q : Option Value → pb_H → Prop) (a : Nat), pb_R 194 50 L J (.ref a :: st) h Q ↔ pb_o (pb_gf (h.2 a) 12 20) (fun v => pb_R 194 53 L J (v :: st) h Q)) ∧
  (∀ (L : pb_L) (J : pb_J) (st : List Value) (h : pb_H) (Q : Option Value → pb_H → Prop) (x : Int32), pb_R 194 53 L J (.int x :: st) h Q ↔ if ¬ x = 0 then pb_R 194 66 L J st h Q else pb_R 194 56 L J st h Q) ∧
  (∀ (l1 l2 l3 l4 : Option Value) (st : List Value) (h : pb_H) (Q : Option Value → pb_H → Prop) (x : Nat), pb_R 194 56 [some (.ref x), l1, l2, l3, l4] [] st h Q ↔ pb_R 194 57 [some (.ref x), l1, l2, l3, l4] [] (.ref x :: st) h Q) ∧
  (∀ (l1 l2 l3 l4 : Option Value) (st : List Value) (h : pb_H) (Q : Option Value → pb_H → Prop), pb_R 194 56 [some .null, l1, l2, l3, l4] [] st h Q ↔ pb_R 194 57 [some .null, l1, l2, l3, l4] [] (.null :: st) h Q) ∧
  (∀ (L : pb_L) (J : pb_J) (st : List Value) (h : pb_H) (Q : Option Value → pb_H → Prop), pb_R 194 57 L J st h Q ↔ pb_R 194 58 L J (.int (4 : Int32) :: st) h Q) ∧
  (∀ (l1 l2 l3 l4 : Option Value) (st : List Value) (h : pb_H) (Q : Option Value → pb_H → Prop) (x : Nat), pb_R 194 58 [some (.ref x), l1, l2, l3, l4] [] st h Q ↔ pb_R 194 59 [some (.ref x), l1, l2, l3, l4] [] (.ref x :: st) h Q) ∧
  (∀ (l1 l2 l3 l4 : Option Value) (st : List Value) (h : pb_H) (Q : Option Value → pb_H → Prop), pb_R 194 58 [some .null, l1, l2, l3, l4] [] st h Q ↔ pb_R 194 59 [some .null, l1, l2, l3, l4] [] (.null :: st) h Q) ∧
  (∀ (L : pb_L) (J : pb_J) (st : List Value) (h : pb_H) (Q : Option Value → pb_H → Prop) (a : Nat), pb_R 194 59 L J (.ref a :: st) h Q ↔ pb_o (pb_gf (h.2 a) 12 16) (fun v => pb_R 194 62 L J (v :: st) h Q)) ∧
  (∀ (L : pb_L) (J : pb_J) (h : pb_H) (Q : Option Value → pb_H → Prop) (x0 : Int32) (x1 : Int32) (x2 : Nat), pb_R 194 62 L J [.int x0, .int x1, .ref x2] h Q ↔ pb_is0 (h.2 x2) 12 = true ∧ pb_call 183 [.ref x2, .int x1, .int x0] h (fun v t => pb_R 194 65 L J (v.toList ++ []) t Q)) ∧
  (∀ (L : pb_L) (J : pb_J) (h : pb_H) (Q : Option Value → pb_H → Prop) (x : Int32), pb_R 194 65 L J [.int x] h Q ↔ narrow .boolean (.int x) = .int x ∧ Q (some (.int x)) h) ∧
  (∀ (l1 l2 l3 l4 : Option Value) (st : List Value) (h : pb_H) (Q : Option Value → pb_H → Prop) (x : Nat), pb_R 194 66 [some (.ref x), l1, l2, l3, l4] [] st h Q ↔ pb_R 194 67 [some (.ref x), l1, l2, l3, l4] [] (.ref x :: st) h Q) ∧
  (∀ (l1 l2 l3 l4 : Option Value) (st : List Value) (h : pb_H) (Q : Option Value → pb_H → Prop), pb_R 194 66 [some .null, l1, l2, l3, l4] [] st h Q ↔ pb_R 194 67 [some .null, l1, l2, l3, l4] [] (.null :: st) h Q) ∧
  (∀ (L : pb_L) (J : pb_J) (st : List Value) (h : pb_H) (Q : Option Value → pb_H → Prop), pb_R 194 67 L J st h Q ↔ pb_R 194 70 L J (.int (301 : Int32) :: st) h Q) ∧
  (∀ (l1 l2 l3 l4 : Option Value) (st : List Value) (h : pb_H) (Q : Option Value → pb_H → Prop) (x : Nat), pb_R 194 70 [some (.ref x), l1, l2, l3, l4] [] st h Q ↔ pb_R 194 71 [some (.ref x), l1, l2, l3, l4] [] (.ref x :: st) h Q) ∧
  (∀ (l1 l2 l3 l4 : Option Value) (st : List Value) (h : pb_H) (Q : Option Value → pb_H → Prop), pb_R 194 70 [some .null, l1, l2, l3, l4] [] st h Q ↔ pb_R 194 71 [some .null, l1, l2, l3, l4] [] (.null :: st) h Q) ∧
  (∀ (L : pb_L) (J : pb_J) (st : List Value) (h : pb_H) (Q : Option Value → pb_H → Prop) (a : Nat), pb_R 194 71 L J (.ref a :: st) h Q ↔ pb_o (pb_gf (h.2 a) 12 20) (fun v => pb_R 194 74 L J (v :: st) h Q)) ∧
  (∀ (L : pb_L) (J : pb_J) (st : List Value) (x y : Int32) (h : pb_H) (Q : Option Value → pb_H → Prop), pb_R 194 74 L J (.int y :: .int x :: st) h Q ↔ pb_R 194 75 L J (.int (x + y) :: st) h Q) ∧
  (∀ (L : pb_L) (J : pb_J) (st : List Value) (h : pb_H) (Q : Option Value → pb_H → Prop), pb_R 194 75 L J st h Q ↔ pb_R 194 76 L J (.int (1 : Int32) :: st) h Q) ∧
  (∀ (L : pb_L) (J : pb_J) (st : List Value) (x y : Int32) (h : pb_H) (Q : Option Value → pb_H → Prop), pb_R 194 76 L J (.int y :: .int x :: st) h Q ↔ pb_R 194 77 L J (.int (x - y) :: st) h Q) ∧
  (∀ (l0 l1 l2 l4 : Option Value) (st : List Value) (h : pb_H) (Q : Option Value → pb_H → Prop) (x : Int32), pb_R 194 77 [l0, l1, l2, some (.int x), l4] [] st h Q ↔ pb_R 194 78 [l0, l1, l2, some (.int x), l4] [] (.int x :: st) h Q) ∧
  (∀ (L : pb_L) (J : pb_J) (h : pb_H) (Q : Option Value → pb_H → Prop) (x0 : Int32) (x1 : Int32) (x2 : Nat), pb_R 194 78 L J [.int x0, .int x1, .ref x2] h Q ↔ pb_is0 (h.2 x2) 12 = true ∧ pb_call 169 [.ref x2, .int x1, .int x0] h (fun v t => pb_R 194 81 L J (v.toList ++ []) t Q)) ∧
  (∀ (l1 l2 l3 l4 : Option Value) (st : List Value) (h : pb_H) (Q : Option Value → pb_H → Prop) (x : Nat), pb_R 194 81 [some (.ref x), l1, l2, l3, l4] [] st h Q ↔ pb_R 194 82 [some (.ref x), l1, l2, l3, l4] [] (.ref x :: st) h Q) ∧
  (∀ (l1 l2 l3 l4 : Option Value) (st : List Value) (h : pb_H) (Q : Option Value → pb_H → Prop), pb_R 194 81 [some .null, l1, l2, l3, l4] [] st h Q ↔ pb_R 194 82 [some .null, l1, l2, l3, l4] [] (.null :: st) h Q) ∧
  (∀ (L : pb_L) (J : pb_J) (h : pb_H) (Q : Option Value → pb_H → Prop) (x0 : Nat), pb_R 194 82 L J [.ref x0] h Q ↔ pb_is0 (h.2 x0) 12 = true ∧ pb_call 177 [.ref x0] h (fun v t => pb_R 194 85 L J (v.toList ++ []) t Q)) ∧
  (∀ (L : pb_L) (J : pb_J) (st : List Value) (h : pb_H) (Q : Option Value → pb_H → Prop), pb_R 194 85 L J st h Q ↔ pb_R 194 86 L J (.int (1 : Int32) :: st) h Q) ∧
  (∀ (L : pb_L) (J : pb_J) (h : pb_H) (Q : Option Value → pb_H → Prop) (x : Int32), pb_R 194 86 L J [.int x] h Q ↔ narrow .boolean (.int x) = .int x ∧ Q (some (.int x)) h) ∧
  (∀ (l1 l2 l3 l4 : Option Value) (st : List Value) (h : pb_H) (Q : Option Value → pb_H → Prop) (x : Nat), pb_R 194 87 [some (.ref x), l1, l2, l3, l4] [] st h Q ↔ pb_R 194 88 [some (.ref x), l1, l2, l3, l4] [] (.ref x :: st) h Q) ∧
  (∀ (l1 l2 l3 l4 : Option Value) (st : List Value) (h : pb_H) (Q : Option Value → pb_H → Prop), pb_R 194 87 [some .null, l1, l2, l3, l4] [] st h Q ↔ pb_R 194 88 [some .null, l1, l2, l3, l4] [] (.null :: st) h Q) ∧
  (∀ (L : pb_L) (J : pb_J) (st : List Value) (h : pb_H) (Q : Option Value → pb_H → Prop) (a : Nat), pb_R 194 88 L J (.ref a :: st) h Q ↔ pb_o (pb_gf (h.2 a) 12 20) (fun v => pb_R 194 91 L J (v :: st) h Q)) ∧
  (∀ (L : pb_L) (J : pb_J) (st : List Value) (h : pb_H) (Q : Option Value → pb_H → Prop), pb_R 194 91 L J st h Q ↔ pb_R 194 93 L J (.int (12 : Int32) :: st) h Q) ∧
  (∀ (L : pb_L) (J : pb_J) (st : List Value) (h : pb_H) (Q : Option Value → pb_H → Prop) (x y : Int32), pb_R 194 93 L J (.int y :: .int x :: st) h Q ↔ if ¬ x = y then pb_R 194 103 L J st h Q else pb_R 194 96 L J st h Q) ∧
  (∀ (l1 l2 l3 l4 : Option Value) (st : List Value) (h : pb_H) (Q : Option Value → pb_H → Prop) (x : Nat), pb_R 194 96 [some (.ref x), l1, l2, l3, l4] [] st h Q ↔ pb_R 194 97 [some (.ref x), l1, l2, l3, l4] [] (.ref x :: st) h Q) ∧
  (∀ (l1 l2 l3 l4 : Option Value) (st : List Value) (h : pb_H) (Q : Option Value → pb_H → Prop), pb_R 194 96 [some .null, l1, l2, l3, l4] [] st h Q ↔ pb_R 194 97 [some .null, l1, l2, l3, l4] [] (.null :: st) h Q) ∧
  (∀ (L : pb_L) (J : pb_J) (st : List Value) (h : pb_H) (Q : Option Value → pb_H → Prop), pb_R 194 97 L J st h Q ↔ pb_R 194 98 L J (.int (4 : Int32) :: st) h Q) ∧
  (∀ (l0 l1 l3 l4 : Option Value) (st : List Value) (h : pb_H) (Q : Option Value → pb_H → Prop) (x : Int32), pb_R 194 98 [l0, l1, some (.int x), l3, l4] [] st h Q ↔ pb_R 194 99 [l0, l1, some (.int x), l3, l4] [] (.int x :: st) h Q) ∧
  (∀ (L : pb_L) (J : pb_J) (h : pb_H) (Q : Option Value → pb_H → Prop) (x0 : Int32) (x1 : Int32) (x2 : Nat), pb_R 194 99 L J [.int x0, .int x1, .ref x2] h Q ↔ pb_is0 (h.2 x2) 12 = true ∧ pb_call 183 [.ref x2, .int x1, .int x0] h (fun v t => pb_R 194 102 L J (v.toList ++ []) t Q)) ∧
  (∀ (L : pb_L) (J : pb_J) (h : pb_H) (Q : Option Value → pb_H → Prop) (x : Int32), pb_R 194 102 L J [.int x] h Q ↔ narrow .boolean (.int x) = .int x ∧ Q (some (.int x)) h) ∧
  (∀ (L : pb_L) (J : pb_J) (st : List Value) (h : pb_H) (Q : Option Value → pb_H → Prop), pb_R 194 103 L J st h Q ↔ pb_R 194 106 L J (.int (301 : Int32) :: st) h Q) ∧
  (∀ (l1 l2 l3 l4 : Option Value) (st : List Value) (h : pb_H) (Q : Option Value → pb_H → Prop) (x : Nat), pb_R 194 106 [some (.ref x), l1, l2, l3, l4] [] st h Q ↔ pb_R 194 107 [some (.ref x), l1, l2, l3, l4] [] (.ref x :: st) h Q) ∧
  (∀ (l1 l2 l3 l4 : Option Value) (st : List Value) (h : pb_H) (Q : Option Value → pb_H → Prop), pb_R 194 106 [some .null, l1, l2, l3, l4] [] st h Q ↔ pb_R 194 107 [some .null, l1, l2, l3, l4] [] (.null :: st) h Q) ∧
  (∀ (L : pb_L) (J : pb_J) (st : List Value) (h : pb_H) (Q : Option Value → pb_H → Prop) (a : Nat), pb_R 194 107 L J (.ref a :: st) h Q ↔ pb_o (pb_gf (h.2 a) 12 20) (fun v => pb_R 194 110 L J (v :: st) h Q)) ∧
  (∀ (L : pb_L) (J : pb_J) (st : List Value) (x y : Int32) (h : pb_H) (Q : Option Value → pb_H → Prop), pb_R 194 110 L J (.int y :: .int x :: st) h Q ↔ pb_R 194 111 L J (.int (x + y) :: st) h Q) ∧
  (∀ (l0 l1 l2 l3 l4 : Option Value) (st : List Value) (h : pb_H) (Q : Option Value → pb_H → Prop) (x : Int32), pb_R 194 111 [l0, l1, l2, l3, l4] [] (.int x :: st) h Q ↔ pb_R 194 113 [l0, l1, l2, l3, some (.int x)] [] st h Q) ∧
  (∀ (l1 l2 l3 l4 : Option Value) (st : List Value) (h : pb_H) (Q : Option Value → pb_H → Prop) (x : Nat), pb_R 194 113 [some (.ref x), l1, l2, l3, l4] [] st h Q ↔ pb_R 194 114 [some (.ref x), l1, l2, l3, l4] [] (.ref x :: st) h Q) ∧
  (∀ (l1 l2 l3 l4 : Option Value) (st : List Value) (h : pb_H) (Q : Option Value → pb_H → Prop), pb_R 194 113 [some .null, l1, l2, l3, l4] [] st h Q ↔ pb_R 194 114 [some .null, l1, l2, l3, l4] [] (.null :: st) h Q) ∧
  (∀ (l0 l1 l2 l3 : Option Value) (st : List Value) (h : pb_H) (Q : Option Value → pb_H → Prop) (x : Int32), pb_R 194 114 [l0, l1, l2, l3, some (.int x)] [] st h Q ↔ pb_R 194 116 [l0, l1, l2, l3, some (.int x)] [] (.int x :: st) h Q) ∧
  (∀ (L : pb_L) (J : pb_J) (h : pb_H) (Q : Option Value → pb_H → Prop) (x0 : Int32) (x1 : Nat), pb_R 194 116 L J [.int x0, .ref x1] h Q ↔ pb_is0 (h.2 x1) 12 = true ∧ pb_call 161 [.ref x1, .int x0] h (fun v t => pb_R 194 119 L J (v.toList ++ []) t Q)) ∧
  (∀ (l1 l2 l3 l4 : Option Value) (st : List Value) (h : pb_H) (Q : Option Value → pb_H → Prop) (x : Nat), pb_R 194 119 [some (.ref x), l1, l2, l3, l4] [] st h Q ↔ pb_R 194 120 [some (.ref x), l1, l2, l3, l4] [] (.ref x :: st) h Q) ∧
  (∀ (l1 l2 l3 l4 : Option Value) (st : List Value) (h : pb_H) (Q : Option Value → pb_H → Prop), pb_R 194 119 [some .null, l1, l2, l3, l4] [] st h Q ↔ pb_R 194 120 [some .null, l1, l2, l3, l4] [] (.null :: st) h Q) ∧
  (∀ (L : pb_L) (J : pb_J) (st : List Value) (h : pb_H) (Q : Option Value → pb_H → Prop) (a : Nat), pb_R 194 120 L J (.ref a :: st) h Q ↔ pb_o (pb_gf (h.2 a) 12 1) (fun v => pb_R 194 123 L J (v :: st) h Q)) ∧
  (∀ (l0 l1 l2 l3 : Option Value) (st : List Value) (h : pb_H) (Q : Option Value → pb_H → Prop) (x : Int32), pb_R 194 123 [l0, l1, l2, l3, some (.int x)] [] st h Q ↔ pb_R 194 125 [l0, l1, l2, l3, some (.int x)] [] (.int x :: st) h Q) ∧
  (∀ (L : pb_L) (J : pb_J) (st : List Value) (h : pb_H) (Q : Option Value → pb_H → Prop), pb_R 194 125 L J st h Q ↔ pb_R 194 127 L J (.int (17 : Int32) :: st) h Q) ∧
  (∀ (L : pb_L) (J : pb_J) (st : List Value) (x y : Int32) (h : pb_H) (Q : Option Value → pb_H → Prop), pb_R 194 127 L J (.int y :: .int x :: st) h Q ↔ pb_R 194 128 L J (.int (x * y) :: st) h Q) ∧
  (∀ (l0 l1 l2 l4 : Option Value) (st : List Value) (h : pb_H) (Q : Option Value → pb_H → Prop) (x : Int32), pb_R 194 128 [l0, l1, l2, some (.int x), l4] [] st h Q ↔ pb_R 194 129 [l0, l1, l2, some (.int x), l4] [] (.int x :: st) h Q) ∧
  (∀ (L : pb_L) (J : pb_J) (st : List Value) (x y : Int32) (h : pb_H) (Q : Option Value → pb_H → Prop), pb_R 194 129 L J (.int y :: .int x :: st) h Q ↔ pb_R 194 130 L J (.int (x + y) :: st) h Q) ∧
  (∀ (l0 l2 l3 l4 : Option Value) (st : List Value) (h : pb_H) (Q : Option Value → pb_H → Prop) (x : Int32), pb_R 194 130 [l0, some (.int x), l2, l3, l4] [] st h Q ↔ pb_R 194 131 [l0, some (.int x), l2, l3, l4] [] (.int x :: st) h Q) ∧
  (∀ (L : pb_L) (J : pb_J) (st : List Value) (h : pb_H) (Q : Option Value → pb_H → Prop) (x : Int32), pb_R 194 131 L J (.int x :: st) h Q ↔ if 0 ≤ x then pb_R 194 138 L J st h Q else pb_R 194 134 L J st h Q) ∧
  (∀ (L : pb_L) (J : pb_J) (st : List Value) (h : pb_H) (Q : Option Value → pb_H → Prop), pb_R 194 134 L J st h Q ↔ pb_R 194 135 L J (.int (-1 : Int32) :: st) h Q) ∧
  (∀ (L : pb_L) (J : pb_J) (st : List Value) (h : pb_H) (Q : Option Value → pb_H → Prop), pb_R 194 135 L J st h Q ↔ pb_R 194 139 L J st h Q) ∧
  (∀ (L : pb_L) (J : pb_J) (st : List Value) (h : pb_H) (Q : Option Value → pb_H → Prop), pb_R 194 138 L J st h Q ↔ pb_R 194 139 L J (.int (1 : Int32) :: st) h Q) ∧
  (∀ (L : pb_L) (J : pb_J) (st : List Value) (h : pb_H) (Q : Option Value → pb_H → Prop) (a : Nat) (i x : Int32), pb_R 194 139 L J (.int x :: .int i :: .ref a :: st) h Q ↔ pb_o (pb_si (h.2 a) i x) (fun c => pb_R 194 140 L J st (pb_set h a c) Q)) ∧
  (∀ (l1 l2 l3 l4 : Option Value) (st : List Value) (h : pb_H) (Q : Option Value → pb_H → Prop) (x : Nat), pb_R 194 140 [some (.ref x), l1, l2, l3, l4] [] st h Q ↔ pb_R 194 141 [some (.ref x), l1, l2, l3, l4] [] (.ref x :: st) h Q) ∧
  (∀ (l1 l2 l3 l4 : Option Value) (st : List Value) (h : pb_H) (Q : Option Value → pb_H → Prop), pb_R 194 140 [some .null, l1, l2, l3, l4] [] st h Q ↔ pb_R 194 141 [some .null, l1, l2, l3, l4] [] (.null :: st) h Q) ∧
  (∀ (l0 l1 l2 l3 : Option Value) (st : List Value) (h : pb_H) (Q : Option Value → pb_H → Prop) (x : Int32), pb_R 194 141 [l0, l1, l2, l3, some (.int x)] [] st h Q ↔ pb_R 194 143 [l0, l1, l2, l3, some (.int x)] [] (.int x :: st) h Q) ∧
  (∀ (l0 l1 l2 l4 : Option Value) (st : List Value) (h : pb_H) (Q : Option Value → pb_H → Prop) (x : Int32), pb_R 194 143 [l0, l1, l2, some (.int x), l4] [] st h Q ↔ pb_R 194 144 [l0, l1, l2, some (.int x), l4] [] (.int x :: st) h Q) ∧
  (∀ (L : pb_L) (J : pb_J) (h : pb_H) (Q : Option Value → pb_H → Prop) (x0 : Int32) (x1 : Int32) (x2 : Nat), pb_R 194 144 L J [.int x0, .int x1, .ref x2] h Q ↔ pb_call 143 [.int x1, .int x0] h (fun v t => pb_R 194 147 L J (v.toList ++ [.ref x2]) t Q)) ∧
  (∀ (L : pb_L) (J : pb_J) (st : List Value) (h : pb_H) (Q : Option Value → pb_H → Prop), pb_R 194 147 L J st h Q ↔ pb_R 194 148 L J (.int (1 : Int32) :: st) h Q) ∧
  (∀ (L : pb_L) (J : pb_J) (h : pb_H) (Q : Option Value → pb_H → Prop) (x0 : Int32) (x1 : Int32) (x2 : Nat), pb_R 194 148 L J [.int x0, .int x1, .ref x2] h Q ↔ pb_is0 (h.2 x2) 12 = true ∧ pb_call 145 [.ref x2, .int x1, .int x0] h (fun v t => pb_R 194 151 L J (v.toList ++ []) t Q)) ∧
  (∀ (l1 l2 l3 l4 : Option Value) (st : List Value) (h : pb_H) (Q : Option Value → pb_H → Prop) (x : Nat), pb_R 194 151 [some (.ref x), l1, l2, l3, l4] [] st h Q ↔ pb_R 194 152 [some (.ref x), l1, l2, l3, l4] [] (.ref x :: st) h Q) ∧
  (∀ (l1 l2 l3 l4 : Option Value) (st : List Value) (h : pb_H) (Q : Option Value → pb_H → Prop), pb_R 194 151 [some .null, l1, l2, l3, l4] [] st h Q ↔ pb_R 194 152 [some .null, l1, l2, l3, l4] [] (.null :: st) h Q) ∧
  (∀ (L : pb_L) (J : pb_J) (st : List Value) (x : Nat) (h : pb_H) (Q : Option Value → pb_H → Prop), pb_R 194 152 L J (.ref x :: st) h Q ↔ pb_R 194 153 L J (.ref x :: .ref x :: st) h Q) ∧
  (∀ (L : pb_L) (J : pb_J) (st : List Value) (h : pb_H) (Q : Option Value → pb_H → Prop) (a : Nat), pb_R 194 153 L J (.ref a :: st) h Q ↔ pb_o (pb_gf (h.2 a) 12 20) (fun v => pb_R 194 156 L J (v :: st) h Q)) ∧
  (∀ (L : pb_L) (J : pb_J) (st : List Value) (h : pb_H) (Q : Option Value → pb_H → Prop), pb_R 194 156 L J st h Q ↔ pb_R 194 157 L J (.int (1 : Int32) :: st) h Q) ∧
  (∀ (L : pb_L) (J : pb_J) (st : List Value) (x y : Int32) (h : pb_H) (Q : Option Value → pb_H → Prop), pb_R 194 157 L J (.int y :: .int x :: st) h Q ↔ pb_R 194 158 L J (.int (x + y) :: st) h Q) ∧
  (∀ (L : pb_L) (J : pb_J) (st : List Value) (h : pb_H) (Q : Option Value → pb_H → Prop) (a : Nat) (x : Int32), pb_R 194 158 L J (.int x :: .ref a :: st) h Q ↔ pb_o (pb_pf (h.2 a) 12 20 (.int x)) (fun c => pb_R 194 161 L J st (pb_set h a c) Q)) ∧
  (∀ (L : pb_L) (J : pb_J) (st : List Value) (h : pb_H) (Q : Option Value → pb_H → Prop), pb_R 194 161 L J st h Q ↔ pb_R 194 162 L J (.int (1 : Int32) :: st) h Q) ∧
  (∀ (L : pb_L) (J : pb_J) (h : pb_H) (Q : Option Value → pb_H → Prop) (x : Int32), pb_R 194 162 L J [.int x] h Q ↔ narrow .boolean (.int x) = .int x ∧ Q (some (.int x)) h) := ⟨
  fun l1 l2 l3 l4 st h Q x => pf_S pb_u_194 rfl rfl,
  fun l1 l2 l3 l4 st h Q => pf_S pb_u_194 rfl rfl,
  fun L J h Q x0 => pf_kv pb_u_194 rfl pb_ci_179 rfl ⟨Nat.le_of_ble_eq_true rfl, Nat.le_of_ble_eq_true rfl, Nat.le_of_ble_eq_true rfl, Nat.le_of_ble_eq_true rfl, rfl⟩ rfl rfl,
  fun l0 l1 l2 l3 l4 st h Q x => pf_S pb_u_194 rfl rfl,
  fun l1 l2 l3 l4 st h Q x => pf_S pb_u_194 rfl rfl,
  fun l1 l2 l3 l4 st h Q => pf_S pb_u_194 rfl rfl,
  fun L J st h Q a => pf_gf pb_u_194 rfl rfl,
  fun l0 l1 l2 l3 l4 st h Q x => pf_S pb_u_194 rfl rfl,
  fun l1 l2 l3 l4 st h Q x => pf_S pb_u_194 rfl rfl,
  fun l1 l2 l3 l4 st h Q => pf_S pb_u_194 rfl rfl,
  fun l0 l2 l3 l4 st h Q x => pf_S pb_u_194 rfl rfl,
  fun L J h Q x0 x1 => pf_kv pb_u_194 rfl pb_ci_180 rfl ⟨Nat.le_of_ble_eq_true rfl, Nat.le_of_ble_eq_true rfl, Nat.le_of_ble_eq_true rfl, Nat.le_of_ble_eq_true rfl, rfl⟩ rfl rfl,
  fun L J st h Q x => pf_ii pb_u_194 rfl rfl pf_ne,
  fun l1 l2 l3 l4 st h Q x => pf_S pb_u_194 rfl rfl,
  fun l1 l2 l3 l4 st h Q => pf_S pb_u_194 rfl rfl,
  fun L J st h Q => pf_S pb_u_194 rfl rfl,
  fun l0 l1 l3 l4 st h Q x => pf_S pb_u_194 rfl rfl,
  fun L J h Q x0 x1 x2 => pf_kv pb_u_194 rfl pb_ci_183 rfl ⟨Nat.le_of_ble_eq_true rfl, Nat.le_of_ble_eq_true rfl, Nat.le_of_ble_eq_true rfl, Nat.le_of_ble_eq_true rfl, rfl⟩ rfl rfl,
  fun L J h Q x => pf_rz pb_u_194 rfl rfl,
  fun l0 l2 l3 l4 st h Q x => pf_S pb_u_194 rfl rfl,
  fun L J st h Q x => pf_ii pb_u_194 rfl rfl rfl,
  fun l0 l2 l3 l4 st h Q x => pf_S pb_u_194 rfl rfl,
  fun L J st x h Q => pf_S pb_u_194 rfl rfl,
  fun L J st h Q => pf_S pb_u_194 rfl rfl,
  fun l0 l2 l3 l4 st h Q x => pf_S pb_u_194 rfl rfl,
  fun l0 l1 l2 l3 l4 st h Q x => pf_S pb_u_194 rfl rfl,
  fun l1 l2 l3 l4 st h Q x => pf_S pb_u_194 rfl rfl,
  fun l1 l2 l3 l4 st h Q => pf_S pb_u_194 rfl rfl,
  fun L J h Q x0 => pf_kv pb_u_194 rfl pb_ci_177 rfl ⟨Nat.le_of_ble_eq_true rfl, Nat.le_of_ble_eq_true rfl, Nat.le_of_ble_eq_true rfl, Nat.le_of_ble_eq_true rfl, rfl⟩ rfl rfl,
  fun l1 l2 l3 l4 st h Q x => pf_S pb_u_194 rfl rfl,
  fun l1 l2 l3 l4 st h Q => pf_S pb_u_194 rfl rfl,
  fun L J st h Q => pf_S pb_u_194 rfl rfl,
  fun L J h Q x0 x1 => pf_kv pb_u_194 rfl pb_ci_178 rfl ⟨Nat.le_of_ble_eq_true rfl, Nat.le_of_ble_eq_true rfl, Nat.le_of_ble_eq_true rfl, Nat.le_of_ble_eq_true rfl, rfl⟩ rfl rfl,
  fun L J st h Q x => pf_ii pb_u_194 rfl rfl rfl,
  fun l1 l2 l3 l4 st h Q x => pf_S pb_u_194 rfl rfl,
  fun l1 l2 l3 l4 st h Q => pf_S pb_u_194 rfl rfl,
  fun L J st h Q a => pf_gf pb_u_194 rfl rfl,
  fun L J st h Q x => pf_ii pb_u_194 rfl rfl pf_ne,
  fun l1 l2 l3 l4 st h Q x => pf_S pb_u_194 rfl rfl,
  fun l1 l2 l3 l4 st h Q => pf_S pb_u_194 rfl rfl,
  fun L J st h Q => pf_S pb_u_194 rfl rfl,
  fun l1 l2 l3 l4 st h Q x => pf_S pb_u_194 rfl rfl,
  fun l1 l2 l3 l4 st h Q => pf_S pb_u_194 rfl rfl,
  fun L J st h Q a => pf_gf pb_u_194 rfl rfl,
  fun L J h Q x0 x1 x2 => pf_kv pb_u_194 rfl pb_ci_183 rfl ⟨Nat.le_of_ble_eq_true rfl, Nat.le_of_ble_eq_true rfl, Nat.le_of_ble_eq_true rfl, Nat.le_of_ble_eq_true rfl, rfl⟩ rfl rfl,
  fun L J h Q x => pf_rz pb_u_194 rfl rfl,
  fun l1 l2 l3 l4 st h Q x => pf_S pb_u_194 rfl rfl,
  fun l1 l2 l3 l4 st h Q => pf_S pb_u_194 rfl rfl,
  fun L J st h Q => pf_S pb_u_194 rfl rfl,
  fun l1 l2 l3 l4 st h Q x => pf_S pb_u_194 rfl rfl,
  fun l1 l2 l3 l4 st h Q => pf_S pb_u_194 rfl rfl,
  fun L J st h Q a => pf_gf pb_u_194 rfl rfl,
  fun L J st x y h Q => pf_S pb_u_194 rfl rfl,
  fun L J st h Q => pf_S pb_u_194 rfl rfl,
  fun L J st x y h Q => pf_S pb_u_194 rfl rfl,
  fun l0 l1 l2 l4 st h Q x => pf_S pb_u_194 rfl rfl,
  fun L J h Q x0 x1 x2 => pf_kv pb_u_194 rfl pb_ci_169 rfl ⟨Nat.le_of_ble_eq_true rfl, Nat.le_of_ble_eq_true rfl, Nat.le_of_ble_eq_true rfl, Nat.le_of_ble_eq_true rfl, rfl⟩ rfl rfl,
  fun l1 l2 l3 l4 st h Q x => pf_S pb_u_194 rfl rfl,
  fun l1 l2 l3 l4 st h Q => pf_S pb_u_194 rfl rfl,
  fun L J h Q x0 => pf_kv pb_u_194 rfl pb_ci_177 rfl ⟨Nat.le_of_ble_eq_true rfl, Nat.le_of_ble_eq_true rfl, Nat.le_of_ble_eq_true rfl, Nat.le_of_ble_eq_true rfl, rfl⟩ rfl rfl,
  fun L J st h Q => pf_S pb_u_194 rfl rfl,
  fun L J h Q x => pf_rz pb_u_194 rfl rfl,
  fun l1 l2 l3 l4 st h Q x => pf_S pb_u_194 rfl rfl,
  fun l1 l2 l3 l4 st h Q => pf_S pb_u_194 rfl rfl,
  fun L J st h Q a => pf_gf pb_u_194 rfl rfl,
  fun L J st h Q => pf_S pb_u_194 rfl rfl,
  fun L J st h Q x y => pf_ic pb_u_194 rfl rfl pf_ne,
  fun l1 l2 l3 l4 st h Q x => pf_S pb_u_194 rfl rfl,
  fun l1 l2 l3 l4 st h Q => pf_S pb_u_194 rfl rfl,
  fun L J st h Q => pf_S pb_u_194 rfl rfl,
  fun l0 l1 l3 l4 st h Q x => pf_S pb_u_194 rfl rfl,
  fun L J h Q x0 x1 x2 => pf_kv pb_u_194 rfl pb_ci_183 rfl ⟨Nat.le_of_ble_eq_true rfl, Nat.le_of_ble_eq_true rfl, Nat.le_of_ble_eq_true rfl, Nat.le_of_ble_eq_true rfl, rfl⟩ rfl rfl,
  fun L J h Q x => pf_rz pb_u_194 rfl rfl,
  fun L J st h Q => pf_S pb_u_194 rfl rfl,
  fun l1 l2 l3 l4 st h Q x => pf_S pb_u_194 rfl rfl,
  fun l1 l2 l3 l4 st h Q => pf_S pb_u_194 rfl rfl,
  fun L J st h Q a => pf_gf pb_u_194 rfl rfl,
  fun L J st x y h Q => pf_S pb_u_194 rfl rfl,
  fun l0 l1 l2 l3 l4 st h Q x => pf_S pb_u_194 rfl rfl,
  fun l1 l2 l3 l4 st h Q x => pf_S pb_u_194 rfl rfl,
  fun l1 l2 l3 l4 st h Q => pf_S pb_u_194 rfl rfl,
  fun l0 l1 l2 l3 st h Q x => pf_S pb_u_194 rfl rfl,
  fun L J h Q x0 x1 => pf_kv pb_u_194 rfl pb_ci_161 rfl ⟨Nat.le_of_ble_eq_true rfl, Nat.le_of_ble_eq_true rfl, Nat.le_of_ble_eq_true rfl, Nat.le_of_ble_eq_true rfl, rfl⟩ rfl rfl,
  fun l1 l2 l3 l4 st h Q x => pf_S pb_u_194 rfl rfl,
  fun l1 l2 l3 l4 st h Q => pf_S pb_u_194 rfl rfl,
  fun L J st h Q a => pf_gf pb_u_194 rfl rfl,
  fun l0 l1 l2 l3 st h Q x => pf_S pb_u_194 rfl rfl,
  fun L J st h Q => pf_S pb_u_194 rfl rfl,
  fun L J st x y h Q => pf_S pb_u_194 rfl rfl,
  fun l0 l1 l2 l4 st h Q x => pf_S pb_u_194 rfl rfl,
  fun L J st x y h Q => pf_S pb_u_194 rfl rfl,
  fun l0 l2 l3 l4 st h Q x => pf_S pb_u_194 rfl rfl,
  fun L J st h Q x => pf_ii pb_u_194 rfl rfl rfl,
  fun L J st h Q => pf_S pb_u_194 rfl rfl,
  fun L J st h Q => pf_S pb_u_194 rfl rfl,
  fun L J st h Q => pf_S pb_u_194 rfl rfl,
  fun L J st h Q a i x => pf_si pb_u_194 rfl rfl,
  fun l1 l2 l3 l4 st h Q x => pf_S pb_u_194 rfl rfl,
  fun l1 l2 l3 l4 st h Q => pf_S pb_u_194 rfl rfl,
  fun l0 l1 l2 l3 st h Q x => pf_S pb_u_194 rfl rfl,
  fun l0 l1 l2 l4 st h Q x => pf_S pb_u_194 rfl rfl,
  fun L J h Q x0 x1 x2 => pf_ks pb_u_194 rfl rfl rfl rfl,
  fun L J st h Q => pf_S pb_u_194 rfl rfl,
  fun L J h Q x0 x1 x2 => pf_kv pb_u_194 rfl pb_ci_145 rfl ⟨Nat.le_of_ble_eq_true rfl, Nat.le_of_ble_eq_true rfl, Nat.le_of_ble_eq_true rfl, Nat.le_of_ble_eq_true rfl, rfl⟩ rfl rfl,
  fun l1 l2 l3 l4 st h Q x => pf_S pb_u_194 rfl rfl,
  fun l1 l2 l3 l4 st h Q => pf_S pb_u_194 rfl rfl,
  fun L J st x h Q => pf_S pb_u_194 rfl rfl,
  fun L J st h Q a => pf_gf pb_u_194 rfl rfl,
  fun L J st h Q => pf_S pb_u_194 rfl rfl,
  fun L J st x y h Q => pf_S pb_u_194 rfl rfl,
  fun L J st h Q a x => pf_pf pb_u_194 rfl rfl,
  fun L J st h Q => pf_S pb_u_194 rfl rfl,
  fun L J h Q x => pf_rz pb_u_194 rfl rfl⟩
theorem pb_c194 (x0 : Nat) (h : pb_H) (Q : Option Value → pb_H → Prop) : pb_call 194 [.ref x0] h Q ↔ pb_R 194 0 [some (.ref x0), none, none, none, none] [] [] h Q := Iff.rfl
/-! 195: PlaneBenchModel.signs()Z -/
theorem pb_u_195 : pb_t 195 = pb_t195 := rfl
theorem pb_ci_195 : pb_ci 195 = 12 := by decide +kernel
set_option maxRecDepth 100000 in
theorem pb_e195 : (∀ (l1 : Option Value) (st : List Value) (h : pb_H) (Q : Option Value → pb_H → Prop) (x : Nat), pb_R 195 0 [some (.ref x), l1] [] st h Q ↔ pb_R 195 1 [some (.ref x), l1] [] (.ref x :: st) h Q) ∧
  (∀ (l1 : Option Value) (st : List Value) (h : pb_H) (Q : Option Value → pb_H → Prop), pb_R 195 0 [some .null, l1] [] st h Q ↔ pb_R 195 1 [some .null, l1] [] (.null :: st) h Q) ∧
  (∀ (L : pb_L) (J : pb_J) (st : List Value) (h : pb_H) (Q : Option Value → pb_H → Prop), pb_R 195 1 L J st h Q ↔ pb_R 195 3 L J (.int (43 : Int32) :: st) h Q) ∧
  (∀ (L : pb_L) (J : pb_J) (h : pb_H) (Q : Option Value → pb_H → Prop) (x0 : Int32) (x1 : Nat), pb_R 195 3 L J [.int x0, .ref x1] h Q ↔ pb_is0 (h.2 x1) 12 = true ∧ pb_call 178 [.ref x1, .int x0] h (fun v t => pb_R 195 6 L J (v.toList ++ []) t Q)) ∧
  (∀ (l0 l1 : Option Value) (st : List Value) (h : pb_H) (Q : Option Value → pb_H → Prop) (x : Int32), pb_R 195 6 [l0, l1] [] (.int x :: st) h Q ↔ pb_R 195 7 [l0, some (.int x)] [] st h Q) ∧
  (∀ (l0 : Option Value) (st : List Value) (h : pb_H) (Q : Option Value → pb_H → Prop) (x : Int32), pb_R 195 7 [l0, some (.int x)] [] st h Q ↔ pb_R 195 8 [l0, some (.int x)] [] (.int x :: st) h Q) ∧
  (∀ (L : pb_L) (J : pb_J) (st : List Value) (h : pb_H) (Q : Option Value → pb_H → Prop) (x : Int32), pb_R 195 8 L J (.int x :: st) h Q ↔ if ¬ x = 0 then pb_R 195 30 L J st h Q else pb_R 195 11 L J st h Q) ∧
  (∀ (l1 : Option Value) (st : List Value) (h : pb_H) (Q : Option Value → pb_H → Prop) (x : Nat), pb_R 195 11 [some (.ref x), l1] [] st h Q ↔ pb_R 195 12 [some (.ref x), l1] [] (.ref x :: st) h Q) ∧
  (∀ (l1 : Option Value) (st : List Value) (h : pb_H) (Q : Option Value → pb_H → Prop), pb_R 195 11 [some .null, l1] [] st h Q ↔ pb_R 195 12 [some .null, l1] [] (.null :: st) h Q) ∧
  (∀ (L : pb_L) (J : pb_J) (st : List Value) (h : pb_H) (Q : Option Value → pb_H → Prop), pb_R 195 12 L J st h Q ↔ pb_R 195 14 L J (.int (115 : Int32) :: st) h Q) ∧
  (∀ (L : pb_L) (J : pb_J) (h : pb_H) (Q : Option Value → pb_H → Prop) (x0 : Int32) (x1 : Nat), pb_R 195 14 L J [.int x0, .ref x1] h Q ↔ pb_is0 (h.2 x1) 12 = true ∧ pb_call 178 [.ref x1, .int x0] h (fun v t => pb_R 195 17 L J (v.toList ++ []) t Q)) ∧
  (∀ (L : pb_L) (J : pb_J) (st : List Value) (h : pb_H) (Q : Option Value → pb_H → Prop) (x : Int32), pb_R 195 17 L J (.int x :: st) h Q ↔ if ¬ x = 0 then pb_R 195 30 L J st h Q else pb_R 195 20 L J st h Q) ∧
  (∀ (l1 : Option Value) (st : List Value) (h : pb_H) (Q : Option Value → pb_H → Prop) (x : Nat), pb_R 195 20 [some (.ref x), l1] [] st h Q ↔ pb_R 195 21 [some (.ref x), l1] [] (.ref x :: st) h Q) ∧
  (∀ (l1 : Option Value) (st : List Value) (h : pb_H) (Q : Option Value → pb_H → Prop), pb_R 195 20 [some .null, l1] [] st h Q ↔ pb_R 195 21 [some .null, l1] [] (.null :: st) h Q) ∧
  (∀ (L : pb_L) (J : pb_J) (st : List Value) (h : pb_H) (Q : Option Value → pb_H → Prop), pb_R 195 21 L J st h Q ↔ pb_R 195 22 L J (.int (1 : Int32) :: st) h Q) ∧
  (∀ (l1 : Option Value) (st : List Value) (h : pb_H) (Q : Option Value → pb_H → Prop) (x : Nat), pb_R 195 22 [some (.ref x), l1] [] st h Q ↔ pb_R 195 23 [some (.ref x), l1] [] (.ref x :: st) h Q) ∧
  (∀ (l1 : Option Value) (st : List Value) (h : pb_H) (Q : Option Value → pb_H → Prop), pb_R 195 22 [some .null, l1] [] st h Q ↔ pb_R 195 23 [some .null, l1] [] (.null :: st) h Q) ∧
  (∀ (L : pb_L) (J : pb_J) (st : List Value) (h : pb_H) (Q : Option Value → pb_H → Prop) (a : Nat), pb_R 195 23 L J (.ref a :: st) h Q ↔ pb_o (pb_gf (h.2 a) 12 16) (fun v => pb_R 195 26 L J (v :: st) h Q)) ∧
  (∀ (L : pb_L) (J : pb_J) (h : pb_H) (Q : Option Value → pb_H → Prop) (x0 : Int32) (x1 : Int32) (x2 : Nat), pb_R 195 26 L J [.int x0, .int x1, .ref x2] h Q ↔ pb_is0 (h.2 x2) 12 = true ∧ pb_call 183 [.ref x2, .int x1, .int x0] h (fun v t => pb_R 195 29 L J (v.toList ++ []) t Q)) ∧
  (∀ (L : pb_L) (J : pb_J) (h : pb_H) (Q : Option Value → pb_H → Prop) (x : Int32), pb_R 195 29 L J [.int x] h Q ↔ narrow .boolean (.int x) = .int x ∧ Q (some (.int x)) h) ∧
  (∀ (l1 : Option Value) (st : List Value) (h : pb_H) (Q : Option Value → pb_H → Prop) (x : Nat), pb_R 195 30 [some (.ref x), l1] [] st h Q ↔ pb_R 195 31 [some (.ref x), l1] [] (.ref x :: st) h Q) ∧
  (∀ (l1 : Option Value) (st : List Value) (h : pb_H) (Q : Option Value → pb_H → Prop), pb_R 195 30 [some .null, l1] [] st h Q ↔ pb_R 195 31 [some .null, l1] [] (.null :: st) h Q) ∧
  (∀ (L : pb_L) (J : pb_J) (st : List Value) (h : pb_H) (Q : Option Value → pb_H → Prop) (a : Nat), pb_R 195 31 L J (.ref a :: st) h Q ↔ pb_o (pb_gf (h.2 a) 12 20) (fun v => pb_R 195 34 L J (v :: st) h Q)) ∧
  (∀ (l0 : Option Value) (st : List Value) (h : pb_H) (Q : Option Value → pb_H → Prop) (x : Int32), pb_R 195 34 [l0, some (.int x)] [] st h Q ↔ pb_R 195 35 [l0, some (.int x)] [] (.int x :: st) h Q) ∧
  (∀ (L : pb_L) (J : pb_J) (st : List Value) (h : pb_H) (Q : Option Value → pb_H → Prop) (x : Int32), pb_R 195 35 L J (.int x :: st) h Q ↔ if x = 0 then pb_R 195 42 L J st h Q else pb_R 195 38 L J st h Q) ∧
  (∀ (L : pb_L) (J : pb_J) (st : List Value) (h : pb_H) (Q : Option Value → pb_H → Prop), pb_R 195 38 L J st h Q ↔ pb_R 195 39 L J (.int (2 : Int32) :: st) h Q) ∧
  (∀ (L : pb_L) (J : pb_J) (st : List Value) (h : pb_H) (Q : Option Value → pb_H → Prop), pb_R 195 39 L J st h Q ↔ pb_R 195 43 L J st h Q) ∧
  (∀ (L : pb_L) (J : pb_J) (st : List Value) (h : pb_H) (Q : Option Value → pb_H → Prop), pb_R 195 42 L J st h Q ↔ pb_R 195 43 L J (.int (1 : Int32) :: st) h Q) ∧
  (∀ (L : pb_L) (J : pb_J) (st : List Value) (h : pb_H) (Q : Option Value → pb_H → Prop) (x y : Int32), pb_R 195 43 L J (.int y :: .int x :: st) h Q ↔ if y ≤ x then pb_R 195 56 L J st h Q else pb_R 195 46 L J st h Q) ∧
  (∀ (l1 : Option Value) (st : List Value) (h : pb_H) (Q : Option Value → pb_H → Prop) (x : Nat), pb_R 195 46 [some (.ref x), l1] [] st h Q ↔ pb_R 195 47 [some (.ref x), l1] [] (.ref x :: st) h Q) ∧
  (∀ (l1 : Option Value) (st : List Value) (h : pb_H) (Q : Option Value → pb_H → Prop), pb_R 195 46 [some .null, l1] [] st h Q ↔ pb_R 195 47 [some .null, l1] [] (.null :: st) h Q) ∧
  (∀ (L : pb_L) (J : pb_J) (st : List Value) (h : pb_H) (Q : Option Value → pb_H → Prop), pb_R 195 47 L J st h Q ↔ pb_R 195 48 L J (.int (4 : Int32) :: st) h Q) ∧
  (∀ (l1 : Option Value) (st : List Value) (h : pb_H) (Q : Option Value → pb_H → Prop) (x : Nat), pb_R 195 48 [some (.ref x), l1] [] st h Q ↔ pb_R 195 49 [some (.ref x), l1] [] (.ref x :: st) h Q) ∧
  (∀ (l1 : Option Value) (st : List Value) (h : pb_H) (Q : Option Value → pb_H → Prop), pb_R 195 48 [some .null, l1] [] st h Q ↔ pb_R 195 49 [some .null, l1] [] (.null :: st) h Q) ∧
  (∀ (L : pb_L) (J : pb_J) (st : List Value) (h : pb_H) (Q : Option Value → pb_H → Prop) (a : Nat), pb_R 195 49 L J (.ref a :: st) h Q ↔ pb_o (pb_gf (h.2 a) 12 16) (fun v => pb_R 195 52 L J (v :: st) h Q)) ∧
  (∀ (L : pb_L) (J : pb_J) (h : pb_H) (Q : Option Value → pb_H → Prop) (x0 : Int32) (x1 : Int32) (x2 : Nat), pb_R 195 52 L J [.int x0, .int x1, .ref x2] h Q ↔ pb_is0 (h.2 x2) 12 = true ∧ pb_call 183 [.ref x2, .int x1, .int x0] h (fun v t => pb_R 195 55 L J (v.toList ++ []) t Q)) ∧
  (∀ (L : pb_L) (J : pb_J) (h : pb_H) (Q : Option Value → pb_H → Prop) (x : Int32), pb_R 195 55 L J [.int x] h Q ↔ narrow .boolean (.int x) = .int x ∧ Q (some (.int x)) h) ∧
  (∀ (l0 : Option Value) (st : List Value) (h : pb_H) (Q : Option Value → pb_H → Prop) (x : Int32), pb_R 195 56 [l0, some (.int x)] [] st h Q ↔ pb_R 195 57 [l0, some (.int x)] [] (.int x :: st) h Q) ∧
  (∀ (L : pb_L) (J : pb_J) (st : List Value) (h : pb_H) (Q : Option Value → pb_H → Prop) (x : Int32), pb_R 195 57 L J (.int x :: st) h Q ↔ if x = 0 then pb_R 195 110 L J st h Q else pb_R 195 60 L J st h Q) ∧
  (∀ (l1 : Option Value) (st : List Value) (h : pb_H) (Q : Option Value → pb_H → Prop) (x : Nat), pb_R 195 60 [some (.ref x), l1] [] st h Q ↔ pb_R 195 61 [some (.ref x), l1] [] (.ref x :: st) h Q) ∧
  (∀ (l1 : Option Value) (st : List Value) (h : pb_H) (Q : Option Value → pb_H → Prop), pb_R 195 60 [some .null, l1] [] st h Q ↔ pb_R 195 61 [some .null, l1] [] (.null :: st) h Q) ∧
  (∀ (L : pb_L) (J : pb_J) (st : List Value) (h : pb_H) (Q : Option Value → pb_H → Prop), pb_R 195 61 L J st h Q ↔ pb_R 195 64 L J (.int (301 : Int32) :: st) h Q) ∧
  (∀ (l1 : Option Value) (st : List Value) (h : pb_H) (Q : Option Value → pb_H → Prop) (x : Nat), pb_R 195 64 [some (.ref x), l1] [] st h Q ↔ pb_R 195 65 [some (.ref x), l1] [] (.ref x :: st) h Q) ∧
  (∀ (l1 : Option Value) (st : List Value) (h : pb_H) (Q : Option Value → pb_H → Prop), pb_R 195 64 [some .null, l1] [] st h Q ↔ pb_R 195 65 [some .null, l1] [] (.null :: st) h Q) ∧
  (∀ (L : pb_L) (J : pb_J) (st : List Value) (h : pb_H) (Q : Option Value → pb_H → Prop) (a : Nat), pb_R 195 65 L J (.ref a :: st) h Q ↔ pb_o (pb_gf (h.2 a) 12 20) (fun v => pb_R 195 68 L J (v :: st) h Q)) ∧
  (∀ (L : pb_L) (J : pb_J) (st : List Value) (x y : Int32) (h : pb_H) (Q : Option Value → pb_H → Prop), pb_R 195 68 L J (.int y :: .int x :: st) h Q ↔ pb_R 195 69 L J (.int (x + y) :: st) h Q) ∧
  (∀ (L : pb_L) (J : pb_J) (st : List Value) (h : pb_H) (Q : Option Value → pb_H → Prop), pb_R 195 69 L J st h Q ↔ pb_R 195 70 L J (.int (2 : Int32) :: st) h Q) ∧
  (∀ (L : pb_L) (J : pb_J) (st : List Value) (x y : Int32) (h : pb_H) (Q : Option Value → pb_H → Prop), pb_R 195 70 L J (.int y :: .int x :: st) h Q ↔ pb_R 195 71 L J (.int (x - y) :: st) h Q) ∧
  (∀ (L : pb_L) (J : pb_J) (st : List Value) (h : pb_H) (Q : Option Value → pb_H → Prop), pb_R 195 71 L J st h Q ↔ pb_R 195 74 L J (.int (301 : Int32) :: st) h Q) ∧
  (∀ (l1 : Option Value) (st : List Value) (h : pb_H) (Q : Option Value → pb_H → Prop) (x : Nat), pb_R 195 74 [some (.ref x), l1] [] st h Q ↔ pb_R 195 75 [some (.ref x), l1] [] (.ref x :: st) h Q) ∧
  (∀ (l1 : Option Value) (st : List Value) (h : pb_H) (Q : Option Value → pb_H → Prop), pb_R 195 74 [some .null, l1] [] st h Q ↔ pb_R 195 75 [some .null, l1] [] (.null :: st) h Q) ∧
  (∀ (L : pb_L) (J : pb_J) (st : List Value) (h : pb_H) (Q : Option Value → pb_H → Prop) (a : Nat), pb_R 195 75 L J (.ref a :: st) h Q ↔ pb_o (pb_gf (h.2 a) 12 20) (fun v => pb_R 195 78 L J (v :: st) h Q)) ∧
  (∀ (L : pb_L) (J : pb_J) (st : List Value) (x y : Int32) (h : pb_H) (Q : Option Value → pb_H → Prop), pb_R 195 78 L J (.int y :: .int x :: st) h Q ↔ pb_R 195 79 L J (.int (x + y) :: st) h Q) ∧
  (∀ (L : pb_L) (J : pb_J) (st : List Value) (h : pb_H) (Q : Option Value → pb_H → Prop), pb_R 195 79 L J st h Q ↔ pb_R 195 80 L J (.int (1 : Int32) :: st) h Q) ∧
  (∀ (L : pb_L) (J : pb_J) (st : List Value) (x y : Int32) (h : pb_H) (Q : Option Value → pb_H → Prop), pb_R 195 80 L J (.int y :: .int x :: st) h Q ↔ pb_R 195 81 L J (.int (x - y) :: st) h Q) ∧
  (∀ (L : pb_L) (J : pb_J) (h : pb_H) (Q : Option Value → pb_H → Prop) (x0 : Int32) (x1 : Int32) (x2 : Nat), pb_R 195 81 L J [.int x0, .int x1, .ref x2] h Q ↔ pb_is0 (h.2 x2) 12 = true ∧ pb_call 165 [.ref x2, .int x1, .int x0] h (fun v t => pb_R 195 84 L J (v.toList ++ []) t Q)) ∧
  (∀ (L : pb_L) (J : pb_J) (st : List Value) (h : pb_H) (Q : Option Value → pb_H → Prop) (x : Int32), pb_R 195 84 L J (.int x :: st) h Q ↔ if ¬ x = 0 then pb_R 195 97 L J st h Q else pb_R 195 87 L J st h Q) ∧
  (∀ (l1 : Option Value) (st : List Value) (h : pb_H) (Q : Option Value → pb_H → Prop) (x : Nat), pb_R 195 87 [some (.ref x), l1] [] st h Q ↔ pb_R 195 88 [some (.ref x), l1] [] (.ref x :: st) h Q) ∧
  (∀ (l1 : Option Value) (st : List Value) (h : pb_H) (Q : Option Value → pb_H → Prop), pb_R 195 87 [some .null, l1] [] st h Q ↔ pb_R 195 88 [some .null, l1] [] (.null :: st) h Q) ∧
  (∀ (L : pb_L) (J : pb_J) (st : List Value) (h : pb_H) (Q : Option Value → pb_H → Prop), pb_R 195 88 L J st h Q ↔ pb_R 195 89 L J (.int (5 : Int32) :: st) h Q) ∧
  (∀ (l1 : Option Value) (st : List Value) (h : pb_H) (Q : Option Value → pb_H → Prop) (x : Nat), pb_R 195 89 [some (.ref x), l1] [] st h Q ↔ pb_R 195 90 [some (.ref x), l1] [] (.ref x :: st) h Q) ∧
  (∀ (l1 : Option Value) (st : List Value) (h : pb_H) (Q : Option Value → pb_H → Prop), pb_R 195 89 [some .null, l1] [] st h Q ↔ pb_R 195 90 [some .null, l1] [] (.null :: st) h Q) ∧
  (∀ (L : pb_L) (J : pb_J) (st : List Value) (h : pb_H) (Q : Option Value → pb_H → Prop) (a : Nat), pb_R 195 90 L J (.ref a :: st) h Q ↔ pb_o (pb_gf (h.2 a) 12 16) (fun v => pb_R 195 93 L J (v :: st) h Q)) ∧
  (∀ (L : pb_L) (J : pb_J) (h : pb_H) (Q : Option Value → pb_H → Prop) (x0 : Int32) (x1 : Int32) (x2 : Nat), pb_R 195 93 L J [.int x0, .int x1, .ref x2] h Q ↔ pb_is0 (h.2 x2) 12 = true ∧ pb_call 183 [.ref x2, .int x1, .int x0] h (fun v t => pb_R 195 96 L J (v.toList ++ []) t Q)) ∧
  (∀ (L : pb_L) (J : pb_J) (h : pb_H) (Q : Option Value → pb_H → Prop) (x : Int32), pb_R 195 96 L J [.int x] h Q ↔ narrow .boolean (.int x) = .int x ∧ Q (some (.int x)) h) ∧
  (∀ (l1 : Option Value) (st : List Value) (h : pb_H) (Q : Option Value → pb_H → Prop) (x : Nat), pb_R 195 97 [some (.ref x), l1] [] st h Q ↔ pb_R 195 98 [some (.ref x), l1] [] (.ref x :: st) h Q) ∧
  (∀ (l1 : Option Value) (st : List Value) (h : pb_H) (Q : Option Value → pb_H → Prop), pb_R 195 97 [some .null, l1] [] st h Q ↔ pb_R 195 98 [some .null, l1] [] (.null :: st) h Q) ∧
  (∀ (L : pb_L) (J : pb_J) (st : List Value) (x : Nat) (h : pb_H) (Q : Option Value → pb_H → Prop), pb_R 195 98 L J (.ref x :: st) h Q ↔ pb_R 195 99 L J (.ref x :: .ref x :: st) h Q) ∧
  (∀ (L : pb_L) (J : pb_J) (st : List Value) (h : pb_H) (Q : Option Value → pb_H → Prop) (a : Nat), pb_R 195 99 L J (.ref a :: st) h Q ↔ pb_o (pb_gf (h.2 a) 12 20) (fun v => pb_R 195 102 L J (v :: st) h Q)) ∧
  (∀ (L : pb_L) (J : pb_J) (st : List Value) (h : pb_H) (Q : Option Value → pb_H → Prop), pb_R 195 102 L J st h Q ↔ pb_R 195 103 L J (.int (1 : Int32) :: st) h Q) ∧
  (∀ (L : pb_L) (J : pb_J) (st : List Value) (x y : Int32) (h : pb_H) (Q : Option Value → pb_H → Prop), pb_R 195 103 L J (.int y :: .int x :: st) h Q ↔ pb_R 195 104 L J (.int (x - y) :: st) h Q) ∧
  (∀ (L : pb_L) (J : pb_J) (st : List Value) (h : pb_H) (Q : Option Value → pb_H → Prop) (a : Nat) (x : Int32), pb_R 195 104 L J (.int x :: .ref a :: st) h Q ↔ pb_o (pb_pf (h.2 a) 12 20 (.int x)) (fun c => pb_R 195 107 L J st (pb_set h a c) Q)) ∧
  (∀ (L : pb_L) (J : pb_J) (st : List Value) (h : pb_H) (Q : Option Value → pb_H → Prop), pb_R 195 107 L J st h Q ↔ pb_R 195 124 L J st h Q) ∧
  (∀ (l1 : Option Value) (st : List Value) (h : pb_H) (Q : Option Value → pb_H → Prop) (x : Nat), pb_R 195 110 [some (.ref x), l1] [] st h Q ↔ pb_R 195 111 [some (.ref x), l1] [] (.ref x :: st) h Q) ∧
  (∀ (l1 : Option Value) (st : List Value) (h : pb_H) (Q : Option Value → pb_H → Prop), pb_R 195 110 [some .null, l1] [] st h Q ↔ pb_R 195 111 [some .null, l1] [] (.null :: st) h Q) ∧
  (∀ (L : pb_L) (J : pb_J) (st : List Value) (h : pb_H) (Q : Option Value → pb_H → Prop), pb_R 195 111 L J st h Q ↔ pb_R 195 114 L J (.int (301 : Int32) :: st) h Q) ∧
  (∀ (l1 : Option Value) (st : List Value) (h : pb_H) (Q : Option Value → pb_H → Prop) (x : Nat), pb_R 195 114 [some (.ref x), l1] [] st h Q ↔ pb_R 195 115 [some (.ref x), l1] [] (.ref x :: st) h Q) ∧
  (∀ (l1 : Option Value) (st : List Value) (h : pb_H) (Q : Option Value → pb_H → Prop), pb_R 195 114 [some .null, l1] [] st h Q ↔ pb_R 195 115 [some .null, l1] [] (.null :: st) h Q) ∧
  (∀ (L : pb_L) (J : pb_J) (st : List Value) (h : pb_H) (Q : Option Value → pb_H → Prop) (a : Nat), pb_R 195 115 L J (.ref a :: st) h Q ↔ pb_o (pb_gf (h.2 a) 12 20) (fun v => pb_R 195 118 L J (v :: st) h Q)) ∧
  (∀ (L : pb_L) (J : pb_J) (st : List Value) (x y : Int32) (h : pb_H) (Q : Option Value → pb_H → Prop), pb_R 195 118 L J (.int y :: .int x :: st) h Q ↔ pb_R 195 119 L J (.int (x + y) :: st) h Q) ∧
  (∀ (L : pb_L) (J : pb_J) (st : List Value) (h : pb_H) (Q : Option Value → pb_H → Prop), pb_R 195 119 L J st h Q ↔ pb_R 195 120 L J (.int (1 : Int32) :: st) h Q) ∧
  (∀ (L : pb_L) (J : pb_J) (st : List Value) (x y : Int32) (h : pb_H) (Q : Option Value → pb_H → Prop), pb_R 195 120 L J (.int y :: .int x :: st) h Q ↔ pb_R 195 121 L J (.int (x - y) :: st) h Q) ∧
  (∀ (L : pb_L) (J : pb_J) (h : pb_H) (Q : Option Value → pb_H → Prop) (x0 : Int32) (x1 : Nat), pb_R 195 121 L J [.int x0, .ref x1] h Q ↔ pb_is0 (h.2 x1) 12 = true ∧ pb_call 168 [.ref x1, .int x0] h (fun v t => pb_R 195 124 L J (v.toList ++ []) t Q)) ∧
  (∀ (l1 : Option Value) (st : List Value) (h : pb_H) (Q : Option Value → pb_H → Prop) (x : Nat), pb_R 195 124 [some (.ref x), l1] [] st h Q ↔ pb_R 195 125 [some (.ref x), l1] [] (.ref x :: st) h Q) ∧
  (∀ (l1 : Option Value) (st : List Value) (h : pb_H) (Q : Option Value → pb_H → Prop), pb_R 195 124 [some .null, l1] [] st h Q ↔ pb_R 195 125 [some .null, l1] [] (.null :: st) h Q) ∧
  (∀ (L : pb_L) (J : pb_J) (h : pb_H) (Q : Option Value → pb_H → Prop) (x0 : Nat), pb_R 195 125 L J [.ref x0] h Q ↔ pb_is0 (h.2 x0) 12 = true ∧ pb_call 177 [.ref x0] h (fun v t => pb_R 195 128 L J (v.toList ++ []) t Q)) ∧
  (∀ (L : pb_L) (J : pb_J) (st : List Value) (h : pb_H) (Q : Option Value → pb_H → Prop), pb_R 195 128 L J st h Q ↔ pb_R 195 129 L J (.int (1 : Int32) :: st) h Q) ∧
  (∀ (L : pb_L) (J : pb_J) (h : pb_H) (Q : Option Value → pb_H → Prop) (x : Int32), pb_R 195 129 L J [.int x] h Q ↔ narrow .boolean (.int x) = .int x ∧ Q (some (.int x)) h) := ⟨
  fun l1 st h Q x => pf_S pb_u_195 rfl rfl,
  fun l1 st h Q => pf_S pb_u_195 rfl rfl,
  fun L J st h Q => pf_S pb_u_195 rfl rfl,
  fun L J h Q x0 x1 => pf_kv pb_u_195 rfl pb_ci_178 rfl ⟨Nat.le_of_ble_eq_true rfl, Nat.le_of_ble_eq_true rfl, Nat.le_of_ble_eq_true rfl, Nat.le_of_ble_eq_true rfl, rfl⟩ rfl rfl,
  fun l0 l1 st h Q x => pf_S pb_u_195 rfl rfl,
  fun l0 st h Q x => pf_S pb_u_195 rfl rfl,
  fun L J st h Q x => pf_ii pb_u_195 rfl rfl pf_ne,
  fun l1 st h Q x => pf_S pb_u_195 rfl rfl,
  fun l1 st h Q => pf_S pb_u_195 rfl rfl,
  fun L J st h Q => pf_S pb_u_195 rfl rfl,
  fun L J h Q x0 x1 => pf_kv pb_u_195 rfl pb_ci_178 rfl ⟨Nat.le_of_ble_eq_true rfl, Nat.le_of_ble_eq_true rfl, Nat.le_of_ble_eq_true rfl, Nat.le_of_ble_eq_true rfl, rfl⟩ rfl rfl,
  fun L J st h Q x => pf_ii pb_u_195 rfl rfl pf_ne,
  fun l1 st h Q x => pf_S pb_u_195 rfl rfl,
  fun l1 st h Q => pf_S pb_u_195 rfl rfl,
  fun L J st h Q => pf_S pb_u_195 rfl rfl,
  fun l1 st h Q x => pf_S pb_u_195 rfl rfl,
  fun l1 st h Q => pf_S pb_u_195 rfl rfl,
  fun L J st h Q a => pf_gf pb_u_195 rfl rfl,
  fun L J h Q x0 x1 x2 => pf_kv pb_u_195 rfl pb_ci_183 rfl ⟨Nat.le_of_ble_eq_true rfl, Nat.le_of_ble_eq_true rfl, Nat.le_of_ble_eq_true rfl, Nat.le_of_ble_eq_true rfl, rfl⟩ rfl rfl,
  fun L J h Q x => pf_rz pb_u_195 rfl rfl,
  fun l1 st h Q x => pf_S pb_u_195 rfl rfl,
  fun l1 st h Q => pf_S pb_u_195 rfl rfl,
  fun L J st h Q a => pf_gf pb_u_195 rfl rfl,
  fun l0 st h Q x => pf_S pb_u_195 rfl rfl,
  fun L J st h Q x => pf_ii pb_u_195 rfl rfl rfl,
  fun L J st h Q => pf_S pb_u_195 rfl rfl,
  fun L J st h Q => pf_S pb_u_195 rfl rfl,
  fun L J st h Q => pf_S pb_u_195 rfl rfl,
  fun L J st h Q x y => pf_ic pb_u_195 rfl rfl rfl,
  fun l1 st h Q x => pf_S pb_u_195 rfl rfl,
  fun l1 st h Q => pf_S pb_u_195 rfl rfl,
  fun L J st h Q => pf_S pb_u_195 rfl rfl,
  fun l1 st h Q x => pf_S pb_u_195 rfl rfl,
  fun l1 st h Q => pf_S pb_u_195 rfl rfl,
  fun L J st h Q a => pf_gf pb_u_195 rfl rfl,
  fun L J h Q x0 x1 x2 => pf_kv pb_u_195 rfl pb_ci_183 rfl ⟨Nat.le_of_ble_eq_true rfl, Nat.le_of_ble_eq_true rfl, Nat.le_of_ble_eq_true rfl, Nat.le_of_ble_eq_true rfl, rfl⟩ rfl rfl,
  fun L J h Q x => pf_rz pb_u_195 rfl rfl,
  fun l0 st h Q x => pf_S pb_u_195 rfl rfl,
  fun L J st h Q x => pf_ii pb_u_195 rfl rfl rfl,
  fun l1 st h Q x => pf_S pb_u_195 rfl rfl,
  fun l1 st h Q => pf_S pb_u_195 rfl rfl,
  fun L J st h Q => pf_S pb_u_195 rfl rfl,
  fun l1 st h Q x => pf_S pb_u_195 rfl rfl,
  fun l1 st h Q => pf_S pb_u_195 rfl rfl,
  fun L J st h Q a => pf_gf pb_u_195 rfl rfl,
  fun L J st x y h Q => pf_S pb_u_195 rfl rfl,
  fun L J st h Q => pf_S pb_u_195 rfl rfl,
  fun L J st x y h Q => pf_S pb_u_195 rfl rfl,
  fun L J st h Q => pf_S pb_u_195 rfl rfl,
  fun l1 st h Q x => pf_S pb_u_195 rfl rfl,
  fun l1 st h Q => pf_S pb_u_195 rfl rfl,
  fun L J st h Q a => pf_gf pb_u_195 rfl rfl,
  fun L J st x y h Q => pf_S pb_u_195 rfl rfl,
  fun L J st h Q => pf_S pb_u_195 rfl rfl,
  fun L J st x y h Q => pf_S pb_u_195 rfl rfl,
  fun L J h Q x0 x1 x2 => pf_kv pb_u_195 rfl pb_ci_165 rfl ⟨Nat.le_of_ble_eq_true rfl, Nat.le_of_ble_eq_true rfl, Nat.le_of_ble_eq_true rfl, Nat.le_of_ble_eq_true rfl, rfl⟩ rfl rfl,
  fun L J st h Q x => pf_ii pb_u_195 rfl rfl pf_ne,
  fun l1 st h Q x => pf_S pb_u_195 rfl rfl,
  fun l1 st h Q => pf_S pb_u_195 rfl rfl,
  fun L J st h Q => pf_S pb_u_195 rfl rfl,
  fun l1 st h Q x => pf_S pb_u_195 rfl rfl,
  fun l1 st h Q => pf_S pb_u_195 rfl rfl,
  fun L J st h Q a => pf_gf pb_u_195 rfl rfl,
  fun L J h Q x0 x1 x2 => pf_kv pb_u_195 rfl pb_ci_183 rfl ⟨Nat.le_of_ble_eq_true rfl, Nat.le_of_ble_eq_true rfl, Nat.le_of_ble_eq_true rfl, Nat.le_of_ble_eq_true rfl, rfl⟩ rfl rfl,
  fun L J h Q x => pf_rz pb_u_195 rfl rfl,
  fun l1 st h Q x => pf_S pb_u_195 rfl rfl,
  fun l1 st h Q => pf_S pb_u_195 rfl rfl,
  fun L J st x h Q => pf_S pb_u_195 rfl rfl,
  fun L J st h Q a => pf_gf pb_u_195 rfl rfl,
  fun L J st h Q => pf_S pb_u_195 rfl rfl,
  fun L J st x y h Q => pf_S pb_u_195 rfl rfl,
  fun L J st h Q a x => pf_pf pb_u_195 rfl rfl,
  fun L J st h Q => pf_S pb_u_195 rfl rfl,
  fun l1 st h Q x => pf_S pb_u_195 rfl rfl,
  fun l1 st h Q => pf_S pb_u_195 rfl rfl,
  fun L J st h Q => pf_S pb_u_195 rfl rfl,
  fun l1 st h Q x => pf_S pb_u_195 rfl rfl,
  fun l1 st h Q => pf_S pb_u_195 rfl rfl,
  fun L J st h Q a => pf_gf pb_u_195 rfl rfl,
  fun L J st x y h Q => pf_S pb_u_195 rfl rfl,
  fun L J st h Q => pf_S pb_u_195 rfl rfl,
  fun L J st x y h Q => pf_S pb_u_195 rfl rfl,
  fun L J h Q x0 x1 => pf_kv pb_u_195 rfl pb_ci_168 rfl ⟨Nat.le_of_ble_eq_true rfl, Nat.le_of_ble_eq_true rfl, Nat.le_of_ble_eq_true rfl, Nat.le_of_ble_eq_true rfl, rfl⟩ rfl rfl,
  fun l1 st h Q x => pf_S pb_u_195 rfl rfl,
  fun l1 st h Q => pf_S pb_u_195 rfl rfl,
  fun L J h Q x0 => pf_kv pb_u_195 rfl pb_ci_177 rfl ⟨Nat.le_of_ble_eq_true rfl, Nat.le_of_ble_eq_true rfl, Nat.le_of_ble_eq_true rfl, Nat.le_of_ble_eq_true rfl, rfl⟩ rfl rfl,
  fun L J st h Q => pf_S pb_u_195 rfl rfl,
  fun L J h Q x => pf_rz pb_u_195 rfl rfl⟩
theorem pb_c195 (x0 : Nat) (h : pb_H) (Q : Option Value → pb_H → Prop) : pb_call 195 [.ref x0] h Q ↔ pb_R 195 0 [some (.ref x0), none] [] [] h Q := Iff.rfl
/-! 196: PlaneBenchModel.add(II)V -/
theorem pb_u_196 : pb_t 196 = pb_t196 := rfl
theorem pb_ci_196 : pb_ci 196 = 12 := by decide +kernel
set_option maxRecDepth 100000 in
theorem pb_e196 : (∀ (l1 l2 : Option Value) (st : List Value) (h : pb_H) (Q : Option Value → pb_H → Prop) (x : Nat), pb_R 196 0 [some (.ref x), l1, l2] [] st h Q ↔ pb_R 196 1 [some (.ref x), l1, l2] [] (.ref x :: st) h Q) ∧
  (∀ (l1 l2 : Option Value) (st : List Value) (h : pb_H) (Q : Option Value → pb_H → Prop), pb_R 196 0 [some .null, l1, l2] [] st h Q ↔ pb_R 196 1 [some .null, l1, l2] [] (.null :: st) h Q) ∧
  (∀ (L : pb_L) (J : pb_J) (st : List Value) (x : Nat) (h : pb_H) (Q : Option Value → pb_H → Prop), pb_R 196 1 L J (.ref x :: st) h Q ↔ pb_R 196 2 L J (.ref x :: .ref x :: st) h Q) ∧
  (∀ (L : pb_L) (J : pb_J) (st : List Value) (h : pb_H) (Q : Option Value → pb_H → Prop) (a : Nat), pb_R 196 2 L J (.ref a :: st) h Q ↔ pb_o (pb_gf (h.2 a) 12 4) (fun v => pb_R 196 5 L J (v :: st) h Q)) ∧
  (∀ (L : pb_L) (J : pb_J) (st : List Value) (h : pb_H) (Q : Option Value → pb_H → Prop), pb_R 196 5 L J st h Q ↔ pb_R 196 6 L J (.int (1 : Int32) :: st) h Q) ∧
  (∀ (L : pb_L) (J : pb_J) (st : List Value) (x y : Int32) (h : pb_H) (Q : Option Value → pb_H → Prop), pb_R 196 6 L J (.int y :: .int x :: st) h Q ↔ pb_R 196 7 L J (.int (x + y) :: st) h Q) ∧
  (∀ (L : pb_L) (J : pb_J) (st : List Value) (h : pb_H) (Q : Option Value → pb_H → Prop) (a : Nat) (x : Int32), pb_R 196 7 L J (.int x :: .ref a :: st) h Q ↔ pb_o (pb_pf (h.2 a) 12 4 (.int x)) (fun c => pb_R 196 10 L J st (pb_set h a c) Q)) ∧
  (∀ (l1 l2 : Option Value) (st : List Value) (h : pb_H) (Q : Option Value → pb_H → Prop) (x : Nat), pb_R 196 10 [some (.ref x), l1, l2] [] st h Q ↔ pb_R 196 11 [some (.ref x), l1, l2] [] (.ref x :: st) h Q) ∧
  (∀ (l1 l2 : Option Value) (st : List Value) (h : pb_H) (Q : Option Value → pb_H → Prop), pb_R 196 10 [some .null, l1, l2] [] st h Q ↔ pb_R 196 11 [some .null, l1, l2] [] (.null :: st) h Q) ∧
  (∀ (l0 l2 : Option Value) (st : List Value) (h : pb_H) (Q : Option Value → pb_H → Prop) (x : Int32), pb_R 196 11 [l0, some (.int x), l2] [] st h Q ↔ pb_R 196 12 [l0, some (.int x), l2] [] (.int x :: st) h Q) ∧
  (∀ (l1 l2 : Option Value) (st : List Value) (h : pb_H) (Q : Option Value → pb_H → Prop) (x : Nat), pb_R 196 12 [some (.ref x), l1, l2] [] st h Q ↔ pb_R 196 13 [some (.ref x), l1, l2] [] (.ref x :: st) h Q) ∧
  (∀ (l1 l2 : Option Value) (st : List Value) (h : pb_H) (Q : Option Value → pb_H → Prop), pb_R 196 12 [some .null, l1, l2] [] st h Q ↔ pb_R 196 13 [some .null, l1, l2] [] (.null :: st) h Q) ∧
  (∀ (L : pb_L) (J : pb_J) (st : List Value) (h : pb_H) (Q : Option Value → pb_H → Prop) (a : Nat), pb_R 196 13 L J (.ref a :: st) h Q ↔ pb_o (pb_gf (h.2 a) 12 4) (fun v => pb_R 196 16 L J (v :: st) h Q)) ∧
  (∀ (L : pb_L) (J : pb_J) (h : pb_H) (Q : Option Value → pb_H → Prop) (x0 : Int32) (x1 : Int32) (x2 : Nat), pb_R 196 16 L J [.int x0, .int x1, .ref x2] h Q ↔ pb_is0 (h.2 x2) 12 = true ∧ pb_call 162 [.ref x2, .int x1, .int x0] h (fun v t => pb_R 196 19 L J (v.toList ++ []) t Q)) ∧
  (∀ (l1 l2 : Option Value) (st : List Value) (h : pb_H) (Q : Option Value → pb_H → Prop) (x : Nat), pb_R 196 19 [some (.ref x), l1, l2] [] st h Q ↔ pb_R 196 20 [some (.ref x), l1, l2] [] (.ref x :: st) h Q) ∧
  (∀ (l1 l2 : Option Value) (st : List Value) (h : pb_H) (Q : Option Value → pb_H → Prop), pb_R 196 19 [some .null, l1, l2] [] st h Q ↔ pb_R 196 20 [some .null, l1, l2] [] (.null :: st) h Q) ∧
  (∀ (L : pb_L) (J : pb_J) (st : List Value) (h : pb_H) (Q : Option Value → pb_H → Prop) (a : Nat), pb_R 196 20 L J (.ref a :: st) h Q ↔ pb_o (pb_gf (h.2 a) 12 2) (fun v => pb_R 196 23 L J (v :: st) h Q)) ∧
  (∀ (l1 l2 : Option Value) (st : List Value) (h : pb_H) (Q : Option Value → pb_H → Prop) (x : Nat), pb_R 196 23 [some (.ref x), l1, l2] [] st h Q ↔ pb_R 196 24 [some (.ref x), l1, l2] [] (.ref x :: st) h Q) ∧
  (∀ (l1 l2 : Option Value) (st : List Value) (h : pb_H) (Q : Option Value → pb_H → Prop), pb_R 196 23 [some .null, l1, l2] [] st h Q ↔ pb_R 196 24 [some .null, l1, l2] [] (.null :: st) h Q) ∧
  (∀ (L : pb_L) (J : pb_J) (st : List Value) (h : pb_H) (Q : Option Value → pb_H → Prop) (a : Nat), pb_R 196 24 L J (.ref a :: st) h Q ↔ pb_o (pb_gf (h.2 a) 12 4) (fun v => pb_R 196 27 L J (v :: st) h Q)) ∧
  (∀ (l0 l1 : Option Value) (st : List Value) (h : pb_H) (Q : Option Value → pb_H → Prop) (x : Int32), pb_R 196 27 [l0, l1, some (.int x)] [] st h Q ↔ pb_R 196 28 [l0, l1, some (.int x)] [] (.int x :: st) h Q) ∧
  (∀ (L : pb_L) (J : pb_J) (st : List Value) (h : pb_H) (Q : Option Value → pb_H → Prop) (a : Nat) (i x : Int32), pb_R 196 28 L J (.int x :: .int i :: .ref a :: st) h Q ↔ pb_o (pb_si (h.2 a) i x) (fun c => pb_R 196 29 L J st (pb_set h a c) Q)) ∧
  (∀ (L : pb_L) (J : pb_J) (h : pb_H) (Q : Option Value → pb_H → Prop), pb_R 196 29 L J [] h Q ↔ Q none h) := ⟨
  fun l1 l2 st h Q x => pf_S pb_u_196 rfl rfl,
  fun l1 l2 st h Q => pf_S pb_u_196 rfl rfl,
  fun L J st x h Q => pf_S pb_u_196 rfl rfl,
  fun L J st h Q a => pf_gf pb_u_196 rfl rfl,
  fun L J st h Q => pf_S pb_u_196 rfl rfl,
  fun L J st x y h Q => pf_S pb_u_196 rfl rfl,
  fun L J st h Q a x => pf_pf pb_u_196 rfl rfl,
  fun l1 l2 st h Q x => pf_S pb_u_196 rfl rfl,
  fun l1 l2 st h Q => pf_S pb_u_196 rfl rfl,
  fun l0 l2 st h Q x => pf_S pb_u_196 rfl rfl,
  fun l1 l2 st h Q x => pf_S pb_u_196 rfl rfl,
  fun l1 l2 st h Q => pf_S pb_u_196 rfl rfl,
  fun L J st h Q a => pf_gf pb_u_196 rfl rfl,
  fun L J h Q x0 x1 x2 => pf_kv pb_u_196 rfl pb_ci_162 rfl ⟨Nat.le_of_ble_eq_true rfl, Nat.le_of_ble_eq_true rfl, Nat.le_of_ble_eq_true rfl, Nat.le_of_ble_eq_true rfl, rfl⟩ rfl rfl,
  fun l1 l2 st h Q x => pf_S pb_u_196 rfl rfl,
  fun l1 l2 st h Q => pf_S pb_u_196 rfl rfl,
  fun L J st h Q a => pf_gf pb_u_196 rfl rfl,
  fun l1 l2 st h Q x => pf_S pb_u_196 rfl rfl,
  fun l1 l2 st h Q => pf_S pb_u_196 rfl rfl,
  fun L J st h Q a => pf_gf pb_u_196 rfl rfl,
  fun l0 l1 st h Q x => pf_S pb_u_196 rfl rfl,
  fun L J st h Q a i x => pf_si pb_u_196 rfl rfl,
  fun L J h Q => pf_rv pb_u_196 rfl rfl⟩
theorem pb_c196 (x0 : Nat) (x1 : Int32) (x2 : Int32) (h : pb_H) (Q : Option Value → pb_H → Prop) : pb_call 196 [.ref x0, .int x1, .int x2] h Q ↔ pb_R 196 0 [some (.ref x0), some (.int x1), some (.int x2)] [] [] h Q := Iff.rfl
/-! 197: PlaneBenchModel.pile()Z -/
theorem pb_u_197 : pb_t 197 = pb_t197 := rfl
theorem pb_ci_197 : pb_ci 197 = 12 := by decide +kernel
set_option maxRecDepth 100000 in
theorem pb_q197_9 (l1 : Option Value) (st : List Value) (h : pb_H) (Q : Option Value → pb_H → Prop) (x : Nat) : pb_R 197 9 [some (.ref x), l1] [] st h Q ↔ pb_R 197 10 [some (.ref x), l1] [] (.ref x :: st) h Q := pf_S pb_u_197 rfl rfl
set_option maxRecDepth 100000 in
theorem pb_q197_9n (l1 : Option Value) (st : List Value) (h : pb_H) (Q : Option Value → pb_H → Prop) : pb_R 197 9 [some .null, l1] [] st h Q ↔ pb_R 197 10 [some .null, l1] [] (.null :: st) h Q := pf_S pb_u_197 rfl rfl
set_option maxRecDepth 100000 in
theorem pb_e197 : (∀ (l1 : Option Value) (st : List Value) (h : pb_H) (Q : Option Value → pb_H → Prop) (x : Nat), pb_R 197 0 [some (.ref x), l1] [] st h Q ↔ pb_R 197 1 [some (.ref x), l1] [] (.ref x :: st) h Q) ∧
  (∀ (l1 : Option Value) (st : List Value) (h : pb_H) (Q : Option Value → pb_H → Prop), pb_R 197 0 [some .null, l1] [] st h Q ↔ pb_R 197 1 [some .null, l1] [] (.null :: st) h Q) ∧
  (∀ (L : pb_L) (J : pb_J) (st : List Value) (h : pb_H) (Q : Option Value → pb_H → Prop), pb_R 197 1 L J st h Q ↔ pb_R 197 2 L J (.int (0 : Int32) :: st) h Q) ∧
  (∀ (L : pb_L) (J : pb_J) (st : List Value) (h : pb_H) (Q : Option Value → pb_H → Prop) (a : Nat) (x : Int32), pb_R 197 2 L J (.int x :: .ref a :: st) h Q ↔ pb_o (pb_pf (h.2 a) 12 20 (.int x)) (fun c => pb_R 197 5 L J st (pb_set h a c) Q)) ∧
  (∀ (l1 : Option Value) (st : List Value) (h : pb_H) (Q : Option Value → pb_H → Prop) (x : Nat), pb_R 197 5 [some (.ref x), l1] [] st h Q ↔ pb_R 197 6 [some (.ref x), l1] [] (.ref x :: st) h Q) ∧
  (∀ (l1 : Option Value) (st : List Value) (h : pb_H) (Q : Option Value → pb_H → Prop), pb_R 197 5 [some .null, l1] [] st h Q ↔ pb_R 197 6 [some .null, l1] [] (.null :: st) h Q) ∧
  (∀ (L : pb_L) (J : pb_J) (h : pb_H) (Q : Option Value → pb_H → Prop) (x0 : Nat), pb_R 197 6 L J [.ref x0] h Q ↔ pb_is0 (h.2 x0) 12 = true ∧ pb_call 177 [.ref x0] h (fun v t => pb_R 197 9 L J (v.toList ++ []) t Q)) ∧
  (∀ (L : pb_L) (J : pb_J) (st : List Value) (h : pb_H) (Q : Option Value → pb_H → Prop), pb_R 197 10 L J st h Q ↔ pb_R 197 12 L J (.int (59 : Int32) :: st) h Q) ∧
  (∀ (L : pb_L) (J : pb_J) (h : pb_H) (Q : Option Value → pb_H → Prop) (x0 : Int32) (x1 : Nat), pb_R 197 12 L J [.int x0, .ref x1] h Q ↔ pb_is0 (h.2 x1) 12 = true ∧ pb_call 178 [.ref x1, .int x0] h (fun v t => pb_R 197 15 L J (v.toList ++ []) t Q)) ∧
  (∀ (L : pb_L) (J : pb_J) (st : List Value) (h : pb_H) (Q : Option Value → pb_H → Prop) (x : Int32), pb_R 197 15 L J (.int x :: st) h Q ↔ if ¬ x = 0 then pb_R 197 62 L J st h Q else pb_R 197 18 L J st h Q) ∧
  (∀ (l1 : Option Value) (st : List Value) (h : pb_H) (Q : Option Value → pb_H → Prop) (x : Nat), pb_R 197 18 [some (.ref x), l1] [] st h Q ↔ pb_R 197 19 [some (.ref x), l1] [] (.ref x :: st) h Q) ∧
  (∀ (l1 : Option Value) (st : List Value) (h : pb_H) (Q : Option Value → pb_H → Prop), pb_R 197 18 [some .null, l1] [] st h Q ↔ pb_R 197 19 [some .null, l1] [] (.null :: st) h Q) ∧
  (∀ (L : pb_L) (J : pb_J) (st : List Value) (h : pb_H) (Q : Option Value → pb_H → Prop) (a : Nat), pb_R 197 19 L J (.ref a :: st) h Q ↔ pb_o (pb_gf (h.2 a) 12 15) (fun v => pb_R 197 22 L J (v :: st) h Q)) ∧
  (∀ (L : pb_L) (J : pb_J) (st : List Value) (h : pb_H) (Q : Option Value → pb_H → Prop), pb_R 197 22 L J st h Q ↔ pb_R 197 23 L J (.int (1 : Int32) :: st) h Q) ∧
  (∀ (L : pb_L) (J : pb_J) (st : List Value) (h : pb_H) (Q : Option Value → pb_H → Prop) (x y : Int32), pb_R 197 23 L J (.int y :: .int x :: st) h Q ↔ if ¬ x = y then pb_R 197 33 L J st h Q else pb_R 197 26 L J st h Q) ∧
  (∀ (l1 : Option Value) (st : List Value) (h : pb_H) (Q : Option Value → pb_H → Prop) (x : Nat), pb_R 197 26 [some (.ref x), l1] [] st h Q ↔ pb_R 197 27 [some (.ref x), l1] [] (.ref x :: st) h Q) ∧
  (∀ (l1 : Option Value) (st : List Value) (h : pb_H) (Q : Option Value → pb_H → Prop), pb_R 197 26 [some .null, l1] [] st h Q ↔ pb_R 197 27 [some .null, l1] [] (.null :: st) h Q) ∧
  (∀ (L : pb_L) (J : pb_J) (h : pb_H) (Q : Option Value → pb_H → Prop) (x0 : Nat), pb_R 197 27 L J [.ref x0] h Q ↔ pb_is0 (h.2 x0) 12 = true ∧ pb_call 193 [.ref x0] h (fun v t => pb_R 197 30 L J (v.toList ++ []) t Q)) ∧
  (∀ (L : pb_L) (J : pb_J) (st : List Value) (h : pb_H) (Q : Option Value → pb_H → Prop), pb_R 197 30 L J st h Q ↔ pb_R 197 52 L J st h Q) ∧
  (∀ (l1 : Option Value) (st : List Value) (h : pb_H) (Q : Option Value → pb_H → Prop) (x : Nat), pb_R 197 33 [some (.ref x), l1] [] st h Q ↔ pb_R 197 34 [some (.ref x), l1] [] (.ref x :: st) h Q) ∧
  (∀ (l1 : Option Value) (st : List Value) (h : pb_H) (Q : Option Value → pb_H → Prop), pb_R 197 33 [some .null, l1] [] st h Q ↔ pb_R 197 34 [some .null, l1] [] (.null :: st) h Q) ∧
  (∀ (L : pb_L) (J : pb_J) (st : List Value) (h : pb_H) (Q : Option Value → pb_H → Prop) (a : Nat), pb_R 197 34 L J (.ref a :: st) h Q ↔ pb_o (pb_gf (h.2 a) 12 15) (fun v => pb_R 197 37 L J (v :: st) h Q)) ∧
  (∀ (L : pb_L) (J : pb_J) (st : List Value) (h : pb_H) (Q : Option Value → pb_H → Prop), pb_R 197 37 L J st h Q ↔ pb_R 197 38 L J (.int (2 : Int32) :: st) h Q) ∧
  (∀ (L : pb_L) (J : pb_J) (st : List Value) (h : pb_H) (Q : Option Value → pb_H → Prop) (x y : Int32), pb_R 197 38 L J (.int y :: .int x :: st) h Q ↔ if ¬ x = y then pb_R 197 48 L J st h Q else pb_R 197 41 L J st h Q) ∧
  (∀ (l1 : Option Value) (st : List Value) (h : pb_H) (Q : Option Value → pb_H → Prop) (x : Nat), pb_R 197 41 [some (.ref x), l1] [] st h Q ↔ pb_R 197 42 [some (.ref x), l1] [] (.ref x :: st) h Q) ∧
  (∀ (l1 : Option Value) (st : List Value) (h : pb_H) (Q : Option Value → pb_H → Prop), pb_R 197 41 [some .null, l1] [] st h Q ↔ pb_R 197 42 [some .null, l1] [] (.null :: st) h Q) ∧
  (∀ (L : pb_L) (J : pb_J) (h : pb_H) (Q : Option Value → pb_H → Prop) (x0 : Nat), pb_R 197 42 L J [.ref x0] h Q ↔ pb_is0 (h.2 x0) 12 = true ∧ pb_call 194 [.ref x0] h (fun v t => pb_R 197 45 L J (v.toList ++ []) t Q)) ∧
  (∀ (L : pb_L) (J : pb_J) (st : List Value) (h : pb_H) (Q : Option Value → pb_H → Prop), pb_R 197 45 L J st h Q ↔ pb_R 197 52 L J st h Q) ∧
  (∀ (l1 : Option Value) (st : List Value) (h : pb_H) (Q : Option Value → pb_H → Prop) (x : Nat), pb_R 197 48 [some (.ref x), l1] [] st h Q ↔ pb_R 197 49 [some (.ref x), l1] [] (.ref x :: st) h Q) ∧
  (∀ (l1 : Option Value) (st : List Value) (h : pb_H) (Q : Option Value → pb_H → Prop), pb_R 197 48 [some .null, l1] [] st h Q ↔ pb_R 197 49 [some .null, l1] [] (.null :: st) h Q) ∧
  (∀ (L : pb_L) (J : pb_J) (h : pb_H) (Q : Option Value → pb_H → Prop) (x0 : Nat), pb_R 197 49 L J [.ref x0] h Q ↔ pb_is0 (h.2 x0) 12 = true ∧ pb_call 195 [.ref x0] h (fun v t => pb_R 197 52 L J (v.toList ++ []) t Q)) ∧
  (∀ (l0 l1 : Option Value) (st : List Value) (h : pb_H) (Q : Option Value → pb_H → Prop) (x : Int32), pb_R 197 52 [l0, l1] [] (.int x :: st) h Q ↔ pb_R 197 53 [l0, some (.int x)] [] st h Q) ∧
  (∀ (l0 : Option Value) (st : List Value) (h : pb_H) (Q : Option Value → pb_H → Prop) (x : Int32), pb_R 197 53 [l0, some (.int x)] [] st h Q ↔ pb_R 197 54 [l0, some (.int x)] [] (.int x :: st) h Q) ∧
  (∀ (L : pb_L) (J : pb_J) (st : List Value) (h : pb_H) (Q : Option Value → pb_H → Prop) (x : Int32), pb_R 197 54 L J (.int x :: st) h Q ↔ if ¬ x = 0 then pb_R 197 59 L J st h Q else pb_R 197 57 L J st h Q) ∧
  (∀ (L : pb_L) (J : pb_J) (st : List Value) (h : pb_H) (Q : Option Value → pb_H → Prop), pb_R 197 57 L J st h Q ↔ pb_R 197 58 L J (.int (0 : Int32) :: st) h Q) ∧
  (∀ (L : pb_L) (J : pb_J) (h : pb_H) (Q : Option Value → pb_H → Prop) (x : Int32), pb_R 197 58 L J [.int x] h Q ↔ narrow .boolean (.int x) = .int x ∧ Q (some (.int x)) h) ∧
  (∀ (L : pb_L) (J : pb_J) (st : List Value) (h : pb_H) (Q : Option Value → pb_H → Prop), pb_R 197 59 L J st h Q ↔ pb_R 197 9 L J st h Q) ∧
  (∀ (l1 : Option Value) (st : List Value) (h : pb_H) (Q : Option Value → pb_H → Prop) (x : Nat), pb_R 197 62 [some (.ref x), l1] [] st h Q ↔ pb_R 197 63 [some (.ref x), l1] [] (.ref x :: st) h Q) ∧
  (∀ (l1 : Option Value) (st : List Value) (h : pb_H) (Q : Option Value → pb_H → Prop), pb_R 197 62 [some .null, l1] [] st h Q ↔ pb_R 197 63 [some .null, l1] [] (.null :: st) h Q) ∧
  (∀ (L : pb_L) (J : pb_J) (st : List Value) (h : pb_H) (Q : Option Value → pb_H → Prop) (a : Nat), pb_R 197 63 L J (.ref a :: st) h Q ↔ pb_o (pb_gf (h.2 a) 12 20) (fun v => pb_R 197 66 L J (v :: st) h Q)) ∧
  (∀ (L : pb_L) (J : pb_J) (st : List Value) (h : pb_H) (Q : Option Value → pb_H → Prop), pb_R 197 66 L J st h Q ↔ pb_R 197 67 L J (.int (1 : Int32) :: st) h Q) ∧
  (∀ (L : pb_L) (J : pb_J) (st : List Value) (h : pb_H) (Q : Option Value → pb_H → Prop) (x y : Int32), pb_R 197 67 L J (.int y :: .int x :: st) h Q ↔ if x = y then pb_R 197 80 L J st h Q else pb_R 197 70 L J st h Q) ∧
  (∀ (l1 : Option Value) (st : List Value) (h : pb_H) (Q : Option Value → pb_H → Prop) (x : Nat), pb_R 197 70 [some (.ref x), l1] [] st h Q ↔ pb_R 197 71 [some (.ref x), l1] [] (.ref x :: st) h Q) ∧
  (∀ (l1 : Option Value) (st : List Value) (h : pb_H) (Q : Option Value → pb_H → Prop), pb_R 197 70 [some .null, l1] [] st h Q ↔ pb_R 197 71 [some .null, l1] [] (.null :: st) h Q) ∧
  (∀ (L : pb_L) (J : pb_J) (st : List Value) (h : pb_H) (Q : Option Value → pb_H → Prop), pb_R 197 71 L J st h Q ↔ pb_R 197 72 L J (.int (4 : Int32) :: st) h Q) ∧
  (∀ (l1 : Option Value) (st : List Value) (h : pb_H) (Q : Option Value → pb_H → Prop) (x : Nat), pb_R 197 72 [some (.ref x), l1] [] st h Q ↔ pb_R 197 73 [some (.ref x), l1] [] (.ref x :: st) h Q) ∧
  (∀ (l1 : Option Value) (st : List Value) (h : pb_H) (Q : Option Value → pb_H → Prop), pb_R 197 72 [some .null, l1] [] st h Q ↔ pb_R 197 73 [some .null, l1] [] (.null :: st) h Q) ∧
  (∀ (L : pb_L) (J : pb_J) (st : List Value) (h : pb_H) (Q : Option Value → pb_H → Prop) (a : Nat), pb_R 197 73 L J (.ref a :: st) h Q ↔ pb_o (pb_gf (h.2 a) 12 16) (fun v => pb_R 197 76 L J (v :: st) h Q)) ∧
  (∀ (L : pb_L) (J : pb_J) (h : pb_H) (Q : Option Value → pb_H → Prop) (x0 : Int32) (x1 : Int32) (x2 : Nat), pb_R 197 76 L J [.int x0, .int x1, .ref x2] h Q ↔ pb_is0 (h.2 x2) 12 = true ∧ pb_call 183 [.ref x2, .int x1, .int x0] h (fun v t => pb_R 197 79 L J (v.toList ++ []) t Q)) ∧
  (∀ (L : pb_L) (J : pb_J) (h : pb_H) (Q : Option Value → pb_H → Prop) (x : Int32), pb_R 197 79 L J [.int x] h Q ↔ narrow .boolean (.int x) = .int x ∧ Q (some (.int x)) h) ∧
  (∀ (l1 : Option Value) (st : List Value) (h : pb_H) (Q : Option Value → pb_H → Prop) (x : Nat), pb_R 197 80 [some (.ref x), l1] [] st h Q ↔ pb_R 197 81 [some (.ref x), l1] [] (.ref x :: st) h Q) ∧
  (∀ (l1 : Option Value) (st : List Value) (h : pb_H) (Q : Option Value → pb_H → Prop), pb_R 197 80 [some .null, l1] [] st h Q ↔ pb_R 197 81 [some .null, l1] [] (.null :: st) h Q) ∧
  (∀ (L : pb_L) (J : pb_J) (st : List Value) (h : pb_H) (Q : Option Value → pb_H → Prop) (a : Nat), pb_R 197 81 L J (.ref a :: st) h Q ↔ pb_o (pb_gf (h.2 a) 12 4) (fun v => pb_R 197 84 L J (v :: st) h Q)) ∧
  (∀ (L : pb_L) (J : pb_J) (st : List Value) (h : pb_H) (Q : Option Value → pb_H → Prop), pb_R 197 84 L J st h Q ↔ pb_R 197 87 L J (.int (300 : Int32) :: st) h Q) ∧
  (∀ (L : pb_L) (J : pb_J) (st : List Value) (h : pb_H) (Q : Option Value → pb_H → Prop) (x y : Int32), pb_R 197 87 L J (.int y :: .int x :: st) h Q ↔ if ¬ x = y then pb_R 197 100 L J st h Q else pb_R 197 90 L J st h Q) ∧
  (∀ (l1 : Option Value) (st : List Value) (h : pb_H) (Q : Option Value → pb_H → Prop) (x : Nat), pb_R 197 90 [some (.ref x), l1] [] st h Q ↔ pb_R 197 91 [some (.ref x), l1] [] (.ref x :: st) h Q) ∧
  (∀ (l1 : Option Value) (st : List Value) (h : pb_H) (Q : Option Value → pb_H → Prop), pb_R 197 90 [some .null, l1] [] st h Q ↔ pb_R 197 91 [some .null, l1] [] (.null :: st) h Q) ∧
  (∀ (L : pb_L) (J : pb_J) (st : List Value) (h : pb_H) (Q : Option Value → pb_H → Prop), pb_R 197 91 L J st h Q ↔ pb_R 197 92 L J (.int (5 : Int32) :: st) h Q) ∧
  (∀ (l1 : Option Value) (st : List Value) (h : pb_H) (Q : Option Value → pb_H → Prop) (x : Nat), pb_R 197 92 [some (.ref x), l1] [] st h Q ↔ pb_R 197 93 [some (.ref x), l1] [] (.ref x :: st) h Q) ∧
  (∀ (l1 : Option Value) (st : List Value) (h : pb_H) (Q : Option Value → pb_H → Prop), pb_R 197 92 [some .null, l1] [] st h Q ↔ pb_R 197 93 [some .null, l1] [] (.null :: st) h Q) ∧
  (∀ (L : pb_L) (J : pb_J) (st : List Value) (h : pb_H) (Q : Option Value → pb_H → Prop) (a : Nat), pb_R 197 93 L J (.ref a :: st) h Q ↔ pb_o (pb_gf (h.2 a) 12 16) (fun v => pb_R 197 96 L J (v :: st) h Q)) ∧
  (∀ (L : pb_L) (J : pb_J) (h : pb_H) (Q : Option Value → pb_H → Prop) (x0 : Int32) (x1 : Int32) (x2 : Nat), pb_R 197 96 L J [.int x0, .int x1, .ref x2] h Q ↔ pb_is0 (h.2 x2) 12 = true ∧ pb_call 183 [.ref x2, .int x1, .int x0] h (fun v t => pb_R 197 99 L J (v.toList ++ []) t Q)) ∧
  (∀ (L : pb_L) (J : pb_J) (h : pb_H) (Q : Option Value → pb_H → Prop) (x : Int32), pb_R 197 99 L J [.int x] h Q ↔ narrow .boolean (.int x) = .int x ∧ Q (some (.int x)) h) ∧
  (∀ (l1 : Option Value) (st : List Value) (h : pb_H) (Q : Option Value → pb_H → Prop) (x : Nat), pb_R 197 100 [some (.ref x), l1] [] st h Q ↔ pb_R 197 101 [some (.ref x), l1] [] (.ref x :: st) h Q) ∧
  (∀ (l1 : Option Value) (st : List Value) (h : pb_H) (Q : Option Value → pb_H → Prop), pb_R 197 100 [some .null, l1] [] st h Q ↔ pb_R 197 101 [some .null, l1] [] (.null :: st) h Q) ∧
  (∀ (L : pb_L) (J : pb_J) (st : List Value) (h : pb_H) (Q : Option Value → pb_H → Prop), pb_R 197 101 L J st h Q ↔ pb_R 197 104 L J (.int (301 : Int32) :: st) h Q) ∧
  (∀ (L : pb_L) (J : pb_J) (st : List Value) (h : pb_H) (Q : Option Value → pb_H → Prop), pb_R 197 104 L J st h Q ↔ pb_R 197 105 L J (.int (2 : Int32) :: st) h Q) ∧
  (∀ (L : pb_L) (J : pb_J) (h : pb_H) (Q : Option Value → pb_H → Prop) (x0 : Int32) (x1 : Int32) (x2 : Nat), pb_R 197 105 L J [.int x0, .int x1, .ref x2] h Q ↔ pb_is0 (h.2 x2) 12 = true ∧ pb_call 196 [.ref x2, .int x1, .int x0] h (fun v t => pb_R 197 108 L J (v.toList ++ []) t Q)) ∧
  (∀ (L : pb_L) (J : pb_J) (st : List Value) (h : pb_H) (Q : Option Value → pb_H → Prop), pb_R 197 108 L J st h Q ↔ pb_R 197 109 L J (.int (1 : Int32) :: st) h Q) ∧
  (∀ (L : pb_L) (J : pb_J) (h : pb_H) (Q : Option Value → pb_H → Prop) (x : Int32), pb_R 197 109 L J [.int x] h Q ↔ narrow .boolean (.int x) = .int x ∧ Q (some (.int x)) h) := ⟨
  fun l1 st h Q x => pf_S pb_u_197 rfl rfl,
  fun l1 st h Q => pf_S pb_u_197 rfl rfl,
  fun L J st h Q => pf_S pb_u_197 rfl rfl,
  fun L J st h Q a x => pf_pf pb_u_197 rfl rfl,
  fun l1 st h Q x => pf_S pb_u_197 rfl rfl,
  fun l1 st h Q => pf_S pb_u_197 rfl rfl,
  fun L J h Q x0 => pf_kv pb_u_197 rfl pb_ci_177 rfl ⟨Nat.le_of_ble_eq_true rfl, Nat.le_of_ble_eq_true rfl, Nat.le_of_ble_eq_true rfl, Nat.le_of_ble_eq_true rfl, rfl⟩ rfl rfl,
  fun L J st h Q => pf_S pb_u_197 rfl rfl,
  fun L J h Q x0 x1 => pf_kv pb_u_197 rfl pb_ci_178 rfl ⟨Nat.le_of_ble_eq_true rfl, Nat.le_of_ble_eq_true rfl, Nat.le_of_ble_eq_true rfl, Nat.le_of_ble_eq_true rfl, rfl⟩ rfl rfl,
  fun L J st h Q x => pf_ii pb_u_197 rfl rfl pf_ne,
  fun l1 st h Q x => pf_S pb_u_197 rfl rfl,
  fun l1 st h Q => pf_S pb_u_197 rfl rfl,
  fun L J st h Q a => pf_gf pb_u_197 rfl rfl,
  fun L J st h Q => pf_S pb_u_197 rfl rfl,
  fun L J st h Q x y => pf_ic pb_u_197 rfl rfl pf_ne,
  fun l1 st h Q x => pf_S pb_u_197 rfl rfl,
  fun l1 st h Q => pf_S pb_u_197 rfl rfl,
  fun L J h Q x0 => pf_kv pb_u_197 rfl pb_ci_193 rfl ⟨Nat.le_of_ble_eq_true rfl, Nat.le_of_ble_eq_true rfl, Nat.le_of_ble_eq_true rfl, Nat.le_of_ble_eq_true rfl, rfl⟩ rfl rfl,
  fun L J st h Q => pf_S pb_u_197 rfl rfl,
  fun l1 st h Q x => pf_S pb_u_197 rfl rfl,
  fun l1 st h Q => pf_S pb_u_197 rfl rfl,
  fun L J st h Q a => pf_gf pb_u_197 rfl rfl,
  fun L J st h Q => pf_S pb_u_197 rfl rfl,
  fun L J st h Q x y => pf_ic pb_u_197 rfl rfl pf_ne,
  fun l1 st h Q x => pf_S pb_u_197 rfl rfl,
  fun l1 st h Q => pf_S pb_u_197 rfl rfl,
  fun L J h Q x0 => pf_kv pb_u_197 rfl pb_ci_194 rfl ⟨Nat.le_of_ble_eq_true rfl, Nat.le_of_ble_eq_true rfl, Nat.le_of_ble_eq_true rfl, Nat.le_of_ble_eq_true rfl, rfl⟩ rfl rfl,
  fun L J st h Q => pf_S pb_u_197 rfl rfl,
  fun l1 st h Q x => pf_S pb_u_197 rfl rfl,
  fun l1 st h Q => pf_S pb_u_197 rfl rfl,
  fun L J h Q x0 => pf_kv pb_u_197 rfl pb_ci_195 rfl ⟨Nat.le_of_ble_eq_true rfl, Nat.le_of_ble_eq_true rfl, Nat.le_of_ble_eq_true rfl, Nat.le_of_ble_eq_true rfl, rfl⟩ rfl rfl,
  fun l0 l1 st h Q x => pf_S pb_u_197 rfl rfl,
  fun l0 st h Q x => pf_S pb_u_197 rfl rfl,
  fun L J st h Q x => pf_ii pb_u_197 rfl rfl pf_ne,
  fun L J st h Q => pf_S pb_u_197 rfl rfl,
  fun L J h Q x => pf_rz pb_u_197 rfl rfl,
  fun L J st h Q => pf_S pb_u_197 rfl rfl,
  fun l1 st h Q x => pf_S pb_u_197 rfl rfl,
  fun l1 st h Q => pf_S pb_u_197 rfl rfl,
  fun L J st h Q a => pf_gf pb_u_197 rfl rfl,
  fun L J st h Q => pf_S pb_u_197 rfl rfl,
  fun L J st h Q x y => pf_ic pb_u_197 rfl rfl rfl,
  fun l1 st h Q x => pf_S pb_u_197 rfl rfl,
  fun l1 st h Q => pf_S pb_u_197 rfl rfl,
  fun L J st h Q => pf_S pb_u_197 rfl rfl,
  fun l1 st h Q x => pf_S pb_u_197 rfl rfl,
  fun l1 st h Q => pf_S pb_u_197 rfl rfl,
  fun L J st h Q a => pf_gf pb_u_197 rfl rfl,
  fun L J h Q x0 x1 x2 => pf_kv pb_u_197 rfl pb_ci_183 rfl ⟨Nat.le_of_ble_eq_true rfl, Nat.le_of_ble_eq_true rfl, Nat.le_of_ble_eq_true rfl, Nat.le_of_ble_eq_true rfl, rfl⟩ rfl rfl,
  fun L J h Q x => pf_rz pb_u_197 rfl rfl,
  fun l1 st h Q x => pf_S pb_u_197 rfl rfl,
  fun l1 st h Q => pf_S pb_u_197 rfl rfl,
  fun L J st h Q a => pf_gf pb_u_197 rfl rfl,
  fun L J st h Q => pf_S pb_u_197 rfl rfl,
  fun L J st h Q x y => pf_ic pb_u_197 rfl rfl pf_ne,
  fun l1 st h Q x => pf_S pb_u_197 rfl rfl,
  fun l1 st h Q => pf_S pb_u_197 rfl rfl,
  fun L J st h Q => pf_S pb_u_197 rfl rfl,
  fun l1 st h Q x => pf_S pb_u_197 rfl rfl,
  fun l1 st h Q => pf_S pb_u_197 rfl rfl,
  fun L J st h Q a => pf_gf pb_u_197 rfl rfl,
  fun L J h Q x0 x1 x2 => pf_kv pb_u_197 rfl pb_ci_183 rfl ⟨Nat.le_of_ble_eq_true rfl, Nat.le_of_ble_eq_true rfl, Nat.le_of_ble_eq_true rfl, Nat.le_of_ble_eq_true rfl, rfl⟩ rfl rfl,
  fun L J h Q x => pf_rz pb_u_197 rfl rfl,
  fun l1 st h Q x => pf_S pb_u_197 rfl rfl,
  fun l1 st h Q => pf_S pb_u_197 rfl rfl,
  fun L J st h Q => pf_S pb_u_197 rfl rfl,
  fun L J st h Q => pf_S pb_u_197 rfl rfl,
  fun L J h Q x0 x1 x2 => pf_kv pb_u_197 rfl pb_ci_196 rfl ⟨Nat.le_of_ble_eq_true rfl, Nat.le_of_ble_eq_true rfl, Nat.le_of_ble_eq_true rfl, Nat.le_of_ble_eq_true rfl, rfl⟩ rfl rfl,
  fun L J st h Q => pf_S pb_u_197 rfl rfl,
  fun L J h Q x => pf_rz pb_u_197 rfl rfl⟩
theorem pb_c197 (x0 : Nat) (h : pb_H) (Q : Option Value → pb_H → Prop) : pb_call 197 [.ref x0] h Q ↔ pb_R 197 0 [some (.ref x0), none] [] [] h Q := Iff.rfl
/-! 198: PlaneBenchModel.turn()V -/
theorem pb_u_198 : pb_t 198 = pb_t198 := rfl
theorem pb_ci_198 : pb_ci 198 = 12 := by decide +kernel
set_option maxRecDepth 100000 in
theorem pb_q198_26 (l0 l1 : Option Value) (st : List Value) (h : pb_H) (Q : Option Value → pb_H → Prop) (x : Int32) : pb_R 198 26 [l0, l1, some (.int x)] [] st h Q ↔ pb_R 198 27 [l0, l1, some (.int x)] [] (.int x :: st) h Q := pf_S pb_u_198 rfl rfl
set_option maxRecDepth 100000 in
theorem pb_e198 : (∀ (l1 l2 : Option Value) (st : List Value) (h : pb_H) (Q : Option Value → pb_H → Prop) (x : Nat), pb_R 198 0 [some (.ref x), l1, l2] [] st h Q ↔ pb_R 198 1 [some (.ref x), l1, l2] [] (.ref x :: st) h Q) ∧
  (∀ (l1 l2 : Option Value) (st : List Value) (h : pb_H) (Q : Option Value → pb_H → Prop), pb_R 198 0 [some .null, l1, l2] [] st h Q ↔ pb_R 198 1 [some .null, l1, l2] [] (.null :: st) h Q) ∧
  (∀ (L : pb_L) (J : pb_J) (st : List Value) (h : pb_H) (Q : Option Value → pb_H → Prop), pb_R 198 1 L J st h Q ↔ pb_R 198 4 L J (.int (318 : Int32) :: st) h Q) ∧
  (∀ (L : pb_L) (J : pb_J) (st : List Value) (h : pb_H) (Q : Option Value → pb_H → Prop), pb_R 198 4 L J st h Q ↔ pb_R 198 7 L J (.int (319 : Int32) :: st) h Q) ∧
  (∀ (L : pb_L) (J : pb_J) (h : pb_H) (Q : Option Value → pb_H → Prop) (x0 : Int32) (x1 : Int32) (x2 : Nat), pb_R 198 7 L J [.int x0, .int x1, .ref x2] h Q ↔ pb_is0 (h.2 x2) 12 = true ∧ pb_call 162 [.ref x2, .int x1, .int x0] h (fun v t => pb_R 198 10 L J (v.toList ++ []) t Q)) ∧
  (∀ (L : pb_L) (J : pb_J) (st : List Value) (h : pb_H) (Q : Option Value → pb_H → Prop), pb_R 198 10 L J st h Q ↔ pb_R 198 13 L J (.int (319 : Int32) :: st) h Q) ∧
  (∀ (L : pb_L) (J : pb_J) (st : List Value) (h : pb_H) (Q : Option Value → pb_H → Prop), pb_R 198 13 L J st h Q ↔ pb_R 198 14 L J (.int (0 : Int32) :: st) h Q) ∧
  (∀ (L : pb_L) (J : pb_J) (h : pb_H) (Q : Option Value → pb_H → Prop) (x0 : Int32) (x1 : Int32), pb_R 198 14 L J [.int x0, .int x1] h Q ↔ pb_call 143 [.int x1, .int x0] h (fun v t => pb_R 198 17 L J (v.toList ++ []) t Q)) ∧
  (∀ (l0 l1 l2 : Option Value) (st : List Value) (h : pb_H) (Q : Option Value → pb_H → Prop) (x : Int32), pb_R 198 17 [l0, l1, l2] [] (.int x :: st) h Q ↔ pb_R 198 18 [l0, some (.int x), l2] [] st h Q) ∧
  (∀ (l1 l2 : Option Value) (st : List Value) (h : pb_H) (Q : Option Value → pb_H → Prop) (x : Nat), pb_R 198 18 [some (.ref x), l1, l2] [] st h Q ↔ pb_R 198 19 [some (.ref x), l1, l2] [] (.ref x :: st) h Q) ∧
  (∀ (l1 l2 : Option Value) (st : List Value) (h : pb_H) (Q : Option Value → pb_H → Prop), pb_R 198 18 [some .null, l1, l2] [] st h Q ↔ pb_R 198 19 [some .null, l1, l2] [] (.null :: st) h Q) ∧
  (∀ (l0 l2 : Option Value) (st : List Value) (h : pb_H) (Q : Option Value → pb_H → Prop) (x : Int32), pb_R 198 19 [l0, some (.int x), l2] [] st h Q ↔ pb_R 198 20 [l0, some (.int x), l2] [] (.int x :: st) h Q) ∧
  (∀ (L : pb_L) (J : pb_J) (st : List Value) (h : pb_H) (Q : Option Value → pb_H → Prop), pb_R 198 20 L J st h Q ↔ pb_R 198 21 L J (.int (1 : Int32) :: st) h Q) ∧
  (∀ (L : pb_L) (J : pb_J) (h : pb_H) (Q : Option Value → pb_H → Prop) (x0 : Int32) (x1 : Int32) (x2 : Nat), pb_R 198 21 L J [.int x0, .int x1, .ref x2] h Q ↔ pb_is0 (h.2 x2) 12 = true ∧ pb_call 145 [.ref x2, .int x1, .int x0] h (fun v t => pb_R 198 24 L J (v.toList ++ []) t Q)) ∧
  (∀ (L : pb_L) (J : pb_J) (st : List Value) (h : pb_H) (Q : Option Value → pb_H → Prop), pb_R 198 24 L J st h Q ↔ pb_R 198 25 L J (.int (1 : Int32) :: st) h Q) ∧
  (∀ (l0 l1 l2 : Option Value) (st : List Value) (h : pb_H) (Q : Option Value → pb_H → Prop) (x : Int32), pb_R 198 25 [l0, l1, l2] [] (.int x :: st) h Q ↔ pb_R 198 26 [l0, l1, some (.int x)] [] st h Q) ∧
  (∀ (l1 l2 : Option Value) (st : List Value) (h : pb_H) (Q : Option Value → pb_H → Prop) (x : Nat), pb_R 198 27 [some (.ref x), l1, l2] [] st h Q ↔ pb_R 198 28 [some (.ref x), l1, l2] [] (.ref x :: st) h Q) ∧
  (∀ (l1 l2 : Option Value) (st : List Value) (h : pb_H) (Q : Option Value → pb_H → Prop), pb_R 198 27 [some .null, l1, l2] [] st h Q ↔ pb_R 198 28 [some .null, l1, l2] [] (.null :: st) h Q) ∧
  (∀ (L : pb_L) (J : pb_J) (st : List Value) (h : pb_H) (Q : Option Value → pb_H → Prop) (a : Nat), pb_R 198 28 L J (.ref a :: st) h Q ↔ pb_o (pb_gf (h.2 a) 12 3) (fun v => pb_R 198 31 L J (v :: st) h Q)) ∧
  (∀ (L : pb_L) (J : pb_J) (st : List Value) (h : pb_H) (Q : Option Value → pb_H → Prop) (x y : Int32), pb_R 198 31 L J (.int y :: .int x :: st) h Q ↔ if y < x then pb_R 198 73 L J st h Q else pb_R 198 34 L J st h Q) ∧
  (∀ (l1 l2 : Option Value) (st : List Value) (h : pb_H) (Q : Option Value → pb_H → Prop) (x : Nat), pb_R 198 34 [some (.ref x), l1, l2] [] st h Q ↔ pb_R 198 35 [some (.ref x), l1, l2] [] (.ref x :: st) h Q) ∧
  (∀ (l1 l2 : Option Value) (st : List Value) (h : pb_H) (Q : Option Value → pb_H → Prop), pb_R 198 34 [some .null, l1, l2] [] st h Q ↔ pb_R 198 35 [some .null, l1, l2] [] (.null :: st) h Q) ∧
  (∀ (L : pb_L) (J : pb_J) (st : List Value) (h : pb_H) (Q : Option Value → pb_H → Prop) (a : Nat), pb_R 198 35 L J (.ref a :: st) h Q ↔ pb_o (pb_gf (h.2 a) 12 1) (fun v => pb_R 198 38 L J (v :: st) h Q)) ∧
  (∀ (L : pb_L) (J : pb_J) (st : List Value) (h : pb_H) (Q : Option Value → pb_H → Prop), pb_R 198 38 L J st h Q ↔ pb_R 198 41 L J (.int (5423 : Int32) :: st) h Q) ∧
  (∀ (l0 l1 : Option Value) (st : List Value) (h : pb_H) (Q : Option Value → pb_H → Prop) (x : Int32), pb_R 198 41 [l0, l1, some (.int x)] [] st h Q ↔ pb_R 198 42 [l0, l1, some (.int x)] [] (.int x :: st) h Q) ∧
  (∀ (L : pb_L) (J : pb_J) (st : List Value) (x y : Int32) (h : pb_H) (Q : Option Value → pb_H → Prop), pb_R 198 42 L J (.int y :: .int x :: st) h Q ↔ pb_R 198 43 L J (.int (x + y) :: st) h Q) ∧
  (∀ (l1 l2 : Option Value) (st : List Value) (h : pb_H) (Q : Option Value → pb_H → Prop) (x : Nat), pb_R 198 43 [some (.ref x), l1, l2] [] st h Q ↔ pb_R 198 44 [some (.ref x), l1, l2] [] (.ref x :: st) h Q) ∧
  (∀ (l1 l2 : Option Value) (st : List Value) (h : pb_H) (Q : Option Value → pb_H → Prop), pb_R 198 43 [some .null, l1, l2] [] st h Q ↔ pb_R 198 44 [some .null, l1, l2] [] (.null :: st) h Q) ∧
  (∀ (L : pb_L) (J : pb_J) (st : List Value) (h : pb_H) (Q : Option Value → pb_H → Prop) (a : Nat), pb_R 198 44 L J (.ref a :: st) h Q ↔ pb_o (pb_gf (h.2 a) 12 1) (fun v => pb_R 198 47 L J (v :: st) h Q)) ∧
  (∀ (L : pb_L) (J : pb_J) (st : List Value) (h : pb_H) (Q : Option Value → pb_H → Prop), pb_R 198 47 L J st h Q ↔ pb_R 198 50 L J (.int (5423 : Int32) :: st) h Q) ∧
  (∀ (l0 l1 : Option Value) (st : List Value) (h : pb_H) (Q : Option Value → pb_H → Prop) (x : Int32), pb_R 198 50 [l0, l1, some (.int x)] [] st h Q ↔ pb_R 198 51 [l0, l1, some (.int x)] [] (.int x :: st) h Q) ∧
  (∀ (L : pb_L) (J : pb_J) (st : List Value) (x y : Int32) (h : pb_H) (Q : Option Value → pb_H → Prop), pb_R 198 51 L J (.int y :: .int x :: st) h Q ↔ pb_R 198 52 L J (.int (x + y) :: st) h Q) ∧
  (∀ (L : pb_L) (J : pb_J) (st : List Value) (h : pb_H) (Q : Option Value → pb_H → Prop) (a : Nat) (i : Int32), pb_R 198 52 L J (.int i :: .ref a :: st) h Q ↔ pb_o (pb_ai (h.2 a) i) (fun v => pb_R 198 53 L J (.int v :: st) h Q)) ∧
  (∀ (L : pb_L) (J : pb_J) (st : List Value) (x : Int32) (h : pb_H) (Q : Option Value → pb_H → Prop), pb_R 198 53 L J (.int x :: st) h Q ↔ pb_R 198 54 L J (.int (-x) :: st) h Q) ∧
  (∀ (L : pb_L) (J : pb_J) (st : List Value) (h : pb_H) (Q : Option Value → pb_H → Prop) (a : Nat) (i x : Int32), pb_R 198 54 L J (.int x :: .int i :: .ref a :: st) h Q ↔ pb_o (pb_si (h.2 a) i x) (fun c => pb_R 198 55 L J st (pb_set h a c) Q)) ∧
  (∀ (l1 l2 : Option Value) (st : List Value) (h : pb_H) (Q : Option Value → pb_H → Prop) (x : Nat), pb_R 198 55 [some (.ref x), l1, l2] [] st h Q ↔ pb_R 198 56 [some (.ref x), l1, l2] [] (.ref x :: st) h Q) ∧
  (∀ (l1 l2 : Option Value) (st : List Value) (h : pb_H) (Q : Option Value → pb_H → Prop), pb_R 198 55 [some .null, l1, l2] [] st h Q ↔ pb_R 198 56 [some .null, l1, l2] [] (.null :: st) h Q) ∧
  (∀ (l0 l2 : Option Value) (st : List Value) (h : pb_H) (Q : Option Value → pb_H → Prop) (x : Int32), pb_R 198 56 [l0, some (.int x), l2] [] st h Q ↔ pb_R 198 57 [l0, some (.int x), l2] [] (.int x :: st) h Q) ∧
  (∀ (L : pb_L) (J : pb_J) (st : List Value) (h : pb_H) (Q : Option Value → pb_H → Prop), pb_R 198 57 L J st h Q ↔ pb_R 198 60 L J (.int (319 : Int32) :: st) h Q) ∧
  (∀ (l0 l1 : Option Value) (st : List Value) (h : pb_H) (Q : Option Value → pb_H → Prop) (x : Int32), pb_R 198 60 [l0, l1, some (.int x)] [] st h Q ↔ pb_R 198 61 [l0, l1, some (.int x)] [] (.int x :: st) h Q) ∧
  (∀ (L : pb_L) (J : pb_J) (h : pb_H) (Q : Option Value → pb_H → Prop) (x0 : Int32) (x1 : Int32) (x2 : Int32) (x3 : Nat), pb_R 198 61 L J [.int x0, .int x1, .int x2, .ref x3] h Q ↔ pb_call 143 [.int x1, .int x0] h (fun v t => pb_R 198 64 L J (v.toList ++ [.int x2, .ref x3]) t Q)) ∧
  (∀ (L : pb_L) (J : pb_J) (h : pb_H) (Q : Option Value → pb_H → Prop) (x0 : Int32) (x1 : Int32) (x2 : Nat), pb_R 198 64 L J [.int x0, .int x1, .ref x2] h Q ↔ pb_is0 (h.2 x2) 12 = true ∧ pb_call 151 [.ref x2, .int x1, .int x0] h (fun v t => pb_R 198 67 L J (v.toList ++ []) t Q)) ∧
  (∀ (l0 l1 : Option Value) (st : List Value) (h : pb_H) (Q : Option Value → pb_H → Prop) (x : Int32), pb_R 198 67 [l0, l1, some (.int x)] [] st h Q ↔ pb_R 198 70 [l0, l1, some (.int (x + (1 : Int32)))] [] st h Q) ∧
  (∀ (L : pb_L) (J : pb_J) (st : List Value) (h : pb_H) (Q : Option Value → pb_H → Prop), pb_R 198 70 L J st h Q ↔ pb_R 198 26 L J st h Q) ∧
  (∀ (l1 l2 : Option Value) (st : List Value) (h : pb_H) (Q : Option Value → pb_H → Prop) (x : Nat), pb_R 198 73 [some (.ref x), l1, l2] [] st h Q ↔ pb_R 198 74 [some (.ref x), l1, l2] [] (.ref x :: st) h Q) ∧
  (∀ (l1 l2 : Option Value) (st : List Value) (h : pb_H) (Q : Option Value → pb_H → Prop), pb_R 198 73 [some .null, l1, l2] [] st h Q ↔ pb_R 198 74 [some .null, l1, l2] [] (.null :: st) h Q) ∧
  (∀ (l0 l2 : Option Value) (st : List Value) (h : pb_H) (Q : Option Value → pb_H → Prop) (x : Int32), pb_R 198 74 [l0, some (.int x), l2] [] st h Q ↔ pb_R 198 75 [l0, some (.int x), l2] [] (.int x :: st) h Q) ∧
  (∀ (L : pb_L) (J : pb_J) (st : List Value) (h : pb_H) (Q : Option Value → pb_H → Prop), pb_R 198 75 L J st h Q ↔ pb_R 198 78 L J (.int (318 : Int32) :: st) h Q) ∧
  (∀ (L : pb_L) (J : pb_J) (st : List Value) (h : pb_H) (Q : Option Value → pb_H → Prop), pb_R 198 78 L J st h Q ↔ pb_R 198 79 L J (.int (0 : Int32) :: st) h Q) ∧
  (∀ (L : pb_L) (J : pb_J) (h : pb_H) (Q : Option Value → pb_H → Prop) (x0 : Int32) (x1 : Int32) (x2 : Int32) (x3 : Nat), pb_R 198 79 L J [.int x0, .int x1, .int x2, .ref x3] h Q ↔ pb_call 143 [.int x1, .int x0] h (fun v t => pb_R 198 82 L J (v.toList ++ [.int x2, .ref x3]) t Q)) ∧
  (∀ (L : pb_L) (J : pb_J) (h : pb_H) (Q : Option Value → pb_H → Prop) (x0 : Int32) (x1 : Int32) (x2 : Nat), pb_R 198 82 L J [.int x0, .int x1, .ref x2] h Q ↔ pb_is0 (h.2 x2) 12 = true ∧ pb_call 153 [.ref x2, .int x1, .int x0] h (fun v t => pb_R 198 85 L J (v.toList ++ []) t Q)) ∧
  (∀ (L : pb_L) (J : pb_J) (h : pb_H) (Q : Option Value → pb_H → Prop), pb_R 198 85 L J [] h Q ↔ Q none h) := ⟨
  fun l1 l2 st h Q x => pf_S pb_u_198 rfl rfl,
  fun l1 l2 st h Q => pf_S pb_u_198 rfl rfl,
  fun L J st h Q => pf_S pb_u_198 rfl rfl,
  fun L J st h Q => pf_S pb_u_198 rfl rfl,
  fun L J h Q x0 x1 x2 => pf_kv pb_u_198 rfl pb_ci_162 rfl ⟨Nat.le_of_ble_eq_true rfl, Nat.le_of_ble_eq_true rfl, Nat.le_of_ble_eq_true rfl, Nat.le_of_ble_eq_true rfl, rfl⟩ rfl rfl,
  fun L J st h Q => pf_S pb_u_198 rfl rfl,
  fun L J st h Q => pf_S pb_u_198 rfl rfl,
  fun L J h Q x0 x1 => pf_ks pb_u_198 rfl rfl rfl rfl,
  fun l0 l1 l2 st h Q x => pf_S pb_u_198 rfl rfl,
  fun l1 l2 st h Q x => pf_S pb_u_198 rfl rfl,
  fun l1 l2 st h Q => pf_S pb_u_198 rfl rfl,
  fun l0 l2 st h Q x => pf_S pb_u_198 rfl rfl,
  fun L J st h Q => pf_S pb_u_198 rfl rfl,
  fun L J h Q x0 x1 x2 => pf_kv pb_u_198 rfl pb_ci_145 rfl ⟨Nat.le_of_ble_eq_true rfl, Nat.le_of_ble_eq_true rfl, Nat.le_of_ble_eq_true rfl, Nat.le_of_ble_eq_true rfl, rfl⟩ rfl rfl,
  fun L J st h Q => pf_S pb_u_198 rfl rfl,
  fun l0 l1 l2 st h Q x => pf_S pb_u_198 rfl rfl,
  fun l1 l2 st h Q x => pf_S pb_u_198 rfl rfl,
  fun l1 l2 st h Q => pf_S pb_u_198 rfl rfl,
  fun L J st h Q a => pf_gf pb_u_198 rfl rfl,
  fun L J st h Q x y => pf_ic pb_u_198 rfl rfl rfl,
  fun l1 l2 st h Q x => pf_S pb_u_198 rfl rfl,
  fun l1 l2 st h Q => pf_S pb_u_198 rfl rfl,
  fun L J st h Q a => pf_gf pb_u_198 rfl rfl,
  fun L J st h Q => pf_S pb_u_198 rfl rfl,
  fun l0 l1 st h Q x => pf_S pb_u_198 rfl rfl,
  fun L J st x y h Q => pf_S pb_u_198 rfl rfl,
  fun l1 l2 st h Q x => pf_S pb_u_198 rfl rfl,
  fun l1 l2 st h Q => pf_S pb_u_198 rfl rfl,
  fun L J st h Q a => pf_gf pb_u_198 rfl rfl,
  fun L J st h Q => pf_S pb_u_198 rfl rfl,
  fun l0 l1 st h Q x => pf_S pb_u_198 rfl rfl,
  fun L J st x y h Q => pf_S pb_u_198 rfl rfl,
  fun L J st h Q a i => pf_ai pb_u_198 rfl rfl,
  fun L J st x h Q => pf_S pb_u_198 rfl rfl,
  fun L J st h Q a i x => pf_si pb_u_198 rfl rfl,
  fun l1 l2 st h Q x => pf_S pb_u_198 rfl rfl,
  fun l1 l2 st h Q => pf_S pb_u_198 rfl rfl,
  fun l0 l2 st h Q x => pf_S pb_u_198 rfl rfl,
  fun L J st h Q => pf_S pb_u_198 rfl rfl,
  fun l0 l1 st h Q x => pf_S pb_u_198 rfl rfl,
  fun L J h Q x0 x1 x2 x3 => pf_ks pb_u_198 rfl rfl rfl rfl,
  fun L J h Q x0 x1 x2 => pf_kv pb_u_198 rfl pb_ci_151 rfl ⟨Nat.le_of_ble_eq_true rfl, Nat.le_of_ble_eq_true rfl, Nat.le_of_ble_eq_true rfl, Nat.le_of_ble_eq_true rfl, rfl⟩ rfl rfl,
  fun l0 l1 st h Q x => pf_S pb_u_198 rfl rfl,
  fun L J st h Q => pf_S pb_u_198 rfl rfl,
  fun l1 l2 st h Q x => pf_S pb_u_198 rfl rfl,
  fun l1 l2 st h Q => pf_S pb_u_198 rfl rfl,
  fun l0 l2 st h Q x => pf_S pb_u_198 rfl rfl,
  fun L J st h Q => pf_S pb_u_198 rfl rfl,
  fun L J st h Q => pf_S pb_u_198 rfl rfl,
  fun L J h Q x0 x1 x2 x3 => pf_ks pb_u_198 rfl rfl rfl rfl,
  fun L J h Q x0 x1 x2 => pf_kv pb_u_198 rfl pb_ci_153 rfl ⟨Nat.le_of_ble_eq_true rfl, Nat.le_of_ble_eq_true rfl, Nat.le_of_ble_eq_true rfl, Nat.le_of_ble_eq_true rfl, rfl⟩ rfl rfl,
  fun L J h Q => pf_rv pb_u_198 rfl rfl⟩
theorem pb_c198 (x0 : Nat) (h : pb_H) (Q : Option Value → pb_H → Prop) : pb_call 198 [.ref x0] h Q ↔ pb_R 198 0 [some (.ref x0), none, none] [] [] h Q := Iff.rfl
/-! 199: PlaneBenchModel.follows()Z -/
theorem pb_u_199 : pb_t 199 = pb_t199 := rfl
theorem pb_ci_199 : pb_ci 199 = 12 := by decide +kernel
set_option maxRecDepth 100000 in
theorem pb_q199_79 (l0 l2 l3 l4 : Option Value) (st : List Value) (h : pb_H) (Q : Option Value → pb_H → Prop) (x : Int32) : pb_R 199 79 [l0, some (.int x), l2, l3, l4] [] st h Q ↔ pb_R 199 80 [l0, some (.int x), l2, l3, l4] [] (.int x :: st) h Q := pf_S pb_u_199 rfl rfl
set_option maxRecDepth 100000 in
theorem pb_q199_100 (l0 l2 l3 l4 : Option Value) (st : List Value) (h : pb_H) (Q : Option Value → pb_H → Prop) (x : Int32) : pb_R 199 100 [l0, some (.int x), l2, l3, l4] [] st h Q ↔ pb_R 199 101 [l0, some (.int x), l2, l3, l4] [] (.int x :: st) h Q := pf_S pb_u_199 rfl rfl
set_option maxRecDepth 100000 in
theorem pb_q199_108 (l0 l1 l3 l4 : Option Value) (st : List Value) (h : pb_H) (Q : Option Value → pb_H → Prop) (x : Int32) : pb_R 199 108 [l0, l1, some (.int x), l3, l4] [] st h Q ↔ pb_R 199 109 [l0, l1, some (.int x), l3, l4] [] (.int x :: st) h Q := pf_S pb_u_199 rfl rfl
set_option maxRecDepth 100000 in
theorem pb_e199 : (∀ (l1 l2 l3 l4 : Option Value) (st : List Value) (h : pb_H) (Q : Option Value → pb_H → Prop) (x : Nat), pb_R 199 0 [some (.ref x), l1, l2, l3, l4] [] st h Q ↔ pb_R 199 1 [some (.ref x), l1, l2, l3, l4] [] (.ref x :: st) h Q) ∧
  (∀ (l1 l2 l3 l4 : Option Value) (st : List Value) (h : pb_H) (Q : Option Value → pb_H → Prop), pb_R 199 0 [some .null, l1, l2, l3, l4] [] st h Q ↔ pb_R 199 1 [some .null, l1, l2, l3, l4] [] (.null :: st) h Q) ∧
  (∀ (L : pb_L) (J : pb_J) (h : pb_H) (Q : Option Value → pb_H → Prop) (x0 : Nat), pb_R 199 1 L J [.ref x0] h Q ↔ pb_is0 (h.2 x0) 12 = true ∧ pb_call 177 [.ref x0] h (fun v t => pb_R 199 4 L J (v.toList ++ []) t Q)) ∧
  (∀ (l1 l2 l3 l4 : Option Value) (st : List Value) (h : pb_H) (Q : Option Value → pb_H → Prop) (x : Nat), pb_R 199 4 [some (.ref x), l1, l2, l3, l4] [] st h Q ↔ pb_R 199 5 [some (.ref x), l1, l2, l3, l4] [] (.ref x :: st) h Q) ∧
  (∀ (l1 l2 l3 l4 : Option Value) (st : List Value) (h : pb_H) (Q : Option Value → pb_H → Prop), pb_R 199 4 [some .null, l1, l2, l3, l4] [] st h Q ↔ pb_R 199 5 [some .null, l1, l2, l3, l4] [] (.null :: st) h Q) ∧
  (∀ (L : pb_L) (J : pb_J) (h : pb_H) (Q : Option Value → pb_H → Prop) (x0 : Nat), pb_R 199 5 L J [.ref x0] h Q ↔ pb_is0 (h.2 x0) 12 = true ∧ pb_call 187 [.ref x0] h (fun v t => pb_R 199 8 L J (v.toList ++ []) t Q)) ∧
  (∀ (L : pb_L) (J : pb_J) (st : List Value) (h : pb_H) (Q : Option Value → pb_H → Prop) (x : Int32), pb_R 199 8 L J (.int x :: st) h Q ↔ if ¬ x = 0 then pb_R 199 13 L J st h Q else pb_R 199 11 L J st h Q) ∧
  (∀ (L : pb_L) (J : pb_J) (st : List Value) (h : pb_H) (Q : Option Value → pb_H → Prop), pb_R 199 11 L J st h Q ↔ pb_R 199 12 L J (.int (0 : Int32) :: st) h Q) ∧
  (∀ (L : pb_L) (J : pb_J) (h : pb_H) (Q : Option Value → pb_H → Prop) (x : Int32), pb_R 199 12 L J [.int x] h Q ↔ narrow .boolean (.int x) = .int x ∧ Q (some (.int x)) h) ∧
  (∀ (l1 l2 l3 l4 : Option Value) (st : List Value) (h : pb_H) (Q : Option Value → pb_H → Prop) (x : Nat), pb_R 199 13 [some (.ref x), l1, l2, l3, l4] [] st h Q ↔ pb_R 199 14 [some (.ref x), l1, l2, l3, l4] [] (.ref x :: st) h Q) ∧
  (∀ (l1 l2 l3 l4 : Option Value) (st : List Value) (h : pb_H) (Q : Option Value → pb_H → Prop), pb_R 199 13 [some .null, l1, l2, l3, l4] [] st h Q ↔ pb_R 199 14 [some .null, l1, l2, l3, l4] [] (.null :: st) h Q) ∧
  (∀ (L : pb_L) (J : pb_J) (st : List Value) (h : pb_H) (Q : Option Value → pb_H → Prop), pb_R 199 14 L J st h Q ↔ pb_R 199 16 L J (.int (62 : Int32) :: st) h Q) ∧
  (∀ (L : pb_L) (J : pb_J) (h : pb_H) (Q : Option Value → pb_H → Prop) (x0 : Int32) (x1 : Nat), pb_R 199 16 L J [.int x0, .ref x1] h Q ↔ pb_is0 (h.2 x1) 12 = true ∧ pb_call 178 [.ref x1, .int x0] h (fun v t => pb_R 199 19 L J (v.toList ++ []) t Q)) ∧
  (∀ (L : pb_L) (J : pb_J) (st : List Value) (h : pb_H) (Q : Option Value → pb_H → Prop) (x : Int32), pb_R 199 19 L J (.int x :: st) h Q ↔ if ¬ x = 0 then pb_R 199 32 L J st h Q else pb_R 199 22 L J st h Q) ∧
  (∀ (l1 l2 l3 l4 : Option Value) (st : List Value) (h : pb_H) (Q : Option Value → pb_H → Prop) (x : Nat), pb_R 199 22 [some (.ref x), l1, l2, l3, l4] [] st h Q ↔ pb_R 199 23 [some (.ref x), l1, l2, l3, l4] [] (.ref x :: st) h Q) ∧
  (∀ (l1 l2 l3 l4 : Option Value) (st : List Value) (h : pb_H) (Q : Option Value → pb_H → Prop), pb_R 199 22 [some .null, l1, l2, l3, l4] [] st h Q ↔ pb_R 199 23 [some .null, l1, l2, l3, l4] [] (.null :: st) h Q) ∧
  (∀ (L : pb_L) (J : pb_J) (st : List Value) (h : pb_H) (Q : Option Value → pb_H → Prop), pb_R 199 23 L J st h Q ↔ pb_R 199 24 L J (.int (1 : Int32) :: st) h Q) ∧
  (∀ (l1 l2 l3 l4 : Option Value) (st : List Value) (h : pb_H) (Q : Option Value → pb_H → Prop) (x : Nat), pb_R 199 24 [some (.ref x), l1, l2, l3, l4] [] st h Q ↔ pb_R 199 25 [some (.ref x), l1, l2, l3, l4] [] (.ref x :: st) h Q) ∧
  (∀ (l1 l2 l3 l4 : Option Value) (st : List Value) (h : pb_H) (Q : Option Value → pb_H → Prop), pb_R 199 24 [some .null, l1, l2, l3, l4] [] st h Q ↔ pb_R 199 25 [some .null, l1, l2, l3, l4] [] (.null :: st) h Q) ∧
  (∀ (L : pb_L) (J : pb_J) (st : List Value) (h : pb_H) (Q : Option Value → pb_H → Prop) (a : Nat), pb_R 199 25 L J (.ref a :: st) h Q ↔ pb_o (pb_gf (h.2 a) 12 16) (fun v => pb_R 199 28 L J (v :: st) h Q)) ∧
  (∀ (L : pb_L) (J : pb_J) (h : pb_H) (Q : Option Value → pb_H → Prop) (x0 : Int32) (x1 : Int32) (x2 : Nat), pb_R 199 28 L J [.int x0, .int x1, .ref x2] h Q ↔ pb_is0 (h.2 x2) 12 = true ∧ pb_call 183 [.ref x2, .int x1, .int x0] h (fun v t => pb_R 199 31 L J (v.toList ++ []) t Q)) ∧
  (∀ (L : pb_L) (J : pb_J) (h : pb_H) (Q : Option Value → pb_H → Prop) (x : Int32), pb_R 199 31 L J [.int x] h Q ↔ narrow .boolean (.int x) = .int x ∧ Q (some (.int x)) h) ∧
  (∀ (l1 l2 l3 l4 : Option Value) (st : List Value) (h : pb_H) (Q : Option Value → pb_H → Prop) (x : Nat), pb_R 199 32 [some (.ref x), l1, l2, l3, l4] [] st h Q ↔ pb_R 199 33 [some (.ref x), l1, l2, l3, l4] [] (.ref x :: st) h Q) ∧
  (∀ (l1 l2 l3 l4 : Option Value) (st : List Value) (h : pb_H) (Q : Option Value → pb_H → Prop), pb_R 199 32 [some .null, l1, l2, l3, l4] [] st h Q ↔ pb_R 199 33 [some .null, l1, l2, l3, l4] [] (.null :: st) h Q) ∧
  (∀ (L : pb_L) (J : pb_J) (h : pb_H) (Q : Option Value → pb_H → Prop) (x0 : Nat), pb_R 199 33 L J [.ref x0] h Q ↔ pb_is0 (h.2 x0) 12 = true ∧ pb_call 177 [.ref x0] h (fun v t => pb_R 199 36 L J (v.toList ++ []) t Q)) ∧
  (∀ (l1 l2 l3 l4 : Option Value) (st : List Value) (h : pb_H) (Q : Option Value → pb_H → Prop) (x : Nat), pb_R 199 36 [some (.ref x), l1, l2, l3, l4] [] st h Q ↔ pb_R 199 37 [some (.ref x), l1, l2, l3, l4] [] (.ref x :: st) h Q) ∧
  (∀ (l1 l2 l3 l4 : Option Value) (st : List Value) (h : pb_H) (Q : Option Value → pb_H → Prop), pb_R 199 36 [some .null, l1, l2, l3, l4] [] st h Q ↔ pb_R 199 37 [some .null, l1, l2, l3, l4] [] (.null :: st) h Q) ∧
  (∀ (L : pb_L) (J : pb_J) (h : pb_H) (Q : Option Value → pb_H → Prop) (x0 : Nat), pb_R 199 37 L J [.ref x0] h Q ↔ pb_is0 (h.2 x0) 12 = true ∧ pb_call 189 [.ref x0] h (fun v t => pb_R 199 40 L J (v.toList ++ []) t Q)) ∧
  (∀ (L : pb_L) (J : pb_J) (st : List Value) (h : pb_H) (Q : Option Value → pb_H → Prop) (x : Int32), pb_R 199 40 L J (.int x :: st) h Q ↔ if ¬ x = 0 then pb_R 199 45 L J st h Q else pb_R 199 43 L J st h Q) ∧
  (∀ (L : pb_L) (J : pb_J) (st : List Value) (h : pb_H) (Q : Option Value → pb_H → Prop), pb_R 199 43 L J st h Q ↔ pb_R 199 44 L J (.int (0 : Int32) :: st) h Q) ∧
  (∀ (L : pb_L) (J : pb_J) (h : pb_H) (Q : Option Value → pb_H → Prop) (x : Int32), pb_R 199 44 L J [.int x] h Q ↔ narrow .boolean (.int x) = .int x ∧ Q (some (.int x)) h) ∧
  (∀ (l1 l2 l3 l4 : Option Value) (st : List Value) (h : pb_H) (Q : Option Value → pb_H → Prop) (x : Nat), pb_R 199 45 [some (.ref x), l1, l2, l3, l4] [] st h Q ↔ pb_R 199 46 [some (.ref x), l1, l2, l3, l4] [] (.ref x :: st) h Q) ∧
  (∀ (l1 l2 l3 l4 : Option Value) (st : List Value) (h : pb_H) (Q : Option Value → pb_H → Prop), pb_R 199 45 [some .null, l1, l2, l3, l4] [] st h Q ↔ pb_R 199 46 [some .null, l1, l2, l3, l4] [] (.null :: st) h Q) ∧
  (∀ (L : pb_L) (J : pb_J) (st : List Value) (h : pb_H) (Q : Option Value → pb_H → Prop) (a : Nat), pb_R 199 46 L J (.ref a :: st) h Q ↔ pb_o (pb_gf (h.2 a) 12 4) (fun v => pb_R 199 49 L J (v :: st) h Q)) ∧
  (∀ (L : pb_L) (J : pb_J) (st : List Value) (h : pb_H) (Q : Option Value → pb_H → Prop), pb_R 199 49 L J st h Q ↔ pb_R 199 52 L J (.int (300 : Int32) :: st) h Q) ∧
  (∀ (L : pb_L) (J : pb_J) (st : List Value) (h : pb_H) (Q : Option Value → pb_H → Prop) (x y : Int32), pb_R 199 52 L J (.int y :: .int x :: st) h Q ↔ if ¬ x = y then pb_R 199 65 L J st h Q else pb_R 199 55 L J st h Q) ∧
  (∀ (l1 l2 l3 l4 : Option Value) (st : List Value) (h : pb_H) (Q : Option Value → pb_H → Prop) (x : Nat), pb_R 199 55 [some (.ref x), l1, l2, l3, l4] [] st h Q ↔ pb_R 199 56 [some (.ref x), l1, l2, l3, l4] [] (.ref x :: st) h Q) ∧
  (∀ (l1 l2 l3 l4 : Option Value) (st : List Value) (h : pb_H) (Q : Option Value → pb_H → Prop), pb_R 199 55 [some .null, l1, l2, l3, l4] [] st h Q ↔ pb_R 199 56 [some .null, l1, l2, l3, l4] [] (.null :: st) h Q) ∧
  (∀ (L : pb_L) (J : pb_J) (st : List Value) (h : pb_H) (Q : Option Value → pb_H → Prop), pb_R 199 56 L J st h Q ↔ pb_R 199 57 L J (.int (5 : Int32) :: st) h Q) ∧
  (∀ (l1 l2 l3 l4 : Option Value) (st : List Value) (h : pb_H) (Q : Option Value → pb_H → Prop) (x : Nat), pb_R 199 57 [some (.ref x), l1, l2, l3, l4] [] st h Q ↔ pb_R 199 58 [some (.ref x), l1, l2, l3, l4] [] (.ref x :: st) h Q) ∧
  (∀ (l1 l2 l3 l4 : Option Value) (st : List Value) (h : pb_H) (Q : Option Value → pb_H → Prop), pb_R 199 57 [some .null, l1, l2, l3, l4] [] st h Q ↔ pb_R 199 58 [some .null, l1, l2, l3, l4] [] (.null :: st) h Q) ∧
  (∀ (L : pb_L) (J : pb_J) (st : List Value) (h : pb_H) (Q : Option Value → pb_H → Prop) (a : Nat), pb_R 199 58 L J (.ref a :: st) h Q ↔ pb_o (pb_gf (h.2 a) 12 16) (fun v => pb_R 199 61 L J (v :: st) h Q)) ∧
  (∀ (L : pb_L) (J : pb_J) (h : pb_H) (Q : Option Value → pb_H → Prop) (x0 : Int32) (x1 : Int32) (x2 : Nat), pb_R 199 61 L J [.int x0, .int x1, .ref x2] h Q ↔ pb_is0 (h.2 x2) 12 = true ∧ pb_call 183 [.ref x2, .int x1, .int x0] h (fun v t => pb_R 199 64 L J (v.toList ++ []) t Q)) ∧
  (∀ (L : pb_L) (J : pb_J) (h : pb_H) (Q : Option Value → pb_H → Prop) (x : Int32), pb_R 199 64 L J [.int x] h Q ↔ narrow .boolean (.int x) = .int x ∧ Q (some (.int x)) h) ∧
  (∀ (l1 l2 l3 l4 : Option Value) (st : List Value) (h : pb_H) (Q : Option Value → pb_H → Prop) (x : Nat), pb_R 199 65 [some (.ref x), l1, l2, l3, l4] [] st h Q ↔ pb_R 199 66 [some (.ref x), l1, l2, l3, l4] [] (.ref x :: st) h Q) ∧
  (∀ (l1 l2 l3 l4 : Option Value) (st : List Value) (h : pb_H) (Q : Option Value → pb_H → Prop), pb_R 199 65 [some .null, l1, l2, l3, l4] [] st h Q ↔ pb_R 199 66 [some .null, l1, l2, l3, l4] [] (.null :: st) h Q) ∧
  (∀ (L : pb_L) (J : pb_J) (st : List Value) (h : pb_H) (Q : Option Value → pb_H → Prop), pb_R 199 66 L J st h Q ↔ pb_R 199 69 L J (.int (318 : Int32) :: st) h Q) ∧
  (∀ (L : pb_L) (J : pb_J) (st : List Value) (h : pb_H) (Q : Option Value → pb_H → Prop), pb_R 199 69 L J st h Q ↔ pb_R 199 70 L J (.int (1 : Int32) :: st) h Q) ∧
  (∀ (L : pb_L) (J : pb_J) (h : pb_H) (Q : Option Value → pb_H → Prop) (x0 : Int32) (x1 : Int32) (x2 : Nat), pb_R 199 70 L J [.int x0, .int x1, .ref x2] h Q ↔ pb_is0 (h.2 x2) 12 = true ∧ pb_call 188 [.ref x2, .int x1, .int x0] h (fun v t => pb_R 199 73 L J (v.toList ++ []) t Q)) ∧
  (∀ (l1 l2 l3 l4 : Option Value) (st : List Value) (h : pb_H) (Q : Option Value → pb_H → Prop) (x : Nat), pb_R 199 73 [some (.ref x), l1, l2, l3, l4] [] st h Q ↔ pb_R 199 74 [some (.ref x), l1, l2, l3, l4] [] (.ref x :: st) h Q) ∧
  (∀ (l1 l2 l3 l4 : Option Value) (st : List Value) (h : pb_H) (Q : Option Value → pb_H → Prop), pb_R 199 73 [some .null, l1, l2, l3, l4] [] st h Q ↔ pb_R 199 74 [some .null, l1, l2, l3, l4] [] (.null :: st) h Q) ∧
  (∀ (L : pb_L) (J : pb_J) (h : pb_H) (Q : Option Value → pb_H → Prop) (x0 : Nat), pb_R 199 74 L J [.ref x0] h Q ↔ pb_is0 (h.2 x0) 12 = true ∧ pb_call 198 [.ref x0] h (fun v t => pb_R 199 77 L J (v.toList ++ []) t Q)) ∧
  (∀ (L : pb_L) (J : pb_J) (st : List Value) (h : pb_H) (Q : Option Value → pb_H → Prop), pb_R 199 77 L J st h Q ↔ pb_R 199 78 L J (.int (0 : Int32) :: st) h Q) ∧
  (∀ (l0 l1 l2 l3 l4 : Option Value) (st : List Value) (h : pb_H) (Q : Option Value → pb_H → Prop) (x : Int32), pb_R 199 78 [l0, l1, l2, l3, l4] [] (.int x :: st) h Q ↔ pb_R 199 79 [l0, some (.int x), l2, l3, l4] [] st h Q) ∧
  (∀ (L : pb_L) (J : pb_J) (st : List Value) (h : pb_H) (Q : Option Value → pb_H → Prop), pb_R 199 80 L J st h Q ↔ pb_R 199 82 L J (.int (17 : Int32) :: st) h Q) ∧
  (∀ (L : pb_L) (J : pb_J) (st : List Value) (h : pb_H) (Q : Option Value → pb_H → Prop) (x y : Int32), pb_R 199 82 L J (.int y :: .int x :: st) h Q ↔ if y ≤ x then pb_R 199 98 L J st h Q else pb_R 199 85 L J st h Q) ∧
  (∀ (l1 l2 l3 l4 : Option Value) (st : List Value) (h : pb_H) (Q : Option Value → pb_H → Prop) (x : Nat), pb_R 199 85 [some (.ref x), l1, l2, l3, l4] [] st h Q ↔ pb_R 199 86 [some (.ref x), l1, l2, l3, l4] [] (.ref x :: st) h Q) ∧
  (∀ (l1 l2 l3 l4 : Option Value) (st : List Value) (h : pb_H) (Q : Option Value → pb_H → Prop), pb_R 199 85 [some .null, l1, l2, l3, l4] [] st h Q ↔ pb_R 199 86 [some .null, l1, l2, l3, l4] [] (.null :: st) h Q) ∧
  (∀ (L : pb_L) (J : pb_J) (st : List Value) (h : pb_H) (Q : Option Value → pb_H → Prop) (a : Nat), pb_R 199 86 L J (.ref a :: st) h Q ↔ pb_o (pb_gf (h.2 a) 12 21) (fun v => pb_R 199 89 L J (v :: st) h Q)) ∧
  (∀ (l0 l2 l3 l4 : Option Value) (st : List Value) (h : pb_H) (Q : Option Value → pb_H → Prop) (x : Int32), pb_R 199 89 [l0, some (.int x), l2, l3, l4] [] st h Q ↔ pb_R 199 90 [l0, some (.int x), l2, l3, l4] [] (.int x :: st) h Q) ∧
  (∀ (L : pb_L) (J : pb_J) (st : List Value) (h : pb_H) (Q : Option Value → pb_H → Prop), pb_R 199 90 L J st h Q ↔ pb_R 199 91 L J (.int (-1 : Int32) :: st) h Q) ∧
  (∀ (L : pb_L) (J : pb_J) (st : List Value) (h : pb_H) (Q : Option Value → pb_H → Prop) (a : Nat) (i x : Int32), pb_R 199 91 L J (.int x :: .int i :: .ref a :: st) h Q ↔ pb_o (pb_si (h.2 a) i x) (fun c => pb_R 199 92 L J st (pb_set h a c) Q)) ∧
  (∀ (l0 l2 l3 l4 : Option Value) (st : List Value) (h : pb_H) (Q : Option Value → pb_H → Prop) (x : Int32), pb_R 199 92 [l0, some (.int x), l2, l3, l4] [] st h Q ↔ pb_R 199 95 [l0, some (.int (x + (1 : Int32))), l2, l3, l4] [] st h Q) ∧
  (∀ (L : pb_L) (J : pb_J) (st : List Value) (h : pb_H) (Q : Option Value → pb_H → Prop), pb_R 199 95 L J st h Q ↔ pb_R 199 79 L J st h Q) ∧
  (∀ (L : pb_L) (J : pb_J) (st : List Value) (h : pb_H) (Q : Option Value → pb_H → Prop), pb_R 199 98 L J st h Q ↔ pb_R 199 99 L J (.int (1 : Int32) :: st) h Q) ∧
  (∀ (l0 l1 l2 l3 l4 : Option Value) (st : List Value) (h : pb_H) (Q : Option Value → pb_H → Prop) (x : Int32), pb_R 199 99 [l0, l1, l2, l3, l4] [] (.int x :: st) h Q ↔ pb_R 199 100 [l0, some (.int x), l2, l3, l4] [] st h Q) ∧
  (∀ (L : pb_L) (J : pb_J) (st : List Value) (h : pb_H) (Q : Option Value → pb_H → Prop) (x : Int32), pb_R 199 101 L J (.int x :: st) h Q ↔ if x = 0 then pb_R 199 199 L J st h Q else pb_R 199 104 L J st h Q) ∧
  (∀ (L : pb_L) (J : pb_J) (st : List Value) (h : pb_H) (Q : Option Value → pb_H → Prop), pb_R 199 104 L J st h Q ↔ pb_R 199 105 L J (.int (0 : Int32) :: st) h Q) ∧
  (∀ (l0 l1 l2 l3 l4 : Option Value) (st : List Value) (h : pb_H) (Q : Option Value → pb_H → Prop) (x : Int32), pb_R 199 105 [l0, l1, l2, l3, l4] [] (.int x :: st) h Q ↔ pb_R 199 106 [l0, some (.int x), l2, l3, l4] [] st h Q) ∧
  (∀ (L : pb_L) (J : pb_J) (st : List Value) (h : pb_H) (Q : Option Value → pb_H → Prop), pb_R 199 106 L J st h Q ↔ pb_R 199 107 L J (.int (0 : Int32) :: st) h Q) ∧
  (∀ (l0 l1 l2 l3 l4 : Option Value) (st : List Value) (h : pb_H) (Q : Option Value → pb_H → Prop) (x : Int32), pb_R 199 107 [l0, l1, l2, l3, l4] [] (.int x :: st) h Q ↔ pb_R 199 108 [l0, l1, some (.int x), l3, l4] [] st h Q) ∧
  (∀ (l1 l2 l3 l4 : Option Value) (st : List Value) (h : pb_H) (Q : Option Value → pb_H → Prop) (x : Nat), pb_R 199 109 [some (.ref x), l1, l2, l3, l4] [] st h Q ↔ pb_R 199 110 [some (.ref x), l1, l2, l3, l4] [] (.ref x :: st) h Q) ∧
  (∀ (l1 l2 l3 l4 : Option Value) (st : List Value) (h : pb_H) (Q : Option Value → pb_H → Prop), pb_R 199 109 [some .null, l1, l2, l3, l4] [] st h Q ↔ pb_R 199 110 [some .null, l1, l2, l3, l4] [] (.null :: st) h Q) ∧
  (∀ (L : pb_L) (J : pb_J) (st : List Value) (h : pb_H) (Q : Option Value → pb_H → Prop) (a : Nat), pb_R 199 110 L J (.ref a :: st) h Q ↔ pb_o (pb_gf (h.2 a) 12 4) (fun v => pb_R 199 113 L J (v :: st) h Q)) ∧
  (∀ (L : pb_L) (J : pb_J) (st : List Value) (h : pb_H) (Q : Option Value → pb_H → Prop) (x y : Int32), pb_R 199 113 L J (.int y :: .int x :: st) h Q ↔ if y < x then pb_R 199 196 L J st h Q else pb_R 199 116 L J st h Q) ∧
  (∀ (l0 l1 l3 l4 : Option Value) (st : List Value) (h : pb_H) (Q : Option Value → pb_H → Prop) (x : Int32), pb_R 199 116 [l0, l1, some (.int x), l3, l4] [] st h Q ↔ pb_R 199 117 [l0, l1, some (.int x), l3, l4] [] (.int x :: st) h Q) ∧
  (∀ (L : pb_L) (J : pb_J) (st : List Value) (h : pb_H) (Q : Option Value → pb_H → Prop) (x : Int32), pb_R 199 117 L J (.int x :: st) h Q ↔ if ¬ x = 0 then pb_R 199 126 L J st h Q else pb_R 199 120 L J st h Q) ∧
  (∀ (L : pb_L) (J : pb_J) (st : List Value) (h : pb_H) (Q : Option Value → pb_H → Prop), pb_R 199 120 L J st h Q ↔ pb_R 199 123 L J (.int (319 : Int32) :: st) h Q) ∧
  (∀ (L : pb_L) (J : pb_J) (st : List Value) (h : pb_H) (Q : Option Value → pb_H → Prop), pb_R 199 123 L J st h Q ↔ pb_R 199 127 L J st h Q) ∧
  (∀ (l0 l1 l3 l4 : Option Value) (st : List Value) (h : pb_H) (Q : Option Value → pb_H → Prop) (x : Int32), pb_R 199 126 [l0, l1, some (.int x), l3, l4] [] st h Q ↔ pb_R 199 127 [l0, l1, some (.int x), l3, l4] [] (.int x :: st) h Q) ∧
  (∀ (l0 l1 l2 l3 l4 : Option Value) (st : List Value) (h : pb_H) (Q : Option Value → pb_H → Prop) (x : Int32), pb_R 199 127 [l0, l1, l2, l3, l4] [] (.int x :: st) h Q ↔ pb_R 199 128 [l0, l1, l2, some (.int x), l4] [] st h Q) ∧
  (∀ (l1 l2 l3 l4 : Option Value) (st : List Value) (h : pb_H) (Q : Option Value → pb_H → Prop) (x : Nat), pb_R 199 128 [some (.ref x), l1, l2, l3, l4] [] st h Q ↔ pb_R 199 129 [some (.ref x), l1, l2, l3, l4] [] (.ref x :: st) h Q) ∧
  (∀ (l1 l2 l3 l4 : Option Value) (st : List Value) (h : pb_H) (Q : Option Value → pb_H → Prop), pb_R 199 128 [some .null, l1, l2, l3, l4] [] st h Q ↔ pb_R 199 129 [some .null, l1, l2, l3, l4] [] (.null :: st) h Q) ∧
  (∀ (l0 l1 l2 l4 : Option Value) (st : List Value) (h : pb_H) (Q : Option Value → pb_H → Prop) (x : Int32), pb_R 199 129 [l0, l1, l2, some (.int x), l4] [] st h Q ↔ pb_R 199 130 [l0, l1, l2, some (.int x), l4] [] (.int x :: st) h Q) ∧
  (∀ (l1 l2 l3 l4 : Option Value) (st : List Value) (h : pb_H) (Q : Option Value → pb_H → Prop) (x : Nat), pb_R 199 130 [some (.ref x), l1, l2, l3, l4] [] st h Q ↔ pb_R 199 131 [some (.ref x), l1, l2, l3, l4] [] (.ref x :: st) h Q) ∧
  (∀ (l1 l2 l3 l4 : Option Value) (st : List Value) (h : pb_H) (Q : Option Value → pb_H → Prop), pb_R 199 130 [some .null, l1, l2, l3, l4] [] st h Q ↔ pb_R 199 131 [some .null, l1, l2, l3, l4] [] (.null :: st) h Q) ∧
  (∀ (L : pb_L) (J : pb_J) (st : List Value) (h : pb_H) (Q : Option Value → pb_H → Prop) (a : Nat), pb_R 199 131 L J (.ref a :: st) h Q ↔ pb_o (pb_gf (h.2 a) 12 21) (fun v => pb_R 199 134 L J (v :: st) h Q)) ∧
  (∀ (L : pb_L) (J : pb_J) (h : pb_H) (Q : Option Value → pb_H → Prop) (x0 : Nat) (x1 : Int32) (x2 : Nat), pb_R 199 134 L J [.ref x0, .int x1, .ref x2] h Q ↔ pb_is0 (h.2 x2) 12 = true ∧ pb_call 172 [.ref x2, .int x1, .ref x0] h (fun v t => pb_R 199 137 L J (v.toList ++ []) t Q)) ∧
  (∀ (l0 l1 l2 l3 l4 : Option Value) (st : List Value) (h : pb_H) (Q : Option Value → pb_H → Prop) (x : Int32), pb_R 199 137 [l0, l1, l2, l3, l4] [] (.int x :: st) h Q ↔ pb_R 199 139 [l0, l1, l2, l3, some (.int x)] [] st h Q) ∧
  (∀ (l0 l1 l2 l3 : Option Value) (st : List Value) (h : pb_H) (Q : Option Value → pb_H → Prop) (x : Int32), pb_R 199 139 [l0, l1, l2, l3, some (.int x)] [] st h Q ↔ pb_R 199 141 [l0, l1, l2, l3, some (.int x)] [] (.int x :: st) h Q) ∧
  (∀ (L : pb_L) (J : pb_J) (st : List Value) (h : pb_H) (Q : Option Value → pb_H → Prop), pb_R 199 141 L J st h Q ↔ pb_R 199 142 L J (.int (-1 : Int32) :: st) h Q) ∧
  (∀ (L : pb_L) (J : pb_J) (st : List Value) (h : pb_H) (Q : Option Value → pb_H → Prop) (x y : Int32), pb_R 199 142 L J (.int y :: .int x :: st) h Q ↔ if ¬ x = y then pb_R 199 155 L J st h Q else pb_R 199 145 L J st h Q) ∧
  (∀ (l1 l2 l3 l4 : Option Value) (st : List Value) (h : pb_H) (Q : Option Value → pb_H → Prop) (x : Nat), pb_R 199 145 [some (.ref x), l1, l2, l3, l4] [] st h Q ↔ pb_R 199 146 [some (.ref x), l1, l2, l3, l4] [] (.ref x :: st) h Q) ∧
  (∀ (l1 l2 l3 l4 : Option Value) (st : List Value) (h : pb_H) (Q : Option Value → pb_H → Prop), pb_R 199 145 [some .null, l1, l2, l3, l4] [] st h Q ↔ pb_R 199 146 [some .null, l1, l2, l3, l4] [] (.null :: st) h Q) ∧
  (∀ (L : pb_L) (J : pb_J) (st : List Value) (h : pb_H) (Q : Option Value → pb_H → Prop), pb_R 199 146 L J st h Q ↔ pb_R 199 149 L J (.int (318 : Int32) :: st) h Q) ∧
  (∀ (L : pb_L) (J : pb_J) (st : List Value) (h : pb_H) (Q : Option Value → pb_H → Prop), pb_R 199 149 L J st h Q ↔ pb_R 199 150 L J (.int (3 : Int32) :: st) h Q) ∧
  (∀ (L : pb_L) (J : pb_J) (h : pb_H) (Q : Option Value → pb_H → Prop) (x0 : Int32) (x1 : Int32) (x2 : Nat), pb_R 199 150 L J [.int x0, .int x1, .ref x2] h Q ↔ pb_is0 (h.2 x2) 12 = true ∧ pb_call 196 [.ref x2, .int x1, .int x0] h (fun v t => pb_R 199 153 L J (v.toList ++ []) t Q)) ∧
  (∀ (L : pb_L) (J : pb_J) (st : List Value) (h : pb_H) (Q : Option Value → pb_H → Prop), pb_R 199 153 L J st h Q ↔ pb_R 199 154 L J (.int (1 : Int32) :: st) h Q) ∧
  (∀ (L : pb_L) (J : pb_J) (h : pb_H) (Q : Option Value → pb_H → Prop) (x : Int32), pb_R 199 154 L J [.int x] h Q ↔ narrow .boolean (.int x) = .int x ∧ Q (some (.int x)) h) ∧
  (∀ (l0 l1 l2 l3 : Option Value) (st : List Value) (h : pb_H) (Q : Option Value → pb_H → Prop) (x : Int32), pb_R 199 155 [l0, l1, l2, l3, some (.int x)] [] st h Q ↔ pb_R 199 157 [l0, l1, l2, l3, some (.int x)] [] (.int x :: st) h Q) ∧
  (∀ (L : pb_L) (J : pb_J) (st : List Value) (h : pb_H) (Q : Option Value → pb_H → Prop) (x : Int32), pb_R 199 157 L J (.int x :: st) h Q ↔ if x ≤ 0 then pb_R 199 190 L J st h Q else pb_R 199 160 L J st h Q) ∧
  (∀ (l1 l2 l3 l4 : Option Value) (st : List Value) (h : pb_H) (Q : Option Value → pb_H → Prop) (x : Nat), pb_R 199 160 [some (.ref x), l1, l2, l3, l4] [] st h Q ↔ pb_R 199 161 [some (.ref x), l1, l2, l3, l4] [] (.ref x :: st) h Q) ∧
  (∀ (l1 l2 l3 l4 : Option Value) (st : List Value) (h : pb_H) (Q : Option Value → pb_H → Prop), pb_R 199 160 [some .null, l1, l2, l3, l4] [] st h Q ↔ pb_R 199 161 [some .null, l1, l2, l3, l4] [] (.null :: st) h Q) ∧
  (∀ (L : pb_L) (J : pb_J) (st : List Value) (h : pb_H) (Q : Option Value → pb_H → Prop) (a : Nat), pb_R 199 161 L J (.ref a :: st) h Q ↔ pb_o (pb_gf (h.2 a) 12 21) (fun v => pb_R 199 164 L J (v :: st) h Q)) ∧
  (∀ (l0 l1 l2 l3 : Option Value) (st : List Value) (h : pb_H) (Q : Option Value → pb_H → Prop) (x : Int32), pb_R 199 164 [l0, l1, l2, l3, some (.int x)] [] st h Q ↔ pb_R 199 166 [l0, l1, l2, l3, some (.int x)] [] (.int x :: st) h Q) ∧
  (∀ (l1 l2 l3 l4 : Option Value) (st : List Value) (h : pb_H) (Q : Option Value → pb_H → Prop) (x : Nat), pb_R 199 166 [some (.ref x), l1, l2, l3, l4] [] st h Q ↔ pb_R 199 167 [some (.ref x), l1, l2, l3, l4] [] (.ref x :: st) h Q) ∧
  (∀ (l1 l2 l3 l4 : Option Value) (st : List Value) (h : pb_H) (Q : Option Value → pb_H → Prop), pb_R 199 166 [some .null, l1, l2, l3, l4] [] st h Q ↔ pb_R 199 167 [some .null, l1, l2, l3, l4] [] (.null :: st) h Q) ∧
  (∀ (L : pb_L) (J : pb_J) (st : List Value) (h : pb_H) (Q : Option Value → pb_H → Prop) (a : Nat), pb_R 199 167 L J (.ref a :: st) h Q ↔ pb_o (pb_gf (h.2 a) 12 1) (fun v => pb_R 199 170 L J (v :: st) h Q)) ∧
  (∀ (l0 l1 l2 l4 : Option Value) (st : List Value) (h : pb_H) (Q : Option Value → pb_H → Prop) (x : Int32), pb_R 199 170 [l0, l1, l2, some (.int x), l4] [] st h Q ↔ pb_R 199 171 [l0, l1, l2, some (.int x), l4] [] (.int x :: st) h Q) ∧
  (∀ (L : pb_L) (J : pb_J) (st : List Value) (h : pb_H) (Q : Option Value → pb_H → Prop), pb_R 199 171 L J st h Q ↔ pb_R 199 173 L J (.int (17 : Int32) :: st) h Q) ∧
  (∀ (L : pb_L) (J : pb_J) (st : List Value) (x y : Int32) (h : pb_H) (Q : Option Value → pb_H → Prop), pb_R 199 173 L J (.int y :: .int x :: st) h Q ↔ pb_R 199 174 L J (.int (x * y) :: st) h Q) ∧
  (∀ (l0 l1 l2 l3 : Option Value) (st : List Value) (h : pb_H) (Q : Option Value → pb_H → Prop) (x : Int32), pb_R 199 174 [l0, l1, l2, l3, some (.int x)] [] st h Q ↔ pb_R 199 176 [l0, l1, l2, l3, some (.int x)] [] (.int x :: st) h Q) ∧
  (∀ (L : pb_L) (J : pb_J) (st : List Value) (x y : Int32) (h : pb_H) (Q : Option Value → pb_H → Prop), pb_R 199 176 L J (.int y :: .int x :: st) h Q ↔ pb_R 199 177 L J (.int (x + y) :: st) h Q) ∧
  (∀ (L : pb_L) (J : pb_J) (st : List Value) (h : pb_H) (Q : Option Value → pb_H → Prop) (a : Nat) (i : Int32), pb_R 199 177 L J (.int i :: .ref a :: st) h Q ↔ pb_o (pb_ai (h.2 a) i) (fun v => pb_R 199 178 L J (.int v :: st) h Q)) ∧
  (∀ (L : pb_L) (J : pb_J) (st : List Value) (h : pb_H) (Q : Option Value → pb_H → Prop), pb_R 199 178 L J st h Q ↔ pb_R 199 179 L J (.int (1 : Int32) :: st) h Q) ∧
  (∀ (L : pb_L) (J : pb_J) (st : List Value) (h : pb_H) (Q : Option Value → pb_H → Prop) (x y : Int32), pb_R 199 179 L J (.int y :: .int x :: st) h Q ↔ if ¬ x = y then pb_R 199 186 L J st h Q else pb_R 199 182 L J st h Q) ∧
  (∀ (L : pb_L) (J : pb_J) (st : List Value) (h : pb_H) (Q : Option Value → pb_H → Prop), pb_R 199 182 L J st h Q ↔ pb_R 199 183 L J (.int (1 : Int32) :: st) h Q) ∧
  (∀ (L : pb_L) (J : pb_J) (st : List Value) (h : pb_H) (Q : Option Value → pb_H → Prop), pb_R 199 183 L J st h Q ↔ pb_R 199 187 L J st h Q) ∧
  (∀ (L : pb_L) (J : pb_J) (st : List Value) (h : pb_H) (Q : Option Value → pb_H → Prop), pb_R 199 186 L J st h Q ↔ pb_R 199 187 L J (.int (0 : Int32) :: st) h Q) ∧
  (∀ (L : pb_L) (J : pb_J) (st : List Value) (h : pb_H) (Q : Option Value → pb_H → Prop) (a : Nat) (i x : Int32), pb_R 199 187 L J (.int x :: .int i :: .ref a :: st) h Q ↔ pb_o (pb_si (h.2 a) i x) (fun c => pb_R 199 188 L J st (pb_set h a c) Q)) ∧
  (∀ (L : pb_L) (J : pb_J) (st : List Value) (h : pb_H) (Q : Option Value → pb_H → Prop), pb_R 199 188 L J st h Q ↔ pb_R 199 189 L J (.int (1 : Int32) :: st) h Q) ∧
  (∀ (l0 l1 l2 l3 l4 : Option Value) (st : List Value) (h : pb_H) (Q : Option Value → pb_H → Prop) (x : Int32), pb_R 199 189 [l0, l1, l2, l3, l4] [] (.int x :: st) h Q ↔ pb_R 199 190 [l0, some (.int x), l2, l3, l4] [] st h Q) ∧
  (∀ (l0 l1 l3 l4 : Option Value) (st : List Value) (h : pb_H) (Q : Option Value → pb_H → Prop) (x : Int32), pb_R 199 190 [l0, l1, some (.int x), l3, l4] [] st h Q ↔ pb_R 199 193 [l0, l1, some (.int (x + (1 : Int32))), l3, l4] [] st h Q) ∧
  (∀ (L : pb_L) (J : pb_J) (st : List Value) (h : pb_H) (Q : Option Value → pb_H → Prop), pb_R 199 193 L J st h Q ↔ pb_R 199 108 L J st h Q) ∧
  (∀ (L : pb_L) (J : pb_J) (st : List Value) (h : pb_H) (Q : Option Value → pb_H → Prop), pb_R 199 196 L J st h Q ↔ pb_R 199 100 L J st h Q) ∧
  (∀ (l1 l2 l3 l4 : Option Value) (st : List Value) (h : pb_H) (Q : Option Value → pb_H → Prop) (x : Nat), pb_R 199 199 [some (.ref x), l1, l2, l3, l4] [] st h Q ↔ pb_R 199 200 [some (.ref x), l1, l2, l3, l4] [] (.ref x :: st) h Q) ∧
  (∀ (l1 l2 l3 l4 : Option Value) (st : List Value) (h : pb_H) (Q : Option Value → pb_H → Prop), pb_R 199 199 [some .null, l1, l2, l3, l4] [] st h Q ↔ pb_R 199 200 [some .null, l1, l2, l3, l4] [] (.null :: st) h Q) ∧
  (∀ (L : pb_L) (J : pb_J) (st : List Value) (h : pb_H) (Q : Option Value → pb_H → Prop), pb_R 199 200 L J st h Q ↔ pb_R 199 202 L J (.int (6 : Int32) :: st) h Q) ∧
  (∀ (l1 l2 l3 l4 : Option Value) (st : List Value) (h : pb_H) (Q : Option Value → pb_H → Prop) (x : Nat), pb_R 199 202 [some (.ref x), l1, l2, l3, l4] [] st h Q ↔ pb_R 199 203 [some (.ref x), l1, l2, l3, l4] [] (.ref x :: st) h Q) ∧
  (∀ (l1 l2 l3 l4 : Option Value) (st : List Value) (h : pb_H) (Q : Option Value → pb_H → Prop), pb_R 199 202 [some .null, l1, l2, l3, l4] [] st h Q ↔ pb_R 199 203 [some .null, l1, l2, l3, l4] [] (.null :: st) h Q) ∧
  (∀ (L : pb_L) (J : pb_J) (st : List Value) (h : pb_H) (Q : Option Value → pb_H → Prop) (a : Nat), pb_R 199 203 L J (.ref a :: st) h Q ↔ pb_o (pb_gf (h.2 a) 12 16) (fun v => pb_R 199 206 L J (v :: st) h Q)) ∧
  (∀ (L : pb_L) (J : pb_J) (h : pb_H) (Q : Option Value → pb_H → Prop) (x0 : Int32) (x1 : Int32) (x2 : Nat), pb_R 199 206 L J [.int x0, .int x1, .ref x2] h Q ↔ pb_is0 (h.2 x2) 12 = true ∧ pb_call 183 [.ref x2, .int x1, .int x0] h (fun v t => pb_R 199 209 L J (v.toList ++ []) t Q)) ∧
  (∀ (L : pb_L) (J : pb_J) (h : pb_H) (Q : Option Value → pb_H → Prop) (x : Int32), pb_R 199 209 L J [.int x] h Q ↔ narrow .boolean (.int x) = .int x ∧ Q (some (.int x)) h) := ⟨
  fun l1 l2 l3 l4 st h Q x => pf_S pb_u_199 rfl rfl,
  fun l1 l2 l3 l4 st h Q => pf_S pb_u_199 rfl rfl,
  fun L J h Q x0 => pf_kv pb_u_199 rfl pb_ci_177 rfl ⟨Nat.le_of_ble_eq_true rfl, Nat.le_of_ble_eq_true rfl, Nat.le_of_ble_eq_true rfl, Nat.le_of_ble_eq_true rfl, rfl⟩ rfl rfl,
  fun l1 l2 l3 l4 st h Q x => pf_S pb_u_199 rfl rfl,
  fun l1 l2 l3 l4 st h Q => pf_S pb_u_199 rfl rfl,
  fun L J h Q x0 => pf_kv pb_u_199 rfl pb_ci_187 rfl ⟨Nat.le_of_ble_eq_true rfl, Nat.le_of_ble_eq_true rfl, Nat.le_of_ble_eq_true rfl, Nat.le_of_ble_eq_true rfl, rfl⟩ rfl rfl,
  fun L J st h Q x => pf_ii pb_u_199 rfl rfl pf_ne,
  fun L J st h Q => pf_S pb_u_199 rfl rfl,
  fun L J h Q x => pf_rz pb_u_199 rfl rfl,
  fun l1 l2 l3 l4 st h Q x => pf_S pb_u_199 rfl rfl,
  fun l1 l2 l3 l4 st h Q => pf_S pb_u_199 rfl rfl,
  fun L J st h Q => pf_S pb_u_199 rfl rfl,
  fun L J h Q x0 x1 => pf_kv pb_u_199 rfl pb_ci_178 rfl ⟨Nat.le_of_ble_eq_true rfl, Nat.le_of_ble_eq_true rfl, Nat.le_of_ble_eq_true rfl, Nat.le_of_ble_eq_true rfl, rfl⟩ rfl rfl,
  fun L J st h Q x => pf_ii pb_u_199 rfl rfl pf_ne,
  fun l1 l2 l3 l4 st h Q x => pf_S pb_u_199 rfl rfl,
  fun l1 l2 l3 l4 st h Q => pf_S pb_u_199 rfl rfl,
  fun L J st h Q => pf_S pb_u_199 rfl rfl,
  fun l1 l2 l3 l4 st h Q x => pf_S pb_u_199 rfl rfl,
  fun l1 l2 l3 l4 st h Q => pf_S pb_u_199 rfl rfl,
  fun L J st h Q a => pf_gf pb_u_199 rfl rfl,
  fun L J h Q x0 x1 x2 => pf_kv pb_u_199 rfl pb_ci_183 rfl ⟨Nat.le_of_ble_eq_true rfl, Nat.le_of_ble_eq_true rfl, Nat.le_of_ble_eq_true rfl, Nat.le_of_ble_eq_true rfl, rfl⟩ rfl rfl,
  fun L J h Q x => pf_rz pb_u_199 rfl rfl,
  fun l1 l2 l3 l4 st h Q x => pf_S pb_u_199 rfl rfl,
  fun l1 l2 l3 l4 st h Q => pf_S pb_u_199 rfl rfl,
  fun L J h Q x0 => pf_kv pb_u_199 rfl pb_ci_177 rfl ⟨Nat.le_of_ble_eq_true rfl, Nat.le_of_ble_eq_true rfl, Nat.le_of_ble_eq_true rfl, Nat.le_of_ble_eq_true rfl, rfl⟩ rfl rfl,
  fun l1 l2 l3 l4 st h Q x => pf_S pb_u_199 rfl rfl,
  fun l1 l2 l3 l4 st h Q => pf_S pb_u_199 rfl rfl,
  fun L J h Q x0 => pf_kv pb_u_199 rfl pb_ci_189 rfl ⟨Nat.le_of_ble_eq_true rfl, Nat.le_of_ble_eq_true rfl, Nat.le_of_ble_eq_true rfl, Nat.le_of_ble_eq_true rfl, rfl⟩ rfl rfl,
  fun L J st h Q x => pf_ii pb_u_199 rfl rfl pf_ne,
  fun L J st h Q => pf_S pb_u_199 rfl rfl,
  fun L J h Q x => pf_rz pb_u_199 rfl rfl,
  fun l1 l2 l3 l4 st h Q x => pf_S pb_u_199 rfl rfl,
  fun l1 l2 l3 l4 st h Q => pf_S pb_u_199 rfl rfl,
  fun L J st h Q a => pf_gf pb_u_199 rfl rfl,
  fun L J st h Q => pf_S pb_u_199 rfl rfl,
  fun L J st h Q x y => pf_ic pb_u_199 rfl rfl pf_ne,
  fun l1 l2 l3 l4 st h Q x => pf_S pb_u_199 rfl rfl,
  fun l1 l2 l3 l4 st h Q => pf_S pb_u_199 rfl rfl,
  fun L J st h Q => pf_S pb_u_199 rfl rfl,
  fun l1 l2 l3 l4 st h Q x => pf_S pb_u_199 rfl rfl,
  fun l1 l2 l3 l4 st h Q => pf_S pb_u_199 rfl rfl,
  fun L J st h Q a => pf_gf pb_u_199 rfl rfl,
  fun L J h Q x0 x1 x2 => pf_kv pb_u_199 rfl pb_ci_183 rfl ⟨Nat.le_of_ble_eq_true rfl, Nat.le_of_ble_eq_true rfl, Nat.le_of_ble_eq_true rfl, Nat.le_of_ble_eq_true rfl, rfl⟩ rfl rfl,
  fun L J h Q x => pf_rz pb_u_199 rfl rfl,
  fun l1 l2 l3 l4 st h Q x => pf_S pb_u_199 rfl rfl,
  fun l1 l2 l3 l4 st h Q => pf_S pb_u_199 rfl rfl,
  fun L J st h Q => pf_S pb_u_199 rfl rfl,
  fun L J st h Q => pf_S pb_u_199 rfl rfl,
  fun L J h Q x0 x1 x2 => pf_kv pb_u_199 rfl pb_ci_188 rfl ⟨Nat.le_of_ble_eq_true rfl, Nat.le_of_ble_eq_true rfl, Nat.le_of_ble_eq_true rfl, Nat.le_of_ble_eq_true rfl, rfl⟩ rfl rfl,
  fun l1 l2 l3 l4 st h Q x => pf_S pb_u_199 rfl rfl,
  fun l1 l2 l3 l4 st h Q => pf_S pb_u_199 rfl rfl,
  fun L J h Q x0 => pf_kv pb_u_199 rfl pb_ci_198 rfl ⟨Nat.le_of_ble_eq_true rfl, Nat.le_of_ble_eq_true rfl, Nat.le_of_ble_eq_true rfl, Nat.le_of_ble_eq_true rfl, rfl⟩ rfl rfl,
  fun L J st h Q => pf_S pb_u_199 rfl rfl,
  fun l0 l1 l2 l3 l4 st h Q x => pf_S pb_u_199 rfl rfl,
  fun L J st h Q => pf_S pb_u_199 rfl rfl,
  fun L J st h Q x y => pf_ic pb_u_199 rfl rfl rfl,
  fun l1 l2 l3 l4 st h Q x => pf_S pb_u_199 rfl rfl,
  fun l1 l2 l3 l4 st h Q => pf_S pb_u_199 rfl rfl,
  fun L J st h Q a => pf_gf pb_u_199 rfl rfl,
  fun l0 l2 l3 l4 st h Q x => pf_S pb_u_199 rfl rfl,
  fun L J st h Q => pf_S pb_u_199 rfl rfl,
  fun L J st h Q a i x => pf_si pb_u_199 rfl rfl,
  fun l0 l2 l3 l4 st h Q x => pf_S pb_u_199 rfl rfl,
  fun L J st h Q => pf_S pb_u_199 rfl rfl,
  fun L J st h Q => pf_S pb_u_199 rfl rfl,
  fun l0 l1 l2 l3 l4 st h Q x => pf_S pb_u_199 rfl rfl,
  fun L J st h Q x => pf_ii pb_u_199 rfl rfl rfl,
  fun L J st h Q => pf_S pb_u_199 rfl rfl,
  fun l0 l1 l2 l3 l4 st h Q x => pf_S pb_u_199 rfl rfl,
  fun L J st h Q => pf_S pb_u_199 rfl rfl,
  fun l0 l1 l2 l3 l4 st h Q x => pf_S pb_u_199 rfl rfl,
  fun l1 l2 l3 l4 st h Q x => pf_S pb_u_199 rfl rfl,
  fun l1 l2 l3 l4 st h Q => pf_S pb_u_199 rfl rfl,
  fun L J st h Q a => pf_gf pb_u_199 rfl rfl,
  fun L J st h Q x y => pf_ic pb_u_199 rfl rfl rfl,
  fun l0 l1 l3 l4 st h Q x => pf_S pb_u_199 rfl rfl,
  fun L J st h Q x => pf_ii pb_u_199 rfl rfl pf_ne,
  fun L J st h Q => pf_S pb_u_199 rfl rfl,
  fun L J st h Q => pf_S pb_u_199 rfl rfl,
  fun l0 l1 l3 l4 st h Q x => pf_S pb_u_199 rfl rfl,
  fun l0 l1 l2 l3 l4 st h Q x => pf_S pb_u_199 rfl rfl,
  fun l1 l2 l3 l4 st h Q x => pf_S pb_u_199 rfl rfl,
  fun l1 l2 l3 l4 st h Q => pf_S pb_u_199 rfl rfl,
  fun l0 l1 l2 l4 st h Q x => pf_S pb_u_199 rfl rfl,
  fun l1 l2 l3 l4 st h Q x => pf_S pb_u_199 rfl rfl,
  fun l1 l2 l3 l4 st h Q => pf_S pb_u_199 rfl rfl,
  fun L J st h Q a => pf_gf pb_u_199 rfl rfl,
  fun L J h Q x0 x1 x2 => pf_kv pb_u_199 rfl pb_ci_172 rfl ⟨Nat.le_of_ble_eq_true rfl, Nat.le_of_ble_eq_true rfl, Nat.le_of_ble_eq_true rfl, Nat.le_of_ble_eq_true rfl, rfl⟩ rfl rfl,
  fun l0 l1 l2 l3 l4 st h Q x => pf_S pb_u_199 rfl rfl,
  fun l0 l1 l2 l3 st h Q x => pf_S pb_u_199 rfl rfl,
  fun L J st h Q => pf_S pb_u_199 rfl rfl,
  fun L J st h Q x y => pf_ic pb_u_199 rfl rfl pf_ne,
  fun l1 l2 l3 l4 st h Q x => pf_S pb_u_199 rfl rfl,
  fun l1 l2 l3 l4 st h Q => pf_S pb_u_199 rfl rfl,
  fun L J st h Q => pf_S pb_u_199 rfl rfl,
  fun L J st h Q => pf_S pb_u_199 rfl rfl,
  fun L J h Q x0 x1 x2 => pf_kv pb_u_199 rfl pb_ci_196 rfl ⟨Nat.le_of_ble_eq_true rfl, Nat.le_of_ble_eq_true rfl, Nat.le_of_ble_eq_true rfl, Nat.le_of_ble_eq_true rfl, rfl⟩ rfl rfl,
  fun L J st h Q => pf_S pb_u_199 rfl rfl,
  fun L J h Q x => pf_rz pb_u_199 rfl rfl,
  fun l0 l1 l2 l3 st h Q x => pf_S pb_u_199 rfl rfl,
  fun L J st h Q x => pf_ii pb_u_199 rfl rfl rfl,
  fun l1 l2 l3 l4 st h Q x => pf_S pb_u_199 rfl rfl,
  fun l1 l2 l3 l4 st h Q => pf_S pb_u_199 rfl rfl,
  fun L J st h Q a => pf_gf pb_u_199 rfl rfl,
  fun l0 l1 l2 l3 st h Q x => pf_S pb_u_199 rfl rfl,
  fun l1 l2 l3 l4 st h Q x => pf_S pb_u_199 rfl rfl,
  fun l1 l2 l3 l4 st h Q => pf_S pb_u_199 rfl rfl,
  fun L J st h Q a => pf_gf pb_u_199 rfl rfl,
  fun l0 l1 l2 l4 st h Q x => pf_S pb_u_199 rfl rfl,
  fun L J st h Q => pf_S pb_u_199 rfl rfl,
  fun L J st x y h Q => pf_S pb_u_199 rfl rfl,
  fun l0 l1 l2 l3 st h Q x => pf_S pb_u_199 rfl rfl,
  fun L J st x y h Q => pf_S pb_u_199 rfl rfl,
  fun L J st h Q a i => pf_ai pb_u_199 rfl rfl,
  fun L J st h Q => pf_S pb_u_199 rfl rfl,
  fun L J st h Q x y => pf_ic pb_u_199 rfl rfl pf_ne,
  fun L J st h Q => pf_S pb_u_199 rfl rfl,
  fun L J st h Q => pf_S pb_u_199 rfl rfl,
  fun L J st h Q => pf_S pb_u_199 rfl rfl,
  fun L J st h Q a i x => pf_si pb_u_199 rfl rfl,
  fun L J st h Q => pf_S pb_u_199 rfl rfl,
  fun l0 l1 l2 l3 l4 st h Q x => pf_S pb_u_199 rfl rfl,
  fun l0 l1 l3 l4 st h Q x => pf_S pb_u_199 rfl rfl,
  fun L J st h Q => pf_S pb_u_199 rfl rfl,
  fun L J st h Q => pf_S pb_u_199 rfl rfl,
  fun l1 l2 l3 l4 st h Q x => pf_S pb_u_199 rfl rfl,
  fun l1 l2 l3 l4 st h Q => pf_S pb_u_199 rfl rfl,
  fun L J st h Q => pf_S pb_u_199 rfl rfl,
  fun l1 l2 l3 l4 st h Q x => pf_S pb_u_199 rfl rfl,
  fun l1 l2 l3 l4 st h Q => pf_S pb_u_199 rfl rfl,
  fun L J st h Q a => pf_gf pb_u_199 rfl rfl,
  fun L J h Q x0 x1 x2 => pf_kv pb_u_199 rfl pb_ci_183 rfl ⟨Nat.le_of_ble_eq_true rfl, Nat.le_of_ble_eq_true rfl, Nat.le_of_ble_eq_true rfl, Nat.le_of_ble_eq_true rfl, rfl⟩ rfl rfl,
  fun L J h Q x => pf_rz pb_u_199 rfl rfl⟩
theorem pb_c199 (x0 : Nat) (h : pb_H) (Q : Option Value → pb_H → Prop) : pb_call 199 [.ref x0] h Q ↔ pb_R 199 0 [some (.ref x0), none, none, none, none] [] [] h Q := Iff.rfl
