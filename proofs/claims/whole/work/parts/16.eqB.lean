/-! 50: PlaneBench$TextReader.knowsVariable(I)Z -/
theorem pb_u_50 : pb_t 50 = pb_t50 := rfl
theorem pb_ci_50 : pb_ci 50 = 8 := by decide +kernel
set_option maxRecDepth 100000 in
theorem pb_e50 : (∀ (l1 : Option Value) (st : List Value) (h : pb_H) (Q : Option Value → pb_H → Prop) (x : Nat), pb_R 50 0 [some (.ref x), l1] [] st h Q ↔ pb_R 50 1 [some (.ref x), l1] [] (.ref x :: st) h Q) ∧
  (∀ (l1 : Option Value) (st : List Value) (h : pb_H) (Q : Option Value → pb_H → Prop), pb_R 50 0 [some .null, l1] [] st h Q ↔ pb_R 50 1 [some .null, l1] [] (.null :: st) h Q) ∧
  (∀ (L : pb_L) (J : pb_J) (st : List Value) (h : pb_H) (Q : Option Value → pb_H → Prop) (a : Nat), pb_R 50 1 L J (.ref a :: st) h Q ↔ pb_o (pb_gf (h.2 a) 8 5) (fun v => pb_R 50 4 L J (v :: st) h Q)) ∧
  (∀ (L : pb_L) (J : pb_J) (st : List Value) (h : pb_H) (Q : Option Value → pb_H → Prop), pb_R 50 4 L J st h Q ↔ pb_R 50 5 L J (.int (1 : Int32) :: st) h Q) ∧
  (∀ (L : pb_L) (J : pb_J) (st : List Value) (h : pb_H) (Q : Option Value → pb_H → Prop) (x y : Int32), pb_R 50 5 L J (.int y :: .int x :: st) h Q ↔ if x < y then pb_R 50 20 L J st h Q else pb_R 50 8 L J st h Q) ∧
  (∀ (l1 : Option Value) (st : List Value) (h : pb_H) (Q : Option Value → pb_H → Prop) (x : Nat), pb_R 50 8 [some (.ref x), l1] [] st h Q ↔ pb_R 50 9 [some (.ref x), l1] [] (.ref x :: st) h Q) ∧
  (∀ (l1 : Option Value) (st : List Value) (h : pb_H) (Q : Option Value → pb_H → Prop), pb_R 50 8 [some .null, l1] [] st h Q ↔ pb_R 50 9 [some .null, l1] [] (.null :: st) h Q) ∧
  (∀ (L : pb_L) (J : pb_J) (st : List Value) (h : pb_H) (Q : Option Value → pb_H → Prop) (a : Nat), pb_R 50 9 L J (.ref a :: st) h Q ↔ pb_o (pb_gf (h.2 a) 8 5) (fun v => pb_R 50 12 L J (v :: st) h Q)) ∧
  (∀ (l0 : Option Value) (st : List Value) (h : pb_H) (Q : Option Value → pb_H → Prop) (x : Int32), pb_R 50 12 [l0, some (.int x)] [] st h Q ↔ pb_R 50 13 [l0, some (.int x)] [] (.int x :: st) h Q) ∧
  (∀ (L : pb_L) (J : pb_J) (st : List Value) (h : pb_H) (Q : Option Value → pb_H → Prop) (x y : Int32), pb_R 50 13 L J (.int y :: .int x :: st) h Q ↔ if y < x then pb_R 50 20 L J st h Q else pb_R 50 16 L J st h Q) ∧
  (∀ (L : pb_L) (J : pb_J) (st : List Value) (h : pb_H) (Q : Option Value → pb_H → Prop), pb_R 50 16 L J st h Q ↔ pb_R 50 17 L J (.int (1 : Int32) :: st) h Q) ∧
  (∀ (L : pb_L) (J : pb_J) (st : List Value) (h : pb_H) (Q : Option Value → pb_H → Prop), pb_R 50 17 L J st h Q ↔ pb_R 50 21 L J st h Q) ∧
  (∀ (L : pb_L) (J : pb_J) (st : List Value) (h : pb_H) (Q : Option Value → pb_H → Prop), pb_R 50 20 L J st h Q ↔ pb_R 50 21 L J (.int (0 : Int32) :: st) h Q) ∧
  (∀ (L : pb_L) (J : pb_J) (h : pb_H) (Q : Option Value → pb_H → Prop) (x : Int32), pb_R 50 21 L J [.int x] h Q ↔ narrow .boolean (.int x) = .int x ∧ Q (some (.int x)) h) := ⟨
  fun l1 st h Q x => pf_S pb_u_50 rfl rfl,
  fun l1 st h Q => pf_S pb_u_50 rfl rfl,
  fun L J st h Q a => pf_gf pb_u_50 rfl rfl,
  fun L J st h Q => pf_S pb_u_50 rfl rfl,
  fun L J st h Q x y => pf_ic pb_u_50 rfl rfl rfl,
  fun l1 st h Q x => pf_S pb_u_50 rfl rfl,
  fun l1 st h Q => pf_S pb_u_50 rfl rfl,
  fun L J st h Q a => pf_gf pb_u_50 rfl rfl,
  fun l0 st h Q x => pf_S pb_u_50 rfl rfl,
  fun L J st h Q x y => pf_ic pb_u_50 rfl rfl rfl,
  fun L J st h Q => pf_S pb_u_50 rfl rfl,
  fun L J st h Q => pf_S pb_u_50 rfl rfl,
  fun L J st h Q => pf_S pb_u_50 rfl rfl,
  fun L J h Q x => pf_rz pb_u_50 rfl rfl⟩
theorem pb_c50 (x0 : Nat) (x1 : Int32) (h : pb_H) (Q : Option Value → pb_H → Prop) : pb_call 50 [.ref x0, .int x1] h Q ↔ pb_R 50 0 [some (.ref x0), some (.int x1)] [] [] h Q := Iff.rfl
/-! 51: PlaneBench$Wide.subtract([II[III)I -/
theorem pb_u_51 : pb_t 51 = pb_t51 := rfl
set_option maxRecDepth 100000 in
theorem pb_q51_6 (l0 l1 l2 l3 l4 l5 l6 : Option Value) (j0 j1 j2 j3 j4 j5 j6 j7 : Option Int64) (st : List Value) (h : pb_H) (Q : Option Value → pb_H → Prop) (x : Int32) : pb_R 51 6 [l0, l1, l2, l3, l4, l5, l6, some (.int x)] [j0, j1, j2, j3, j4, j5, j6, j7] st h Q ↔ pb_R 51 8 [l0, l1, l2, l3, l4, l5, l6, some (.int x)] [j0, j1, j2, j3, j4, j5, j6, j7] (.int x :: st) h Q := pf_S pb_u_51 rfl rfl
set_option maxRecDepth 100000 in
theorem pb_e51 : (∀ (L : pb_L) (J : pb_J) (st : List Value) (h : pb_H) (Q : Option Value → pb_H → Prop), pb_R 51 0 L J st h Q ↔ pb_R 51 1 L J (.long (0 : Int64) :: st) h Q) ∧
  (∀ (l0 l1 l2 l3 l4 l5 l6 l7 : Option Value) (j0 j1 j2 j3 j4 j5 j6 j7 : Option Int64) (st : List Value) (h : pb_H) (Q : Option Value → pb_H → Prop) (x : Int64), pb_R 51 1 [l0, l1, l2, l3, l4, l5, l6, l7] [j0, j1, j2, j3, j4, j5, j6, j7] (.long x :: st) h Q ↔ pb_R 51 3 [l0, l1, l2, l3, l4, none, none, l7] [j0, j1, j2, j3, none, some x, none, j7] st h Q) ∧
  (∀ (L : pb_L) (J : pb_J) (st : List Value) (h : pb_H) (Q : Option Value → pb_H → Prop), pb_R 51 3 L J st h Q ↔ pb_R 51 4 L J (.int (0 : Int32) :: st) h Q) ∧
  (∀ (l0 l1 l2 l3 l4 l5 l6 l7 : Option Value) (j0 j1 j2 j3 j4 j5 j6 j7 : Option Int64) (st : List Value) (h : pb_H) (Q : Option Value → pb_H → Prop) (x : Int32), pb_R 51 4 [l0, l1, l2, l3, l4, l5, l6, l7] [j0, j1, j2, j3, j4, j5, j6, j7] (.int x :: st) h Q ↔ pb_R 51 6 [l0, l1, l2, l3, l4, l5, l6, some (.int x)] [j0, j1, j2, j3, j4, j5, none, none] st h Q) ∧
  (∀ (l0 l1 l2 l3 l5 l6 l7 : Option Value) (j0 j1 j2 j3 j4 j5 j6 j7 : Option Int64) (st : List Value) (h : pb_H) (Q : Option Value → pb_H → Prop) (x : Int32), pb_R 51 8 [l0, l1, l2, l3, some (.int x), l5, l6, l7] [j0, j1, j2, j3, j4, j5, j6, j7] st h Q ↔ pb_R 51 10 [l0, l1, l2, l3, some (.int x), l5, l6, l7] [j0, j1, j2, j3, j4, j5, j6, j7] (.int x :: st) h Q) ∧
  (∀ (L : pb_L) (J : pb_J) (st : List Value) (h : pb_H) (Q : Option Value → pb_H → Prop) (x y : Int32), pb_R 51 10 L J (.int y :: .int x :: st) h Q ↔ if y ≤ x then pb_R 51 63 L J st h Q else pb_R 51 13 L J st h Q) ∧
  (∀ (l0 l1 l2 l3 l4 l5 l6 l7 : Option Value) (j0 j1 j2 j3 j4 j6 j7 : Option Int64) (st : List Value) (h : pb_H) (Q : Option Value → pb_H → Prop) (x : Int64), pb_R 51 13 [l0, l1, l2, l3, l4, l5, l6, l7] [j0, j1, j2, j3, j4, some x, j6, j7] st h Q ↔ pb_R 51 15 [l0, l1, l2, l3, l4, l5, l6, l7] [j0, j1, j2, j3, j4, some x, j6, j7] (.long x :: st) h Q) ∧
  (∀ (l1 l2 l3 l4 l5 l6 l7 : Option Value) (j0 j1 j2 j3 j4 j5 j6 j7 : Option Int64) (st : List Value) (h : pb_H) (Q : Option Value → pb_H → Prop) (x : Nat), pb_R 51 15 [some (.ref x), l1, l2, l3, l4, l5, l6, l7] [j0, j1, j2, j3, j4, j5, j6, j7] st h Q ↔ pb_R 51 16 [some (.ref x), l1, l2, l3, l4, l5, l6, l7] [j0, j1, j2, j3, j4, j5, j6, j7] (.ref x :: st) h Q) ∧
  (∀ (l1 l2 l3 l4 l5 l6 l7 : Option Value) (j0 j1 j2 j3 j4 j5 j6 j7 : Option Int64) (st : List Value) (h : pb_H) (Q : Option Value → pb_H → Prop), pb_R 51 15 [some .null, l1, l2, l3, l4, l5, l6, l7] [j0, j1, j2, j3, j4, j5, j6, j7] st h Q ↔ pb_R 51 16 [some .null, l1, l2, l3, l4, l5, l6, l7] [j0, j1, j2, j3, j4, j5, j6, j7] (.null :: st) h Q) ∧
  (∀ (l0 l2 l3 l4 l5 l6 l7 : Option Value) (j0 j1 j2 j3 j4 j5 j6 j7 : Option Int64) (st : List Value) (h : pb_H) (Q : Option Value → pb_H → Prop) (x : Int32), pb_R 51 16 [l0, some (.int x), l2, l3, l4, l5, l6, l7] [j0, j1, j2, j3, j4, j5, j6, j7] st h Q ↔ pb_R 51 17 [l0, some (.int x), l2, l3, l4, l5, l6, l7] [j0, j1, j2, j3, j4, j5, j6, j7] (.int x :: st) h Q) ∧
  (∀ (l0 l1 l2 l3 l4 l5 l6 : Option Value) (j0 j1 j2 j3 j4 j5 j6 j7 : Option Int64) (st : List Value) (h : pb_H) (Q : Option Value → pb_H → Prop) (x : Int32), pb_R 51 17 [l0, l1, l2, l3, l4, l5, l6, some (.int x)] [j0, j1, j2, j3, j4, j5, j6, j7] st h Q ↔ pb_R 51 19 [l0, l1, l2, l3, l4, l5, l6, some (.int x)] [j0, j1, j2, j3, j4, j5, j6, j7] (.int x :: st) h Q) ∧
  (∀ (L : pb_L) (J : pb_J) (st : List Value) (x y : Int32) (h : pb_H) (Q : Option Value → pb_H → Prop), pb_R 51 19 L J (.int y :: .int x :: st) h Q ↔ pb_R 51 20 L J (.int (x + y) :: st) h Q) ∧
  (∀ (L : pb_L) (J : pb_J) (st : List Value) (h : pb_H) (Q : Option Value → pb_H → Prop) (a : Nat) (i : Int32), pb_R 51 20 L J (.int i :: .ref a :: st) h Q ↔ pb_o (pb_ai (h.2 a) i) (fun v => pb_R 51 21 L J (.int v :: st) h Q)) ∧
  (∀ (L : pb_L) (J : pb_J) (st : List Value) (x : Int32) (h : pb_H) (Q : Option Value → pb_H → Prop), pb_R 51 21 L J (.int x :: st) h Q ↔ pb_R 51 22 L J (.long x.toInt64 :: st) h Q) ∧
  (∀ (L : pb_L) (J : pb_J) (st : List Value) (h : pb_H) (Q : Option Value → pb_H → Prop), pb_R 51 22 L J st h Q ↔ pb_R 51 25 L J (.long (4294967295 : Int64) :: st) h Q) ∧
  (∀ (L : pb_L) (J : pb_J) (st : List Value) (x y : Int64) (h : pb_H) (Q : Option Value → pb_H → Prop), pb_R 51 25 L J (.long y :: .long x :: st) h Q ↔ pb_R 51 26 L J (.long (x &&& y) :: st) h Q) ∧
  (∀ (l0 l1 l3 l4 l5 l6 l7 : Option Value) (j0 j1 j2 j3 j4 j5 j6 j7 : Option Int64) (st : List Value) (h : pb_H) (Q : Option Value → pb_H → Prop) (x : Nat), pb_R 51 26 [l0, l1, some (.ref x), l3, l4, l5, l6, l7] [j0, j1, j2, j3, j4, j5, j6, j7] st h Q ↔ pb_R 51 27 [l0, l1, some (.ref x), l3, l4, l5, l6, l7] [j0, j1, j2, j3, j4, j5, j6, j7] (.ref x :: st) h Q) ∧
  (∀ (l0 l1 l3 l4 l5 l6 l7 : Option Value) (j0 j1 j2 j3 j4 j5 j6 j7 : Option Int64) (st : List Value) (h : pb_H) (Q : Option Value → pb_H → Prop), pb_R 51 26 [l0, l1, some .null, l3, l4, l5, l6, l7] [j0, j1, j2, j3, j4, j5, j6, j7] st h Q ↔ pb_R 51 27 [l0, l1, some .null, l3, l4, l5, l6, l7] [j0, j1, j2, j3, j4, j5, j6, j7] (.null :: st) h Q) ∧
  (∀ (l0 l1 l2 l4 l5 l6 l7 : Option Value) (j0 j1 j2 j3 j4 j5 j6 j7 : Option Int64) (st : List Value) (h : pb_H) (Q : Option Value → pb_H → Prop) (x : Int32), pb_R 51 27 [l0, l1, l2, some (.int x), l4, l5, l6, l7] [j0, j1, j2, j3, j4, j5, j6, j7] st h Q ↔ pb_R 51 28 [l0, l1, l2, some (.int x), l4, l5, l6, l7] [j0, j1, j2, j3, j4, j5, j6, j7] (.int x :: st) h Q) ∧
  (∀ (l0 l1 l2 l3 l4 l5 l6 : Option Value) (j0 j1 j2 j3 j4 j5 j6 j7 : Option Int64) (st : List Value) (h : pb_H) (Q : Option Value → pb_H → Prop) (x : Int32), pb_R 51 28 [l0, l1, l2, l3, l4, l5, l6, some (.int x)] [j0, j1, j2, j3, j4, j5, j6, j7] st h Q ↔ pb_R 51 30 [l0, l1, l2, l3, l4, l5, l6, some (.int x)] [j0, j1, j2, j3, j4, j5, j6, j7] (.int x :: st) h Q) ∧
  (∀ (L : pb_L) (J : pb_J) (st : List Value) (x y : Int32) (h : pb_H) (Q : Option Value → pb_H → Prop), pb_R 51 30 L J (.int y :: .int x :: st) h Q ↔ pb_R 51 31 L J (.int (x + y) :: st) h Q) ∧
  (∀ (L : pb_L) (J : pb_J) (st : List Value) (h : pb_H) (Q : Option Value → pb_H → Prop) (a : Nat) (i : Int32), pb_R 51 31 L J (.int i :: .ref a :: st) h Q ↔ pb_o (pb_ai (h.2 a) i) (fun v => pb_R 51 32 L J (.int v :: st) h Q)) ∧
  (∀ (L : pb_L) (J : pb_J) (st : List Value) (x : Int32) (h : pb_H) (Q : Option Value → pb_H → Prop), pb_R 51 32 L J (.int x :: st) h Q ↔ pb_R 51 33 L J (.long x.toInt64 :: st) h Q) ∧
  (∀ (L : pb_L) (J : pb_J) (st : List Value) (h : pb_H) (Q : Option Value → pb_H → Prop), pb_R 51 33 L J st h Q ↔ pb_R 51 36 L J (.long (4294967295 : Int64) :: st) h Q) ∧
  (∀ (L : pb_L) (J : pb_J) (st : List Value) (x y : Int64) (h : pb_H) (Q : Option Value → pb_H → Prop), pb_R 51 36 L J (.long y :: .long x :: st) h Q ↔ pb_R 51 37 L J (.long (x &&& y) :: st) h Q) ∧
  (∀ (L : pb_L) (J : pb_J) (st : List Value) (x y : Int64) (h : pb_H) (Q : Option Value → pb_H → Prop), pb_R 51 37 L J (.long y :: .long x :: st) h Q ↔ pb_R 51 38 L J (.long (x - y) :: st) h Q) ∧
  (∀ (L : pb_L) (J : pb_J) (st : List Value) (x y : Int64) (h : pb_H) (Q : Option Value → pb_H → Prop), pb_R 51 38 L J (.long y :: .long x :: st) h Q ↔ pb_R 51 39 L J (.long (x + y) :: st) h Q) ∧
  (∀ (l0 l1 l2 l3 l4 l5 l6 l7 : Option Value) (j0 j1 j2 j3 j4 j5 j6 j7 : Option Int64) (st : List Value) (h : pb_H) (Q : Option Value → pb_H → Prop) (x : Int64), pb_R 51 39 [l0, l1, l2, l3, l4, l5, l6, l7] [j0, j1, j2, j3, j4, j5, j6, j7] (.long x :: st) h Q ↔ pb_R 51 41 [l0, l1, l2, l3, l4, none, none, l7] [j0, j1, j2, j3, none, some x, none, j7] st h Q) ∧
  (∀ (l1 l2 l3 l4 l5 l6 l7 : Option Value) (j0 j1 j2 j3 j4 j5 j6 j7 : Option Int64) (st : List Value) (h : pb_H) (Q : Option Value → pb_H → Prop) (x : Nat), pb_R 51 41 [some (.ref x), l1, l2, l3, l4, l5, l6, l7] [j0, j1, j2, j3, j4, j5, j6, j7] st h Q ↔ pb_R 51 42 [some (.ref x), l1, l2, l3, l4, l5, l6, l7] [j0, j1, j2, j3, j4, j5, j6, j7] (.ref x :: st) h Q) ∧
  (∀ (l1 l2 l3 l4 l5 l6 l7 : Option Value) (j0 j1 j2 j3 j4 j5 j6 j7 : Option Int64) (st : List Value) (h : pb_H) (Q : Option Value → pb_H → Prop), pb_R 51 41 [some .null, l1, l2, l3, l4, l5, l6, l7] [j0, j1, j2, j3, j4, j5, j6, j7] st h Q ↔ pb_R 51 42 [some .null, l1, l2, l3, l4, l5, l6, l7] [j0, j1, j2, j3, j4, j5, j6, j7] (.null :: st) h Q) ∧
  (∀ (l0 l2 l3 l4 l5 l6 l7 : Option Value) (j0 j1 j2 j3 j4 j5 j6 j7 : Option Int64) (st : List Value) (h : pb_H) (Q : Option Value → pb_H → Prop) (x : Int32), pb_R 51 42 [l0, some (.int x), l2, l3, l4, l5, l6, l7] [j0, j1, j2, j3, j4, j5, j6, j7] st h Q ↔ pb_R 51 43 [l0, some (.int x), l2, l3, l4, l5, l6, l7] [j0, j1, j2, j3, j4, j5, j6, j7] (.int x :: st) h Q) ∧
  (∀ (l0 l1 l2 l3 l4 l5 l6 : Option Value) (j0 j1 j2 j3 j4 j5 j6 j7 : Option Int64) (st : List Value) (h : pb_H) (Q : Option Value → pb_H → Prop) (x : Int32), pb_R 51 43 [l0, l1, l2, l3, l4, l5, l6, some (.int x)] [j0, j1, j2, j3, j4, j5, j6, j7] st h Q ↔ pb_R 51 45 [l0, l1, l2, l3, l4, l5, l6, some (.int x)] [j0, j1, j2, j3, j4, j5, j6, j7] (.int x :: st) h Q) ∧
  (∀ (L : pb_L) (J : pb_J) (st : List Value) (x y : Int32) (h : pb_H) (Q : Option Value → pb_H → Prop), pb_R 51 45 L J (.int y :: .int x :: st) h Q ↔ pb_R 51 46 L J (.int (x + y) :: st) h Q) ∧
  (∀ (l0 l1 l2 l3 l4 l5 l6 l7 : Option Value) (j0 j1 j2 j3 j4 j6 j7 : Option Int64) (st : List Value) (h : pb_H) (Q : Option Value → pb_H → Prop) (x : Int64), pb_R 51 46 [l0, l1, l2, l3, l4, l5, l6, l7] [j0, j1, j2, j3, j4, some x, j6, j7] st h Q ↔ pb_R 51 48 [l0, l1, l2, l3, l4, l5, l6, l7] [j0, j1, j2, j3, j4, some x, j6, j7] (.long x :: st) h Q) ∧
  (∀ (L : pb_L) (J : pb_J) (st : List Value) (x : Int64) (h : pb_H) (Q : Option Value → pb_H → Prop), pb_R 51 48 L J (.long x :: st) h Q ↔ pb_R 51 49 L J (.int x.toInt32 :: st) h Q) ∧
  (∀ (L : pb_L) (J : pb_J) (st : List Value) (h : pb_H) (Q : Option Value → pb_H → Prop) (a : Nat) (i x : Int32), pb_R 51 49 L J (.int x :: .int i :: .ref a :: st) h Q ↔ pb_o (pb_si (h.2 a) i x) (fun c => pb_R 51 50 L J st (pb_set h a c) Q)) ∧
  (∀ (l0 l1 l2 l3 l4 l5 l6 l7 : Option Value) (j0 j1 j2 j3 j4 j6 j7 : Option Int64) (st : List Value) (h : pb_H) (Q : Option Value → pb_H → Prop) (x : Int64), pb_R 51 50 [l0, l1, l2, l3, l4, l5, l6, l7] [j0, j1, j2, j3, j4, some x, j6, j7] st h Q ↔ pb_R 51 52 [l0, l1, l2, l3, l4, l5, l6, l7] [j0, j1, j2, j3, j4, some x, j6, j7] (.long x :: st) h Q) ∧
  (∀ (L : pb_L) (J : pb_J) (st : List Value) (h : pb_H) (Q : Option Value → pb_H → Prop), pb_R 51 52 L J st h Q ↔ pb_R 51 54 L J (.int (32 : Int32) :: st) h Q) ∧
  (∀ (L : pb_L) (J : pb_J) (st : List Value) (x : Int64) (y : Int32) (h : pb_H) (Q : Option Value → pb_H → Prop), pb_R 51 54 L J (.int y :: .long x :: st) h Q ↔ pb_R 51 55 L J (.long (x >>> (y.toInt64 &&& 63)) :: st) h Q) ∧
  (∀ (l0 l1 l2 l3 l4 l5 l6 l7 : Option Value) (j0 j1 j2 j3 j4 j5 j6 j7 : Option Int64) (st : List Value) (h : pb_H) (Q : Option Value → pb_H → Prop) (x : Int64), pb_R 51 55 [l0, l1, l2, l3, l4, l5, l6, l7] [j0, j1, j2, j3, j4, j5, j6, j7] (.long x :: st) h Q ↔ pb_R 51 57 [l0, l1, l2, l3, l4, none, none, l7] [j0, j1, j2, j3, none, some x, none, j7] st h Q) ∧
  (∀ (l0 l1 l2 l3 l4 l5 l6 : Option Value) (j0 j1 j2 j3 j4 j5 j6 j7 : Option Int64) (st : List Value) (h : pb_H) (Q : Option Value → pb_H → Prop) (x : Int32), pb_R 51 57 [l0, l1, l2, l3, l4, l5, l6, some (.int x)] [j0, j1, j2, j3, j4, j5, j6, j7] st h Q ↔ pb_R 51 60 [l0, l1, l2, l3, l4, l5, l6, some (.int (x + (1 : Int32)))] [j0, j1, j2, j3, j4, j5, none, none] st h Q) ∧
  (∀ (L : pb_L) (J : pb_J) (st : List Value) (h : pb_H) (Q : Option Value → pb_H → Prop), pb_R 51 60 L J st h Q ↔ pb_R 51 6 L J st h Q) ∧
  (∀ (l0 l1 l2 l3 l4 l5 l6 l7 : Option Value) (j0 j1 j2 j3 j4 j6 j7 : Option Int64) (st : List Value) (h : pb_H) (Q : Option Value → pb_H → Prop) (x : Int64), pb_R 51 63 [l0, l1, l2, l3, l4, l5, l6, l7] [j0, j1, j2, j3, j4, some x, j6, j7] st h Q ↔ pb_R 51 65 [l0, l1, l2, l3, l4, l5, l6, l7] [j0, j1, j2, j3, j4, some x, j6, j7] (.long x :: st) h Q) ∧
  (∀ (L : pb_L) (J : pb_J) (st : List Value) (h : pb_H) (Q : Option Value → pb_H → Prop), pb_R 51 65 L J st h Q ↔ pb_R 51 66 L J (.long (0 : Int64) :: st) h Q) ∧
  (∀ (L : pb_L) (J : pb_J) (st : List Value) (x y : Int64) (h : pb_H) (Q : Option Value → pb_H → Prop), pb_R 51 66 L J (.long y :: .long x :: st) h Q ↔ pb_R 51 67 L J (.int (lg_cmp x y) :: st) h Q) ∧
  (∀ (L : pb_L) (J : pb_J) (st : List Value) (h : pb_H) (Q : Option Value → pb_H → Prop) (x : Int32), pb_R 51 67 L J (.int x :: st) h Q ↔ if 0 ≤ x then pb_R 51 74 L J st h Q else pb_R 51 70 L J st h Q) ∧
  (∀ (L : pb_L) (J : pb_J) (st : List Value) (h : pb_H) (Q : Option Value → pb_H → Prop), pb_R 51 70 L J st h Q ↔ pb_R 51 71 L J (.int (1 : Int32) :: st) h Q) ∧
  (∀ (L : pb_L) (J : pb_J) (st : List Value) (h : pb_H) (Q : Option Value → pb_H → Prop), pb_R 51 71 L J st h Q ↔ pb_R 51 75 L J st h Q) ∧
  (∀ (L : pb_L) (J : pb_J) (st : List Value) (h : pb_H) (Q : Option Value → pb_H → Prop), pb_R 51 74 L J st h Q ↔ pb_R 51 75 L J (.int (0 : Int32) :: st) h Q) ∧
  (∀ (L : pb_L) (J : pb_J) (h : pb_H) (Q : Option Value → pb_H → Prop) (x : Int32), pb_R 51 75 L J [.int x] h Q ↔ Q (some (.int x)) h) := ⟨
  fun L J st h Q => pf_S pb_u_51 rfl rfl,
  fun l0 l1 l2 l3 l4 l5 l6 l7 j0 j1 j2 j3 j4 j5 j6 j7 st h Q x => pf_S pb_u_51 rfl rfl,
  fun L J st h Q => pf_S pb_u_51 rfl rfl,
  fun l0 l1 l2 l3 l4 l5 l6 l7 j0 j1 j2 j3 j4 j5 j6 j7 st h Q x => pf_S pb_u_51 rfl rfl,
  fun l0 l1 l2 l3 l5 l6 l7 j0 j1 j2 j3 j4 j5 j6 j7 st h Q x => pf_S pb_u_51 rfl rfl,
  fun L J st h Q x y => pf_ic pb_u_51 rfl rfl rfl,
  fun l0 l1 l2 l3 l4 l5 l6 l7 j0 j1 j2 j3 j4 j6 j7 st h Q x => pf_S pb_u_51 rfl rfl,
  fun l1 l2 l3 l4 l5 l6 l7 j0 j1 j2 j3 j4 j5 j6 j7 st h Q x => pf_S pb_u_51 rfl rfl,
  fun l1 l2 l3 l4 l5 l6 l7 j0 j1 j2 j3 j4 j5 j6 j7 st h Q => pf_S pb_u_51 rfl rfl,
  fun l0 l2 l3 l4 l5 l6 l7 j0 j1 j2 j3 j4 j5 j6 j7 st h Q x => pf_S pb_u_51 rfl rfl,
  fun l0 l1 l2 l3 l4 l5 l6 j0 j1 j2 j3 j4 j5 j6 j7 st h Q x => pf_S pb_u_51 rfl rfl,
  fun L J st x y h Q => pf_S pb_u_51 rfl rfl,
  fun L J st h Q a i => pf_ai pb_u_51 rfl rfl,
  fun L J st x h Q => pf_S pb_u_51 rfl rfl,
  fun L J st h Q => pf_S pb_u_51 rfl rfl,
  fun L J st x y h Q => pf_S pb_u_51 rfl rfl,
  fun l0 l1 l3 l4 l5 l6 l7 j0 j1 j2 j3 j4 j5 j6 j7 st h Q x => pf_S pb_u_51 rfl rfl,
  fun l0 l1 l3 l4 l5 l6 l7 j0 j1 j2 j3 j4 j5 j6 j7 st h Q => pf_S pb_u_51 rfl rfl,
  fun l0 l1 l2 l4 l5 l6 l7 j0 j1 j2 j3 j4 j5 j6 j7 st h Q x => pf_S pb_u_51 rfl rfl,
  fun l0 l1 l2 l3 l4 l5 l6 j0 j1 j2 j3 j4 j5 j6 j7 st h Q x => pf_S pb_u_51 rfl rfl,
  fun L J st x y h Q => pf_S pb_u_51 rfl rfl,
  fun L J st h Q a i => pf_ai pb_u_51 rfl rfl,
  fun L J st x h Q => pf_S pb_u_51 rfl rfl,
  fun L J st h Q => pf_S pb_u_51 rfl rfl,
  fun L J st x y h Q => pf_S pb_u_51 rfl rfl,
  fun L J st x y h Q => pf_S pb_u_51 rfl rfl,
  fun L J st x y h Q => pf_S pb_u_51 rfl rfl,
  fun l0 l1 l2 l3 l4 l5 l6 l7 j0 j1 j2 j3 j4 j5 j6 j7 st h Q x => pf_S pb_u_51 rfl rfl,
  fun l1 l2 l3 l4 l5 l6 l7 j0 j1 j2 j3 j4 j5 j6 j7 st h Q x => pf_S pb_u_51 rfl rfl,
  fun l1 l2 l3 l4 l5 l6 l7 j0 j1 j2 j3 j4 j5 j6 j7 st h Q => pf_S pb_u_51 rfl rfl,
  fun l0 l2 l3 l4 l5 l6 l7 j0 j1 j2 j3 j4 j5 j6 j7 st h Q x => pf_S pb_u_51 rfl rfl,
  fun l0 l1 l2 l3 l4 l5 l6 j0 j1 j2 j3 j4 j5 j6 j7 st h Q x => pf_S pb_u_51 rfl rfl,
  fun L J st x y h Q => pf_S pb_u_51 rfl rfl,
  fun l0 l1 l2 l3 l4 l5 l6 l7 j0 j1 j2 j3 j4 j6 j7 st h Q x => pf_S pb_u_51 rfl rfl,
  fun L J st x h Q => pf_S pb_u_51 rfl rfl,
  fun L J st h Q a i x => pf_si pb_u_51 rfl rfl,
  fun l0 l1 l2 l3 l4 l5 l6 l7 j0 j1 j2 j3 j4 j6 j7 st h Q x => pf_S pb_u_51 rfl rfl,
  fun L J st h Q => pf_S pb_u_51 rfl rfl,
  fun L J st x y h Q => pf_S pb_u_51 rfl rfl,
  fun l0 l1 l2 l3 l4 l5 l6 l7 j0 j1 j2 j3 j4 j5 j6 j7 st h Q x => pf_S pb_u_51 rfl rfl,
  fun l0 l1 l2 l3 l4 l5 l6 j0 j1 j2 j3 j4 j5 j6 j7 st h Q x => pf_S pb_u_51 rfl rfl,
  fun L J st h Q => pf_S pb_u_51 rfl rfl,
  fun l0 l1 l2 l3 l4 l5 l6 l7 j0 j1 j2 j3 j4 j6 j7 st h Q x => pf_S pb_u_51 rfl rfl,
  fun L J st h Q => pf_S pb_u_51 rfl rfl,
  fun L J st x y h Q => pf_S pb_u_51 rfl rfl,
  fun L J st h Q x => pf_ii pb_u_51 rfl rfl rfl,
  fun L J st h Q => pf_S pb_u_51 rfl rfl,
  fun L J st h Q => pf_S pb_u_51 rfl rfl,
  fun L J st h Q => pf_S pb_u_51 rfl rfl,
  fun L J h Q x => pf_ri pb_u_51 rfl rfl⟩
theorem pb_c51 (x0 : Nat) (x1 : Int32) (x2 : Nat) (x3 : Int32) (x4 : Int32) (h : pb_H) (Q : Option Value → pb_H → Prop) : pb_call 51 [.ref x0, .int x1, .ref x2, .int x3, .int x4] h Q ↔ pb_R 51 0 [some (.ref x0), some (.int x1), some (.ref x2), some (.int x3), some (.int x4), none, none, none] [none, none, none, none, none, none, none, none] [] h Q := Iff.rfl
/-! 52: PlaneBench$Wide.setSmall([III)V -/
theorem pb_u_52 : pb_t 52 = pb_t52 := rfl
set_option maxRecDepth 100000 in
theorem pb_q52_2 (l0 l1 l2 : Option Value) (st : List Value) (h : pb_H) (Q : Option Value → pb_H → Prop) (x : Int32) : pb_R 52 2 [l0, l1, l2, some (.int x)] [] st h Q ↔ pb_R 52 3 [l0, l1, l2, some (.int x)] [] (.int x :: st) h Q := pf_S pb_u_52 rfl rfl
set_option maxRecDepth 100000 in
theorem pb_e52 : (∀ (L : pb_L) (J : pb_J) (st : List Value) (h : pb_H) (Q : Option Value → pb_H → Prop), pb_R 52 0 L J st h Q ↔ pb_R 52 1 L J (.int (0 : Int32) :: st) h Q) ∧
  (∀ (l0 l1 l2 l3 : Option Value) (st : List Value) (h : pb_H) (Q : Option Value → pb_H → Prop) (x : Int32), pb_R 52 1 [l0, l1, l2, l3] [] (.int x :: st) h Q ↔ pb_R 52 2 [l0, l1, l2, some (.int x)] [] st h Q) ∧
  (∀ (L : pb_L) (J : pb_J) (st : List Value) (h : pb_H) (Q : Option Value → pb_H → Prop), pb_R 52 3 L J st h Q ↔ pb_R 52 5 L J (.int (8 : Int32) :: st) h Q) ∧
  (∀ (L : pb_L) (J : pb_J) (st : List Value) (h : pb_H) (Q : Option Value → pb_H → Prop) (x y : Int32), pb_R 52 5 L J (.int y :: .int x :: st) h Q ↔ if y ≤ x then pb_R 52 28 L J st h Q else pb_R 52 8 L J st h Q) ∧
  (∀ (l1 l2 l3 : Option Value) (st : List Value) (h : pb_H) (Q : Option Value → pb_H → Prop) (x : Nat), pb_R 52 8 [some (.ref x), l1, l2, l3] [] st h Q ↔ pb_R 52 9 [some (.ref x), l1, l2, l3] [] (.ref x :: st) h Q) ∧
  (∀ (l1 l2 l3 : Option Value) (st : List Value) (h : pb_H) (Q : Option Value → pb_H → Prop), pb_R 52 8 [some .null, l1, l2, l3] [] st h Q ↔ pb_R 52 9 [some .null, l1, l2, l3] [] (.null :: st) h Q) ∧
  (∀ (l0 l2 l3 : Option Value) (st : List Value) (h : pb_H) (Q : Option Value → pb_H → Prop) (x : Int32), pb_R 52 9 [l0, some (.int x), l2, l3] [] st h Q ↔ pb_R 52 10 [l0, some (.int x), l2, l3] [] (.int x :: st) h Q) ∧
  (∀ (l0 l1 l2 : Option Value) (st : List Value) (h : pb_H) (Q : Option Value → pb_H → Prop) (x : Int32), pb_R 52 10 [l0, l1, l2, some (.int x)] [] st h Q ↔ pb_R 52 11 [l0, l1, l2, some (.int x)] [] (.int x :: st) h Q) ∧
  (∀ (L : pb_L) (J : pb_J) (st : List Value) (x y : Int32) (h : pb_H) (Q : Option Value → pb_H → Prop), pb_R 52 11 L J (.int y :: .int x :: st) h Q ↔ pb_R 52 12 L J (.int (x + y) :: st) h Q) ∧
  (∀ (l0 l1 l2 : Option Value) (st : List Value) (h : pb_H) (Q : Option Value → pb_H → Prop) (x : Int32), pb_R 52 12 [l0, l1, l2, some (.int x)] [] st h Q ↔ pb_R 52 13 [l0, l1, l2, some (.int x)] [] (.int x :: st) h Q) ∧
  (∀ (L : pb_L) (J : pb_J) (st : List Value) (h : pb_H) (Q : Option Value → pb_H → Prop) (x : Int32), pb_R 52 13 L J (.int x :: st) h Q ↔ if ¬ x = 0 then pb_R 52 20 L J st h Q else pb_R 52 16 L J st h Q) ∧
  (∀ (l0 l1 l3 : Option Value) (st : List Value) (h : pb_H) (Q : Option Value → pb_H → Prop) (x : Int32), pb_R 52 16 [l0, l1, some (.int x), l3] [] st h Q ↔ pb_R 52 17 [l0, l1, some (.int x), l3] [] (.int x :: st) h Q) ∧
  (∀ (L : pb_L) (J : pb_J) (st : List Value) (h : pb_H) (Q : Option Value → pb_H → Prop), pb_R 52 17 L J st h Q ↔ pb_R 52 21 L J st h Q) ∧
  (∀ (L : pb_L) (J : pb_J) (st : List Value) (h : pb_H) (Q : Option Value → pb_H → Prop), pb_R 52 20 L J st h Q ↔ pb_R 52 21 L J (.int (0 : Int32) :: st) h Q) ∧
  (∀ (L : pb_L) (J : pb_J) (st : List Value) (h : pb_H) (Q : Option Value → pb_H → Prop) (a : Nat) (i x : Int32), pb_R 52 21 L J (.int x :: .int i :: .ref a :: st) h Q ↔ pb_o (pb_si (h.2 a) i x) (fun c => pb_R 52 22 L J st (pb_set h a c) Q)) ∧
  (∀ (l0 l1 l2 : Option Value) (st : List Value) (h : pb_H) (Q : Option Value → pb_H → Prop) (x : Int32), pb_R 52 22 [l0, l1, l2, some (.int x)] [] st h Q ↔ pb_R 52 25 [l0, l1, l2, some (.int (x + (1 : Int32)))] [] st h Q) ∧
  (∀ (L : pb_L) (J : pb_J) (st : List Value) (h : pb_H) (Q : Option Value → pb_H → Prop), pb_R 52 25 L J st h Q ↔ pb_R 52 2 L J st h Q) ∧
  (∀ (L : pb_L) (J : pb_J) (h : pb_H) (Q : Option Value → pb_H → Prop), pb_R 52 28 L J [] h Q ↔ Q none h) := ⟨
  fun L J st h Q => pf_S pb_u_52 rfl rfl,
  fun l0 l1 l2 l3 st h Q x => pf_S pb_u_52 rfl rfl,
  fun L J st h Q => pf_S pb_u_52 rfl rfl,
  fun L J st h Q x y => pf_ic pb_u_52 rfl rfl rfl,
  fun l1 l2 l3 st h Q x => pf_S pb_u_52 rfl rfl,
  fun l1 l2 l3 st h Q => pf_S pb_u_52 rfl rfl,
  fun l0 l2 l3 st h Q x => pf_S pb_u_52 rfl rfl,
  fun l0 l1 l2 st h Q x => pf_S pb_u_52 rfl rfl,
  fun L J st x y h Q => pf_S pb_u_52 rfl rfl,
  fun l0 l1 l2 st h Q x => pf_S pb_u_52 rfl rfl,
  fun L J st h Q x => pf_ii pb_u_52 rfl rfl pf_ne,
  fun l0 l1 l3 st h Q x => pf_S pb_u_52 rfl rfl,
  fun L J st h Q => pf_S pb_u_52 rfl rfl,
  fun L J st h Q => pf_S pb_u_52 rfl rfl,
  fun L J st h Q a i x => pf_si pb_u_52 rfl rfl,
  fun l0 l1 l2 st h Q x => pf_S pb_u_52 rfl rfl,
  fun L J st h Q => pf_S pb_u_52 rfl rfl,
  fun L J h Q => pf_rv pb_u_52 rfl rfl⟩
theorem pb_c52 (x0 : Nat) (x1 : Int32) (x2 : Int32) (h : pb_H) (Q : Option Value → pb_H → Prop) : pb_call 52 [.ref x0, .int x1, .int x2] h Q ↔ pb_R 52 0 [some (.ref x0), some (.int x1), some (.int x2), none] [] [] h Q := Iff.rfl
/-! 53: PlaneBench$Line.takeOffDegree([IIII)I -/
theorem pb_u_53 : pb_t 53 = pb_t53 := rfl
theorem pb_ci_53 : pb_ci 53 = 4 := by decide +kernel
set_option maxRecDepth 100000 in
theorem pb_e53 : (∀ (l0 l1 l2 l4 l5 : Option Value) (st : List Value) (h : pb_H) (Q : Option Value → pb_H → Prop) (x : Int32), pb_R 53 0 [l0, l1, l2, some (.int x), l4, l5] [] st h Q ↔ pb_R 53 1 [l0, l1, l2, some (.int x), l4, l5] [] (.int x :: st) h Q) ∧
  (∀ (l1 l2 l3 l4 l5 : Option Value) (st : List Value) (h : pb_H) (Q : Option Value → pb_H → Prop) (x : Nat), pb_R 53 1 [some (.ref x), l1, l2, l3, l4, l5] [] st h Q ↔ pb_R 53 2 [some (.ref x), l1, l2, l3, l4, l5] [] (.ref x :: st) h Q) ∧
  (∀ (l1 l2 l3 l4 l5 : Option Value) (st : List Value) (h : pb_H) (Q : Option Value → pb_H → Prop), pb_R 53 1 [some .null, l1, l2, l3, l4, l5] [] st h Q ↔ pb_R 53 2 [some .null, l1, l2, l3, l4, l5] [] (.null :: st) h Q) ∧
  (∀ (L : pb_L) (J : pb_J) (st : List Value) (h : pb_H) (Q : Option Value → pb_H → Prop) (a : Nat), pb_R 53 2 L J (.ref a :: st) h Q ↔ pb_o (pb_gf (h.2 a) 4 1) (fun v => pb_R 53 5 L J (v :: st) h Q)) ∧
  (∀ (L : pb_L) (J : pb_J) (st : List Value) (h : pb_H) (Q : Option Value → pb_H → Prop), pb_R 53 5 L J st h Q ↔ pb_R 53 6 L J (.int (0 : Int32) :: st) h Q) ∧
  (∀ (l0 l2 l3 l4 l5 : Option Value) (st : List Value) (h : pb_H) (Q : Option Value → pb_H → Prop) (x : Nat), pb_R 53 6 [l0, some (.ref x), l2, l3, l4, l5] [] st h Q ↔ pb_R 53 7 [l0, some (.ref x), l2, l3, l4, l5] [] (.ref x :: st) h Q) ∧
  (∀ (l0 l2 l3 l4 l5 : Option Value) (st : List Value) (h : pb_H) (Q : Option Value → pb_H → Prop), pb_R 53 6 [l0, some .null, l2, l3, l4, l5] [] st h Q ↔ pb_R 53 7 [l0, some .null, l2, l3, l4, l5] [] (.null :: st) h Q) ∧
  (∀ (l0 l1 l3 l4 l5 : Option Value) (st : List Value) (h : pb_H) (Q : Option Value → pb_H → Prop) (x : Int32), pb_R 53 7 [l0, l1, some (.int x), l3, l4, l5] [] st h Q ↔ pb_R 53 8 [l0, l1, some (.int x), l3, l4, l5] [] (.int x :: st) h Q) ∧
  (∀ (l0 l1 l2 l3 l5 : Option Value) (st : List Value) (h : pb_H) (Q : Option Value → pb_H → Prop) (x : Int32), pb_R 53 8 [l0, l1, l2, l3, some (.int x), l5] [] st h Q ↔ pb_R 53 10 [l0, l1, l2, l3, some (.int x), l5] [] (.int x :: st) h Q) ∧
  (∀ (L : pb_L) (J : pb_J) (h : pb_H) (Q : Option Value → pb_H → Prop) (x0 : Int32) (x1 : Int32) (x2 : Nat) (x3 : Int32) (x4 : Nat) (x5 : Int32), pb_R 53 10 L J [.int x0, .int x1, .ref x2, .int x3, .ref x4, .int x5] h Q ↔ pb_call 51 [.ref x4, .int x3, .ref x2, .int x1, .int x0] h (fun v t => pb_R 53 13 L J (v.toList ++ [.int x5]) t Q)) ∧
  (∀ (L : pb_L) (J : pb_J) (st : List Value) (x y : Int32) (h : pb_H) (Q : Option Value → pb_H → Prop), pb_R 53 13 L J (.int y :: .int x :: st) h Q ↔ pb_R 53 14 L J (.int (x - y) :: st) h Q) ∧
  (∀ (l0 l1 l2 l3 l4 l5 : Option Value) (st : List Value) (h : pb_H) (Q : Option Value → pb_H → Prop) (x : Int32), pb_R 53 14 [l0, l1, l2, l3, l4, l5] [] (.int x :: st) h Q ↔ pb_R 53 16 [l0, l1, l2, l3, l4, some (.int x)] [] st h Q) ∧
  (∀ (l0 l1 l2 l3 l4 : Option Value) (st : List Value) (h : pb_H) (Q : Option Value → pb_H → Prop) (x : Int32), pb_R 53 16 [l0, l1, l2, l3, l4, some (.int x)] [] st h Q ↔ pb_R 53 18 [l0, l1, l2, l3, l4, some (.int x)] [] (.int x :: st) h Q) ∧
  (∀ (L : pb_L) (J : pb_J) (st : List Value) (h : pb_H) (Q : Option Value → pb_H → Prop) (x : Int32), pb_R 53 18 L J (.int x :: st) h Q ↔ if 0 ≤ x then pb_R 53 32 L J st h Q else pb_R 53 21 L J st h Q) ∧
  (∀ (l1 l2 l3 l4 l5 : Option Value) (st : List Value) (h : pb_H) (Q : Option Value → pb_H → Prop) (x : Nat), pb_R 53 21 [some (.ref x), l1, l2, l3, l4, l5] [] st h Q ↔ pb_R 53 22 [some (.ref x), l1, l2, l3, l4, l5] [] (.ref x :: st) h Q) ∧
  (∀ (l1 l2 l3 l4 l5 : Option Value) (st : List Value) (h : pb_H) (Q : Option Value → pb_H → Prop), pb_R 53 21 [some .null, l1, l2, l3, l4, l5] [] st h Q ↔ pb_R 53 22 [some .null, l1, l2, l3, l4, l5] [] (.null :: st) h Q) ∧
  (∀ (L : pb_L) (J : pb_J) (st : List Value) (h : pb_H) (Q : Option Value → pb_H → Prop) (a : Nat), pb_R 53 22 L J (.ref a :: st) h Q ↔ pb_o (pb_gf (h.2 a) 4 1) (fun v => pb_R 53 25 L J (v :: st) h Q)) ∧
  (∀ (L : pb_L) (J : pb_J) (st : List Value) (h : pb_H) (Q : Option Value → pb_H → Prop), pb_R 53 25 L J st h Q ↔ pb_R 53 26 L J (.int (0 : Int32) :: st) h Q) ∧
  (∀ (L : pb_L) (J : pb_J) (st : List Value) (h : pb_H) (Q : Option Value → pb_H → Prop), pb_R 53 26 L J st h Q ↔ pb_R 53 27 L J (.int (0 : Int32) :: st) h Q) ∧
  (∀ (L : pb_L) (J : pb_J) (h : pb_H) (Q : Option Value → pb_H → Prop) (x0 : Int32) (x1 : Int32) (x2 : Nat), pb_R 53 27 L J [.int x0, .int x1, .ref x2] h Q ↔ pb_call 52 [.ref x2, .int x1, .int x0] h (fun v t => pb_R 53 30 L J (v.toList ++ []) t Q)) ∧
  (∀ (L : pb_L) (J : pb_J) (st : List Value) (h : pb_H) (Q : Option Value → pb_H → Prop), pb_R 53 30 L J st h Q ↔ pb_R 53 31 L J (.int (0 : Int32) :: st) h Q) ∧
  (∀ (L : pb_L) (J : pb_J) (h : pb_H) (Q : Option Value → pb_H → Prop) (x : Int32), pb_R 53 31 L J [.int x] h Q ↔ Q (some (.int x)) h) ∧
  (∀ (l0 l1 l2 l3 l4 : Option Value) (st : List Value) (h : pb_H) (Q : Option Value → pb_H → Prop) (x : Int32), pb_R 53 32 [l0, l1, l2, l3, l4, some (.int x)] [] st h Q ↔ pb_R 53 34 [l0, l1, l2, l3, l4, some (.int x)] [] (.int x :: st) h Q) ∧
  (∀ (L : pb_L) (J : pb_J) (h : pb_H) (Q : Option Value → pb_H → Prop) (x : Int32), pb_R 53 34 L J [.int x] h Q ↔ Q (some (.int x)) h) := ⟨
  fun l0 l1 l2 l4 l5 st h Q x => pf_S pb_u_53 rfl rfl,
  fun l1 l2 l3 l4 l5 st h Q x => pf_S pb_u_53 rfl rfl,
  fun l1 l2 l3 l4 l5 st h Q => pf_S pb_u_53 rfl rfl,
  fun L J st h Q a => pf_gf pb_u_53 rfl rfl,
  fun L J st h Q => pf_S pb_u_53 rfl rfl,
  fun l0 l2 l3 l4 l5 st h Q x => pf_S pb_u_53 rfl rfl,
  fun l0 l2 l3 l4 l5 st h Q => pf_S pb_u_53 rfl rfl,
  fun l0 l1 l3 l4 l5 st h Q x => pf_S pb_u_53 rfl rfl,
  fun l0 l1 l2 l3 l5 st h Q x => pf_S pb_u_53 rfl rfl,
  fun L J h Q x0 x1 x2 x3 x4 x5 => pf_ks pb_u_53 rfl rfl rfl rfl,
  fun L J st x y h Q => pf_S pb_u_53 rfl rfl,
  fun l0 l1 l2 l3 l4 l5 st h Q x => pf_S pb_u_53 rfl rfl,
  fun l0 l1 l2 l3 l4 st h Q x => pf_S pb_u_53 rfl rfl,
  fun L J st h Q x => pf_ii pb_u_53 rfl rfl rfl,
  fun l1 l2 l3 l4 l5 st h Q x => pf_S pb_u_53 rfl rfl,
  fun l1 l2 l3 l4 l5 st h Q => pf_S pb_u_53 rfl rfl,
  fun L J st h Q a => pf_gf pb_u_53 rfl rfl,
  fun L J st h Q => pf_S pb_u_53 rfl rfl,
  fun L J st h Q => pf_S pb_u_53 rfl rfl,
  fun L J h Q x0 x1 x2 => pf_ks pb_u_53 rfl rfl rfl rfl,
  fun L J st h Q => pf_S pb_u_53 rfl rfl,
  fun L J h Q x => pf_ri pb_u_53 rfl rfl,
  fun l0 l1 l2 l3 l4 st h Q x => pf_S pb_u_53 rfl rfl,
  fun L J h Q x => pf_ri pb_u_53 rfl rfl⟩
theorem pb_c53 (x0 : Nat) (x1 : Nat) (x2 : Int32) (x3 : Int32) (x4 : Int32) (h : pb_H) (Q : Option Value → pb_H → Prop) : pb_call 53 [.ref x0, .ref x1, .int x2, .int x3, .int x4] h Q ↔ pb_R 53 0 [some (.ref x0), some (.ref x1), some (.int x2), some (.int x3), some (.int x4), none] [] [] h Q := Iff.rfl
/-! 54: PlaneBench$Line.setSign(II)V -/
theorem pb_u_54 : pb_t 54 = pb_t54 := rfl
theorem pb_ci_54 : pb_ci 54 = 4 := by decide +kernel
set_option maxRecDepth 100000 in
theorem pb_e54 : (∀ (L : pb_L) (J : pb_J) (st : List Value) (h : pb_H) (Q : Option Value → pb_H → Prop), pb_R 54 0 L J st h Q ↔ pb_R 54 1 L J (.int (1 : Int32) :: st) h Q) ∧
  (∀ (l0 l2 l3 : Option Value) (st : List Value) (h : pb_H) (Q : Option Value → pb_H → Prop) (x : Int32), pb_R 54 1 [l0, some (.int x), l2, l3] [] st h Q ↔ pb_R 54 2 [l0, some (.int x), l2, l3] [] (.int x :: st) h Q) ∧
  (∀ (L : pb_L) (J : pb_J) (st : List Value) (h : pb_H) (Q : Option Value → pb_H → Prop), pb_R 54 2 L J st h Q ↔ pb_R 54 3 L J (.int (1 : Int32) :: st) h Q) ∧
  (∀ (L : pb_L) (J : pb_J) (st : List Value) (x y : Int32) (h : pb_H) (Q : Option Value → pb_H → Prop), pb_R 54 3 L J (.int y :: .int x :: st) h Q ↔ pb_R 54 4 L J (.int (x - y) :: st) h Q) ∧
  (∀ (L : pb_L) (J : pb_J) (st : List Value) (x y : Int32) (h : pb_H) (Q : Option Value → pb_H → Prop), pb_R 54 4 L J (.int y :: .int x :: st) h Q ↔ pb_R 54 5 L J (.int (x <<< (y &&& 31)) :: st) h Q) ∧
  (∀ (l0 l1 l2 l3 : Option Value) (st : List Value) (h : pb_H) (Q : Option Value → pb_H → Prop) (x : Int32), pb_R 54 5 [l0, l1, l2, l3] [] (.int x :: st) h Q ↔ pb_R 54 6 [l0, l1, l2, some (.int x)] [] st h Q) ∧
  (∀ (l1 l2 l3 : Option Value) (st : List Value) (h : pb_H) (Q : Option Value → pb_H → Prop) (x : Nat), pb_R 54 6 [some (.ref x), l1, l2, l3] [] st h Q ↔ pb_R 54 7 [some (.ref x), l1, l2, l3] [] (.ref x :: st) h Q) ∧
  (∀ (l1 l2 l3 : Option Value) (st : List Value) (h : pb_H) (Q : Option Value → pb_H → Prop), pb_R 54 6 [some .null, l1, l2, l3] [] st h Q ↔ pb_R 54 7 [some .null, l1, l2, l3] [] (.null :: st) h Q) ∧
  (∀ (l0 l1 l3 : Option Value) (st : List Value) (h : pb_H) (Q : Option Value → pb_H → Prop) (x : Int32), pb_R 54 7 [l0, l1, some (.int x), l3] [] st h Q ↔ pb_R 54 8 [l0, l1, some (.int x), l3] [] (.int x :: st) h Q) ∧
  (∀ (L : pb_L) (J : pb_J) (st : List Value) (h : pb_H) (Q : Option Value → pb_H → Prop) (x : Int32), pb_R 54 8 L J (.int x :: st) h Q ↔ if x ≤ 0 then pb_R 54 20 L J st h Q else pb_R 54 11 L J st h Q) ∧
  (∀ (l1 l2 l3 : Option Value) (st : List Value) (h : pb_H) (Q : Option Value → pb_H → Prop) (x : Nat), pb_R 54 11 [some (.ref x), l1, l2, l3] [] st h Q ↔ pb_R 54 12 [some (.ref x), l1, l2, l3] [] (.ref x :: st) h Q) ∧
  (∀ (l1 l2 l3 : Option Value) (st : List Value) (h : pb_H) (Q : Option Value → pb_H → Prop), pb_R 54 11 [some .null, l1, l2, l3] [] st h Q ↔ pb_R 54 12 [some .null, l1, l2, l3] [] (.null :: st) h Q) ∧
  (∀ (L : pb_L) (J : pb_J) (st : List Value) (h : pb_H) (Q : Option Value → pb_H → Prop) (a : Nat), pb_R 54 12 L J (.ref a :: st) h Q ↔ pb_o (pb_gf (h.2 a) 4 2) (fun v => pb_R 54 15 L J (v :: st) h Q)) ∧
  (∀ (l0 l1 l2 : Option Value) (st : List Value) (h : pb_H) (Q : Option Value → pb_H → Prop) (x : Int32), pb_R 54 15 [l0, l1, l2, some (.int x)] [] st h Q ↔ pb_R 54 16 [l0, l1, l2, some (.int x)] [] (.int x :: st) h Q) ∧
  (∀ (L : pb_L) (J : pb_J) (st : List Value) (x y : Int32) (h : pb_H) (Q : Option Value → pb_H → Prop), pb_R 54 16 L J (.int y :: .int x :: st) h Q ↔ pb_R 54 17 L J (.int (x ||| y) :: st) h Q) ∧
  (∀ (L : pb_L) (J : pb_J) (st : List Value) (h : pb_H) (Q : Option Value → pb_H → Prop), pb_R 54 17 L J st h Q ↔ pb_R 54 28 L J st h Q) ∧
  (∀ (l1 l2 l3 : Option Value) (st : List Value) (h : pb_H) (Q : Option Value → pb_H → Prop) (x : Nat), pb_R 54 20 [some (.ref x), l1, l2, l3] [] st h Q ↔ pb_R 54 21 [some (.ref x), l1, l2, l3] [] (.ref x :: st) h Q) ∧
  (∀ (l1 l2 l3 : Option Value) (st : List Value) (h : pb_H) (Q : Option Value → pb_H → Prop), pb_R 54 20 [some .null, l1, l2, l3] [] st h Q ↔ pb_R 54 21 [some .null, l1, l2, l3] [] (.null :: st) h Q) ∧
  (∀ (L : pb_L) (J : pb_J) (st : List Value) (h : pb_H) (Q : Option Value → pb_H → Prop) (a : Nat), pb_R 54 21 L J (.ref a :: st) h Q ↔ pb_o (pb_gf (h.2 a) 4 2) (fun v => pb_R 54 24 L J (v :: st) h Q)) ∧
  (∀ (l0 l1 l2 : Option Value) (st : List Value) (h : pb_H) (Q : Option Value → pb_H → Prop) (x : Int32), pb_R 54 24 [l0, l1, l2, some (.int x)] [] st h Q ↔ pb_R 54 25 [l0, l1, l2, some (.int x)] [] (.int x :: st) h Q) ∧
  (∀ (L : pb_L) (J : pb_J) (st : List Value) (h : pb_H) (Q : Option Value → pb_H → Prop), pb_R 54 25 L J st h Q ↔ pb_R 54 26 L J (.int (-1 : Int32) :: st) h Q) ∧
  (∀ (L : pb_L) (J : pb_J) (st : List Value) (x y : Int32) (h : pb_H) (Q : Option Value → pb_H → Prop), pb_R 54 26 L J (.int y :: .int x :: st) h Q ↔ pb_R 54 27 L J (.int (x ^^^ y) :: st) h Q) ∧
  (∀ (L : pb_L) (J : pb_J) (st : List Value) (x y : Int32) (h : pb_H) (Q : Option Value → pb_H → Prop), pb_R 54 27 L J (.int y :: .int x :: st) h Q ↔ pb_R 54 28 L J (.int (x &&& y) :: st) h Q) ∧
  (∀ (L : pb_L) (J : pb_J) (st : List Value) (h : pb_H) (Q : Option Value → pb_H → Prop) (a : Nat) (x : Int32), pb_R 54 28 L J (.int x :: .ref a :: st) h Q ↔ pb_o (pb_pf (h.2 a) 4 2 (.int x)) (fun c => pb_R 54 31 L J st (pb_set h a c) Q)) ∧
  (∀ (l1 l2 l3 : Option Value) (st : List Value) (h : pb_H) (Q : Option Value → pb_H → Prop) (x : Nat), pb_R 54 31 [some (.ref x), l1, l2, l3] [] st h Q ↔ pb_R 54 32 [some (.ref x), l1, l2, l3] [] (.ref x :: st) h Q) ∧
  (∀ (l1 l2 l3 : Option Value) (st : List Value) (h : pb_H) (Q : Option Value → pb_H → Prop), pb_R 54 31 [some .null, l1, l2, l3] [] st h Q ↔ pb_R 54 32 [some .null, l1, l2, l3] [] (.null :: st) h Q) ∧
  (∀ (l0 l1 l3 : Option Value) (st : List Value) (h : pb_H) (Q : Option Value → pb_H → Prop) (x : Int32), pb_R 54 32 [l0, l1, some (.int x), l3] [] st h Q ↔ pb_R 54 33 [l0, l1, some (.int x), l3] [] (.int x :: st) h Q) ∧
  (∀ (L : pb_L) (J : pb_J) (st : List Value) (h : pb_H) (Q : Option Value → pb_H → Prop) (x : Int32), pb_R 54 33 L J (.int x :: st) h Q ↔ if 0 ≤ x then pb_R 54 45 L J st h Q else pb_R 54 36 L J st h Q) ∧
  (∀ (l1 l2 l3 : Option Value) (st : List Value) (h : pb_H) (Q : Option Value → pb_H → Prop) (x : Nat), pb_R 54 36 [some (.ref x), l1, l2, l3] [] st h Q ↔ pb_R 54 37 [some (.ref x), l1, l2, l3] [] (.ref x :: st) h Q) ∧
  (∀ (l1 l2 l3 : Option Value) (st : List Value) (h : pb_H) (Q : Option Value → pb_H → Prop), pb_R 54 36 [some .null, l1, l2, l3] [] st h Q ↔ pb_R 54 37 [some .null, l1, l2, l3] [] (.null :: st) h Q) ∧
  (∀ (L : pb_L) (J : pb_J) (st : List Value) (h : pb_H) (Q : Option Value → pb_H → Prop) (a : Nat), pb_R 54 37 L J (.ref a :: st) h Q ↔ pb_o (pb_gf (h.2 a) 4 3) (fun v => pb_R 54 40 L J (v :: st) h Q)) ∧
  (∀ (l0 l1 l2 : Option Value) (st : List Value) (h : pb_H) (Q : Option Value → pb_H → Prop) (x : Int32), pb_R 54 40 [l0, l1, l2, some (.int x)] [] st h Q ↔ pb_R 54 41 [l0, l1, l2, some (.int x)] [] (.int x :: st) h Q) ∧
  (∀ (L : pb_L) (J : pb_J) (st : List Value) (x y : Int32) (h : pb_H) (Q : Option Value → pb_H → Prop), pb_R 54 41 L J (.int y :: .int x :: st) h Q ↔ pb_R 54 42 L J (.int (x ||| y) :: st) h Q) ∧
  (∀ (L : pb_L) (J : pb_J) (st : List Value) (h : pb_H) (Q : Option Value → pb_H → Prop), pb_R 54 42 L J st h Q ↔ pb_R 54 53 L J st h Q) ∧
  (∀ (l1 l2 l3 : Option Value) (st : List Value) (h : pb_H) (Q : Option Value → pb_H → Prop) (x : Nat), pb_R 54 45 [some (.ref x), l1, l2, l3] [] st h Q ↔ pb_R 54 46 [some (.ref x), l1, l2, l3] [] (.ref x :: st) h Q) ∧
  (∀ (l1 l2 l3 : Option Value) (st : List Value) (h : pb_H) (Q : Option Value → pb_H → Prop), pb_R 54 45 [some .null, l1, l2, l3] [] st h Q ↔ pb_R 54 46 [some .null, l1, l2, l3] [] (.null :: st) h Q) ∧
  (∀ (L : pb_L) (J : pb_J) (st : List Value) (h : pb_H) (Q : Option Value → pb_H → Prop) (a : Nat), pb_R 54 46 L J (.ref a :: st) h Q ↔ pb_o (pb_gf (h.2 a) 4 3) (fun v => pb_R 54 49 L J (v :: st) h Q)) ∧
  (∀ (l0 l1 l2 : Option Value) (st : List Value) (h : pb_H) (Q : Option Value → pb_H → Prop) (x : Int32), pb_R 54 49 [l0, l1, l2, some (.int x)] [] st h Q ↔ pb_R 54 50 [l0, l1, l2, some (.int x)] [] (.int x :: st) h Q) ∧
  (∀ (L : pb_L) (J : pb_J) (st : List Value) (h : pb_H) (Q : Option Value → pb_H → Prop), pb_R 54 50 L J st h Q ↔ pb_R 54 51 L J (.int (-1 : Int32) :: st) h Q) ∧
  (∀ (L : pb_L) (J : pb_J) (st : List Value) (x y : Int32) (h : pb_H) (Q : Option Value → pb_H → Prop), pb_R 54 51 L J (.int y :: .int x :: st) h Q ↔ pb_R 54 52 L J (.int (x ^^^ y) :: st) h Q) ∧
  (∀ (L : pb_L) (J : pb_J) (st : List Value) (x y : Int32) (h : pb_H) (Q : Option Value → pb_H → Prop), pb_R 54 52 L J (.int y :: .int x :: st) h Q ↔ pb_R 54 53 L J (.int (x &&& y) :: st) h Q) ∧
  (∀ (L : pb_L) (J : pb_J) (st : List Value) (h : pb_H) (Q : Option Value → pb_H → Prop) (a : Nat) (x : Int32), pb_R 54 53 L J (.int x :: .ref a :: st) h Q ↔ pb_o (pb_pf (h.2 a) 4 3 (.int x)) (fun c => pb_R 54 56 L J st (pb_set h a c) Q)) ∧
  (∀ (L : pb_L) (J : pb_J) (h : pb_H) (Q : Option Value → pb_H → Prop), pb_R 54 56 L J [] h Q ↔ Q none h) := ⟨
  fun L J st h Q => pf_S pb_u_54 rfl rfl,
  fun l0 l2 l3 st h Q x => pf_S pb_u_54 rfl rfl,
  fun L J st h Q => pf_S pb_u_54 rfl rfl,
  fun L J st x y h Q => pf_S pb_u_54 rfl rfl,
  fun L J st x y h Q => pf_S pb_u_54 rfl rfl,
  fun l0 l1 l2 l3 st h Q x => pf_S pb_u_54 rfl rfl,
  fun l1 l2 l3 st h Q x => pf_S pb_u_54 rfl rfl,
  fun l1 l2 l3 st h Q => pf_S pb_u_54 rfl rfl,
  fun l0 l1 l3 st h Q x => pf_S pb_u_54 rfl rfl,
  fun L J st h Q x => pf_ii pb_u_54 rfl rfl rfl,
  fun l1 l2 l3 st h Q x => pf_S pb_u_54 rfl rfl,
  fun l1 l2 l3 st h Q => pf_S pb_u_54 rfl rfl,
  fun L J st h Q a => pf_gf pb_u_54 rfl rfl,
  fun l0 l1 l2 st h Q x => pf_S pb_u_54 rfl rfl,
  fun L J st x y h Q => pf_S pb_u_54 rfl rfl,
  fun L J st h Q => pf_S pb_u_54 rfl rfl,
  fun l1 l2 l3 st h Q x => pf_S pb_u_54 rfl rfl,
  fun l1 l2 l3 st h Q => pf_S pb_u_54 rfl rfl,
  fun L J st h Q a => pf_gf pb_u_54 rfl rfl,
  fun l0 l1 l2 st h Q x => pf_S pb_u_54 rfl rfl,
  fun L J st h Q => pf_S pb_u_54 rfl rfl,
  fun L J st x y h Q => pf_S pb_u_54 rfl rfl,
  fun L J st x y h Q => pf_S pb_u_54 rfl rfl,
  fun L J st h Q a x => pf_pf pb_u_54 rfl rfl,
  fun l1 l2 l3 st h Q x => pf_S pb_u_54 rfl rfl,
  fun l1 l2 l3 st h Q => pf_S pb_u_54 rfl rfl,
  fun l0 l1 l3 st h Q x => pf_S pb_u_54 rfl rfl,
  fun L J st h Q x => pf_ii pb_u_54 rfl rfl rfl,
  fun l1 l2 l3 st h Q x => pf_S pb_u_54 rfl rfl,
  fun l1 l2 l3 st h Q => pf_S pb_u_54 rfl rfl,
  fun L J st h Q a => pf_gf pb_u_54 rfl rfl,
  fun l0 l1 l2 st h Q x => pf_S pb_u_54 rfl rfl,
  fun L J st x y h Q => pf_S pb_u_54 rfl rfl,
  fun L J st h Q => pf_S pb_u_54 rfl rfl,
  fun l1 l2 l3 st h Q x => pf_S pb_u_54 rfl rfl,
  fun l1 l2 l3 st h Q => pf_S pb_u_54 rfl rfl,
  fun L J st h Q a => pf_gf pb_u_54 rfl rfl,
  fun l0 l1 l2 st h Q x => pf_S pb_u_54 rfl rfl,
  fun L J st h Q => pf_S pb_u_54 rfl rfl,
  fun L J st x y h Q => pf_S pb_u_54 rfl rfl,
  fun L J st x y h Q => pf_S pb_u_54 rfl rfl,
  fun L J st h Q a x => pf_pf pb_u_54 rfl rfl,
  fun L J h Q => pf_rv pb_u_54 rfl rfl⟩
theorem pb_c54 (x0 : Nat) (x1 : Int32) (x2 : Int32) (h : pb_H) (Q : Option Value → pb_H → Prop) : pb_call 54 [.ref x0, .int x1, .int x2] h Q ↔ pb_R 54 0 [some (.ref x0), some (.int x1), some (.int x2), none] [] [] h Q := Iff.rfl
/-! 55: PlaneBench$Line.without(I)V -/
theorem pb_u_55 : pb_t 55 = pb_t55 := rfl
theorem pb_ci_55 : pb_ci 55 = 4 := by decide +kernel
set_option maxRecDepth 100000 in
theorem pb_e55 : (∀ (l1 : Option Value) (st : List Value) (h : pb_H) (Q : Option Value → pb_H → Prop) (x : Nat), pb_R 55 0 [some (.ref x), l1] [] st h Q ↔ pb_R 55 1 [some (.ref x), l1] [] (.ref x :: st) h Q) ∧
  (∀ (l1 : Option Value) (st : List Value) (h : pb_H) (Q : Option Value → pb_H → Prop), pb_R 55 0 [some .null, l1] [] st h Q ↔ pb_R 55 1 [some .null, l1] [] (.null :: st) h Q) ∧
  (∀ (l0 : Option Value) (st : List Value) (h : pb_H) (Q : Option Value → pb_H → Prop) (x : Int32), pb_R 55 1 [l0, some (.int x)] [] st h Q ↔ pb_R 55 2 [l0, some (.int x)] [] (.int x :: st) h Q) ∧
  (∀ (L : pb_L) (J : pb_J) (h : pb_H) (Q : Option Value → pb_H → Prop) (x0 : Int32) (x1 : Nat), pb_R 55 2 L J [.int x0, .ref x1] h Q ↔ pb_is0 (h.2 x1) 4 = true ∧ pb_call 32 [.ref x1, .int x0] h (fun v t => pb_R 55 5 L J (v.toList ++ []) t Q)) ∧
  (∀ (L : pb_L) (J : pb_J) (st : List Value) (h : pb_H) (Q : Option Value → pb_H → Prop) (x : Int32), pb_R 55 5 L J (.int x :: st) h Q ↔ if x = 0 then pb_R 55 52 L J st h Q else pb_R 55 8 L J st h Q) ∧
  (∀ (l1 : Option Value) (st : List Value) (h : pb_H) (Q : Option Value → pb_H → Prop) (x : Nat), pb_R 55 8 [some (.ref x), l1] [] st h Q ↔ pb_R 55 9 [some (.ref x), l1] [] (.ref x :: st) h Q) ∧
  (∀ (l1 : Option Value) (st : List Value) (h : pb_H) (Q : Option Value → pb_H → Prop), pb_R 55 8 [some .null, l1] [] st h Q ↔ pb_R 55 9 [some .null, l1] [] (.null :: st) h Q) ∧
  (∀ (l1 : Option Value) (st : List Value) (h : pb_H) (Q : Option Value → pb_H → Prop) (x : Nat), pb_R 55 9 [some (.ref x), l1] [] st h Q ↔ pb_R 55 10 [some (.ref x), l1] [] (.ref x :: st) h Q) ∧
  (∀ (l1 : Option Value) (st : List Value) (h : pb_H) (Q : Option Value → pb_H → Prop), pb_R 55 9 [some .null, l1] [] st h Q ↔ pb_R 55 10 [some .null, l1] [] (.null :: st) h Q) ∧
  (∀ (L : pb_L) (J : pb_J) (st : List Value) (h : pb_H) (Q : Option Value → pb_H → Prop) (a : Nat), pb_R 55 10 L J (.ref a :: st) h Q ↔ pb_o (pb_gf (h.2 a) 4 1) (fun v => pb_R 55 13 L J (v :: st) h Q)) ∧
  (∀ (l0 : Option Value) (st : List Value) (h : pb_H) (Q : Option Value → pb_H → Prop) (x : Int32), pb_R 55 13 [l0, some (.int x)] [] st h Q ↔ pb_R 55 14 [l0, some (.int x)] [] (.int x :: st) h Q) ∧
  (∀ (L : pb_L) (J : pb_J) (st : List Value) (h : pb_H) (Q : Option Value → pb_H → Prop), pb_R 55 14 L J st h Q ↔ pb_R 55 16 L J (.int (8 : Int32) :: st) h Q) ∧
  (∀ (L : pb_L) (J : pb_J) (st : List Value) (x y : Int32) (h : pb_H) (Q : Option Value → pb_H → Prop), pb_R 55 16 L J (.int y :: .int x :: st) h Q ↔ pb_R 55 17 L J (.int (x * y) :: st) h Q) ∧
  (∀ (L : pb_L) (J : pb_J) (st : List Value) (h : pb_H) (Q : Option Value → pb_H → Prop), pb_R 55 17 L J st h Q ↔ pb_R 55 18 L J (.int (0 : Int32) :: st) h Q) ∧
  (∀ (l1 : Option Value) (st : List Value) (h : pb_H) (Q : Option Value → pb_H → Prop) (x : Nat), pb_R 55 18 [some (.ref x), l1] [] st h Q ↔ pb_R 55 19 [some (.ref x), l1] [] (.ref x :: st) h Q) ∧
  (∀ (l1 : Option Value) (st : List Value) (h : pb_H) (Q : Option Value → pb_H → Prop), pb_R 55 18 [some .null, l1] [] st h Q ↔ pb_R 55 19 [some .null, l1] [] (.null :: st) h Q) ∧
  (∀ (L : pb_L) (J : pb_J) (st : List Value) (h : pb_H) (Q : Option Value → pb_H → Prop) (a : Nat), pb_R 55 19 L J (.ref a :: st) h Q ↔ pb_o (pb_gf (h.2 a) 4 4) (fun v => pb_R 55 22 L J (v :: st) h Q)) ∧
  (∀ (L : pb_L) (J : pb_J) (h : pb_H) (Q : Option Value → pb_H → Prop) (x0 : Int32) (x1 : Int32) (x2 : Int32) (x3 : Nat) (x4 : Nat), pb_R 55 22 L J [.int x0, .int x1, .int x2, .ref x3, .ref x4] h Q ↔ pb_is0 (h.2 x4) 4 = true ∧ pb_call 53 [.ref x4, .ref x3, .int x2, .int x1, .int x0] h (fun v t => pb_R 55 25 L J (v.toList ++ []) t Q)) ∧
  (∀ (L : pb_L) (J : pb_J) (st : List Value) (x : Int32) (h : pb_H) (Q : Option Value → pb_H → Prop), pb_R 55 25 L J (.int x :: st) h Q ↔ pb_R 55 26 L J st h Q) ∧
  (∀ (l1 : Option Value) (st : List Value) (h : pb_H) (Q : Option Value → pb_H → Prop) (x : Nat), pb_R 55 26 [some (.ref x), l1] [] st h Q ↔ pb_R 55 27 [some (.ref x), l1] [] (.ref x :: st) h Q) ∧
  (∀ (l1 : Option Value) (st : List Value) (h : pb_H) (Q : Option Value → pb_H → Prop), pb_R 55 26 [some .null, l1] [] st h Q ↔ pb_R 55 27 [some .null, l1] [] (.null :: st) h Q) ∧
  (∀ (L : pb_L) (J : pb_J) (st : List Value) (h : pb_H) (Q : Option Value → pb_H → Prop) (a : Nat), pb_R 55 27 L J (.ref a :: st) h Q ↔ pb_o (pb_gf (h.2 a) 4 1) (fun v => pb_R 55 30 L J (v :: st) h Q)) ∧
  (∀ (l0 : Option Value) (st : List Value) (h : pb_H) (Q : Option Value → pb_H → Prop) (x : Int32), pb_R 55 30 [l0, some (.int x)] [] st h Q ↔ pb_R 55 31 [l0, some (.int x)] [] (.int x :: st) h Q) ∧
  (∀ (L : pb_L) (J : pb_J) (st : List Value) (h : pb_H) (Q : Option Value → pb_H → Prop), pb_R 55 31 L J st h Q ↔ pb_R 55 33 L J (.int (8 : Int32) :: st) h Q) ∧
  (∀ (L : pb_L) (J : pb_J) (st : List Value) (x y : Int32) (h : pb_H) (Q : Option Value → pb_H → Prop), pb_R 55 33 L J (.int y :: .int x :: st) h Q ↔ pb_R 55 34 L J (.int (x * y) :: st) h Q) ∧
  (∀ (L : pb_L) (J : pb_J) (st : List Value) (h : pb_H) (Q : Option Value → pb_H → Prop), pb_R 55 34 L J st h Q ↔ pb_R 55 35 L J (.int (0 : Int32) :: st) h Q) ∧
  (∀ (L : pb_L) (J : pb_J) (h : pb_H) (Q : Option Value → pb_H → Prop) (x0 : Int32) (x1 : Int32) (x2 : Nat), pb_R 55 35 L J [.int x0, .int x1, .ref x2] h Q ↔ pb_call 52 [.ref x2, .int x1, .int x0] h (fun v t => pb_R 55 38 L J (v.toList ++ []) t Q)) ∧
  (∀ (l1 : Option Value) (st : List Value) (h : pb_H) (Q : Option Value → pb_H → Prop) (x : Nat), pb_R 55 38 [some (.ref x), l1] [] st h Q ↔ pb_R 55 39 [some (.ref x), l1] [] (.ref x :: st) h Q) ∧
  (∀ (l1 : Option Value) (st : List Value) (h : pb_H) (Q : Option Value → pb_H → Prop), pb_R 55 38 [some .null, l1] [] st h Q ↔ pb_R 55 39 [some .null, l1] [] (.null :: st) h Q) ∧
  (∀ (l0 : Option Value) (st : List Value) (h : pb_H) (Q : Option Value → pb_H → Prop) (x : Int32), pb_R 55 39 [l0, some (.int x)] [] st h Q ↔ pb_R 55 40 [l0, some (.int x)] [] (.int x :: st) h Q) ∧
  (∀ (L : pb_L) (J : pb_J) (st : List Value) (h : pb_H) (Q : Option Value → pb_H → Prop), pb_R 55 40 L J st h Q ↔ pb_R 55 41 L J (.int (0 : Int32) :: st) h Q) ∧
  (∀ (L : pb_L) (J : pb_J) (h : pb_H) (Q : Option Value → pb_H → Prop) (x0 : Int32) (x1 : Int32) (x2 : Nat), pb_R 55 41 L J [.int x0, .int x1, .ref x2] h Q ↔ pb_is0 (h.2 x2) 4 = true ∧ pb_call 54 [.ref x2, .int x1, .int x0] h (fun v t => pb_R 55 44 L J (v.toList ++ []) t Q)) ∧
  (∀ (l1 : Option Value) (st : List Value) (h : pb_H) (Q : Option Value → pb_H → Prop) (x : Nat), pb_R 55 44 [some (.ref x), l1] [] st h Q ↔ pb_R 55 45 [some (.ref x), l1] [] (.ref x :: st) h Q) ∧
  (∀ (l1 : Option Value) (st : List Value) (h : pb_H) (Q : Option Value → pb_H → Prop), pb_R 55 44 [some .null, l1] [] st h Q ↔ pb_R 55 45 [some .null, l1] [] (.null :: st) h Q) ∧
  (∀ (l1 : Option Value) (st : List Value) (h : pb_H) (Q : Option Value → pb_H → Prop) (x : Nat), pb_R 55 45 [some (.ref x), l1] [] st h Q ↔ pb_R 55 46 [some (.ref x), l1] [] (.ref x :: st) h Q) ∧
  (∀ (l1 : Option Value) (st : List Value) (h : pb_H) (Q : Option Value → pb_H → Prop), pb_R 55 45 [some .null, l1] [] st h Q ↔ pb_R 55 46 [some .null, l1] [] (.null :: st) h Q) ∧
  (∀ (L : pb_L) (J : pb_J) (st : List Value) (h : pb_H) (Q : Option Value → pb_H → Prop) (a : Nat), pb_R 55 46 L J (.ref a :: st) h Q ↔ pb_o (pb_gf (h.2 a) 4 4) (fun v => pb_R 55 49 L J (v :: st) h Q)) ∧
  (∀ (L : pb_L) (J : pb_J) (h : pb_H) (Q : Option Value → pb_H → Prop) (x0 : Int32) (x1 : Nat), pb_R 55 49 L J [.int x0, .ref x1] h Q ↔ pb_is0 (h.2 x1) 4 = true ∧ pb_call 39 [.ref x1, .int x0] h (fun v t => pb_R 55 52 L J (v.toList ++ []) t Q)) ∧
  (∀ (L : pb_L) (J : pb_J) (h : pb_H) (Q : Option Value → pb_H → Prop), pb_R 55 52 L J [] h Q ↔ Q none h) := ⟨
  fun l1 st h Q x => pf_S pb_u_55 rfl rfl,
  fun l1 st h Q => pf_S pb_u_55 rfl rfl,
  fun l0 st h Q x => pf_S pb_u_55 rfl rfl,
  fun L J h Q x0 x1 => pf_kv pb_u_55 rfl pb_ci_32 rfl ⟨Nat.le_of_ble_eq_true rfl, Nat.le_of_ble_eq_true rfl, Nat.le_of_ble_eq_true rfl, Nat.le_of_ble_eq_true rfl, rfl⟩ rfl rfl,
  fun L J st h Q x => pf_ii pb_u_55 rfl rfl rfl,
  fun l1 st h Q x => pf_S pb_u_55 rfl rfl,
  fun l1 st h Q => pf_S pb_u_55 rfl rfl,
  fun l1 st h Q x => pf_S pb_u_55 rfl rfl,
  fun l1 st h Q => pf_S pb_u_55 rfl rfl,
  fun L J st h Q a => pf_gf pb_u_55 rfl rfl,
  fun l0 st h Q x => pf_S pb_u_55 rfl rfl,
  fun L J st h Q => pf_S pb_u_55 rfl rfl,
  fun L J st x y h Q => pf_S pb_u_55 rfl rfl,
  fun L J st h Q => pf_S pb_u_55 rfl rfl,
  fun l1 st h Q x => pf_S pb_u_55 rfl rfl,
  fun l1 st h Q => pf_S pb_u_55 rfl rfl,
  fun L J st h Q a => pf_gf pb_u_55 rfl rfl,
  fun L J h Q x0 x1 x2 x3 x4 => pf_kv pb_u_55 rfl pb_ci_53 rfl ⟨Nat.le_of_ble_eq_true rfl, Nat.le_of_ble_eq_true rfl, Nat.le_of_ble_eq_true rfl, Nat.le_of_ble_eq_true rfl, rfl⟩ rfl rfl,
  fun L J st x h Q => pf_S pb_u_55 rfl rfl,
  fun l1 st h Q x => pf_S pb_u_55 rfl rfl,
  fun l1 st h Q => pf_S pb_u_55 rfl rfl,
  fun L J st h Q a => pf_gf pb_u_55 rfl rfl,
  fun l0 st h Q x => pf_S pb_u_55 rfl rfl,
  fun L J st h Q => pf_S pb_u_55 rfl rfl,
  fun L J st x y h Q => pf_S pb_u_55 rfl rfl,
  fun L J st h Q => pf_S pb_u_55 rfl rfl,
  fun L J h Q x0 x1 x2 => pf_ks pb_u_55 rfl rfl rfl rfl,
  fun l1 st h Q x => pf_S pb_u_55 rfl rfl,
  fun l1 st h Q => pf_S pb_u_55 rfl rfl,
  fun l0 st h Q x => pf_S pb_u_55 rfl rfl,
  fun L J st h Q => pf_S pb_u_55 rfl rfl,
  fun L J h Q x0 x1 x2 => pf_kv pb_u_55 rfl pb_ci_54 rfl ⟨Nat.le_of_ble_eq_true rfl, Nat.le_of_ble_eq_true rfl, Nat.le_of_ble_eq_true rfl, Nat.le_of_ble_eq_true rfl, rfl⟩ rfl rfl,
  fun l1 st h Q x => pf_S pb_u_55 rfl rfl,
  fun l1 st h Q => pf_S pb_u_55 rfl rfl,
  fun l1 st h Q x => pf_S pb_u_55 rfl rfl,
  fun l1 st h Q => pf_S pb_u_55 rfl rfl,
  fun L J st h Q a => pf_gf pb_u_55 rfl rfl,
  fun L J h Q x0 x1 => pf_kv pb_u_55 rfl pb_ci_39 rfl ⟨Nat.le_of_ble_eq_true rfl, Nat.le_of_ble_eq_true rfl, Nat.le_of_ble_eq_true rfl, Nat.le_of_ble_eq_true rfl, rfl⟩ rfl rfl,
  fun L J h Q => pf_rv pb_u_55 rfl rfl⟩
theorem pb_c55 (x0 : Nat) (x1 : Int32) (h : pb_H) (Q : Option Value → pb_H → Prop) : pb_call 55 [.ref x0, .int x1] h Q ↔ pb_R 55 0 [some (.ref x0), some (.int x1)] [] [] h Q := Iff.rfl
/-! 56: PlaneBench$Checker.weakenUppermost(I)Z -/
theorem pb_u_56 : pb_t 56 = pb_t56 := rfl
theorem pb_ci_56 : pb_ci 56 = 1 := by decide +kernel
set_option maxRecDepth 100000 in
theorem pb_e56 : (∀ (l1 l2 : Option Value) (st : List Value) (h : pb_H) (Q : Option Value → pb_H → Prop) (x : Nat), pb_R 56 0 [some (.ref x), l1, l2] [] st h Q ↔ pb_R 56 1 [some (.ref x), l1, l2] [] (.ref x :: st) h Q) ∧
  (∀ (l1 l2 : Option Value) (st : List Value) (h : pb_H) (Q : Option Value → pb_H → Prop), pb_R 56 0 [some .null, l1, l2] [] st h Q ↔ pb_R 56 1 [some .null, l1, l2] [] (.null :: st) h Q) ∧
  (∀ (L : pb_L) (J : pb_J) (h : pb_H) (Q : Option Value → pb_H → Prop) (x0 : Nat), pb_R 56 1 L J [.ref x0] h Q ↔ pb_is0 (h.2 x0) 1 = true ∧ pb_call 28 [.ref x0] h (fun v t => pb_R 56 4 L J (v.toList ++ []) t Q)) ∧
  (∀ (l0 l1 l2 : Option Value) (st : List Value) (h : pb_H) (Q : Option Value → pb_H → Prop) (x : Nat), pb_R 56 4 [l0, l1, l2] [] (.ref x :: st) h Q ↔ pb_R 56 5 [l0, l1, some (.ref x)] [] st h Q) ∧
  (∀ (l0 l1 l2 : Option Value) (st : List Value) (h : pb_H) (Q : Option Value → pb_H → Prop), pb_R 56 4 [l0, l1, l2] [] (.null :: st) h Q ↔ pb_R 56 5 [l0, l1, some .null] [] st h Q) ∧
  (∀ (l0 l1 : Option Value) (st : List Value) (h : pb_H) (Q : Option Value → pb_H → Prop) (x : Nat), pb_R 56 5 [l0, l1, some (.ref x)] [] st h Q ↔ pb_R 56 6 [l0, l1, some (.ref x)] [] (.ref x :: st) h Q) ∧
  (∀ (l0 l1 : Option Value) (st : List Value) (h : pb_H) (Q : Option Value → pb_H → Prop), pb_R 56 5 [l0, l1, some .null] [] st h Q ↔ pb_R 56 6 [l0, l1, some .null] [] (.null :: st) h Q) ∧
  (∀ (L : pb_L) (J : pb_J) (st : List Value) (h : pb_H) (Q : Option Value → pb_H → Prop), pb_R 56 6 L J (.null :: st) h Q ↔ pb_R 56 9 L J st h Q) ∧
  (∀ (L : pb_L) (J : pb_J) (st : List Value) (h : pb_H) (Q : Option Value → pb_H → Prop) (x : Nat), pb_R 56 6 L J (.ref x :: st) h Q ↔ pb_R 56 18 L J st h Q) ∧
  (∀ (l1 l2 : Option Value) (st : List Value) (h : pb_H) (Q : Option Value → pb_H → Prop) (x : Nat), pb_R 56 9 [some (.ref x), l1, l2] [] st h Q ↔ pb_R 56 10 [some (.ref x), l1, l2] [] (.ref x :: st) h Q) ∧
  (∀ (l1 l2 : Option Value) (st : List Value) (h : pb_H) (Q : Option Value → pb_H → Prop), pb_R 56 9 [some .null, l1, l2] [] st h Q ↔ pb_R 56 10 [some .null, l1, l2] [] (.null :: st) h Q) ∧
  (∀ (L : pb_L) (J : pb_J) (st : List Value) (h : pb_H) (Q : Option Value → pb_H → Prop) (a : Nat), pb_R 56 10 L J (.ref a :: st) h Q ↔ pb_o (pb_gf (h.2 a) 1 0) (fun v => pb_R 56 13 L J (v :: st) h Q)) ∧
  (∀ (L : pb_L) (J : pb_J) (st : List Value) (h : pb_H) (Q : Option Value → pb_H → Prop), pb_R 56 13 L J st h Q ↔ pb_R 56 14 L J (.int (4 : Int32) :: st) h Q) ∧
  (∀ (L : pb_L) (J : pb_J) (h : pb_H) (Q : Option Value → pb_H → Prop) (x0 : Int32) (x1 : Nat), pb_R 56 14 L J [.int x0, .ref x1] h Q ↔ pb_is0 (h.2 x1) 8 = true ∧ pb_call 29 [.ref x1, .int x0] h (fun v t => pb_R 56 17 L J (v.toList ++ []) t Q)) ∧
  (∀ (L : pb_L) (J : pb_J) (h : pb_H) (Q : Option Value → pb_H → Prop) (x : Int32), pb_R 56 17 L J [.int x] h Q ↔ narrow .boolean (.int x) = .int x ∧ Q (some (.int x)) h) ∧
  (∀ (l0 l1 : Option Value) (st : List Value) (h : pb_H) (Q : Option Value → pb_H → Prop) (x : Nat), pb_R 56 18 [l0, l1, some (.ref x)] [] st h Q ↔ pb_R 56 19 [l0, l1, some (.ref x)] [] (.ref x :: st) h Q) ∧
  (∀ (l0 l1 : Option Value) (st : List Value) (h : pb_H) (Q : Option Value → pb_H → Prop), pb_R 56 18 [l0, l1, some .null] [] st h Q ↔ pb_R 56 19 [l0, l1, some .null] [] (.null :: st) h Q) ∧
  (∀ (l0 l2 : Option Value) (st : List Value) (h : pb_H) (Q : Option Value → pb_H → Prop) (x : Int32), pb_R 56 19 [l0, some (.int x), l2] [] st h Q ↔ pb_R 56 20 [l0, some (.int x), l2] [] (.int x :: st) h Q) ∧
  (∀ (L : pb_L) (J : pb_J) (h : pb_H) (Q : Option Value → pb_H → Prop) (x0 : Int32) (x1 : Nat), pb_R 56 20 L J [.int x0, .ref x1] h Q ↔ pb_is0 (h.2 x1) 4 = true ∧ pb_call 55 [.ref x1, .int x0] h (fun v t => pb_R 56 23 L J (v.toList ++ []) t Q)) ∧
  (∀ (l1 l2 : Option Value) (st : List Value) (h : pb_H) (Q : Option Value → pb_H → Prop) (x : Nat), pb_R 56 23 [some (.ref x), l1, l2] [] st h Q ↔ pb_R 56 24 [some (.ref x), l1, l2] [] (.ref x :: st) h Q) ∧
  (∀ (l1 l2 : Option Value) (st : List Value) (h : pb_H) (Q : Option Value → pb_H → Prop), pb_R 56 23 [some .null, l1, l2] [] st h Q ↔ pb_R 56 24 [some .null, l1, l2] [] (.null :: st) h Q) ∧
  (∀ (L : pb_L) (J : pb_J) (st : List Value) (h : pb_H) (Q : Option Value → pb_H → Prop) (a : Nat), pb_R 56 24 L J (.ref a :: st) h Q ↔ pb_o (pb_gf (h.2 a) 1 0) (fun v => pb_R 56 27 L J (v :: st) h Q)) ∧
  (∀ (L : pb_L) (J : pb_J) (h : pb_H) (Q : Option Value → pb_H → Prop) (x0 : Nat), pb_R 56 27 L J [.ref x0] h Q ↔ pb_is0 (h.2 x0) 8 = true ∧ pb_call 23 [.ref x0] h (fun v t => pb_R 56 30 L J (v.toList ++ []) t Q)) ∧
  (∀ (L : pb_L) (J : pb_J) (st : List Value) (h : pb_H) (Q : Option Value → pb_H → Prop), pb_R 56 30 L J st h Q ↔ pb_R 56 31 L J (.int (1 : Int32) :: st) h Q) ∧
  (∀ (L : pb_L) (J : pb_J) (h : pb_H) (Q : Option Value → pb_H → Prop) (x : Int32), pb_R 56 31 L J [.int x] h Q ↔ narrow .boolean (.int x) = .int x ∧ Q (some (.int x)) h) := ⟨
  fun l1 l2 st h Q x => pf_S pb_u_56 rfl rfl,
  fun l1 l2 st h Q => pf_S pb_u_56 rfl rfl,
  fun L J h Q x0 => pf_kv pb_u_56 rfl pb_ci_28 rfl ⟨Nat.le_of_ble_eq_true rfl, Nat.le_of_ble_eq_true rfl, Nat.le_of_ble_eq_true rfl, Nat.le_of_ble_eq_true rfl, rfl⟩ rfl rfl,
  fun l0 l1 l2 st h Q x => pf_S pb_u_56 rfl rfl,
  fun l0 l1 l2 st h Q => pf_S pb_u_56 rfl rfl,
  fun l0 l1 st h Q x => pf_S pb_u_56 rfl rfl,
  fun l0 l1 st h Q => pf_S pb_u_56 rfl rfl,
  fun L J st h Q => pf_S pb_u_56 rfl rfl,
  fun L J st h Q x => pf_S pb_u_56 rfl rfl,
  fun l1 l2 st h Q x => pf_S pb_u_56 rfl rfl,
  fun l1 l2 st h Q => pf_S pb_u_56 rfl rfl,
  fun L J st h Q a => pf_gf pb_u_56 rfl rfl,
  fun L J st h Q => pf_S pb_u_56 rfl rfl,
  fun L J h Q x0 x1 => pf_kv pb_u_56 rfl pb_ci_29 rfl ⟨Nat.le_of_ble_eq_true rfl, Nat.le_of_ble_eq_true rfl, Nat.le_of_ble_eq_true rfl, Nat.le_of_ble_eq_true rfl, rfl⟩ rfl rfl,
  fun L J h Q x => pf_rz pb_u_56 rfl rfl,
  fun l0 l1 st h Q x => pf_S pb_u_56 rfl rfl,
  fun l0 l1 st h Q => pf_S pb_u_56 rfl rfl,
  fun l0 l2 st h Q x => pf_S pb_u_56 rfl rfl,
  fun L J h Q x0 x1 => pf_kv pb_u_56 rfl pb_ci_55 rfl ⟨Nat.le_of_ble_eq_true rfl, Nat.le_of_ble_eq_true rfl, Nat.le_of_ble_eq_true rfl, Nat.le_of_ble_eq_true rfl, rfl⟩ rfl rfl,
  fun l1 l2 st h Q x => pf_S pb_u_56 rfl rfl,
  fun l1 l2 st h Q => pf_S pb_u_56 rfl rfl,
  fun L J st h Q a => pf_gf pb_u_56 rfl rfl,
  fun L J h Q x0 => pf_kv pb_u_56 rfl pb_ci_23 rfl ⟨Nat.le_of_ble_eq_true rfl, Nat.le_of_ble_eq_true rfl, Nat.le_of_ble_eq_true rfl, Nat.le_of_ble_eq_true rfl, rfl⟩ rfl rfl,
  fun L J st h Q => pf_S pb_u_56 rfl rfl,
  fun L J h Q x => pf_rz pb_u_56 rfl rfl⟩
theorem pb_c56 (x0 : Nat) (x1 : Int32) (h : pb_H) (Q : Option Value → pb_H → Prop) : pb_call 56 [.ref x0, .int x1] h Q ↔ pb_R 56 0 [some (.ref x0), some (.int x1), none] [] [] h Q := Iff.rfl
/-! 57: PlaneBench$Line.setLiteral(II)V -/
theorem pb_u_57 : pb_t 57 = pb_t57 := rfl
theorem pb_ci_57 : pb_ci 57 = 4 := by decide +kernel
set_option maxRecDepth 100000 in
theorem pb_e57 : (∀ (l1 l2 : Option Value) (st : List Value) (h : pb_H) (Q : Option Value → pb_H → Prop) (x : Nat), pb_R 57 0 [some (.ref x), l1, l2] [] st h Q ↔ pb_R 57 1 [some (.ref x), l1, l2] [] (.ref x :: st) h Q) ∧
  (∀ (l1 l2 : Option Value) (st : List Value) (h : pb_H) (Q : Option Value → pb_H → Prop), pb_R 57 0 [some .null, l1, l2] [] st h Q ↔ pb_R 57 1 [some .null, l1, l2] [] (.null :: st) h Q) ∧
  (∀ (L : pb_L) (J : pb_J) (st : List Value) (h : pb_H) (Q : Option Value → pb_H → Prop) (a : Nat), pb_R 57 1 L J (.ref a :: st) h Q ↔ pb_o (pb_gf (h.2 a) 4 1) (fun v => pb_R 57 4 L J (v :: st) h Q)) ∧
  (∀ (L : pb_L) (J : pb_J) (st : List Value) (h : pb_H) (Q : Option Value → pb_H → Prop), pb_R 57 4 L J st h Q ↔ pb_R 57 5 L J (.int (0 : Int32) :: st) h Q) ∧
  (∀ (L : pb_L) (J : pb_J) (h : pb_H) (Q : Option Value → pb_H → Prop) (x0 : Int32) (x1 : Nat), pb_R 57 5 L J [.int x0, .ref x1] h Q ↔ pb_call 24 [.ref x1, .int x0] h (fun v t => pb_R 57 8 L J (v.toList ++ []) t Q)) ∧
  (∀ (l1 l2 : Option Value) (st : List Value) (h : pb_H) (Q : Option Value → pb_H → Prop) (x : Nat), pb_R 57 8 [some (.ref x), l1, l2] [] st h Q ↔ pb_R 57 9 [some (.ref x), l1, l2] [] (.ref x :: st) h Q) ∧
  (∀ (l1 l2 : Option Value) (st : List Value) (h : pb_H) (Q : Option Value → pb_H → Prop), pb_R 57 8 [some .null, l1, l2] [] st h Q ↔ pb_R 57 9 [some .null, l1, l2] [] (.null :: st) h Q) ∧
  (∀ (L : pb_L) (J : pb_J) (st : List Value) (h : pb_H) (Q : Option Value → pb_H → Prop), pb_R 57 9 L J st h Q ↔ pb_R 57 10 L J (.int (0 : Int32) :: st) h Q) ∧
  (∀ (L : pb_L) (J : pb_J) (st : List Value) (h : pb_H) (Q : Option Value → pb_H → Prop) (a : Nat) (x : Int32), pb_R 57 10 L J (.int x :: .ref a :: st) h Q ↔ pb_o (pb_pf (h.2 a) 4 2 (.int x)) (fun c => pb_R 57 13 L J st (pb_set h a c) Q)) ∧
  (∀ (l1 l2 : Option Value) (st : List Value) (h : pb_H) (Q : Option Value → pb_H → Prop) (x : Nat), pb_R 57 13 [some (.ref x), l1, l2] [] st h Q ↔ pb_R 57 14 [some (.ref x), l1, l2] [] (.ref x :: st) h Q) ∧
  (∀ (l1 l2 : Option Value) (st : List Value) (h : pb_H) (Q : Option Value → pb_H → Prop), pb_R 57 13 [some .null, l1, l2] [] st h Q ↔ pb_R 57 14 [some .null, l1, l2] [] (.null :: st) h Q) ∧
  (∀ (L : pb_L) (J : pb_J) (st : List Value) (h : pb_H) (Q : Option Value → pb_H → Prop), pb_R 57 14 L J st h Q ↔ pb_R 57 15 L J (.int (0 : Int32) :: st) h Q) ∧
  (∀ (L : pb_L) (J : pb_J) (st : List Value) (h : pb_H) (Q : Option Value → pb_H → Prop) (a : Nat) (x : Int32), pb_R 57 15 L J (.int x :: .ref a :: st) h Q ↔ pb_o (pb_pf (h.2 a) 4 3 (.int x)) (fun c => pb_R 57 18 L J st (pb_set h a c) Q)) ∧
  (∀ (l1 l2 : Option Value) (st : List Value) (h : pb_H) (Q : Option Value → pb_H → Prop) (x : Nat), pb_R 57 18 [some (.ref x), l1, l2] [] st h Q ↔ pb_R 57 19 [some (.ref x), l1, l2] [] (.ref x :: st) h Q) ∧
  (∀ (l1 l2 : Option Value) (st : List Value) (h : pb_H) (Q : Option Value → pb_H → Prop), pb_R 57 18 [some .null, l1, l2] [] st h Q ↔ pb_R 57 19 [some .null, l1, l2] [] (.null :: st) h Q) ∧
  (∀ (L : pb_L) (J : pb_J) (st : List Value) (h : pb_H) (Q : Option Value → pb_H → Prop) (a : Nat), pb_R 57 19 L J (.ref a :: st) h Q ↔ pb_o (pb_gf (h.2 a) 4 1) (fun v => pb_R 57 22 L J (v :: st) h Q)) ∧
  (∀ (l0 l2 : Option Value) (st : List Value) (h : pb_H) (Q : Option Value → pb_H → Prop) (x : Int32), pb_R 57 22 [l0, some (.int x), l2] [] st h Q ↔ pb_R 57 23 [l0, some (.int x), l2] [] (.int x :: st) h Q) ∧
  (∀ (L : pb_L) (J : pb_J) (st : List Value) (h : pb_H) (Q : Option Value → pb_H → Prop), pb_R 57 23 L J st h Q ↔ pb_R 57 25 L J (.int (8 : Int32) :: st) h Q) ∧
  (∀ (L : pb_L) (J : pb_J) (st : List Value) (x y : Int32) (h : pb_H) (Q : Option Value → pb_H → Prop), pb_R 57 25 L J (.int y :: .int x :: st) h Q ↔ pb_R 57 26 L J (.int (x * y) :: st) h Q) ∧
  (∀ (L : pb_L) (J : pb_J) (st : List Value) (h : pb_H) (Q : Option Value → pb_H → Prop), pb_R 57 26 L J st h Q ↔ pb_R 57 27 L J (.int (1 : Int32) :: st) h Q) ∧
  (∀ (L : pb_L) (J : pb_J) (st : List Value) (h : pb_H) (Q : Option Value → pb_H → Prop) (a : Nat) (i x : Int32), pb_R 57 27 L J (.int x :: .int i :: .ref a :: st) h Q ↔ pb_o (pb_si (h.2 a) i x) (fun c => pb_R 57 28 L J st (pb_set h a c) Q)) ∧
  (∀ (l1 l2 : Option Value) (st : List Value) (h : pb_H) (Q : Option Value → pb_H → Prop) (x : Nat), pb_R 57 28 [some (.ref x), l1, l2] [] st h Q ↔ pb_R 57 29 [some (.ref x), l1, l2] [] (.ref x :: st) h Q) ∧
  (∀ (l1 l2 : Option Value) (st : List Value) (h : pb_H) (Q : Option Value → pb_H → Prop), pb_R 57 28 [some .null, l1, l2] [] st h Q ↔ pb_R 57 29 [some .null, l1, l2] [] (.null :: st) h Q) ∧
  (∀ (l0 l2 : Option Value) (st : List Value) (h : pb_H) (Q : Option Value → pb_H → Prop) (x : Int32), pb_R 57 29 [l0, some (.int x), l2] [] st h Q ↔ pb_R 57 30 [l0, some (.int x), l2] [] (.int x :: st) h Q) ∧
  (∀ (l0 l1 : Option Value) (st : List Value) (h : pb_H) (Q : Option Value → pb_H → Prop) (x : Int32), pb_R 57 30 [l0, l1, some (.int x)] [] st h Q ↔ pb_R 57 31 [l0, l1, some (.int x)] [] (.int x :: st) h Q) ∧
  (∀ (L : pb_L) (J : pb_J) (h : pb_H) (Q : Option Value → pb_H → Prop) (x0 : Int32) (x1 : Int32) (x2 : Nat), pb_R 57 31 L J [.int x0, .int x1, .ref x2] h Q ↔ pb_is0 (h.2 x2) 4 = true ∧ pb_call 54 [.ref x2, .int x1, .int x0] h (fun v t => pb_R 57 34 L J (v.toList ++ []) t Q)) ∧
  (∀ (l1 l2 : Option Value) (st : List Value) (h : pb_H) (Q : Option Value → pb_H → Prop) (x : Nat), pb_R 57 34 [some (.ref x), l1, l2] [] st h Q ↔ pb_R 57 35 [some (.ref x), l1, l2] [] (.ref x :: st) h Q) ∧
  (∀ (l1 l2 : Option Value) (st : List Value) (h : pb_H) (Q : Option Value → pb_H → Prop), pb_R 57 34 [some .null, l1, l2] [] st h Q ↔ pb_R 57 35 [some .null, l1, l2] [] (.null :: st) h Q) ∧
  (∀ (L : pb_L) (J : pb_J) (st : List Value) (h : pb_H) (Q : Option Value → pb_H → Prop), pb_R 57 35 L J st h Q ↔ pb_R 57 36 L J (.int (1 : Int32) :: st) h Q) ∧
  (∀ (L : pb_L) (J : pb_J) (h : pb_H) (Q : Option Value → pb_H → Prop) (x0 : Int32) (x1 : Nat), pb_R 57 36 L J [.int x0, .ref x1] h Q ↔ pb_is0 (h.2 x1) 4 = true ∧ pb_call 39 [.ref x1, .int x0] h (fun v t => pb_R 57 39 L J (v.toList ++ []) t Q)) ∧
  (∀ (L : pb_L) (J : pb_J) (h : pb_H) (Q : Option Value → pb_H → Prop), pb_R 57 39 L J [] h Q ↔ Q none h) := ⟨
  fun l1 l2 st h Q x => pf_S pb_u_57 rfl rfl,
  fun l1 l2 st h Q => pf_S pb_u_57 rfl rfl,
  fun L J st h Q a => pf_gf pb_u_57 rfl rfl,
  fun L J st h Q => pf_S pb_u_57 rfl rfl,
  fun L J h Q x0 x1 => pf_ks pb_u_57 rfl rfl rfl rfl,
  fun l1 l2 st h Q x => pf_S pb_u_57 rfl rfl,
  fun l1 l2 st h Q => pf_S pb_u_57 rfl rfl,
  fun L J st h Q => pf_S pb_u_57 rfl rfl,
  fun L J st h Q a x => pf_pf pb_u_57 rfl rfl,
  fun l1 l2 st h Q x => pf_S pb_u_57 rfl rfl,
  fun l1 l2 st h Q => pf_S pb_u_57 rfl rfl,
  fun L J st h Q => pf_S pb_u_57 rfl rfl,
  fun L J st h Q a x => pf_pf pb_u_57 rfl rfl,
  fun l1 l2 st h Q x => pf_S pb_u_57 rfl rfl,
  fun l1 l2 st h Q => pf_S pb_u_57 rfl rfl,
  fun L J st h Q a => pf_gf pb_u_57 rfl rfl,
  fun l0 l2 st h Q x => pf_S pb_u_57 rfl rfl,
  fun L J st h Q => pf_S pb_u_57 rfl rfl,
  fun L J st x y h Q => pf_S pb_u_57 rfl rfl,
  fun L J st h Q => pf_S pb_u_57 rfl rfl,
  fun L J st h Q a i x => pf_si pb_u_57 rfl rfl,
  fun l1 l2 st h Q x => pf_S pb_u_57 rfl rfl,
  fun l1 l2 st h Q => pf_S pb_u_57 rfl rfl,
  fun l0 l2 st h Q x => pf_S pb_u_57 rfl rfl,
  fun l0 l1 st h Q x => pf_S pb_u_57 rfl rfl,
  fun L J h Q x0 x1 x2 => pf_kv pb_u_57 rfl pb_ci_54 rfl ⟨Nat.le_of_ble_eq_true rfl, Nat.le_of_ble_eq_true rfl, Nat.le_of_ble_eq_true rfl, Nat.le_of_ble_eq_true rfl, rfl⟩ rfl rfl,
  fun l1 l2 st h Q x => pf_S pb_u_57 rfl rfl,
  fun l1 l2 st h Q => pf_S pb_u_57 rfl rfl,
  fun L J st h Q => pf_S pb_u_57 rfl rfl,
  fun L J h Q x0 x1 => pf_kv pb_u_57 rfl pb_ci_39 rfl ⟨Nat.le_of_ble_eq_true rfl, Nat.le_of_ble_eq_true rfl, Nat.le_of_ble_eq_true rfl, Nat.le_of_ble_eq_true rfl, rfl⟩ rfl rfl,
  fun L J h Q => pf_rv pb_u_57 rfl rfl⟩
theorem pb_c57 (x0 : Nat) (x1 : Int32) (x2 : Int32) (h : pb_H) (Q : Option Value → pb_H → Prop) : pb_call 57 [.ref x0, .int x1, .int x2] h Q ↔ pb_R 57 0 [some (.ref x0), some (.int x1), some (.int x2)] [] [] h Q := Iff.rfl
/-! 58: PlaneBench$Checker.takeLiteral()Z -/
theorem pb_u_58 : pb_t 58 = pb_t58 := rfl
theorem pb_ci_58 : pb_ci 58 = 1 := by decide +kernel
set_option maxRecDepth 100000 in
theorem pb_e58 : (∀ (l1 l2 l3 l4 : Option Value) (st : List Value) (h : pb_H) (Q : Option Value → pb_H → Prop) (x : Nat), pb_R 58 0 [some (.ref x), l1, l2, l3, l4] [] st h Q ↔ pb_R 58 1 [some (.ref x), l1, l2, l3, l4] [] (.ref x :: st) h Q) ∧
  (∀ (l1 l2 l3 l4 : Option Value) (st : List Value) (h : pb_H) (Q : Option Value → pb_H → Prop), pb_R 58 0 [some .null, l1, l2, l3, l4] [] st h Q ↔ pb_R 58 1 [some .null, l1, l2, l3, l4] [] (.null :: st) h Q) ∧
  (∀ (L : pb_L) (J : pb_J) (st : List Value) (h : pb_H) (Q : Option Value → pb_H → Prop) (a : Nat), pb_R 58 1 L J (.ref a :: st) h Q ↔ pb_o (pb_gf (h.2 a) 1 0) (fun v => pb_R 58 4 L J (v :: st) h Q)) ∧
  (∀ (L : pb_L) (J : pb_J) (st : List Value) (h : pb_H) (Q : Option Value → pb_H → Prop) (a : Nat), pb_R 58 4 L J (.ref a :: st) h Q ↔ pb_o (pb_gf (h.2 a) 8 3) (fun v => pb_R 58 7 L J (v :: st) h Q)) ∧
  (∀ (l0 l1 l2 l3 l4 : Option Value) (st : List Value) (h : pb_H) (Q : Option Value → pb_H → Prop) (x : Int32), pb_R 58 7 [l0, l1, l2, l3, l4] [] (.int x :: st) h Q ↔ pb_R 58 8 [l0, some (.int x), l2, l3, l4] [] st h Q) ∧
  (∀ (l1 l2 l3 l4 : Option Value) (st : List Value) (h : pb_H) (Q : Option Value → pb_H → Prop) (x : Nat), pb_R 58 8 [some (.ref x), l1, l2, l3, l4] [] st h Q ↔ pb_R 58 9 [some (.ref x), l1, l2, l3, l4] [] (.ref x :: st) h Q) ∧
  (∀ (l1 l2 l3 l4 : Option Value) (st : List Value) (h : pb_H) (Q : Option Value → pb_H → Prop), pb_R 58 8 [some .null, l1, l2, l3, l4] [] st h Q ↔ pb_R 58 9 [some .null, l1, l2, l3, l4] [] (.null :: st) h Q) ∧
  (∀ (L : pb_L) (J : pb_J) (st : List Value) (h : pb_H) (Q : Option Value → pb_H → Prop) (a : Nat), pb_R 58 9 L J (.ref a :: st) h Q ↔ pb_o (pb_gf (h.2 a) 1 0) (fun v => pb_R 58 12 L J (v :: st) h Q)) ∧
  (∀ (L : pb_L) (J : pb_J) (st : List Value) (h : pb_H) (Q : Option Value → pb_H → Prop) (a : Nat), pb_R 58 12 L J (.ref a :: st) h Q ↔ pb_o (pb_gf (h.2 a) 8 5) (fun v => pb_R 58 15 L J (v :: st) h Q)) ∧
  (∀ (l0 l1 l2 l3 l4 : Option Value) (st : List Value) (h : pb_H) (Q : Option Value → pb_H → Prop) (x : Int32), pb_R 58 15 [l0, l1, l2, l3, l4] [] (.int x :: st) h Q ↔ pb_R 58 16 [l0, l1, some (.int x), l3, l4] [] st h Q) ∧
  (∀ (l1 l2 l3 l4 : Option Value) (st : List Value) (h : pb_H) (Q : Option Value → pb_H → Prop) (x : Nat), pb_R 58 16 [some (.ref x), l1, l2, l3, l4] [] st h Q ↔ pb_R 58 17 [some (.ref x), l1, l2, l3, l4] [] (.ref x :: st) h Q) ∧
  (∀ (l1 l2 l3 l4 : Option Value) (st : List Value) (h : pb_H) (Q : Option Value → pb_H → Prop), pb_R 58 16 [some .null, l1, l2, l3, l4] [] st h Q ↔ pb_R 58 17 [some .null, l1, l2, l3, l4] [] (.null :: st) h Q) ∧
  (∀ (L : pb_L) (J : pb_J) (st : List Value) (h : pb_H) (Q : Option Value → pb_H → Prop) (a : Nat), pb_R 58 17 L J (.ref a :: st) h Q ↔ pb_o (pb_gf (h.2 a) 1 0) (fun v => pb_R 58 20 L J (v :: st) h Q)) ∧
  (∀ (L : pb_L) (J : pb_J) (st : List Value) (h : pb_H) (Q : Option Value → pb_H → Prop) (a : Nat), pb_R 58 20 L J (.ref a :: st) h Q ↔ pb_o (pb_gf (h.2 a) 8 6) (fun v => pb_R 58 23 L J (v :: st) h Q)) ∧
  (∀ (l0 l1 l2 l3 l4 : Option Value) (st : List Value) (h : pb_H) (Q : Option Value → pb_H → Prop) (x : Int32), pb_R 58 23 [l0, l1, l2, l3, l4] [] (.int x :: st) h Q ↔ pb_R 58 24 [l0, l1, l2, some (.int x), l4] [] st h Q) ∧
  (∀ (l1 l2 l3 l4 : Option Value) (st : List Value) (h : pb_H) (Q : Option Value → pb_H → Prop) (x : Nat), pb_R 58 24 [some (.ref x), l1, l2, l3, l4] [] st h Q ↔ pb_R 58 25 [some (.ref x), l1, l2, l3, l4] [] (.ref x :: st) h Q) ∧
  (∀ (l1 l2 l3 l4 : Option Value) (st : List Value) (h : pb_H) (Q : Option Value → pb_H → Prop), pb_R 58 24 [some .null, l1, l2, l3, l4] [] st h Q ↔ pb_R 58 25 [some .null, l1, l2, l3, l4] [] (.null :: st) h Q) ∧
  (∀ (L : pb_L) (J : pb_J) (st : List Value) (h : pb_H) (Q : Option Value → pb_H → Prop) (a : Nat), pb_R 58 25 L J (.ref a :: st) h Q ↔ pb_o (pb_gf (h.2 a) 1 0) (fun v => pb_R 58 28 L J (v :: st) h Q)) ∧
  (∀ (l1 l2 l3 l4 : Option Value) (st : List Value) (h : pb_H) (Q : Option Value → pb_H → Prop) (x : Nat), pb_R 58 28 [some (.ref x), l1, l2, l3, l4] [] st h Q ↔ pb_R 58 29 [some (.ref x), l1, l2, l3, l4] [] (.ref x :: st) h Q) ∧
  (∀ (l1 l2 l3 l4 : Option Value) (st : List Value) (h : pb_H) (Q : Option Value → pb_H → Prop), pb_R 58 28 [some .null, l1, l2, l3, l4] [] st h Q ↔ pb_R 58 29 [some .null, l1, l2, l3, l4] [] (.null :: st) h Q) ∧
  (∀ (L : pb_L) (J : pb_J) (st : List Value) (h : pb_H) (Q : Option Value → pb_H → Prop) (a : Nat), pb_R 58 29 L J (.ref a :: st) h Q ↔ pb_o (pb_gf (h.2 a) 1 2) (fun v => pb_R 58 32 L J (v :: st) h Q)) ∧
  (∀ (L : pb_L) (J : pb_J) (st : List Value) (h : pb_H) (Q : Option Value → pb_H → Prop) (a : Nat), pb_R 58 32 L J (.ref a :: st) h Q ↔ pb_o (pb_gf (h.2 a) 7 0) (fun v => pb_R 58 35 L J (v :: st) h Q)) ∧
  (∀ (L : pb_L) (J : pb_J) (h : pb_H) (Q : Option Value → pb_H → Prop) (x0 : Int32) (x1 : Nat), pb_R 58 35 L J [.int x0, .ref x1] h Q ↔ pb_is0 (h.2 x1) 8 = true ∧ pb_call 50 [.ref x1, .int x0] h (fun v t => pb_R 58 38 L J (v.toList ++ []) t Q)) ∧
  (∀ (L : pb_L) (J : pb_J) (st : List Value) (h : pb_H) (Q : Option Value → pb_H → Prop) (x : Int32), pb_R 58 38 L J (.int x :: st) h Q ↔ if ¬ x = 0 then pb_R 58 50 L J st h Q else pb_R 58 41 L J st h Q) ∧
  (∀ (l1 l2 l3 l4 : Option Value) (st : List Value) (h : pb_H) (Q : Option Value → pb_H → Prop) (x : Nat), pb_R 58 41 [some (.ref x), l1, l2, l3, l4] [] st h Q ↔ pb_R 58 42 [some (.ref x), l1, l2, l3, l4] [] (.ref x :: st) h Q) ∧
  (∀ (l1 l2 l3 l4 : Option Value) (st : List Value) (h : pb_H) (Q : Option Value → pb_H → Prop), pb_R 58 41 [some .null, l1, l2, l3, l4] [] st h Q ↔ pb_R 58 42 [some .null, l1, l2, l3, l4] [] (.null :: st) h Q) ∧
  (∀ (L : pb_L) (J : pb_J) (st : List Value) (h : pb_H) (Q : Option Value → pb_H → Prop) (a : Nat), pb_R 58 42 L J (.ref a :: st) h Q ↔ pb_o (pb_gf (h.2 a) 1 0) (fun v => pb_R 58 45 L J (v :: st) h Q)) ∧
  (∀ (L : pb_L) (J : pb_J) (st : List Value) (h : pb_H) (Q : Option Value → pb_H → Prop), pb_R 58 45 L J st h Q ↔ pb_R 58 46 L J (.int (2 : Int32) :: st) h Q) ∧
  (∀ (L : pb_L) (J : pb_J) (h : pb_H) (Q : Option Value → pb_H → Prop) (x0 : Int32) (x1 : Nat), pb_R 58 46 L J [.int x0, .ref x1] h Q ↔ pb_is0 (h.2 x1) 8 = true ∧ pb_call 29 [.ref x1, .int x0] h (fun v t => pb_R 58 49 L J (v.toList ++ []) t Q)) ∧
  (∀ (L : pb_L) (J : pb_J) (h : pb_H) (Q : Option Value → pb_H → Prop) (x : Int32), pb_R 58 49 L J [.int x] h Q ↔ narrow .boolean (.int x) = .int x ∧ Q (some (.int x)) h) ∧
  (∀ (l1 l2 l3 l4 : Option Value) (st : List Value) (h : pb_H) (Q : Option Value → pb_H → Prop) (x : Nat), pb_R 58 50 [some (.ref x), l1, l2, l3, l4] [] st h Q ↔ pb_R 58 51 [some (.ref x), l1, l2, l3, l4] [] (.ref x :: st) h Q) ∧
  (∀ (l1 l2 l3 l4 : Option Value) (st : List Value) (h : pb_H) (Q : Option Value → pb_H → Prop), pb_R 58 50 [some .null, l1, l2, l3, l4] [] st h Q ↔ pb_R 58 51 [some .null, l1, l2, l3, l4] [] (.null :: st) h Q) ∧
  (∀ (L : pb_L) (J : pb_J) (st : List Value) (h : pb_H) (Q : Option Value → pb_H → Prop) (a : Nat), pb_R 58 51 L J (.ref a :: st) h Q ↔ pb_o (pb_gf (h.2 a) 1 0) (fun v => pb_R 58 54 L J (v :: st) h Q)) ∧
  (∀ (L : pb_L) (J : pb_J) (h : pb_H) (Q : Option Value → pb_H → Prop) (x0 : Nat), pb_R 58 54 L J [.ref x0] h Q ↔ pb_is0 (h.2 x0) 8 = true ∧ pb_call 23 [.ref x0] h (fun v t => pb_R 58 57 L J (v.toList ++ []) t Q)) ∧
  (∀ (l1 l2 l3 l4 : Option Value) (st : List Value) (h : pb_H) (Q : Option Value → pb_H → Prop) (x : Nat), pb_R 58 57 [some (.ref x), l1, l2, l3, l4] [] st h Q ↔ pb_R 58 58 [some (.ref x), l1, l2, l3, l4] [] (.ref x :: st) h Q) ∧
  (∀ (l1 l2 l3 l4 : Option Value) (st : List Value) (h : pb_H) (Q : Option Value → pb_H → Prop), pb_R 58 57 [some .null, l1, l2, l3, l4] [] st h Q ↔ pb_R 58 58 [some .null, l1, l2, l3, l4] [] (.null :: st) h Q) ∧
  (∀ (L : pb_L) (J : pb_J) (st : List Value) (h : pb_H) (Q : Option Value → pb_H → Prop) (a : Nat), pb_R 58 58 L J (.ref a :: st) h Q ↔ pb_o (pb_gf (h.2 a) 1 0) (fun v => pb_R 58 61 L J (v :: st) h Q)) ∧
  (∀ (L : pb_L) (J : pb_J) (st : List Value) (h : pb_H) (Q : Option Value → pb_H → Prop) (a : Nat), pb_R 58 61 L J (.ref a :: st) h Q ↔ pb_o (pb_gf (h.2 a) 8 2) (fun v => pb_R 58 64 L J (v :: st) h Q)) ∧
  (∀ (L : pb_L) (J : pb_J) (st : List Value) (h : pb_H) (Q : Option Value → pb_H → Prop), pb_R 58 64 L J st h Q ↔ pb_R 58 66 L J (.int (119 : Int32) :: st) h Q) ∧
  (∀ (L : pb_L) (J : pb_J) (st : List Value) (h : pb_H) (Q : Option Value → pb_H → Prop) (x y : Int32), pb_R 58 66 L J (.int y :: .int x :: st) h Q ↔ if ¬ x = y then pb_R 58 75 L J st h Q else pb_R 58 69 L J st h Q) ∧
  (∀ (l1 l2 l3 l4 : Option Value) (st : List Value) (h : pb_H) (Q : Option Value → pb_H → Prop) (x : Nat), pb_R 58 69 [some (.ref x), l1, l2, l3, l4] [] st h Q ↔ pb_R 58 70 [some (.ref x), l1, l2, l3, l4] [] (.ref x :: st) h Q) ∧
  (∀ (l1 l2 l3 l4 : Option Value) (st : List Value) (h : pb_H) (Q : Option Value → pb_H → Prop), pb_R 58 69 [some .null, l1, l2, l3, l4] [] st h Q ↔ pb_R 58 70 [some .null, l1, l2, l3, l4] [] (.null :: st) h Q) ∧
  (∀ (l0 l1 l3 l4 : Option Value) (st : List Value) (h : pb_H) (Q : Option Value → pb_H → Prop) (x : Int32), pb_R 58 70 [l0, l1, some (.int x), l3, l4] [] st h Q ↔ pb_R 58 71 [l0, l1, some (.int x), l3, l4] [] (.int x :: st) h Q) ∧
  (∀ (L : pb_L) (J : pb_J) (h : pb_H) (Q : Option Value → pb_H → Prop) (x0 : Int32) (x1 : Nat), pb_R 58 71 L J [.int x0, .ref x1] h Q ↔ pb_is0 (h.2 x1) 1 = true ∧ pb_call 56 [.ref x1, .int x0] h (fun v t => pb_R 58 74 L J (v.toList ++ []) t Q)) ∧
  (∀ (L : pb_L) (J : pb_J) (h : pb_H) (Q : Option Value → pb_H → Prop) (x : Int32), pb_R 58 74 L J [.int x] h Q ↔ narrow .boolean (.int x) = .int x ∧ Q (some (.int x)) h) ∧
  (∀ (l1 l2 l3 l4 : Option Value) (st : List Value) (h : pb_H) (Q : Option Value → pb_H → Prop) (x : Nat), pb_R 58 75 [some (.ref x), l1, l2, l3, l4] [] st h Q ↔ pb_R 58 76 [some (.ref x), l1, l2, l3, l4] [] (.ref x :: st) h Q) ∧
  (∀ (l1 l2 l3 l4 : Option Value) (st : List Value) (h : pb_H) (Q : Option Value → pb_H → Prop), pb_R 58 75 [some .null, l1, l2, l3, l4] [] st h Q ↔ pb_R 58 76 [some .null, l1, l2, l3, l4] [] (.null :: st) h Q) ∧
  (∀ (L : pb_L) (J : pb_J) (h : pb_H) (Q : Option Value → pb_H → Prop) (x0 : Nat), pb_R 58 76 L J [.ref x0] h Q ↔ pb_is0 (h.2 x0) 1 = true ∧ pb_call 47 [.ref x0] h (fun v t => pb_R 58 79 L J (v.toList ++ []) t Q)) ∧
  (∀ (l0 l1 l2 l3 l4 : Option Value) (st : List Value) (h : pb_H) (Q : Option Value → pb_H → Prop) (x : Nat), pb_R 58 79 [l0, l1, l2, l3, l4] [] (.ref x :: st) h Q ↔ pb_R 58 81 [l0, l1, l2, l3, some (.ref x)] [] st h Q) ∧
  (∀ (l0 l1 l2 l3 l4 : Option Value) (st : List Value) (h : pb_H) (Q : Option Value → pb_H → Prop), pb_R 58 79 [l0, l1, l2, l3, l4] [] (.null :: st) h Q ↔ pb_R 58 81 [l0, l1, l2, l3, some .null] [] st h Q) ∧
  (∀ (l0 l1 l2 l3 : Option Value) (st : List Value) (h : pb_H) (Q : Option Value → pb_H → Prop) (x : Nat), pb_R 58 81 [l0, l1, l2, l3, some (.ref x)] [] st h Q ↔ pb_R 58 83 [l0, l1, l2, l3, some (.ref x)] [] (.ref x :: st) h Q) ∧
  (∀ (l0 l1 l2 l3 : Option Value) (st : List Value) (h : pb_H) (Q : Option Value → pb_H → Prop), pb_R 58 81 [l0, l1, l2, l3, some .null] [] st h Q ↔ pb_R 58 83 [l0, l1, l2, l3, some .null] [] (.null :: st) h Q) ∧
  (∀ (L : pb_L) (J : pb_J) (st : List Value) (h : pb_H) (Q : Option Value → pb_H → Prop), pb_R 58 83 L J (.null :: st) h Q ↔ pb_R 58 86 L J st h Q) ∧
  (∀ (L : pb_L) (J : pb_J) (st : List Value) (h : pb_H) (Q : Option Value → pb_H → Prop) (x : Nat), pb_R 58 83 L J (.ref x :: st) h Q ↔ pb_R 58 96 L J st h Q) ∧
  (∀ (l1 l2 l3 l4 : Option Value) (st : List Value) (h : pb_H) (Q : Option Value → pb_H → Prop) (x : Nat), pb_R 58 86 [some (.ref x), l1, l2, l3, l4] [] st h Q ↔ pb_R 58 87 [some (.ref x), l1, l2, l3, l4] [] (.ref x :: st) h Q) ∧
  (∀ (l1 l2 l3 l4 : Option Value) (st : List Value) (h : pb_H) (Q : Option Value → pb_H → Prop), pb_R 58 86 [some .null, l1, l2, l3, l4] [] st h Q ↔ pb_R 58 87 [some .null, l1, l2, l3, l4] [] (.null :: st) h Q) ∧
  (∀ (L : pb_L) (J : pb_J) (st : List Value) (h : pb_H) (Q : Option Value → pb_H → Prop) (a : Nat), pb_R 58 87 L J (.ref a :: st) h Q ↔ pb_o (pb_gf (h.2 a) 1 0) (fun v => pb_R 58 90 L J (v :: st) h Q)) ∧
  (∀ (L : pb_L) (J : pb_J) (st : List Value) (h : pb_H) (Q : Option Value → pb_H → Prop), pb_R 58 90 L J st h Q ↔ pb_R 58 91 L J (.int (4 : Int32) :: st) h Q) ∧
  (∀ (l0 l2 l3 l4 : Option Value) (st : List Value) (h : pb_H) (Q : Option Value → pb_H → Prop) (x : Int32), pb_R 58 91 [l0, some (.int x), l2, l3, l4] [] st h Q ↔ pb_R 58 92 [l0, some (.int x), l2, l3, l4] [] (.int x :: st) h Q) ∧
  (∀ (L : pb_L) (J : pb_J) (h : pb_H) (Q : Option Value → pb_H → Prop) (x0 : Int32) (x1 : Int32) (x2 : Nat), pb_R 58 92 L J [.int x0, .int x1, .ref x2] h Q ↔ pb_is0 (h.2 x2) 8 = true ∧ pb_call 27 [.ref x2, .int x1, .int x0] h (fun v t => pb_R 58 95 L J (v.toList ++ []) t Q)) ∧
  (∀ (L : pb_L) (J : pb_J) (h : pb_H) (Q : Option Value → pb_H → Prop) (x : Int32), pb_R 58 95 L J [.int x] h Q ↔ narrow .boolean (.int x) = .int x ∧ Q (some (.int x)) h) ∧
  (∀ (l0 l1 l2 l3 : Option Value) (st : List Value) (h : pb_H) (Q : Option Value → pb_H → Prop) (x : Nat), pb_R 58 96 [l0, l1, l2, l3, some (.ref x)] [] st h Q ↔ pb_R 58 98 [l0, l1, l2, l3, some (.ref x)] [] (.ref x :: st) h Q) ∧
  (∀ (l0 l1 l2 l3 : Option Value) (st : List Value) (h : pb_H) (Q : Option Value → pb_H → Prop), pb_R 58 96 [l0, l1, l2, l3, some .null] [] st h Q ↔ pb_R 58 98 [l0, l1, l2, l3, some .null] [] (.null :: st) h Q) ∧
  (∀ (l0 l1 l3 l4 : Option Value) (st : List Value) (h : pb_H) (Q : Option Value → pb_H → Prop) (x : Int32), pb_R 58 98 [l0, l1, some (.int x), l3, l4] [] st h Q ↔ pb_R 58 99 [l0, l1, some (.int x), l3, l4] [] (.int x :: st) h Q) ∧
  (∀ (l0 l1 l2 l4 : Option Value) (st : List Value) (h : pb_H) (Q : Option Value → pb_H → Prop) (x : Int32), pb_R 58 99 [l0, l1, l2, some (.int x), l4] [] st h Q ↔ pb_R 58 100 [l0, l1, l2, some (.int x), l4] [] (.int x :: st) h Q) ∧
  (∀ (L : pb_L) (J : pb_J) (h : pb_H) (Q : Option Value → pb_H → Prop) (x0 : Int32) (x1 : Int32) (x2 : Nat), pb_R 58 100 L J [.int x0, .int x1, .ref x2] h Q ↔ pb_is0 (h.2 x2) 4 = true ∧ pb_call 57 [.ref x2, .int x1, .int x0] h (fun v t => pb_R 58 103 L J (v.toList ++ []) t Q)) ∧
  (∀ (L : pb_L) (J : pb_J) (st : List Value) (h : pb_H) (Q : Option Value → pb_H → Prop), pb_R 58 103 L J st h Q ↔ pb_R 58 104 L J (.int (1 : Int32) :: st) h Q) ∧
  (∀ (L : pb_L) (J : pb_J) (h : pb_H) (Q : Option Value → pb_H → Prop) (x : Int32), pb_R 58 104 L J [.int x] h Q ↔ narrow .boolean (.int x) = .int x ∧ Q (some (.int x)) h) := ⟨
  fun l1 l2 l3 l4 st h Q x => pf_S pb_u_58 rfl rfl,
  fun l1 l2 l3 l4 st h Q => pf_S pb_u_58 rfl rfl,
  fun L J st h Q a => pf_gf pb_u_58 rfl rfl,
  fun L J st h Q a => pf_gf pb_u_58 rfl rfl,
  fun l0 l1 l2 l3 l4 st h Q x => pf_S pb_u_58 rfl rfl,
  fun l1 l2 l3 l4 st h Q x => pf_S pb_u_58 rfl rfl,
  fun l1 l2 l3 l4 st h Q => pf_S pb_u_58 rfl rfl,
  fun L J st h Q a => pf_gf pb_u_58 rfl rfl,
  fun L J st h Q a => pf_gf pb_u_58 rfl rfl,
  fun l0 l1 l2 l3 l4 st h Q x => pf_S pb_u_58 rfl rfl,
  fun l1 l2 l3 l4 st h Q x => pf_S pb_u_58 rfl rfl,
  fun l1 l2 l3 l4 st h Q => pf_S pb_u_58 rfl rfl,
  fun L J st h Q a => pf_gf pb_u_58 rfl rfl,
  fun L J st h Q a => pf_gf pb_u_58 rfl rfl,
  fun l0 l1 l2 l3 l4 st h Q x => pf_S pb_u_58 rfl rfl,
  fun l1 l2 l3 l4 st h Q x => pf_S pb_u_58 rfl rfl,
  fun l1 l2 l3 l4 st h Q => pf_S pb_u_58 rfl rfl,
  fun L J st h Q a => pf_gf pb_u_58 rfl rfl,
  fun l1 l2 l3 l4 st h Q x => pf_S pb_u_58 rfl rfl,
  fun l1 l2 l3 l4 st h Q => pf_S pb_u_58 rfl rfl,
  fun L J st h Q a => pf_gf pb_u_58 rfl rfl,
  fun L J st h Q a => pf_gf pb_u_58 rfl rfl,
  fun L J h Q x0 x1 => pf_kv pb_u_58 rfl pb_ci_50 rfl ⟨Nat.le_of_ble_eq_true rfl, Nat.le_of_ble_eq_true rfl, Nat.le_of_ble_eq_true rfl, Nat.le_of_ble_eq_true rfl, rfl⟩ rfl rfl,
  fun L J st h Q x => pf_ii pb_u_58 rfl rfl pf_ne,
  fun l1 l2 l3 l4 st h Q x => pf_S pb_u_58 rfl rfl,
  fun l1 l2 l3 l4 st h Q => pf_S pb_u_58 rfl rfl,
  fun L J st h Q a => pf_gf pb_u_58 rfl rfl,
  fun L J st h Q => pf_S pb_u_58 rfl rfl,
  fun L J h Q x0 x1 => pf_kv pb_u_58 rfl pb_ci_29 rfl ⟨Nat.le_of_ble_eq_true rfl, Nat.le_of_ble_eq_true rfl, Nat.le_of_ble_eq_true rfl, Nat.le_of_ble_eq_true rfl, rfl⟩ rfl rfl,
  fun L J h Q x => pf_rz pb_u_58 rfl rfl,
  fun l1 l2 l3 l4 st h Q x => pf_S pb_u_58 rfl rfl,
  fun l1 l2 l3 l4 st h Q => pf_S pb_u_58 rfl rfl,
  fun L J st h Q a => pf_gf pb_u_58 rfl rfl,
  fun L J h Q x0 => pf_kv pb_u_58 rfl pb_ci_23 rfl ⟨Nat.le_of_ble_eq_true rfl, Nat.le_of_ble_eq_true rfl, Nat.le_of_ble_eq_true rfl, Nat.le_of_ble_eq_true rfl, rfl⟩ rfl rfl,
  fun l1 l2 l3 l4 st h Q x => pf_S pb_u_58 rfl rfl,
  fun l1 l2 l3 l4 st h Q => pf_S pb_u_58 rfl rfl,
  fun L J st h Q a => pf_gf pb_u_58 rfl rfl,
  fun L J st h Q a => pf_gf pb_u_58 rfl rfl,
  fun L J st h Q => pf_S pb_u_58 rfl rfl,
  fun L J st h Q x y => pf_ic pb_u_58 rfl rfl pf_ne,
  fun l1 l2 l3 l4 st h Q x => pf_S pb_u_58 rfl rfl,
  fun l1 l2 l3 l4 st h Q => pf_S pb_u_58 rfl rfl,
  fun l0 l1 l3 l4 st h Q x => pf_S pb_u_58 rfl rfl,
  fun L J h Q x0 x1 => pf_kv pb_u_58 rfl pb_ci_56 rfl ⟨Nat.le_of_ble_eq_true rfl, Nat.le_of_ble_eq_true rfl, Nat.le_of_ble_eq_true rfl, Nat.le_of_ble_eq_true rfl, rfl⟩ rfl rfl,
  fun L J h Q x => pf_rz pb_u_58 rfl rfl,
  fun l1 l2 l3 l4 st h Q x => pf_S pb_u_58 rfl rfl,
  fun l1 l2 l3 l4 st h Q => pf_S pb_u_58 rfl rfl,
  fun L J h Q x0 => pf_kv pb_u_58 rfl pb_ci_47 rfl ⟨Nat.le_of_ble_eq_true rfl, Nat.le_of_ble_eq_true rfl, Nat.le_of_ble_eq_true rfl, Nat.le_of_ble_eq_true rfl, rfl⟩ rfl rfl,
  fun l0 l1 l2 l3 l4 st h Q x => pf_S pb_u_58 rfl rfl,
  fun l0 l1 l2 l3 l4 st h Q => pf_S pb_u_58 rfl rfl,
  fun l0 l1 l2 l3 st h Q x => pf_S pb_u_58 rfl rfl,
  fun l0 l1 l2 l3 st h Q => pf_S pb_u_58 rfl rfl,
  fun L J st h Q => pf_S pb_u_58 rfl rfl,
  fun L J st h Q x => pf_S pb_u_58 rfl rfl,
  fun l1 l2 l3 l4 st h Q x => pf_S pb_u_58 rfl rfl,
  fun l1 l2 l3 l4 st h Q => pf_S pb_u_58 rfl rfl,
  fun L J st h Q a => pf_gf pb_u_58 rfl rfl,
  fun L J st h Q => pf_S pb_u_58 rfl rfl,
  fun l0 l2 l3 l4 st h Q x => pf_S pb_u_58 rfl rfl,
  fun L J h Q x0 x1 x2 => pf_kv pb_u_58 rfl pb_ci_27 rfl ⟨Nat.le_of_ble_eq_true rfl, Nat.le_of_ble_eq_true rfl, Nat.le_of_ble_eq_true rfl, Nat.le_of_ble_eq_true rfl, rfl⟩ rfl rfl,
  fun L J h Q x => pf_rz pb_u_58 rfl rfl,
  fun l0 l1 l2 l3 st h Q x => pf_S pb_u_58 rfl rfl,
  fun l0 l1 l2 l3 st h Q => pf_S pb_u_58 rfl rfl,
  fun l0 l1 l3 l4 st h Q x => pf_S pb_u_58 rfl rfl,
  fun l0 l1 l2 l4 st h Q x => pf_S pb_u_58 rfl rfl,
  fun L J h Q x0 x1 x2 => pf_kv pb_u_58 rfl pb_ci_57 rfl ⟨Nat.le_of_ble_eq_true rfl, Nat.le_of_ble_eq_true rfl, Nat.le_of_ble_eq_true rfl, Nat.le_of_ble_eq_true rfl, rfl⟩ rfl rfl,
  fun L J st h Q => pf_S pb_u_58 rfl rfl,
  fun L J h Q x => pf_rz pb_u_58 rfl rfl⟩
theorem pb_c58 (x0 : Nat) (h : pb_H) (Q : Option Value → pb_H → Prop) : pb_call 58 [.ref x0] h Q ↔ pb_R 58 0 [some (.ref x0), none, none, none, none] [] [] h Q := Iff.rfl
/-! 59: PlaneBench$Wide.add([II[III)I -/
theorem pb_u_59 : pb_t 59 = pb_t59 := rfl
set_option maxRecDepth 100000 in
theorem pb_q59_6 (l0 l1 l2 l3 l4 l5 l6 : Option Value) (j0 j1 j2 j3 j4 j5 j6 j7 : Option Int64) (st : List Value) (h : pb_H) (Q : Option Value → pb_H → Prop) (x : Int32) : pb_R 59 6 [l0, l1, l2, l3, l4, l5, l6, some (.int x)] [j0, j1, j2, j3, j4, j5, j6, j7] st h Q ↔ pb_R 59 8 [l0, l1, l2, l3, l4, l5, l6, some (.int x)] [j0, j1, j2, j3, j4, j5, j6, j7] (.int x :: st) h Q := pf_S pb_u_59 rfl rfl
set_option maxRecDepth 100000 in
theorem pb_e59 : (∀ (L : pb_L) (J : pb_J) (st : List Value) (h : pb_H) (Q : Option Value → pb_H → Prop), pb_R 59 0 L J st h Q ↔ pb_R 59 1 L J (.long (0 : Int64) :: st) h Q) ∧
  (∀ (l0 l1 l2 l3 l4 l5 l6 l7 : Option Value) (j0 j1 j2 j3 j4 j5 j6 j7 : Option Int64) (st : List Value) (h : pb_H) (Q : Option Value → pb_H → Prop) (x : Int64), pb_R 59 1 [l0, l1, l2, l3, l4, l5, l6, l7] [j0, j1, j2, j3, j4, j5, j6, j7] (.long x :: st) h Q ↔ pb_R 59 3 [l0, l1, l2, l3, l4, none, none, l7] [j0, j1, j2, j3, none, some x, none, j7] st h Q) ∧
  (∀ (L : pb_L) (J : pb_J) (st : List Value) (h : pb_H) (Q : Option Value → pb_H → Prop), pb_R 59 3 L J st h Q ↔ pb_R 59 4 L J (.int (0 : Int32) :: st) h Q) ∧
  (∀ (l0 l1 l2 l3 l4 l5 l6 l7 : Option Value) (j0 j1 j2 j3 j4 j5 j6 j7 : Option Int64) (st : List Value) (h : pb_H) (Q : Option Value → pb_H → Prop) (x : Int32), pb_R 59 4 [l0, l1, l2, l3, l4, l5, l6, l7] [j0, j1, j2, j3, j4, j5, j6, j7] (.int x :: st) h Q ↔ pb_R 59 6 [l0, l1, l2, l3, l4, l5, l6, some (.int x)] [j0, j1, j2, j3, j4, j5, none, none] st h Q) ∧
  (∀ (l0 l1 l2 l3 l5 l6 l7 : Option Value) (j0 j1 j2 j3 j4 j5 j6 j7 : Option Int64) (st : List Value) (h : pb_H) (Q : Option Value → pb_H → Prop) (x : Int32), pb_R 59 8 [l0, l1, l2, l3, some (.int x), l5, l6, l7] [j0, j1, j2, j3, j4, j5, j6, j7] st h Q ↔ pb_R 59 10 [l0, l1, l2, l3, some (.int x), l5, l6, l7] [j0, j1, j2, j3, j4, j5, j6, j7] (.int x :: st) h Q) ∧
  (∀ (L : pb_L) (J : pb_J) (st : List Value) (h : pb_H) (Q : Option Value → pb_H → Prop) (x y : Int32), pb_R 59 10 L J (.int y :: .int x :: st) h Q ↔ if y ≤ x then pb_R 59 63 L J st h Q else pb_R 59 13 L J st h Q) ∧
  (∀ (l0 l1 l2 l3 l4 l5 l6 l7 : Option Value) (j0 j1 j2 j3 j4 j6 j7 : Option Int64) (st : List Value) (h : pb_H) (Q : Option Value → pb_H → Prop) (x : Int64), pb_R 59 13 [l0, l1, l2, l3, l4, l5, l6, l7] [j0, j1, j2, j3, j4, some x, j6, j7] st h Q ↔ pb_R 59 15 [l0, l1, l2, l3, l4, l5, l6, l7] [j0, j1, j2, j3, j4, some x, j6, j7] (.long x :: st) h Q) ∧
  (∀ (l1 l2 l3 l4 l5 l6 l7 : Option Value) (j0 j1 j2 j3 j4 j5 j6 j7 : Option Int64) (st : List Value) (h : pb_H) (Q : Option Value → pb_H → Prop) (x : Nat), pb_R 59 15 [some (.ref x), l1, l2, l3, l4, l5, l6, l7] [j0, j1, j2, j3, j4, j5, j6, j7] st h Q ↔ pb_R 59 16 [some (.ref x), l1, l2, l3, l4, l5, l6, l7] [j0, j1, j2, j3, j4, j5, j6, j7] (.ref x :: st) h Q) ∧
  (∀ (l1 l2 l3 l4 l5 l6 l7 : Option Value) (j0 j1 j2 j3 j4 j5 j6 j7 : Option Int64) (st : List Value) (h : pb_H) (Q : Option Value → pb_H → Prop), pb_R 59 15 [some .null, l1, l2, l3, l4, l5, l6, l7] [j0, j1, j2, j3, j4, j5, j6, j7] st h Q ↔ pb_R 59 16 [some .null, l1, l2, l3, l4, l5, l6, l7] [j0, j1, j2, j3, j4, j5, j6, j7] (.null :: st) h Q) ∧
  (∀ (l0 l2 l3 l4 l5 l6 l7 : Option Value) (j0 j1 j2 j3 j4 j5 j6 j7 : Option Int64) (st : List Value) (h : pb_H) (Q : Option Value → pb_H → Prop) (x : Int32), pb_R 59 16 [l0, some (.int x), l2, l3, l4, l5, l6, l7] [j0, j1, j2, j3, j4, j5, j6, j7] st h Q ↔ pb_R 59 17 [l0, some (.int x), l2, l3, l4, l5, l6, l7] [j0, j1, j2, j3, j4, j5, j6, j7] (.int x :: st) h Q) ∧
  (∀ (l0 l1 l2 l3 l4 l5 l6 : Option Value) (j0 j1 j2 j3 j4 j5 j6 j7 : Option Int64) (st : List Value) (h : pb_H) (Q : Option Value → pb_H → Prop) (x : Int32), pb_R 59 17 [l0, l1, l2, l3, l4, l5, l6, some (.int x)] [j0, j1, j2, j3, j4, j5, j6, j7] st h Q ↔ pb_R 59 19 [l0, l1, l2, l3, l4, l5, l6, some (.int x)] [j0, j1, j2, j3, j4, j5, j6, j7] (.int x :: st) h Q) ∧
  (∀ (L : pb_L) (J : pb_J) (st : List Value) (x y : Int32) (h : pb_H) (Q : Option Value → pb_H → Prop), pb_R 59 19 L J (.int y :: .int x :: st) h Q ↔ pb_R 59 20 L J (.int (x + y) :: st) h Q) ∧
  (∀ (L : pb_L) (J : pb_J) (st : List Value) (h : pb_H) (Q : Option Value → pb_H → Prop) (a : Nat) (i : Int32), pb_R 59 20 L J (.int i :: .ref a :: st) h Q ↔ pb_o (pb_ai (h.2 a) i) (fun v => pb_R 59 21 L J (.int v :: st) h Q)) ∧
  (∀ (L : pb_L) (J : pb_J) (st : List Value) (x : Int32) (h : pb_H) (Q : Option Value → pb_H → Prop), pb_R 59 21 L J (.int x :: st) h Q ↔ pb_R 59 22 L J (.long x.toInt64 :: st) h Q) ∧
  (∀ (L : pb_L) (J : pb_J) (st : List Value) (h : pb_H) (Q : Option Value → pb_H → Prop), pb_R 59 22 L J st h Q ↔ pb_R 59 25 L J (.long (4294967295 : Int64) :: st) h Q) ∧
  (∀ (L : pb_L) (J : pb_J) (st : List Value) (x y : Int64) (h : pb_H) (Q : Option Value → pb_H → Prop), pb_R 59 25 L J (.long y :: .long x :: st) h Q ↔ pb_R 59 26 L J (.long (x &&& y) :: st) h Q) ∧
  (∀ (l0 l1 l3 l4 l5 l6 l7 : Option Value) (j0 j1 j2 j3 j4 j5 j6 j7 : Option Int64) (st : List Value) (h : pb_H) (Q : Option Value → pb_H → Prop) (x : Nat), pb_R 59 26 [l0, l1, some (.ref x), l3, l4, l5, l6, l7] [j0, j1, j2, j3, j4, j5, j6, j7] st h Q ↔ pb_R 59 27 [l0, l1, some (.ref x), l3, l4, l5, l6, l7] [j0, j1, j2, j3, j4, j5, j6, j7] (.ref x :: st) h Q) ∧
  (∀ (l0 l1 l3 l4 l5 l6 l7 : Option Value) (j0 j1 j2 j3 j4 j5 j6 j7 : Option Int64) (st : List Value) (h : pb_H) (Q : Option Value → pb_H → Prop), pb_R 59 26 [l0, l1, some .null, l3, l4, l5, l6, l7] [j0, j1, j2, j3, j4, j5, j6, j7] st h Q ↔ pb_R 59 27 [l0, l1, some .null, l3, l4, l5, l6, l7] [j0, j1, j2, j3, j4, j5, j6, j7] (.null :: st) h Q) ∧
  (∀ (l0 l1 l2 l4 l5 l6 l7 : Option Value) (j0 j1 j2 j3 j4 j5 j6 j7 : Option Int64) (st : List Value) (h : pb_H) (Q : Option Value → pb_H → Prop) (x : Int32), pb_R 59 27 [l0, l1, l2, some (.int x), l4, l5, l6, l7] [j0, j1, j2, j3, j4, j5, j6, j7] st h Q ↔ pb_R 59 28 [l0, l1, l2, some (.int x), l4, l5, l6, l7] [j0, j1, j2, j3, j4, j5, j6, j7] (.int x :: st) h Q) ∧
  (∀ (l0 l1 l2 l3 l4 l5 l6 : Option Value) (j0 j1 j2 j3 j4 j5 j6 j7 : Option Int64) (st : List Value) (h : pb_H) (Q : Option Value → pb_H → Prop) (x : Int32), pb_R 59 28 [l0, l1, l2, l3, l4, l5, l6, some (.int x)] [j0, j1, j2, j3, j4, j5, j6, j7] st h Q ↔ pb_R 59 30 [l0, l1, l2, l3, l4, l5, l6, some (.int x)] [j0, j1, j2, j3, j4, j5, j6, j7] (.int x :: st) h Q) ∧
  (∀ (L : pb_L) (J : pb_J) (st : List Value) (x y : Int32) (h : pb_H) (Q : Option Value → pb_H → Prop), pb_R 59 30 L J (.int y :: .int x :: st) h Q ↔ pb_R 59 31 L J (.int (x + y) :: st) h Q) ∧
  (∀ (L : pb_L) (J : pb_J) (st : List Value) (h : pb_H) (Q : Option Value → pb_H → Prop) (a : Nat) (i : Int32), pb_R 59 31 L J (.int i :: .ref a :: st) h Q ↔ pb_o (pb_ai (h.2 a) i) (fun v => pb_R 59 32 L J (.int v :: st) h Q)) ∧
  (∀ (L : pb_L) (J : pb_J) (st : List Value) (x : Int32) (h : pb_H) (Q : Option Value → pb_H → Prop), pb_R 59 32 L J (.int x :: st) h Q ↔ pb_R 59 33 L J (.long x.toInt64 :: st) h Q) ∧
  (∀ (L : pb_L) (J : pb_J) (st : List Value) (h : pb_H) (Q : Option Value → pb_H → Prop), pb_R 59 33 L J st h Q ↔ pb_R 59 36 L J (.long (4294967295 : Int64) :: st) h Q) ∧
  (∀ (L : pb_L) (J : pb_J) (st : List Value) (x y : Int64) (h : pb_H) (Q : Option Value → pb_H → Prop), pb_R 59 36 L J (.long y :: .long x :: st) h Q ↔ pb_R 59 37 L J (.long (x &&& y) :: st) h Q) ∧
  (∀ (L : pb_L) (J : pb_J) (st : List Value) (x y : Int64) (h : pb_H) (Q : Option Value → pb_H → Prop), pb_R 59 37 L J (.long y :: .long x :: st) h Q ↔ pb_R 59 38 L J (.long (x + y) :: st) h Q) ∧
  (∀ (L : pb_L) (J : pb_J) (st : List Value) (x y : Int64) (h : pb_H) (Q : Option Value → pb_H → Prop), pb_R 59 38 L J (.long y :: .long x :: st) h Q ↔ pb_R 59 39 L J (.long (x + y) :: st) h Q) ∧
  (∀ (l0 l1 l2 l3 l4 l5 l6 l7 : Option Value) (j0 j1 j2 j3 j4 j5 j6 j7 : Option Int64) (st : List Value) (h : pb_H) (Q : Option Value → pb_H → Prop) (x : Int64), pb_R 59 39 [l0, l1, l2, l3, l4, l5, l6, l7] [j0, j1, j2, j3, j4, j5, j6, j7] (.long x :: st) h Q ↔ pb_R 59 41 [l0, l1, l2, l3, l4, none, none, l7] [j0, j1, j2, j3, none, some x, none, j7] st h Q) ∧
  (∀ (l1 l2 l3 l4 l5 l6 l7 : Option Value) (j0 j1 j2 j3 j4 j5 j6 j7 : Option Int64) (st : List Value) (h : pb_H) (Q : Option Value → pb_H → Prop) (x : Nat), pb_R 59 41 [some (.ref x), l1, l2, l3, l4, l5, l6, l7] [j0, j1, j2, j3, j4, j5, j6, j7] st h Q ↔ pb_R 59 42 [some (.ref x), l1, l2, l3, l4, l5, l6, l7] [j0, j1, j2, j3, j4, j5, j6, j7] (.ref x :: st) h Q) ∧
  (∀ (l1 l2 l3 l4 l5 l6 l7 : Option Value) (j0 j1 j2 j3 j4 j5 j6 j7 : Option Int64) (st : List Value) (h : pb_H) (Q : Option Value → pb_H → Prop), pb_R 59 41 [some .null, l1, l2, l3, l4, l5, l6, l7] [j0, j1, j2, j3, j4, j5, j6, j7] st h Q ↔ pb_R 59 42 [some .null, l1, l2, l3, l4, l5, l6, l7] [j0, j1, j2, j3, j4, j5, j6, j7] (.null :: st) h Q) ∧
  (∀ (l0 l2 l3 l4 l5 l6 l7 : Option Value) (j0 j1 j2 j3 j4 j5 j6 j7 : Option Int64) (st : List Value) (h : pb_H) (Q : Option Value → pb_H → Prop) (x : Int32), pb_R 59 42 [l0, some (.int x), l2, l3, l4, l5, l6, l7] [j0, j1, j2, j3, j4, j5, j6, j7] st h Q ↔ pb_R 59 43 [l0, some (.int x), l2, l3, l4, l5, l6, l7] [j0, j1, j2, j3, j4, j5, j6, j7] (.int x :: st) h Q) ∧
  (∀ (l0 l1 l2 l3 l4 l5 l6 : Option Value) (j0 j1 j2 j3 j4 j5 j6 j7 : Option Int64) (st : List Value) (h : pb_H) (Q : Option Value → pb_H → Prop) (x : Int32), pb_R 59 43 [l0, l1, l2, l3, l4, l5, l6, some (.int x)] [j0, j1, j2, j3, j4, j5, j6, j7] st h Q ↔ pb_R 59 45 [l0, l1, l2, l3, l4, l5, l6, some (.int x)] [j0, j1, j2, j3, j4, j5, j6, j7] (.int x :: st) h Q) ∧
  (∀ (L : pb_L) (J : pb_J) (st : List Value) (x y : Int32) (h : pb_H) (Q : Option Value → pb_H → Prop), pb_R 59 45 L J (.int y :: .int x :: st) h Q ↔ pb_R 59 46 L J (.int (x + y) :: st) h Q) ∧
  (∀ (l0 l1 l2 l3 l4 l5 l6 l7 : Option Value) (j0 j1 j2 j3 j4 j6 j7 : Option Int64) (st : List Value) (h : pb_H) (Q : Option Value → pb_H → Prop) (x : Int64), pb_R 59 46 [l0, l1, l2, l3, l4, l5, l6, l7] [j0, j1, j2, j3, j4, some x, j6, j7] st h Q ↔ pb_R 59 48 [l0, l1, l2, l3, l4, l5, l6, l7] [j0, j1, j2, j3, j4, some x, j6, j7] (.long x :: st) h Q) ∧
  (∀ (L : pb_L) (J : pb_J) (st : List Value) (x : Int64) (h : pb_H) (Q : Option Value → pb_H → Prop), pb_R 59 48 L J (.long x :: st) h Q ↔ pb_R 59 49 L J (.int x.toInt32 :: st) h Q) ∧
  (∀ (L : pb_L) (J : pb_J) (st : List Value) (h : pb_H) (Q : Option Value → pb_H → Prop) (a : Nat) (i x : Int32), pb_R 59 49 L J (.int x :: .int i :: .ref a :: st) h Q ↔ pb_o (pb_si (h.2 a) i x) (fun c => pb_R 59 50 L J st (pb_set h a c) Q)) ∧
  (∀ (l0 l1 l2 l3 l4 l5 l6 l7 : Option Value) (j0 j1 j2 j3 j4 j6 j7 : Option Int64) (st : List Value) (h : pb_H) (Q : Option Value → pb_H → Prop) (x : Int64), pb_R 59 50 [l0, l1, l2, l3, l4, l5, l6, l7] [j0, j1, j2, j3, j4, some x, j6, j7] st h Q ↔ pb_R 59 52 [l0, l1, l2, l3, l4, l5, l6, l7] [j0, j1, j2, j3, j4, some x, j6, j7] (.long x :: st) h Q) ∧
  (∀ (L : pb_L) (J : pb_J) (st : List Value) (h : pb_H) (Q : Option Value → pb_H → Prop), pb_R 59 52 L J st h Q ↔ pb_R 59 54 L J (.int (32 : Int32) :: st) h Q) ∧
  (∀ (L : pb_L) (J : pb_J) (st : List Value) (x : Int64) (y : Int32) (h : pb_H) (Q : Option Value → pb_H → Prop), pb_R 59 54 L J (.int y :: .long x :: st) h Q ↔ pb_R 59 55 L J (.long (x.toUInt64 >>> (y.toInt64.toUInt64 &&& Int64.toUInt64 63)).toInt64 :: st) h Q) ∧
  (∀ (l0 l1 l2 l3 l4 l5 l6 l7 : Option Value) (j0 j1 j2 j3 j4 j5 j6 j7 : Option Int64) (st : List Value) (h : pb_H) (Q : Option Value → pb_H → Prop) (x : Int64), pb_R 59 55 [l0, l1, l2, l3, l4, l5, l6, l7] [j0, j1, j2, j3, j4, j5, j6, j7] (.long x :: st) h Q ↔ pb_R 59 57 [l0, l1, l2, l3, l4, none, none, l7] [j0, j1, j2, j3, none, some x, none, j7] st h Q) ∧
  (∀ (l0 l1 l2 l3 l4 l5 l6 : Option Value) (j0 j1 j2 j3 j4 j5 j6 j7 : Option Int64) (st : List Value) (h : pb_H) (Q : Option Value → pb_H → Prop) (x : Int32), pb_R 59 57 [l0, l1, l2, l3, l4, l5, l6, some (.int x)] [j0, j1, j2, j3, j4, j5, j6, j7] st h Q ↔ pb_R 59 60 [l0, l1, l2, l3, l4, l5, l6, some (.int (x + (1 : Int32)))] [j0, j1, j2, j3, j4, j5, none, none] st h Q) ∧
  (∀ (L : pb_L) (J : pb_J) (st : List Value) (h : pb_H) (Q : Option Value → pb_H → Prop), pb_R 59 60 L J st h Q ↔ pb_R 59 6 L J st h Q) ∧
  (∀ (l0 l1 l2 l3 l4 l5 l6 l7 : Option Value) (j0 j1 j2 j3 j4 j6 j7 : Option Int64) (st : List Value) (h : pb_H) (Q : Option Value → pb_H → Prop) (x : Int64), pb_R 59 63 [l0, l1, l2, l3, l4, l5, l6, l7] [j0, j1, j2, j3, j4, some x, j6, j7] st h Q ↔ pb_R 59 65 [l0, l1, l2, l3, l4, l5, l6, l7] [j0, j1, j2, j3, j4, some x, j6, j7] (.long x :: st) h Q) ∧
  (∀ (L : pb_L) (J : pb_J) (st : List Value) (x : Int64) (h : pb_H) (Q : Option Value → pb_H → Prop), pb_R 59 65 L J (.long x :: st) h Q ↔ pb_R 59 66 L J (.int x.toInt32 :: st) h Q) ∧
  (∀ (L : pb_L) (J : pb_J) (h : pb_H) (Q : Option Value → pb_H → Prop) (x : Int32), pb_R 59 66 L J [.int x] h Q ↔ Q (some (.int x)) h) := ⟨
  fun L J st h Q => pf_S pb_u_59 rfl rfl,
  fun l0 l1 l2 l3 l4 l5 l6 l7 j0 j1 j2 j3 j4 j5 j6 j7 st h Q x => pf_S pb_u_59 rfl rfl,
  fun L J st h Q => pf_S pb_u_59 rfl rfl,
  fun l0 l1 l2 l3 l4 l5 l6 l7 j0 j1 j2 j3 j4 j5 j6 j7 st h Q x => pf_S pb_u_59 rfl rfl,
  fun l0 l1 l2 l3 l5 l6 l7 j0 j1 j2 j3 j4 j5 j6 j7 st h Q x => pf_S pb_u_59 rfl rfl,
  fun L J st h Q x y => pf_ic pb_u_59 rfl rfl rfl,
  fun l0 l1 l2 l3 l4 l5 l6 l7 j0 j1 j2 j3 j4 j6 j7 st h Q x => pf_S pb_u_59 rfl rfl,
  fun l1 l2 l3 l4 l5 l6 l7 j0 j1 j2 j3 j4 j5 j6 j7 st h Q x => pf_S pb_u_59 rfl rfl,
  fun l1 l2 l3 l4 l5 l6 l7 j0 j1 j2 j3 j4 j5 j6 j7 st h Q => pf_S pb_u_59 rfl rfl,
  fun l0 l2 l3 l4 l5 l6 l7 j0 j1 j2 j3 j4 j5 j6 j7 st h Q x => pf_S pb_u_59 rfl rfl,
  fun l0 l1 l2 l3 l4 l5 l6 j0 j1 j2 j3 j4 j5 j6 j7 st h Q x => pf_S pb_u_59 rfl rfl,
  fun L J st x y h Q => pf_S pb_u_59 rfl rfl,
  fun L J st h Q a i => pf_ai pb_u_59 rfl rfl,
  fun L J st x h Q => pf_S pb_u_59 rfl rfl,
  fun L J st h Q => pf_S pb_u_59 rfl rfl,
  fun L J st x y h Q => pf_S pb_u_59 rfl rfl,
  fun l0 l1 l3 l4 l5 l6 l7 j0 j1 j2 j3 j4 j5 j6 j7 st h Q x => pf_S pb_u_59 rfl rfl,
  fun l0 l1 l3 l4 l5 l6 l7 j0 j1 j2 j3 j4 j5 j6 j7 st h Q => pf_S pb_u_59 rfl rfl,
  fun l0 l1 l2 l4 l5 l6 l7 j0 j1 j2 j3 j4 j5 j6 j7 st h Q x => pf_S pb_u_59 rfl rfl,
  fun l0 l1 l2 l3 l4 l5 l6 j0 j1 j2 j3 j4 j5 j6 j7 st h Q x => pf_S pb_u_59 rfl rfl,
  fun L J st x y h Q => pf_S pb_u_59 rfl rfl,
  fun L J st h Q a i => pf_ai pb_u_59 rfl rfl,
  fun L J st x h Q => pf_S pb_u_59 rfl rfl,
  fun L J st h Q => pf_S pb_u_59 rfl rfl,
  fun L J st x y h Q => pf_S pb_u_59 rfl rfl,
  fun L J st x y h Q => pf_S pb_u_59 rfl rfl,
  fun L J st x y h Q => pf_S pb_u_59 rfl rfl,
  fun l0 l1 l2 l3 l4 l5 l6 l7 j0 j1 j2 j3 j4 j5 j6 j7 st h Q x => pf_S pb_u_59 rfl rfl,
  fun l1 l2 l3 l4 l5 l6 l7 j0 j1 j2 j3 j4 j5 j6 j7 st h Q x => pf_S pb_u_59 rfl rfl,
  fun l1 l2 l3 l4 l5 l6 l7 j0 j1 j2 j3 j4 j5 j6 j7 st h Q => pf_S pb_u_59 rfl rfl,
  fun l0 l2 l3 l4 l5 l6 l7 j0 j1 j2 j3 j4 j5 j6 j7 st h Q x => pf_S pb_u_59 rfl rfl,
  fun l0 l1 l2 l3 l4 l5 l6 j0 j1 j2 j3 j4 j5 j6 j7 st h Q x => pf_S pb_u_59 rfl rfl,
  fun L J st x y h Q => pf_S pb_u_59 rfl rfl,
  fun l0 l1 l2 l3 l4 l5 l6 l7 j0 j1 j2 j3 j4 j6 j7 st h Q x => pf_S pb_u_59 rfl rfl,
  fun L J st x h Q => pf_S pb_u_59 rfl rfl,
  fun L J st h Q a i x => pf_si pb_u_59 rfl rfl,
  fun l0 l1 l2 l3 l4 l5 l6 l7 j0 j1 j2 j3 j4 j6 j7 st h Q x => pf_S pb_u_59 rfl rfl,
  fun L J st h Q => pf_S pb_u_59 rfl rfl,
  fun L J st x y h Q => pf_S pb_u_59 rfl rfl,
  fun l0 l1 l2 l3 l4 l5 l6 l7 j0 j1 j2 j3 j4 j5 j6 j7 st h Q x => pf_S pb_u_59 rfl rfl,
  fun l0 l1 l2 l3 l4 l5 l6 j0 j1 j2 j3 j4 j5 j6 j7 st h Q x => pf_S pb_u_59 rfl rfl,
  fun L J st h Q => pf_S pb_u_59 rfl rfl,
  fun l0 l1 l2 l3 l4 l5 l6 l7 j0 j1 j2 j3 j4 j6 j7 st h Q x => pf_S pb_u_59 rfl rfl,
  fun L J st x h Q => pf_S pb_u_59 rfl rfl,
  fun L J h Q x => pf_ri pb_u_59 rfl rfl⟩
theorem pb_c59 (x0 : Nat) (x1 : Int32) (x2 : Nat) (x3 : Int32) (x4 : Int32) (h : pb_H) (Q : Option Value → pb_H → Prop) : pb_call 59 [.ref x0, .int x1, .ref x2, .int x3, .int x4] h Q ↔ pb_R 59 0 [some (.ref x0), some (.int x1), some (.ref x2), some (.int x3), some (.int x4), none, none, none] [none, none, none, none, none, none, none, none] [] h Q := Iff.rfl
/-! 60: PlaneBench$Line.signOf(I)I -/
theorem pb_u_60 : pb_t 60 = pb_t60 := rfl
theorem pb_ci_60 : pb_ci 60 = 4 := by decide +kernel
set_option maxRecDepth 100000 in
theorem pb_e60 : (∀ (L : pb_L) (J : pb_J) (st : List Value) (h : pb_H) (Q : Option Value → pb_H → Prop), pb_R 60 0 L J st h Q ↔ pb_R 60 1 L J (.int (1 : Int32) :: st) h Q) ∧
  (∀ (l0 l2 : Option Value) (st : List Value) (h : pb_H) (Q : Option Value → pb_H → Prop) (x : Int32), pb_R 60 1 [l0, some (.int x), l2] [] st h Q ↔ pb_R 60 2 [l0, some (.int x), l2] [] (.int x :: st) h Q) ∧
  (∀ (L : pb_L) (J : pb_J) (st : List Value) (h : pb_H) (Q : Option Value → pb_H → Prop), pb_R 60 2 L J st h Q ↔ pb_R 60 3 L J (.int (1 : Int32) :: st) h Q) ∧
  (∀ (L : pb_L) (J : pb_J) (st : List Value) (x y : Int32) (h : pb_H) (Q : Option Value → pb_H → Prop), pb_R 60 3 L J (.int y :: .int x :: st) h Q ↔ pb_R 60 4 L J (.int (x - y) :: st) h Q) ∧
  (∀ (L : pb_L) (J : pb_J) (st : List Value) (x y : Int32) (h : pb_H) (Q : Option Value → pb_H → Prop), pb_R 60 4 L J (.int y :: .int x :: st) h Q ↔ pb_R 60 5 L J (.int (x <<< (y &&& 31)) :: st) h Q) ∧
  (∀ (l0 l1 l2 : Option Value) (st : List Value) (h : pb_H) (Q : Option Value → pb_H → Prop) (x : Int32), pb_R 60 5 [l0, l1, l2] [] (.int x :: st) h Q ↔ pb_R 60 6 [l0, l1, some (.int x)] [] st h Q) ∧
  (∀ (l1 l2 : Option Value) (st : List Value) (h : pb_H) (Q : Option Value → pb_H → Prop) (x : Nat), pb_R 60 6 [some (.ref x), l1, l2] [] st h Q ↔ pb_R 60 7 [some (.ref x), l1, l2] [] (.ref x :: st) h Q) ∧
  (∀ (l1 l2 : Option Value) (st : List Value) (h : pb_H) (Q : Option Value → pb_H → Prop), pb_R 60 6 [some .null, l1, l2] [] st h Q ↔ pb_R 60 7 [some .null, l1, l2] [] (.null :: st) h Q) ∧
  (∀ (L : pb_L) (J : pb_J) (st : List Value) (h : pb_H) (Q : Option Value → pb_H → Prop) (a : Nat), pb_R 60 7 L J (.ref a :: st) h Q ↔ pb_o (pb_gf (h.2 a) 4 2) (fun v => pb_R 60 10 L J (v :: st) h Q)) ∧
  (∀ (l0 l1 : Option Value) (st : List Value) (h : pb_H) (Q : Option Value → pb_H → Prop) (x : Int32), pb_R 60 10 [l0, l1, some (.int x)] [] st h Q ↔ pb_R 60 11 [l0, l1, some (.int x)] [] (.int x :: st) h Q) ∧
  (∀ (L : pb_L) (J : pb_J) (st : List Value) (x y : Int32) (h : pb_H) (Q : Option Value → pb_H → Prop), pb_R 60 11 L J (.int y :: .int x :: st) h Q ↔ pb_R 60 12 L J (.int (x &&& y) :: st) h Q) ∧
  (∀ (L : pb_L) (J : pb_J) (st : List Value) (h : pb_H) (Q : Option Value → pb_H → Prop) (x : Int32), pb_R 60 12 L J (.int x :: st) h Q ↔ if x = 0 then pb_R 60 17 L J st h Q else pb_R 60 15 L J st h Q) ∧
  (∀ (L : pb_L) (J : pb_J) (st : List Value) (h : pb_H) (Q : Option Value → pb_H → Prop), pb_R 60 15 L J st h Q ↔ pb_R 60 16 L J (.int (1 : Int32) :: st) h Q) ∧
  (∀ (L : pb_L) (J : pb_J) (h : pb_H) (Q : Option Value → pb_H → Prop) (x : Int32), pb_R 60 16 L J [.int x] h Q ↔ Q (some (.int x)) h) ∧
  (∀ (l1 l2 : Option Value) (st : List Value) (h : pb_H) (Q : Option Value → pb_H → Prop) (x : Nat), pb_R 60 17 [some (.ref x), l1, l2] [] st h Q ↔ pb_R 60 18 [some (.ref x), l1, l2] [] (.ref x :: st) h Q) ∧
  (∀ (l1 l2 : Option Value) (st : List Value) (h : pb_H) (Q : Option Value → pb_H → Prop), pb_R 60 17 [some .null, l1, l2] [] st h Q ↔ pb_R 60 18 [some .null, l1, l2] [] (.null :: st) h Q) ∧
  (∀ (L : pb_L) (J : pb_J) (st : List Value) (h : pb_H) (Q : Option Value → pb_H → Prop) (a : Nat), pb_R 60 18 L J (.ref a :: st) h Q ↔ pb_o (pb_gf (h.2 a) 4 3) (fun v => pb_R 60 21 L J (v :: st) h Q)) ∧
  (∀ (l0 l1 : Option Value) (st : List Value) (h : pb_H) (Q : Option Value → pb_H → Prop) (x : Int32), pb_R 60 21 [l0, l1, some (.int x)] [] st h Q ↔ pb_R 60 22 [l0, l1, some (.int x)] [] (.int x :: st) h Q) ∧
  (∀ (L : pb_L) (J : pb_J) (st : List Value) (x y : Int32) (h : pb_H) (Q : Option Value → pb_H → Prop), pb_R 60 22 L J (.int y :: .int x :: st) h Q ↔ pb_R 60 23 L J (.int (x &&& y) :: st) h Q) ∧
  (∀ (L : pb_L) (J : pb_J) (st : List Value) (h : pb_H) (Q : Option Value → pb_H → Prop) (x : Int32), pb_R 60 23 L J (.int x :: st) h Q ↔ if x = 0 then pb_R 60 30 L J st h Q else pb_R 60 26 L J st h Q) ∧
  (∀ (L : pb_L) (J : pb_J) (st : List Value) (h : pb_H) (Q : Option Value → pb_H → Prop), pb_R 60 26 L J st h Q ↔ pb_R 60 27 L J (.int (-1 : Int32) :: st) h Q) ∧
  (∀ (L : pb_L) (J : pb_J) (st : List Value) (h : pb_H) (Q : Option Value → pb_H → Prop), pb_R 60 27 L J st h Q ↔ pb_R 60 31 L J st h Q) ∧
  (∀ (L : pb_L) (J : pb_J) (st : List Value) (h : pb_H) (Q : Option Value → pb_H → Prop), pb_R 60 30 L J st h Q ↔ pb_R 60 31 L J (.int (0 : Int32) :: st) h Q) ∧
  (∀ (L : pb_L) (J : pb_J) (h : pb_H) (Q : Option Value → pb_H → Prop) (x : Int32), pb_R 60 31 L J [.int x] h Q ↔ Q (some (.int x)) h) := ⟨
  fun L J st h Q => pf_S pb_u_60 rfl rfl,
  fun l0 l2 st h Q x => pf_S pb_u_60 rfl rfl,
  fun L J st h Q => pf_S pb_u_60 rfl rfl,
  fun L J st x y h Q => pf_S pb_u_60 rfl rfl,
  fun L J st x y h Q => pf_S pb_u_60 rfl rfl,
  fun l0 l1 l2 st h Q x => pf_S pb_u_60 rfl rfl,
  fun l1 l2 st h Q x => pf_S pb_u_60 rfl rfl,
  fun l1 l2 st h Q => pf_S pb_u_60 rfl rfl,
  fun L J st h Q a => pf_gf pb_u_60 rfl rfl,
  fun l0 l1 st h Q x => pf_S pb_u_60 rfl rfl,
  fun L J st x y h Q => pf_S pb_u_60 rfl rfl,
  fun L J st h Q x => pf_ii pb_u_60 rfl rfl rfl,
  fun L J st h Q => pf_S pb_u_60 rfl rfl,
  fun L J h Q x => pf_ri pb_u_60 rfl rfl,
  fun l1 l2 st h Q x => pf_S pb_u_60 rfl rfl,
  fun l1 l2 st h Q => pf_S pb_u_60 rfl rfl,
  fun L J st h Q a => pf_gf pb_u_60 rfl rfl,
  fun l0 l1 st h Q x => pf_S pb_u_60 rfl rfl,
  fun L J st x y h Q => pf_S pb_u_60 rfl rfl,
  fun L J st h Q x => pf_ii pb_u_60 rfl rfl rfl,
  fun L J st h Q => pf_S pb_u_60 rfl rfl,
  fun L J st h Q => pf_S pb_u_60 rfl rfl,
  fun L J st h Q => pf_S pb_u_60 rfl rfl,
  fun L J h Q x => pf_ri pb_u_60 rfl rfl⟩
theorem pb_c60 (x0 : Nat) (x1 : Int32) (h : pb_H) (Q : Option Value → pb_H → Prop) : pb_call 60 [.ref x0, .int x1] h Q ↔ pb_R 60 0 [some (.ref x0), some (.int x1), none] [] [] h Q := Iff.rfl
/-! 61: PlaneBench$Wide.compare([II[III)I -/
theorem pb_u_61 : pb_t 61 = pb_t61 := rfl
set_option maxRecDepth 100000 in
theorem pb_q61_6 (l0 l1 l2 l3 l4 : Option Value) (st : List Value) (h : pb_H) (Q : Option Value → pb_H → Prop) (x : Int32) : pb_R 61 6 [l0, l1, l2, l3, l4, some (.int x)] [] st h Q ↔ pb_R 61 8 [l0, l1, l2, l3, l4, some (.int x)] [] (.int x :: st) h Q := pf_S pb_u_61 rfl rfl
set_option maxRecDepth 100000 in
theorem pb_e61 : (∀ (l0 l1 l2 l3 l5 : Option Value) (st : List Value) (h : pb_H) (Q : Option Value → pb_H → Prop) (x : Int32), pb_R 61 0 [l0, l1, l2, l3, some (.int x), l5] [] st h Q ↔ pb_R 61 2 [l0, l1, l2, l3, some (.int x), l5] [] (.int x :: st) h Q) ∧
  (∀ (L : pb_L) (J : pb_J) (st : List Value) (h : pb_H) (Q : Option Value → pb_H → Prop), pb_R 61 2 L J st h Q ↔ pb_R 61 3 L J (.int (1 : Int32) :: st) h Q) ∧
  (∀ (L : pb_L) (J : pb_J) (st : List Value) (x y : Int32) (h : pb_H) (Q : Option Value → pb_H → Prop), pb_R 61 3 L J (.int y :: .int x :: st) h Q ↔ pb_R 61 4 L J (.int (x - y) :: st) h Q) ∧
  (∀ (l0 l1 l2 l3 l4 l5 : Option Value) (st : List Value) (h : pb_H) (Q : Option Value → pb_H → Prop) (x : Int32), pb_R 61 4 [l0, l1, l2, l3, l4, l5] [] (.int x :: st) h Q ↔ pb_R 61 6 [l0, l1, l2, l3, l4, some (.int x)] [] st h Q) ∧
  (∀ (L : pb_L) (J : pb_J) (st : List Value) (h : pb_H) (Q : Option Value → pb_H → Prop) (x : Int32), pb_R 61 8 L J (.int x :: st) h Q ↔ if x < 0 then pb_R 61 64 L J st h Q else pb_R 61 11 L J st h Q) ∧
  (∀ (l1 l2 l3 l4 l5 : Option Value) (st : List Value) (h : pb_H) (Q : Option Value → pb_H → Prop) (x : Nat), pb_R 61 11 [some (.ref x), l1, l2, l3, l4, l5] [] st h Q ↔ pb_R 61 12 [some (.ref x), l1, l2, l3, l4, l5] [] (.ref x :: st) h Q) ∧
  (∀ (l1 l2 l3 l4 l5 : Option Value) (st : List Value) (h : pb_H) (Q : Option Value → pb_H → Prop), pb_R 61 11 [some .null, l1, l2, l3, l4, l5] [] st h Q ↔ pb_R 61 12 [some .null, l1, l2, l3, l4, l5] [] (.null :: st) h Q) ∧
  (∀ (l0 l2 l3 l4 l5 : Option Value) (st : List Value) (h : pb_H) (Q : Option Value → pb_H → Prop) (x : Int32), pb_R 61 12 [l0, some (.int x), l2, l3, l4, l5] [] st h Q ↔ pb_R 61 13 [l0, some (.int x), l2, l3, l4, l5] [] (.int x :: st) h Q) ∧
  (∀ (l0 l1 l2 l3 l4 : Option Value) (st : List Value) (h : pb_H) (Q : Option Value → pb_H → Prop) (x : Int32), pb_R 61 13 [l0, l1, l2, l3, l4, some (.int x)] [] st h Q ↔ pb_R 61 15 [l0, l1, l2, l3, l4, some (.int x)] [] (.int x :: st) h Q) ∧
  (∀ (L : pb_L) (J : pb_J) (st : List Value) (x y : Int32) (h : pb_H) (Q : Option Value → pb_H → Prop), pb_R 61 15 L J (.int y :: .int x :: st) h Q ↔ pb_R 61 16 L J (.int (x + y) :: st) h Q) ∧
  (∀ (L : pb_L) (J : pb_J) (st : List Value) (h : pb_H) (Q : Option Value → pb_H → Prop) (a : Nat) (i : Int32), pb_R 61 16 L J (.int i :: .ref a :: st) h Q ↔ pb_o (pb_ai (h.2 a) i) (fun v => pb_R 61 17 L J (.int v :: st) h Q)) ∧
  (∀ (l0 l1 l3 l4 l5 : Option Value) (st : List Value) (h : pb_H) (Q : Option Value → pb_H → Prop) (x : Nat), pb_R 61 17 [l0, l1, some (.ref x), l3, l4, l5] [] st h Q ↔ pb_R 61 18 [l0, l1, some (.ref x), l3, l4, l5] [] (.ref x :: st) h Q) ∧
  (∀ (l0 l1 l3 l4 l5 : Option Value) (st : List Value) (h : pb_H) (Q : Option Value → pb_H → Prop), pb_R 61 17 [l0, l1, some .null, l3, l4, l5] [] st h Q ↔ pb_R 61 18 [l0, l1, some .null, l3, l4, l5] [] (.null :: st) h Q) ∧
  (∀ (l0 l1 l2 l4 l5 : Option Value) (st : List Value) (h : pb_H) (Q : Option Value → pb_H → Prop) (x : Int32), pb_R 61 18 [l0, l1, l2, some (.int x), l4, l5] [] st h Q ↔ pb_R 61 19 [l0, l1, l2, some (.int x), l4, l5] [] (.int x :: st) h Q) ∧
  (∀ (l0 l1 l2 l3 l4 : Option Value) (st : List Value) (h : pb_H) (Q : Option Value → pb_H → Prop) (x : Int32), pb_R 61 19 [l0, l1, l2, l3, l4, some (.int x)] [] st h Q ↔ pb_R 61 21 [l0, l1, l2, l3, l4, some (.int x)] [] (.int x :: st) h Q) ∧
  (∀ (L : pb_L) (J : pb_J) (st : List Value) (x y : Int32) (h : pb_H) (Q : Option Value → pb_H → Prop), pb_R 61 21 L J (.int y :: .int x :: st) h Q ↔ pb_R 61 22 L J (.int (x + y) :: st) h Q) ∧
  (∀ (L : pb_L) (J : pb_J) (st : List Value) (h : pb_H) (Q : Option Value → pb_H → Prop) (a : Nat) (i : Int32), pb_R 61 22 L J (.int i :: .ref a :: st) h Q ↔ pb_o (pb_ai (h.2 a) i) (fun v => pb_R 61 23 L J (.int v :: st) h Q)) ∧
  (∀ (L : pb_L) (J : pb_J) (st : List Value) (h : pb_H) (Q : Option Value → pb_H → Prop) (x y : Int32), pb_R 61 23 L J (.int y :: .int x :: st) h Q ↔ if x = y then pb_R 61 58 L J st h Q else pb_R 61 26 L J st h Q) ∧
  (∀ (l1 l2 l3 l4 l5 : Option Value) (st : List Value) (h : pb_H) (Q : Option Value → pb_H → Prop) (x : Nat), pb_R 61 26 [some (.ref x), l1, l2, l3, l4, l5] [] st h Q ↔ pb_R 61 27 [some (.ref x), l1, l2, l3, l4, l5] [] (.ref x :: st) h Q) ∧
  (∀ (l1 l2 l3 l4 l5 : Option Value) (st : List Value) (h : pb_H) (Q : Option Value → pb_H → Prop), pb_R 61 26 [some .null, l1, l2, l3, l4, l5] [] st h Q ↔ pb_R 61 27 [some .null, l1, l2, l3, l4, l5] [] (.null :: st) h Q) ∧
  (∀ (l0 l2 l3 l4 l5 : Option Value) (st : List Value) (h : pb_H) (Q : Option Value → pb_H → Prop) (x : Int32), pb_R 61 27 [l0, some (.int x), l2, l3, l4, l5] [] st h Q ↔ pb_R 61 28 [l0, some (.int x), l2, l3, l4, l5] [] (.int x :: st) h Q) ∧
  (∀ (l0 l1 l2 l3 l4 : Option Value) (st : List Value) (h : pb_H) (Q : Option Value → pb_H → Prop) (x : Int32), pb_R 61 28 [l0, l1, l2, l3, l4, some (.int x)] [] st h Q ↔ pb_R 61 30 [l0, l1, l2, l3, l4, some (.int x)] [] (.int x :: st) h Q) ∧
  (∀ (L : pb_L) (J : pb_J) (st : List Value) (x y : Int32) (h : pb_H) (Q : Option Value → pb_H → Prop), pb_R 61 30 L J (.int y :: .int x :: st) h Q ↔ pb_R 61 31 L J (.int (x + y) :: st) h Q) ∧
  (∀ (L : pb_L) (J : pb_J) (st : List Value) (h : pb_H) (Q : Option Value → pb_H → Prop) (a : Nat) (i : Int32), pb_R 61 31 L J (.int i :: .ref a :: st) h Q ↔ pb_o (pb_ai (h.2 a) i) (fun v => pb_R 61 32 L J (.int v :: st) h Q)) ∧
  (∀ (L : pb_L) (J : pb_J) (st : List Value) (x : Int32) (h : pb_H) (Q : Option Value → pb_H → Prop), pb_R 61 32 L J (.int x :: st) h Q ↔ pb_R 61 33 L J (.long x.toInt64 :: st) h Q) ∧
  (∀ (L : pb_L) (J : pb_J) (st : List Value) (h : pb_H) (Q : Option Value → pb_H → Prop), pb_R 61 33 L J st h Q ↔ pb_R 61 36 L J (.long (4294967295 : Int64) :: st) h Q) ∧
  (∀ (L : pb_L) (J : pb_J) (st : List Value) (x y : Int64) (h : pb_H) (Q : Option Value → pb_H → Prop), pb_R 61 36 L J (.long y :: .long x :: st) h Q ↔ pb_R 61 37 L J (.long (x &&& y) :: st) h Q) ∧
  (∀ (l0 l1 l3 l4 l5 : Option Value) (st : List Value) (h : pb_H) (Q : Option Value → pb_H → Prop) (x : Nat), pb_R 61 37 [l0, l1, some (.ref x), l3, l4, l5] [] st h Q ↔ pb_R 61 38 [l0, l1, some (.ref x), l3, l4, l5] [] (.ref x :: st) h Q) ∧
  (∀ (l0 l1 l3 l4 l5 : Option Value) (st : List Value) (h : pb_H) (Q : Option Value → pb_H → Prop), pb_R 61 37 [l0, l1, some .null, l3, l4, l5] [] st h Q ↔ pb_R 61 38 [l0, l1, some .null, l3, l4, l5] [] (.null :: st) h Q) ∧
  (∀ (l0 l1 l2 l4 l5 : Option Value) (st : List Value) (h : pb_H) (Q : Option Value → pb_H → Prop) (x : Int32), pb_R 61 38 [l0, l1, l2, some (.int x), l4, l5] [] st h Q ↔ pb_R 61 39 [l0, l1, l2, some (.int x), l4, l5] [] (.int x :: st) h Q) ∧
  (∀ (l0 l1 l2 l3 l4 : Option Value) (st : List Value) (h : pb_H) (Q : Option Value → pb_H → Prop) (x : Int32), pb_R 61 39 [l0, l1, l2, l3, l4, some (.int x)] [] st h Q ↔ pb_R 61 41 [l0, l1, l2, l3, l4, some (.int x)] [] (.int x :: st) h Q) ∧
  (∀ (L : pb_L) (J : pb_J) (st : List Value) (x y : Int32) (h : pb_H) (Q : Option Value → pb_H → Prop), pb_R 61 41 L J (.int y :: .int x :: st) h Q ↔ pb_R 61 42 L J (.int (x + y) :: st) h Q) ∧
  (∀ (L : pb_L) (J : pb_J) (st : List Value) (h : pb_H) (Q : Option Value → pb_H → Prop) (a : Nat) (i : Int32), pb_R 61 42 L J (.int i :: .ref a :: st) h Q ↔ pb_o (pb_ai (h.2 a) i) (fun v => pb_R 61 43 L J (.int v :: st) h Q)) ∧
  (∀ (L : pb_L) (J : pb_J) (st : List Value) (x : Int32) (h : pb_H) (Q : Option Value → pb_H → Prop), pb_R 61 43 L J (.int x :: st) h Q ↔ pb_R 61 44 L J (.long x.toInt64 :: st) h Q) ∧
  (∀ (L : pb_L) (J : pb_J) (st : List Value) (h : pb_H) (Q : Option Value → pb_H → Prop), pb_R 61 44 L J st h Q ↔ pb_R 61 47 L J (.long (4294967295 : Int64) :: st) h Q) ∧
  (∀ (L : pb_L) (J : pb_J) (st : List Value) (x y : Int64) (h : pb_H) (Q : Option Value → pb_H → Prop), pb_R 61 47 L J (.long y :: .long x :: st) h Q ↔ pb_R 61 48 L J (.long (x &&& y) :: st) h Q) ∧
  (∀ (L : pb_L) (J : pb_J) (st : List Value) (x y : Int64) (h : pb_H) (Q : Option Value → pb_H → Prop), pb_R 61 48 L J (.long y :: .long x :: st) h Q ↔ pb_R 61 49 L J (.int (lg_cmp x y) :: st) h Q) ∧
  (∀ (L : pb_L) (J : pb_J) (st : List Value) (h : pb_H) (Q : Option Value → pb_H → Prop) (x : Int32), pb_R 61 49 L J (.int x :: st) h Q ↔ if 0 ≤ x then pb_R 61 56 L J st h Q else pb_R 61 52 L J st h Q) ∧
  (∀ (L : pb_L) (J : pb_J) (st : List Value) (h : pb_H) (Q : Option Value → pb_H → Prop), pb_R 61 52 L J st h Q ↔ pb_R 61 53 L J (.int (-1 : Int32) :: st) h Q) ∧
  (∀ (L : pb_L) (J : pb_J) (st : List Value) (h : pb_H) (Q : Option Value → pb_H → Prop), pb_R 61 53 L J st h Q ↔ pb_R 61 57 L J st h Q) ∧
  (∀ (L : pb_L) (J : pb_J) (st : List Value) (h : pb_H) (Q : Option Value → pb_H → Prop), pb_R 61 56 L J st h Q ↔ pb_R 61 57 L J (.int (1 : Int32) :: st) h Q) ∧
  (∀ (L : pb_L) (J : pb_J) (h : pb_H) (Q : Option Value → pb_H → Prop) (x : Int32), pb_R 61 57 L J [.int x] h Q ↔ Q (some (.int x)) h) ∧
  (∀ (l0 l1 l2 l3 l4 : Option Value) (st : List Value) (h : pb_H) (Q : Option Value → pb_H → Prop) (x : Int32), pb_R 61 58 [l0, l1, l2, l3, l4, some (.int x)] [] st h Q ↔ pb_R 61 61 [l0, l1, l2, l3, l4, some (.int (x + (-1 : Int32)))] [] st h Q) ∧
  (∀ (L : pb_L) (J : pb_J) (st : List Value) (h : pb_H) (Q : Option Value → pb_H → Prop), pb_R 61 61 L J st h Q ↔ pb_R 61 6 L J st h Q) ∧
  (∀ (L : pb_L) (J : pb_J) (st : List Value) (h : pb_H) (Q : Option Value → pb_H → Prop), pb_R 61 64 L J st h Q ↔ pb_R 61 65 L J (.int (0 : Int32) :: st) h Q) ∧
  (∀ (L : pb_L) (J : pb_J) (h : pb_H) (Q : Option Value → pb_H → Prop) (x : Int32), pb_R 61 65 L J [.int x] h Q ↔ Q (some (.int x)) h) := ⟨
  fun l0 l1 l2 l3 l5 st h Q x => pf_S pb_u_61 rfl rfl,
  fun L J st h Q => pf_S pb_u_61 rfl rfl,
  fun L J st x y h Q => pf_S pb_u_61 rfl rfl,
  fun l0 l1 l2 l3 l4 l5 st h Q x => pf_S pb_u_61 rfl rfl,
  fun L J st h Q x => pf_ii pb_u_61 rfl rfl rfl,
  fun l1 l2 l3 l4 l5 st h Q x => pf_S pb_u_61 rfl rfl,
  fun l1 l2 l3 l4 l5 st h Q => pf_S pb_u_61 rfl rfl,
  fun l0 l2 l3 l4 l5 st h Q x => pf_S pb_u_61 rfl rfl,
  fun l0 l1 l2 l3 l4 st h Q x => pf_S pb_u_61 rfl rfl,
  fun L J st x y h Q => pf_S pb_u_61 rfl rfl,
  fun L J st h Q a i => pf_ai pb_u_61 rfl rfl,
  fun l0 l1 l3 l4 l5 st h Q x => pf_S pb_u_61 rfl rfl,
  fun l0 l1 l3 l4 l5 st h Q => pf_S pb_u_61 rfl rfl,
  fun l0 l1 l2 l4 l5 st h Q x => pf_S pb_u_61 rfl rfl,
  fun l0 l1 l2 l3 l4 st h Q x => pf_S pb_u_61 rfl rfl,
  fun L J st x y h Q => pf_S pb_u_61 rfl rfl,
  fun L J st h Q a i => pf_ai pb_u_61 rfl rfl,
  fun L J st h Q x y => pf_ic pb_u_61 rfl rfl rfl,
  fun l1 l2 l3 l4 l5 st h Q x => pf_S pb_u_61 rfl rfl,
  fun l1 l2 l3 l4 l5 st h Q => pf_S pb_u_61 rfl rfl,
  fun l0 l2 l3 l4 l5 st h Q x => pf_S pb_u_61 rfl rfl,
  fun l0 l1 l2 l3 l4 st h Q x => pf_S pb_u_61 rfl rfl,
  fun L J st x y h Q => pf_S pb_u_61 rfl rfl,
  fun L J st h Q a i => pf_ai pb_u_61 rfl rfl,
  fun L J st x h Q => pf_S pb_u_61 rfl rfl,
  fun L J st h Q => pf_S pb_u_61 rfl rfl,
  fun L J st x y h Q => pf_S pb_u_61 rfl rfl,
  fun l0 l1 l3 l4 l5 st h Q x => pf_S pb_u_61 rfl rfl,
  fun l0 l1 l3 l4 l5 st h Q => pf_S pb_u_61 rfl rfl,
  fun l0 l1 l2 l4 l5 st h Q x => pf_S pb_u_61 rfl rfl,
  fun l0 l1 l2 l3 l4 st h Q x => pf_S pb_u_61 rfl rfl,
  fun L J st x y h Q => pf_S pb_u_61 rfl rfl,
  fun L J st h Q a i => pf_ai pb_u_61 rfl rfl,
  fun L J st x h Q => pf_S pb_u_61 rfl rfl,
  fun L J st h Q => pf_S pb_u_61 rfl rfl,
  fun L J st x y h Q => pf_S pb_u_61 rfl rfl,
  fun L J st x y h Q => pf_S pb_u_61 rfl rfl,
  fun L J st h Q x => pf_ii pb_u_61 rfl rfl rfl,
  fun L J st h Q => pf_S pb_u_61 rfl rfl,
  fun L J st h Q => pf_S pb_u_61 rfl rfl,
  fun L J st h Q => pf_S pb_u_61 rfl rfl,
  fun L J h Q x => pf_ri pb_u_61 rfl rfl,
  fun l0 l1 l2 l3 l4 st h Q x => pf_S pb_u_61 rfl rfl,
  fun L J st h Q => pf_S pb_u_61 rfl rfl,
  fun L J st h Q => pf_S pb_u_61 rfl rfl,
  fun L J h Q x => pf_ri pb_u_61 rfl rfl⟩
theorem pb_c61 (x0 : Nat) (x1 : Int32) (x2 : Nat) (x3 : Int32) (x4 : Int32) (h : pb_H) (Q : Option Value → pb_H → Prop) : pb_call 61 [.ref x0, .int x1, .ref x2, .int x3, .int x4] h Q ↔ pb_R 61 0 [some (.ref x0), some (.int x1), some (.ref x2), some (.int x3), some (.int x4), none] [] [] h Q := Iff.rfl
/-! 62: PlaneBench$Wide.negate([II)V -/
theorem pb_u_62 : pb_t 62 = pb_t62 := rfl
set_option maxRecDepth 100000 in
theorem pb_q62_5 (l0 l1 l2 l3 : Option Value) (j0 j1 j2 j3 j4 : Option Int64) (st : List Value) (h : pb_H) (Q : Option Value → pb_H → Prop) (x : Int32) : pb_R 62 5 [l0, l1, l2, l3, some (.int x)] [j0, j1, j2, j3, j4] st h Q ↔ pb_R 62 7 [l0, l1, l2, l3, some (.int x)] [j0, j1, j2, j3, j4] (.int x :: st) h Q := pf_S pb_u_62 rfl rfl
set_option maxRecDepth 100000 in
theorem pb_e62 : (∀ (L : pb_L) (J : pb_J) (st : List Value) (h : pb_H) (Q : Option Value → pb_H → Prop), pb_R 62 0 L J st h Q ↔ pb_R 62 1 L J (.long (1 : Int64) :: st) h Q) ∧
  (∀ (l0 l1 l2 l3 l4 : Option Value) (j0 j1 j2 j3 j4 : Option Int64) (st : List Value) (h : pb_H) (Q : Option Value → pb_H → Prop) (x : Int64), pb_R 62 1 [l0, l1, l2, l3, l4] [j0, j1, j2, j3, j4] (.long x :: st) h Q ↔ pb_R 62 2 [l0, l1, none, none, l4] [j0, none, some x, none, j4] st h Q) ∧
  (∀ (L : pb_L) (J : pb_J) (st : List Value) (h : pb_H) (Q : Option Value → pb_H → Prop), pb_R 62 2 L J st h Q ↔ pb_R 62 3 L J (.int (0 : Int32) :: st) h Q) ∧
  (∀ (l0 l1 l2 l3 l4 : Option Value) (j0 j1 j2 j3 j4 : Option Int64) (st : List Value) (h : pb_H) (Q : Option Value → pb_H → Prop) (x : Int32), pb_R 62 3 [l0, l1, l2, l3, l4] [j0, j1, j2, j3, j4] (.int x :: st) h Q ↔ pb_R 62 5 [l0, l1, l2, l3, some (.int x)] [j0, j1, j2, none, none] st h Q) ∧
  (∀ (L : pb_L) (J : pb_J) (st : List Value) (h : pb_H) (Q : Option Value → pb_H → Prop), pb_R 62 7 L J st h Q ↔ pb_R 62 9 L J (.int (8 : Int32) :: st) h Q) ∧
  (∀ (L : pb_L) (J : pb_J) (st : List Value) (h : pb_H) (Q : Option Value → pb_H → Prop) (x y : Int32), pb_R 62 9 L J (.int y :: .int x :: st) h Q ↔ if y ≤ x then pb_R 62 47 L J st h Q else pb_R 62 12 L J st h Q) ∧
  (∀ (l0 l1 l2 l3 l4 : Option Value) (j0 j1 j3 j4 : Option Int64) (st : List Value) (h : pb_H) (Q : Option Value → pb_H → Prop) (x : Int64), pb_R 62 12 [l0, l1, l2, l3, l4] [j0, j1, some x, j3, j4] st h Q ↔ pb_R 62 13 [l0, l1, l2, l3, l4] [j0, j1, some x, j3, j4] (.long x :: st) h Q) ∧
  (∀ (l1 l2 l3 l4 : Option Value) (j0 j1 j2 j3 j4 : Option Int64) (st : List Value) (h : pb_H) (Q : Option Value → pb_H → Prop) (x : Nat), pb_R 62 13 [some (.ref x), l1, l2, l3, l4] [j0, j1, j2, j3, j4] st h Q ↔ pb_R 62 14 [some (.ref x), l1, l2, l3, l4] [j0, j1, j2, j3, j4] (.ref x :: st) h Q) ∧
  (∀ (l1 l2 l3 l4 : Option Value) (j0 j1 j2 j3 j4 : Option Int64) (st : List Value) (h : pb_H) (Q : Option Value → pb_H → Prop), pb_R 62 13 [some .null, l1, l2, l3, l4] [j0, j1, j2, j3, j4] st h Q ↔ pb_R 62 14 [some .null, l1, l2, l3, l4] [j0, j1, j2, j3, j4] (.null :: st) h Q) ∧
  (∀ (l0 l2 l3 l4 : Option Value) (j0 j1 j2 j3 j4 : Option Int64) (st : List Value) (h : pb_H) (Q : Option Value → pb_H → Prop) (x : Int32), pb_R 62 14 [l0, some (.int x), l2, l3, l4] [j0, j1, j2, j3, j4] st h Q ↔ pb_R 62 15 [l0, some (.int x), l2, l3, l4] [j0, j1, j2, j3, j4] (.int x :: st) h Q) ∧
  (∀ (l0 l1 l2 l3 : Option Value) (j0 j1 j2 j3 j4 : Option Int64) (st : List Value) (h : pb_H) (Q : Option Value → pb_H → Prop) (x : Int32), pb_R 62 15 [l0, l1, l2, l3, some (.int x)] [j0, j1, j2, j3, j4] st h Q ↔ pb_R 62 17 [l0, l1, l2, l3, some (.int x)] [j0, j1, j2, j3, j4] (.int x :: st) h Q) ∧
  (∀ (L : pb_L) (J : pb_J) (st : List Value) (x y : Int32) (h : pb_H) (Q : Option Value → pb_H → Prop), pb_R 62 17 L J (.int y :: .int x :: st) h Q ↔ pb_R 62 18 L J (.int (x + y) :: st) h Q) ∧
  (∀ (L : pb_L) (J : pb_J) (st : List Value) (h : pb_H) (Q : Option Value → pb_H → Prop) (a : Nat) (i : Int32), pb_R 62 18 L J (.int i :: .ref a :: st) h Q ↔ pb_o (pb_ai (h.2 a) i) (fun v => pb_R 62 19 L J (.int v :: st) h Q)) ∧
  (∀ (L : pb_L) (J : pb_J) (st : List Value) (h : pb_H) (Q : Option Value → pb_H → Prop), pb_R 62 19 L J st h Q ↔ pb_R 62 20 L J (.int (-1 : Int32) :: st) h Q) ∧
  (∀ (L : pb_L) (J : pb_J) (st : List Value) (x y : Int32) (h : pb_H) (Q : Option Value → pb_H → Prop), pb_R 62 20 L J (.int y :: .int x :: st) h Q ↔ pb_R 62 21 L J (.int (x ^^^ y) :: st) h Q) ∧
  (∀ (L : pb_L) (J : pb_J) (st : List Value) (x : Int32) (h : pb_H) (Q : Option Value → pb_H → Prop), pb_R 62 21 L J (.int x :: st) h Q ↔ pb_R 62 22 L J (.long x.toInt64 :: st) h Q) ∧
  (∀ (L : pb_L) (J : pb_J) (st : List Value) (h : pb_H) (Q : Option Value → pb_H → Prop), pb_R 62 22 L J st h Q ↔ pb_R 62 25 L J (.long (4294967295 : Int64) :: st) h Q) ∧
  (∀ (L : pb_L) (J : pb_J) (st : List Value) (x y : Int64) (h : pb_H) (Q : Option Value → pb_H → Prop), pb_R 62 25 L J (.long y :: .long x :: st) h Q ↔ pb_R 62 26 L J (.long (x &&& y) :: st) h Q) ∧
  (∀ (L : pb_L) (J : pb_J) (st : List Value) (x y : Int64) (h : pb_H) (Q : Option Value → pb_H → Prop), pb_R 62 26 L J (.long y :: .long x :: st) h Q ↔ pb_R 62 27 L J (.long (x + y) :: st) h Q) ∧
  (∀ (l0 l1 l2 l3 l4 : Option Value) (j0 j1 j2 j3 j4 : Option Int64) (st : List Value) (h : pb_H) (Q : Option Value → pb_H → Prop) (x : Int64), pb_R 62 27 [l0, l1, l2, l3, l4] [j0, j1, j2, j3, j4] (.long x :: st) h Q ↔ pb_R 62 28 [l0, l1, none, none, l4] [j0, none, some x, none, j4] st h Q) ∧
  (∀ (l1 l2 l3 l4 : Option Value) (j0 j1 j2 j3 j4 : Option Int64) (st : List Value) (h : pb_H) (Q : Option Value → pb_H → Prop) (x : Nat), pb_R 62 28 [some (.ref x), l1, l2, l3, l4] [j0, j1, j2, j3, j4] st h Q ↔ pb_R 62 29 [some (.ref x), l1, l2, l3, l4] [j0, j1, j2, j3, j4] (.ref x :: st) h Q) ∧
  (∀ (l1 l2 l3 l4 : Option Value) (j0 j1 j2 j3 j4 : Option Int64) (st : List Value) (h : pb_H) (Q : Option Value → pb_H → Prop), pb_R 62 28 [some .null, l1, l2, l3, l4] [j0, j1, j2, j3, j4] st h Q ↔ pb_R 62 29 [some .null, l1, l2, l3, l4] [j0, j1, j2, j3, j4] (.null :: st) h Q) ∧
  (∀ (l0 l2 l3 l4 : Option Value) (j0 j1 j2 j3 j4 : Option Int64) (st : List Value) (h : pb_H) (Q : Option Value → pb_H → Prop) (x : Int32), pb_R 62 29 [l0, some (.int x), l2, l3, l4] [j0, j1, j2, j3, j4] st h Q ↔ pb_R 62 30 [l0, some (.int x), l2, l3, l4] [j0, j1, j2, j3, j4] (.int x :: st) h Q) ∧
  (∀ (l0 l1 l2 l3 : Option Value) (j0 j1 j2 j3 j4 : Option Int64) (st : List Value) (h : pb_H) (Q : Option Value → pb_H → Prop) (x : Int32), pb_R 62 30 [l0, l1, l2, l3, some (.int x)] [j0, j1, j2, j3, j4] st h Q ↔ pb_R 62 32 [l0, l1, l2, l3, some (.int x)] [j0, j1, j2, j3, j4] (.int x :: st) h Q) ∧
  (∀ (L : pb_L) (J : pb_J) (st : List Value) (x y : Int32) (h : pb_H) (Q : Option Value → pb_H → Prop), pb_R 62 32 L J (.int y :: .int x :: st) h Q ↔ pb_R 62 33 L J (.int (x + y) :: st) h Q) ∧
  (∀ (l0 l1 l2 l3 l4 : Option Value) (j0 j1 j3 j4 : Option Int64) (st : List Value) (h : pb_H) (Q : Option Value → pb_H → Prop) (x : Int64), pb_R 62 33 [l0, l1, l2, l3, l4] [j0, j1, some x, j3, j4] st h Q ↔ pb_R 62 34 [l0, l1, l2, l3, l4] [j0, j1, some x, j3, j4] (.long x :: st) h Q) ∧
  (∀ (L : pb_L) (J : pb_J) (st : List Value) (x : Int64) (h : pb_H) (Q : Option Value → pb_H → Prop), pb_R 62 34 L J (.long x :: st) h Q ↔ pb_R 62 35 L J (.int x.toInt32 :: st) h Q) ∧
  (∀ (L : pb_L) (J : pb_J) (st : List Value) (h : pb_H) (Q : Option Value → pb_H → Prop) (a : Nat) (i x : Int32), pb_R 62 35 L J (.int x :: .int i :: .ref a :: st) h Q ↔ pb_o (pb_si (h.2 a) i x) (fun c => pb_R 62 36 L J st (pb_set h a c) Q)) ∧
  (∀ (l0 l1 l2 l3 l4 : Option Value) (j0 j1 j3 j4 : Option Int64) (st : List Value) (h : pb_H) (Q : Option Value → pb_H → Prop) (x : Int64), pb_R 62 36 [l0, l1, l2, l3, l4] [j0, j1, some x, j3, j4] st h Q ↔ pb_R 62 37 [l0, l1, l2, l3, l4] [j0, j1, some x, j3, j4] (.long x :: st) h Q) ∧
  (∀ (L : pb_L) (J : pb_J) (st : List Value) (h : pb_H) (Q : Option Value → pb_H → Prop), pb_R 62 37 L J st h Q ↔ pb_R 62 39 L J (.int (32 : Int32) :: st) h Q) ∧
  (∀ (L : pb_L) (J : pb_J) (st : List Value) (x : Int64) (y : Int32) (h : pb_H) (Q : Option Value → pb_H → Prop), pb_R 62 39 L J (.int y :: .long x :: st) h Q ↔ pb_R 62 40 L J (.long (x.toUInt64 >>> (y.toInt64.toUInt64 &&& Int64.toUInt64 63)).toInt64 :: st) h Q) ∧
  (∀ (l0 l1 l2 l3 l4 : Option Value) (j0 j1 j2 j3 j4 : Option Int64) (st : List Value) (h : pb_H) (Q : Option Value → pb_H → Prop) (x : Int64), pb_R 62 40 [l0, l1, l2, l3, l4] [j0, j1, j2, j3, j4] (.long x :: st) h Q ↔ pb_R 62 41 [l0, l1, none, none, l4] [j0, none, some x, none, j4] st h Q) ∧
  (∀ (l0 l1 l2 l3 : Option Value) (j0 j1 j2 j3 j4 : Option Int64) (st : List Value) (h : pb_H) (Q : Option Value → pb_H → Prop) (x : Int32), pb_R 62 41 [l0, l1, l2, l3, some (.int x)] [j0, j1, j2, j3, j4] st h Q ↔ pb_R 62 44 [l0, l1, l2, l3, some (.int (x + (1 : Int32)))] [j0, j1, j2, none, none] st h Q) ∧
  (∀ (L : pb_L) (J : pb_J) (st : List Value) (h : pb_H) (Q : Option Value → pb_H → Prop), pb_R 62 44 L J st h Q ↔ pb_R 62 5 L J st h Q) ∧
  (∀ (L : pb_L) (J : pb_J) (h : pb_H) (Q : Option Value → pb_H → Prop), pb_R 62 47 L J [] h Q ↔ Q none h) := ⟨
  fun L J st h Q => pf_S pb_u_62 rfl rfl,
  fun l0 l1 l2 l3 l4 j0 j1 j2 j3 j4 st h Q x => pf_S pb_u_62 rfl rfl,
  fun L J st h Q => pf_S pb_u_62 rfl rfl,
  fun l0 l1 l2 l3 l4 j0 j1 j2 j3 j4 st h Q x => pf_S pb_u_62 rfl rfl,
  fun L J st h Q => pf_S pb_u_62 rfl rfl,
  fun L J st h Q x y => pf_ic pb_u_62 rfl rfl rfl,
  fun l0 l1 l2 l3 l4 j0 j1 j3 j4 st h Q x => pf_S pb_u_62 rfl rfl,
  fun l1 l2 l3 l4 j0 j1 j2 j3 j4 st h Q x => pf_S pb_u_62 rfl rfl,
  fun l1 l2 l3 l4 j0 j1 j2 j3 j4 st h Q => pf_S pb_u_62 rfl rfl,
  fun l0 l2 l3 l4 j0 j1 j2 j3 j4 st h Q x => pf_S pb_u_62 rfl rfl,
  fun l0 l1 l2 l3 j0 j1 j2 j3 j4 st h Q x => pf_S pb_u_62 rfl rfl,
  fun L J st x y h Q => pf_S pb_u_62 rfl rfl,
  fun L J st h Q a i => pf_ai pb_u_62 rfl rfl,
  fun L J st h Q => pf_S pb_u_62 rfl rfl,
  fun L J st x y h Q => pf_S pb_u_62 rfl rfl,
  fun L J st x h Q => pf_S pb_u_62 rfl rfl,
  fun L J st h Q => pf_S pb_u_62 rfl rfl,
  fun L J st x y h Q => pf_S pb_u_62 rfl rfl,
  fun L J st x y h Q => pf_S pb_u_62 rfl rfl,
  fun l0 l1 l2 l3 l4 j0 j1 j2 j3 j4 st h Q x => pf_S pb_u_62 rfl rfl,
  fun l1 l2 l3 l4 j0 j1 j2 j3 j4 st h Q x => pf_S pb_u_62 rfl rfl,
  fun l1 l2 l3 l4 j0 j1 j2 j3 j4 st h Q => pf_S pb_u_62 rfl rfl,
  fun l0 l2 l3 l4 j0 j1 j2 j3 j4 st h Q x => pf_S pb_u_62 rfl rfl,
  fun l0 l1 l2 l3 j0 j1 j2 j3 j4 st h Q x => pf_S pb_u_62 rfl rfl,
  fun L J st x y h Q => pf_S pb_u_62 rfl rfl,
  fun l0 l1 l2 l3 l4 j0 j1 j3 j4 st h Q x => pf_S pb_u_62 rfl rfl,
  fun L J st x h Q => pf_S pb_u_62 rfl rfl,
  fun L J st h Q a i x => pf_si pb_u_62 rfl rfl,
  fun l0 l1 l2 l3 l4 j0 j1 j3 j4 st h Q x => pf_S pb_u_62 rfl rfl,
  fun L J st h Q => pf_S pb_u_62 rfl rfl,
  fun L J st x y h Q => pf_S pb_u_62 rfl rfl,
  fun l0 l1 l2 l3 l4 j0 j1 j2 j3 j4 st h Q x => pf_S pb_u_62 rfl rfl,
  fun l0 l1 l2 l3 j0 j1 j2 j3 j4 st h Q x => pf_S pb_u_62 rfl rfl,
  fun L J st h Q => pf_S pb_u_62 rfl rfl,
  fun L J h Q => pf_rv pb_u_62 rfl rfl⟩
theorem pb_c62 (x0 : Nat) (x1 : Int32) (h : pb_H) (Q : Option Value → pb_H → Prop) : pb_call 62 [.ref x0, .int x1] h Q ↔ pb_R 62 0 [some (.ref x0), some (.int x1), none, none, none] [none, none, none, none, none] [] h Q := Iff.rfl
/-! 63: PlaneBench$Line.cancel(LPlaneBench$Line;III)I -/
theorem pb_u_63 : pb_t 63 = pb_t63 := rfl
theorem pb_ci_63 : pb_ci 63 = 4 := by decide +kernel
set_option maxRecDepth 100000 in
theorem pb_e63 : (∀ (l0 l1 l3 l4 l5 l6 l7 : Option Value) (st : List Value) (h : pb_H) (Q : Option Value → pb_H → Prop) (x : Int32), pb_R 63 0 [l0, l1, some (.int x), l3, l4, l5, l6, l7] [] st h Q ↔ pb_R 63 1 [l0, l1, some (.int x), l3, l4, l5, l6, l7] [] (.int x :: st) h Q) ∧
  (∀ (L : pb_L) (J : pb_J) (st : List Value) (h : pb_H) (Q : Option Value → pb_H → Prop), pb_R 63 1 L J st h Q ↔ pb_R 63 3 L J (.int (8 : Int32) :: st) h Q) ∧
  (∀ (L : pb_L) (J : pb_J) (st : List Value) (x y : Int32) (h : pb_H) (Q : Option Value → pb_H → Prop), pb_R 63 3 L J (.int y :: .int x :: st) h Q ↔ pb_R 63 4 L J (.int (x * y) :: st) h Q) ∧
  (∀ (l0 l1 l2 l3 l4 l5 l6 l7 : Option Value) (st : List Value) (h : pb_H) (Q : Option Value → pb_H → Prop) (x : Int32), pb_R 63 4 [l0, l1, l2, l3, l4, l5, l6, l7] [] (.int x :: st) h Q ↔ pb_R 63 6 [l0, l1, l2, l3, l4, some (.int x), l6, l7] [] st h Q) ∧
  (∀ (l1 l2 l3 l4 l5 l6 l7 : Option Value) (st : List Value) (h : pb_H) (Q : Option Value → pb_H → Prop) (x : Nat), pb_R 63 6 [some (.ref x), l1, l2, l3, l4, l5, l6, l7] [] st h Q ↔ pb_R 63 7 [some (.ref x), l1, l2, l3, l4, l5, l6, l7] [] (.ref x :: st) h Q) ∧
  (∀ (l1 l2 l3 l4 l5 l6 l7 : Option Value) (st : List Value) (h : pb_H) (Q : Option Value → pb_H → Prop), pb_R 63 6 [some .null, l1, l2, l3, l4, l5, l6, l7] [] st h Q ↔ pb_R 63 7 [some .null, l1, l2, l3, l4, l5, l6, l7] [] (.null :: st) h Q) ∧
  (∀ (L : pb_L) (J : pb_J) (st : List Value) (h : pb_H) (Q : Option Value → pb_H → Prop) (a : Nat), pb_R 63 7 L J (.ref a :: st) h Q ↔ pb_o (pb_gf (h.2 a) 4 1) (fun v => pb_R 63 10 L J (v :: st) h Q)) ∧
  (∀ (l0 l1 l2 l3 l4 l6 l7 : Option Value) (st : List Value) (h : pb_H) (Q : Option Value → pb_H → Prop) (x : Int32), pb_R 63 10 [l0, l1, l2, l3, l4, some (.int x), l6, l7] [] st h Q ↔ pb_R 63 12 [l0, l1, l2, l3, l4, some (.int x), l6, l7] [] (.int x :: st) h Q) ∧
  (∀ (l0 l2 l3 l4 l5 l6 l7 : Option Value) (st : List Value) (h : pb_H) (Q : Option Value → pb_H → Prop) (x : Nat), pb_R 63 12 [l0, some (.ref x), l2, l3, l4, l5, l6, l7] [] st h Q ↔ pb_R 63 13 [l0, some (.ref x), l2, l3, l4, l5, l6, l7] [] (.ref x :: st) h Q) ∧
  (∀ (l0 l2 l3 l4 l5 l6 l7 : Option Value) (st : List Value) (h : pb_H) (Q : Option Value → pb_H → Prop), pb_R 63 12 [l0, some .null, l2, l3, l4, l5, l6, l7] [] st h Q ↔ pb_R 63 13 [l0, some .null, l2, l3, l4, l5, l6, l7] [] (.null :: st) h Q) ∧
  (∀ (L : pb_L) (J : pb_J) (st : List Value) (h : pb_H) (Q : Option Value → pb_H → Prop) (a : Nat), pb_R 63 13 L J (.ref a :: st) h Q ↔ pb_o (pb_gf (h.2 a) 4 1) (fun v => pb_R 63 16 L J (v :: st) h Q)) ∧
  (∀ (l0 l1 l2 l3 l4 l6 l7 : Option Value) (st : List Value) (h : pb_H) (Q : Option Value → pb_H → Prop) (x : Int32), pb_R 63 16 [l0, l1, l2, l3, l4, some (.int x), l6, l7] [] st h Q ↔ pb_R 63 18 [l0, l1, l2, l3, l4, some (.int x), l6, l7] [] (.int x :: st) h Q) ∧
  (∀ (l0 l1 l2 l3 l5 l6 l7 : Option Value) (st : List Value) (h : pb_H) (Q : Option Value → pb_H → Prop) (x : Int32), pb_R 63 18 [l0, l1, l2, l3, some (.int x), l5, l6, l7] [] st h Q ↔ pb_R 63 20 [l0, l1, l2, l3, some (.int x), l5, l6, l7] [] (.int x :: st) h Q) ∧
  (∀ (L : pb_L) (J : pb_J) (h : pb_H) (Q : Option Value → pb_H → Prop) (x0 : Int32) (x1 : Int32) (x2 : Nat) (x3 : Int32) (x4 : Nat), pb_R 63 20 L J [.int x0, .int x1, .ref x2, .int x3, .ref x4] h Q ↔ pb_call 61 [.ref x4, .int x3, .ref x2, .int x1, .int x0] h (fun v t => pb_R 63 23 L J (v.toList ++ []) t Q)) ∧
  (∀ (l0 l1 l2 l3 l4 l5 l6 l7 : Option Value) (st : List Value) (h : pb_H) (Q : Option Value → pb_H → Prop) (x : Int32), pb_R 63 23 [l0, l1, l2, l3, l4, l5, l6, l7] [] (.int x :: st) h Q ↔ pb_R 63 25 [l0, l1, l2, l3, l4, l5, some (.int x), l7] [] st h Q) ∧
  (∀ (l0 l1 l2 l3 l4 l5 l7 : Option Value) (st : List Value) (h : pb_H) (Q : Option Value → pb_H → Prop) (x : Int32), pb_R 63 25 [l0, l1, l2, l3, l4, l5, some (.int x), l7] [] st h Q ↔ pb_R 63 27 [l0, l1, l2, l3, l4, l5, some (.int x), l7] [] (.int x :: st) h Q) ∧
  (∀ (L : pb_L) (J : pb_J) (st : List Value) (h : pb_H) (Q : Option Value → pb_H → Prop) (x : Int32), pb_R 63 27 L J (.int x :: st) h Q ↔ if x < 0 then pb_R 63 66 L J st h Q else pb_R 63 30 L J st h Q) ∧
  (∀ (l1 l2 l3 l4 l5 l6 l7 : Option Value) (st : List Value) (h : pb_H) (Q : Option Value → pb_H → Prop) (x : Nat), pb_R 63 30 [some (.ref x), l1, l2, l3, l4, l5, l6, l7] [] st h Q ↔ pb_R 63 31 [some (.ref x), l1, l2, l3, l4, l5, l6, l7] [] (.ref x :: st) h Q) ∧
  (∀ (l1 l2 l3 l4 l5 l6 l7 : Option Value) (st : List Value) (h : pb_H) (Q : Option Value → pb_H → Prop), pb_R 63 30 [some .null, l1, l2, l3, l4, l5, l6, l7] [] st h Q ↔ pb_R 63 31 [some .null, l1, l2, l3, l4, l5, l6, l7] [] (.null :: st) h Q) ∧
  (∀ (l0 l2 l3 l4 l5 l6 l7 : Option Value) (st : List Value) (h : pb_H) (Q : Option Value → pb_H → Prop) (x : Nat), pb_R 63 31 [l0, some (.ref x), l2, l3, l4, l5, l6, l7] [] st h Q ↔ pb_R 63 32 [l0, some (.ref x), l2, l3, l4, l5, l6, l7] [] (.ref x :: st) h Q) ∧
  (∀ (l0 l2 l3 l4 l5 l6 l7 : Option Value) (st : List Value) (h : pb_H) (Q : Option Value → pb_H → Prop), pb_R 63 31 [l0, some .null, l2, l3, l4, l5, l6, l7] [] st h Q ↔ pb_R 63 32 [l0, some .null, l2, l3, l4, l5, l6, l7] [] (.null :: st) h Q) ∧
  (∀ (L : pb_L) (J : pb_J) (st : List Value) (h : pb_H) (Q : Option Value → pb_H → Prop) (a : Nat), pb_R 63 32 L J (.ref a :: st) h Q ↔ pb_o (pb_gf (h.2 a) 4 1) (fun v => pb_R 63 35 L J (v :: st) h Q)) ∧
  (∀ (l0 l1 l2 l3 l4 l6 l7 : Option Value) (st : List Value) (h : pb_H) (Q : Option Value → pb_H → Prop) (x : Int32), pb_R 63 35 [l0, l1, l2, l3, l4, some (.int x), l6, l7] [] st h Q ↔ pb_R 63 37 [l0, l1, l2, l3, l4, some (.int x), l6, l7] [] (.int x :: st) h Q) ∧
  (∀ (l0 l1 l2 l4 l5 l6 l7 : Option Value) (st : List Value) (h : pb_H) (Q : Option Value → pb_H → Prop) (x : Int32), pb_R 63 37 [l0, l1, l2, some (.int x), l4, l5, l6, l7] [] st h Q ↔ pb_R 63 38 [l0, l1, l2, some (.int x), l4, l5, l6, l7] [] (.int x :: st) h Q) ∧
  (∀ (l0 l1 l2 l3 l5 l6 l7 : Option Value) (st : List Value) (h : pb_H) (Q : Option Value → pb_H → Prop) (x : Int32), pb_R 63 38 [l0, l1, l2, l3, some (.int x), l5, l6, l7] [] st h Q ↔ pb_R 63 40 [l0, l1, l2, l3, some (.int x), l5, l6, l7] [] (.int x :: st) h Q) ∧
  (∀ (L : pb_L) (J : pb_J) (h : pb_H) (Q : Option Value → pb_H → Prop) (x0 : Int32) (x1 : Int32) (x2 : Int32) (x3 : Nat) (x4 : Nat), pb_R 63 40 L J [.int x0, .int x1, .int x2, .ref x3, .ref x4] h Q ↔ pb_is0 (h.2 x4) 4 = true ∧ pb_call 53 [.ref x4, .ref x3, .int x2, .int x1, .int x0] h (fun v t => pb_R 63 43 L J (v.toList ++ []) t Q)) ∧
  (∀ (l0 l1 l2 l3 l4 l5 l6 l7 : Option Value) (st : List Value) (h : pb_H) (Q : Option Value → pb_H → Prop) (x : Int32), pb_R 63 43 [l0, l1, l2, l3, l4, l5, l6, l7] [] (.int x :: st) h Q ↔ pb_R 63 45 [l0, l1, l2, l3, l4, l5, l6, some (.int x)] [] st h Q) ∧
  (∀ (l1 l2 l3 l4 l5 l6 l7 : Option Value) (st : List Value) (h : pb_H) (Q : Option Value → pb_H → Prop) (x : Nat), pb_R 63 45 [some (.ref x), l1, l2, l3, l4, l5, l6, l7] [] st h Q ↔ pb_R 63 46 [some (.ref x), l1, l2, l3, l4, l5, l6, l7] [] (.ref x :: st) h Q) ∧
  (∀ (l1 l2 l3 l4 l5 l6 l7 : Option Value) (st : List Value) (h : pb_H) (Q : Option Value → pb_H → Prop), pb_R 63 45 [some .null, l1, l2, l3, l4, l5, l6, l7] [] st h Q ↔ pb_R 63 46 [some .null, l1, l2, l3, l4, l5, l6, l7] [] (.null :: st) h Q) ∧
  (∀ (L : pb_L) (J : pb_J) (st : List Value) (h : pb_H) (Q : Option Value → pb_H → Prop) (a : Nat), pb_R 63 46 L J (.ref a :: st) h Q ↔ pb_o (pb_gf (h.2 a) 4 1) (fun v => pb_R 63 49 L J (v :: st) h Q)) ∧
  (∀ (l0 l1 l2 l3 l4 l6 l7 : Option Value) (st : List Value) (h : pb_H) (Q : Option Value → pb_H → Prop) (x : Int32), pb_R 63 49 [l0, l1, l2, l3, l4, some (.int x), l6, l7] [] st h Q ↔ pb_R 63 51 [l0, l1, l2, l3, l4, some (.int x), l6, l7] [] (.int x :: st) h Q) ∧
  (∀ (l0 l2 l3 l4 l5 l6 l7 : Option Value) (st : List Value) (h : pb_H) (Q : Option Value → pb_H → Prop) (x : Nat), pb_R 63 51 [l0, some (.ref x), l2, l3, l4, l5, l6, l7] [] st h Q ↔ pb_R 63 52 [l0, some (.ref x), l2, l3, l4, l5, l6, l7] [] (.ref x :: st) h Q) ∧
  (∀ (l0 l2 l3 l4 l5 l6 l7 : Option Value) (st : List Value) (h : pb_H) (Q : Option Value → pb_H → Prop), pb_R 63 51 [l0, some .null, l2, l3, l4, l5, l6, l7] [] st h Q ↔ pb_R 63 52 [l0, some .null, l2, l3, l4, l5, l6, l7] [] (.null :: st) h Q) ∧
  (∀ (L : pb_L) (J : pb_J) (st : List Value) (h : pb_H) (Q : Option Value → pb_H → Prop) (a : Nat), pb_R 63 52 L J (.ref a :: st) h Q ↔ pb_o (pb_gf (h.2 a) 4 1) (fun v => pb_R 63 55 L J (v :: st) h Q)) ∧
  (∀ (l0 l1 l2 l3 l4 l6 l7 : Option Value) (st : List Value) (h : pb_H) (Q : Option Value → pb_H → Prop) (x : Int32), pb_R 63 55 [l0, l1, l2, l3, l4, some (.int x), l6, l7] [] st h Q ↔ pb_R 63 57 [l0, l1, l2, l3, l4, some (.int x), l6, l7] [] (.int x :: st) h Q) ∧
  (∀ (l0 l1 l2 l3 l5 l6 l7 : Option Value) (st : List Value) (h : pb_H) (Q : Option Value → pb_H → Prop) (x : Int32), pb_R 63 57 [l0, l1, l2, l3, some (.int x), l5, l6, l7] [] st h Q ↔ pb_R 63 59 [l0, l1, l2, l3, some (.int x), l5, l6, l7] [] (.int x :: st) h Q) ∧
  (∀ (L : pb_L) (J : pb_J) (h : pb_H) (Q : Option Value → pb_H → Prop) (x0 : Int32) (x1 : Int32) (x2 : Nat) (x3 : Int32) (x4 : Nat), pb_R 63 59 L J [.int x0, .int x1, .ref x2, .int x3, .ref x4] h Q ↔ pb_call 51 [.ref x4, .int x3, .ref x2, .int x1, .int x0] h (fun v t => pb_R 63 62 L J (v.toList ++ []) t Q)) ∧
  (∀ (L : pb_L) (J : pb_J) (st : List Value) (x : Int32) (h : pb_H) (Q : Option Value → pb_H → Prop), pb_R 63 62 L J (.int x :: st) h Q ↔ pb_R 63 63 L J st h Q) ∧
  (∀ (L : pb_L) (J : pb_J) (st : List Value) (h : pb_H) (Q : Option Value → pb_H → Prop), pb_R 63 63 L J st h Q ↔ pb_R 63 118 L J st h Q) ∧
  (∀ (l1 l2 l3 l4 l5 l6 l7 : Option Value) (st : List Value) (h : pb_H) (Q : Option Value → pb_H → Prop) (x : Nat), pb_R 63 66 [some (.ref x), l1, l2, l3, l4, l5, l6, l7] [] st h Q ↔ pb_R 63 67 [some (.ref x), l1, l2, l3, l4, l5, l6, l7] [] (.ref x :: st) h Q) ∧
  (∀ (l1 l2 l3 l4 l5 l6 l7 : Option Value) (st : List Value) (h : pb_H) (Q : Option Value → pb_H → Prop), pb_R 63 66 [some .null, l1, l2, l3, l4, l5, l6, l7] [] st h Q ↔ pb_R 63 67 [some .null, l1, l2, l3, l4, l5, l6, l7] [] (.null :: st) h Q) ∧
  (∀ (l1 l2 l3 l4 l5 l6 l7 : Option Value) (st : List Value) (h : pb_H) (Q : Option Value → pb_H → Prop) (x : Nat), pb_R 63 67 [some (.ref x), l1, l2, l3, l4, l5, l6, l7] [] st h Q ↔ pb_R 63 68 [some (.ref x), l1, l2, l3, l4, l5, l6, l7] [] (.ref x :: st) h Q) ∧
  (∀ (l1 l2 l3 l4 l5 l6 l7 : Option Value) (st : List Value) (h : pb_H) (Q : Option Value → pb_H → Prop), pb_R 63 67 [some .null, l1, l2, l3, l4, l5, l6, l7] [] st h Q ↔ pb_R 63 68 [some .null, l1, l2, l3, l4, l5, l6, l7] [] (.null :: st) h Q) ∧
  (∀ (L : pb_L) (J : pb_J) (st : List Value) (h : pb_H) (Q : Option Value → pb_H → Prop) (a : Nat), pb_R 63 68 L J (.ref a :: st) h Q ↔ pb_o (pb_gf (h.2 a) 4 1) (fun v => pb_R 63 71 L J (v :: st) h Q)) ∧
  (∀ (l0 l1 l2 l3 l4 l6 l7 : Option Value) (st : List Value) (h : pb_H) (Q : Option Value → pb_H → Prop) (x : Int32), pb_R 63 71 [l0, l1, l2, l3, l4, some (.int x), l6, l7] [] st h Q ↔ pb_R 63 73 [l0, l1, l2, l3, l4, some (.int x), l6, l7] [] (.int x :: st) h Q) ∧
  (∀ (l0 l1 l2 l4 l5 l6 l7 : Option Value) (st : List Value) (h : pb_H) (Q : Option Value → pb_H → Prop) (x : Int32), pb_R 63 73 [l0, l1, l2, some (.int x), l4, l5, l6, l7] [] st h Q ↔ pb_R 63 74 [l0, l1, l2, some (.int x), l4, l5, l6, l7] [] (.int x :: st) h Q) ∧
  (∀ (l0 l1 l2 l3 l5 l6 l7 : Option Value) (st : List Value) (h : pb_H) (Q : Option Value → pb_H → Prop) (x : Int32), pb_R 63 74 [l0, l1, l2, l3, some (.int x), l5, l6, l7] [] st h Q ↔ pb_R 63 76 [l0, l1, l2, l3, some (.int x), l5, l6, l7] [] (.int x :: st) h Q) ∧
  (∀ (L : pb_L) (J : pb_J) (h : pb_H) (Q : Option Value → pb_H → Prop) (x0 : Int32) (x1 : Int32) (x2 : Int32) (x3 : Nat) (x4 : Nat), pb_R 63 76 L J [.int x0, .int x1, .int x2, .ref x3, .ref x4] h Q ↔ pb_is0 (h.2 x4) 4 = true ∧ pb_call 53 [.ref x4, .ref x3, .int x2, .int x1, .int x0] h (fun v t => pb_R 63 79 L J (v.toList ++ []) t Q)) ∧
  (∀ (l0 l1 l2 l3 l4 l5 l6 l7 : Option Value) (st : List Value) (h : pb_H) (Q : Option Value → pb_H → Prop) (x : Int32), pb_R 63 79 [l0, l1, l2, l3, l4, l5, l6, l7] [] (.int x :: st) h Q ↔ pb_R 63 81 [l0, l1, l2, l3, l4, l5, l6, some (.int x)] [] st h Q) ∧
  (∀ (l1 l2 l3 l4 l5 l6 l7 : Option Value) (st : List Value) (h : pb_H) (Q : Option Value → pb_H → Prop) (x : Nat), pb_R 63 81 [some (.ref x), l1, l2, l3, l4, l5, l6, l7] [] st h Q ↔ pb_R 63 82 [some (.ref x), l1, l2, l3, l4, l5, l6, l7] [] (.ref x :: st) h Q) ∧
  (∀ (l1 l2 l3 l4 l5 l6 l7 : Option Value) (st : List Value) (h : pb_H) (Q : Option Value → pb_H → Prop), pb_R 63 81 [some .null, l1, l2, l3, l4, l5, l6, l7] [] st h Q ↔ pb_R 63 82 [some .null, l1, l2, l3, l4, l5, l6, l7] [] (.null :: st) h Q) ∧
  (∀ (L : pb_L) (J : pb_J) (st : List Value) (h : pb_H) (Q : Option Value → pb_H → Prop) (a : Nat), pb_R 63 82 L J (.ref a :: st) h Q ↔ pb_o (pb_gf (h.2 a) 4 1) (fun v => pb_R 63 85 L J (v :: st) h Q)) ∧
  (∀ (l0 l1 l2 l3 l4 l6 l7 : Option Value) (st : List Value) (h : pb_H) (Q : Option Value → pb_H → Prop) (x : Int32), pb_R 63 85 [l0, l1, l2, l3, l4, some (.int x), l6, l7] [] st h Q ↔ pb_R 63 87 [l0, l1, l2, l3, l4, some (.int x), l6, l7] [] (.int x :: st) h Q) ∧
  (∀ (l0 l2 l3 l4 l5 l6 l7 : Option Value) (st : List Value) (h : pb_H) (Q : Option Value → pb_H → Prop) (x : Nat), pb_R 63 87 [l0, some (.ref x), l2, l3, l4, l5, l6, l7] [] st h Q ↔ pb_R 63 88 [l0, some (.ref x), l2, l3, l4, l5, l6, l7] [] (.ref x :: st) h Q) ∧
  (∀ (l0 l2 l3 l4 l5 l6 l7 : Option Value) (st : List Value) (h : pb_H) (Q : Option Value → pb_H → Prop), pb_R 63 87 [l0, some .null, l2, l3, l4, l5, l6, l7] [] st h Q ↔ pb_R 63 88 [l0, some .null, l2, l3, l4, l5, l6, l7] [] (.null :: st) h Q) ∧
  (∀ (L : pb_L) (J : pb_J) (st : List Value) (h : pb_H) (Q : Option Value → pb_H → Prop) (a : Nat), pb_R 63 88 L J (.ref a :: st) h Q ↔ pb_o (pb_gf (h.2 a) 4 1) (fun v => pb_R 63 91 L J (v :: st) h Q)) ∧
  (∀ (l0 l1 l2 l3 l4 l6 l7 : Option Value) (st : List Value) (h : pb_H) (Q : Option Value → pb_H → Prop) (x : Int32), pb_R 63 91 [l0, l1, l2, l3, l4, some (.int x), l6, l7] [] st h Q ↔ pb_R 63 93 [l0, l1, l2, l3, l4, some (.int x), l6, l7] [] (.int x :: st) h Q) ∧
  (∀ (L : pb_L) (J : pb_J) (st : List Value) (h : pb_H) (Q : Option Value → pb_H → Prop), pb_R 63 93 L J st h Q ↔ pb_R 63 95 L J (.int (8 : Int32) :: st) h Q) ∧
  (∀ (L : pb_L) (J : pb_J) (h : pb_H) (Q : Option Value → pb_H → Prop) (x0 : Int32) (x1 : Int32) (x2 : Nat) (x3 : Int32) (x4 : Nat), pb_R 63 95 L J [.int x0, .int x1, .ref x2, .int x3, .ref x4] h Q ↔ pb_call 51 [.ref x4, .int x3, .ref x2, .int x1, .int x0] h (fun v t => pb_R 63 98 L J (v.toList ++ []) t Q)) ∧
  (∀ (L : pb_L) (J : pb_J) (st : List Value) (x : Int32) (h : pb_H) (Q : Option Value → pb_H → Prop), pb_R 63 98 L J (.int x :: st) h Q ↔ pb_R 63 99 L J st h Q) ∧
  (∀ (l1 l2 l3 l4 l5 l6 l7 : Option Value) (st : List Value) (h : pb_H) (Q : Option Value → pb_H → Prop) (x : Nat), pb_R 63 99 [some (.ref x), l1, l2, l3, l4, l5, l6, l7] [] st h Q ↔ pb_R 63 100 [some (.ref x), l1, l2, l3, l4, l5, l6, l7] [] (.ref x :: st) h Q) ∧
  (∀ (l1 l2 l3 l4 l5 l6 l7 : Option Value) (st : List Value) (h : pb_H) (Q : Option Value → pb_H → Prop), pb_R 63 99 [some .null, l1, l2, l3, l4, l5, l6, l7] [] st h Q ↔ pb_R 63 100 [some .null, l1, l2, l3, l4, l5, l6, l7] [] (.null :: st) h Q) ∧
  (∀ (L : pb_L) (J : pb_J) (st : List Value) (h : pb_H) (Q : Option Value → pb_H → Prop) (a : Nat), pb_R 63 100 L J (.ref a :: st) h Q ↔ pb_o (pb_gf (h.2 a) 4 1) (fun v => pb_R 63 103 L J (v :: st) h Q)) ∧
  (∀ (l0 l1 l2 l3 l4 l6 l7 : Option Value) (st : List Value) (h : pb_H) (Q : Option Value → pb_H → Prop) (x : Int32), pb_R 63 103 [l0, l1, l2, l3, l4, some (.int x), l6, l7] [] st h Q ↔ pb_R 63 105 [l0, l1, l2, l3, l4, some (.int x), l6, l7] [] (.int x :: st) h Q) ∧
  (∀ (L : pb_L) (J : pb_J) (h : pb_H) (Q : Option Value → pb_H → Prop) (x0 : Int32) (x1 : Nat), pb_R 63 105 L J [.int x0, .ref x1] h Q ↔ pb_call 62 [.ref x1, .int x0] h (fun v t => pb_R 63 108 L J (v.toList ++ []) t Q)) ∧
  (∀ (l1 l2 l3 l4 l5 l6 l7 : Option Value) (st : List Value) (h : pb_H) (Q : Option Value → pb_H → Prop) (x : Nat), pb_R 63 108 [some (.ref x), l1, l2, l3, l4, l5, l6, l7] [] st h Q ↔ pb_R 63 109 [some (.ref x), l1, l2, l3, l4, l5, l6, l7] [] (.ref x :: st) h Q) ∧
  (∀ (l1 l2 l3 l4 l5 l6 l7 : Option Value) (st : List Value) (h : pb_H) (Q : Option Value → pb_H → Prop), pb_R 63 108 [some .null, l1, l2, l3, l4, l5, l6, l7] [] st h Q ↔ pb_R 63 109 [some .null, l1, l2, l3, l4, l5, l6, l7] [] (.null :: st) h Q) ∧
  (∀ (l0 l1 l3 l4 l5 l6 l7 : Option Value) (st : List Value) (h : pb_H) (Q : Option Value → pb_H → Prop) (x : Int32), pb_R 63 109 [l0, l1, some (.int x), l3, l4, l5, l6, l7] [] st h Q ↔ pb_R 63 110 [l0, l1, some (.int x), l3, l4, l5, l6, l7] [] (.int x :: st) h Q) ∧
  (∀ (l0 l2 l3 l4 l5 l6 l7 : Option Value) (st : List Value) (h : pb_H) (Q : Option Value → pb_H → Prop) (x : Nat), pb_R 63 110 [l0, some (.ref x), l2, l3, l4, l5, l6, l7] [] st h Q ↔ pb_R 63 111 [l0, some (.ref x), l2, l3, l4, l5, l6, l7] [] (.ref x :: st) h Q) ∧
  (∀ (l0 l2 l3 l4 l5 l6 l7 : Option Value) (st : List Value) (h : pb_H) (Q : Option Value → pb_H → Prop), pb_R 63 110 [l0, some .null, l2, l3, l4, l5, l6, l7] [] st h Q ↔ pb_R 63 111 [l0, some .null, l2, l3, l4, l5, l6, l7] [] (.null :: st) h Q) ∧
  (∀ (l0 l1 l3 l4 l5 l6 l7 : Option Value) (st : List Value) (h : pb_H) (Q : Option Value → pb_H → Prop) (x : Int32), pb_R 63 111 [l0, l1, some (.int x), l3, l4, l5, l6, l7] [] st h Q ↔ pb_R 63 112 [l0, l1, some (.int x), l3, l4, l5, l6, l7] [] (.int x :: st) h Q) ∧
  (∀ (L : pb_L) (J : pb_J) (h : pb_H) (Q : Option Value → pb_H → Prop) (x0 : Int32) (x1 : Nat) (x2 : Int32) (x3 : Nat), pb_R 63 112 L J [.int x0, .ref x1, .int x2, .ref x3] h Q ↔ pb_is0 (h.2 x1) 4 = true ∧ pb_call 60 [.ref x1, .int x0] h (fun v t => pb_R 63 115 L J (v.toList ++ [.int x2, .ref x3]) t Q)) ∧
  (∀ (L : pb_L) (J : pb_J) (h : pb_H) (Q : Option Value → pb_H → Prop) (x0 : Int32) (x1 : Int32) (x2 : Nat), pb_R 63 115 L J [.int x0, .int x1, .ref x2] h Q ↔ pb_is0 (h.2 x2) 4 = true ∧ pb_call 54 [.ref x2, .int x1, .int x0] h (fun v t => pb_R 63 118 L J (v.toList ++ []) t Q)) ∧
  (∀ (l0 l1 l2 l3 l4 l5 l7 : Option Value) (st : List Value) (h : pb_H) (Q : Option Value → pb_H → Prop) (x : Int32), pb_R 63 118 [l0, l1, l2, l3, l4, l5, some (.int x), l7] [] st h Q ↔ pb_R 63 120 [l0, l1, l2, l3, l4, l5, some (.int x), l7] [] (.int x :: st) h Q) ∧
  (∀ (L : pb_L) (J : pb_J) (st : List Value) (h : pb_H) (Q : Option Value → pb_H → Prop) (x : Int32), pb_R 63 120 L J (.int x :: st) h Q ↔ if ¬ x = 0 then pb_R 63 129 L J st h Q else pb_R 63 123 L J st h Q) ∧
  (∀ (l1 l2 l3 l4 l5 l6 l7 : Option Value) (st : List Value) (h : pb_H) (Q : Option Value → pb_H → Prop) (x : Nat), pb_R 63 123 [some (.ref x), l1, l2, l3, l4, l5, l6, l7] [] st h Q ↔ pb_R 63 124 [some (.ref x), l1, l2, l3, l4, l5, l6, l7] [] (.ref x :: st) h Q) ∧
  (∀ (l1 l2 l3 l4 l5 l6 l7 : Option Value) (st : List Value) (h : pb_H) (Q : Option Value → pb_H → Prop), pb_R 63 123 [some .null, l1, l2, l3, l4, l5, l6, l7] [] st h Q ↔ pb_R 63 124 [some .null, l1, l2, l3, l4, l5, l6, l7] [] (.null :: st) h Q) ∧
  (∀ (l0 l1 l3 l4 l5 l6 l7 : Option Value) (st : List Value) (h : pb_H) (Q : Option Value → pb_H → Prop) (x : Int32), pb_R 63 124 [l0, l1, some (.int x), l3, l4, l5, l6, l7] [] st h Q ↔ pb_R 63 125 [l0, l1, some (.int x), l3, l4, l5, l6, l7] [] (.int x :: st) h Q) ∧
  (∀ (L : pb_L) (J : pb_J) (st : List Value) (h : pb_H) (Q : Option Value → pb_H → Prop), pb_R 63 125 L J st h Q ↔ pb_R 63 126 L J (.int (0 : Int32) :: st) h Q) ∧
  (∀ (L : pb_L) (J : pb_J) (h : pb_H) (Q : Option Value → pb_H → Prop) (x0 : Int32) (x1 : Int32) (x2 : Nat), pb_R 63 126 L J [.int x0, .int x1, .ref x2] h Q ↔ pb_is0 (h.2 x2) 4 = true ∧ pb_call 54 [.ref x2, .int x1, .int x0] h (fun v t => pb_R 63 129 L J (v.toList ++ []) t Q)) ∧
  (∀ (l0 l1 l2 l3 l4 l5 l6 : Option Value) (st : List Value) (h : pb_H) (Q : Option Value → pb_H → Prop) (x : Int32), pb_R 63 129 [l0, l1, l2, l3, l4, l5, l6, some (.int x)] [] st h Q ↔ pb_R 63 131 [l0, l1, l2, l3, l4, l5, l6, some (.int x)] [] (.int x :: st) h Q) ∧
  (∀ (L : pb_L) (J : pb_J) (h : pb_H) (Q : Option Value → pb_H → Prop) (x : Int32), pb_R 63 131 L J [.int x] h Q ↔ Q (some (.int x)) h) := ⟨
  fun l0 l1 l3 l4 l5 l6 l7 st h Q x => pf_S pb_u_63 rfl rfl,
  fun L J st h Q => pf_S pb_u_63 rfl rfl,
  fun L J st x y h Q => pf_S pb_u_63 rfl rfl,
  fun l0 l1 l2 l3 l4 l5 l6 l7 st h Q x => pf_S pb_u_63 rfl rfl,
  fun l1 l2 l3 l4 l5 l6 l7 st h Q x => pf_S pb_u_63 rfl rfl,
  fun l1 l2 l3 l4 l5 l6 l7 st h Q => pf_S pb_u_63 rfl rfl,
  fun L J st h Q a => pf_gf pb_u_63 rfl rfl,
  fun l0 l1 l2 l3 l4 l6 l7 st h Q x => pf_S pb_u_63 rfl rfl,
  fun l0 l2 l3 l4 l5 l6 l7 st h Q x => pf_S pb_u_63 rfl rfl,
  fun l0 l2 l3 l4 l5 l6 l7 st h Q => pf_S pb_u_63 rfl rfl,
  fun L J st h Q a => pf_gf pb_u_63 rfl rfl,
  fun l0 l1 l2 l3 l4 l6 l7 st h Q x => pf_S pb_u_63 rfl rfl,
  fun l0 l1 l2 l3 l5 l6 l7 st h Q x => pf_S pb_u_63 rfl rfl,
  fun L J h Q x0 x1 x2 x3 x4 => pf_ks pb_u_63 rfl rfl rfl rfl,
  fun l0 l1 l2 l3 l4 l5 l6 l7 st h Q x => pf_S pb_u_63 rfl rfl,
  fun l0 l1 l2 l3 l4 l5 l7 st h Q x => pf_S pb_u_63 rfl rfl,
  fun L J st h Q x => pf_ii pb_u_63 rfl rfl rfl,
  fun l1 l2 l3 l4 l5 l6 l7 st h Q x => pf_S pb_u_63 rfl rfl,
  fun l1 l2 l3 l4 l5 l6 l7 st h Q => pf_S pb_u_63 rfl rfl,
  fun l0 l2 l3 l4 l5 l6 l7 st h Q x => pf_S pb_u_63 rfl rfl,
  fun l0 l2 l3 l4 l5 l6 l7 st h Q => pf_S pb_u_63 rfl rfl,
  fun L J st h Q a => pf_gf pb_u_63 rfl rfl,
  fun l0 l1 l2 l3 l4 l6 l7 st h Q x => pf_S pb_u_63 rfl rfl,
  fun l0 l1 l2 l4 l5 l6 l7 st h Q x => pf_S pb_u_63 rfl rfl,
  fun l0 l1 l2 l3 l5 l6 l7 st h Q x => pf_S pb_u_63 rfl rfl,
  fun L J h Q x0 x1 x2 x3 x4 => pf_kv pb_u_63 rfl pb_ci_53 rfl ⟨Nat.le_of_ble_eq_true rfl, Nat.le_of_ble_eq_true rfl, Nat.le_of_ble_eq_true rfl, Nat.le_of_ble_eq_true rfl, rfl⟩ rfl rfl,
  fun l0 l1 l2 l3 l4 l5 l6 l7 st h Q x => pf_S pb_u_63 rfl rfl,
  fun l1 l2 l3 l4 l5 l6 l7 st h Q x => pf_S pb_u_63 rfl rfl,
  fun l1 l2 l3 l4 l5 l6 l7 st h Q => pf_S pb_u_63 rfl rfl,
  fun L J st h Q a => pf_gf pb_u_63 rfl rfl,
  fun l0 l1 l2 l3 l4 l6 l7 st h Q x => pf_S pb_u_63 rfl rfl,
  fun l0 l2 l3 l4 l5 l6 l7 st h Q x => pf_S pb_u_63 rfl rfl,
  fun l0 l2 l3 l4 l5 l6 l7 st h Q => pf_S pb_u_63 rfl rfl,
  fun L J st h Q a => pf_gf pb_u_63 rfl rfl,
  fun l0 l1 l2 l3 l4 l6 l7 st h Q x => pf_S pb_u_63 rfl rfl,
  fun l0 l1 l2 l3 l5 l6 l7 st h Q x => pf_S pb_u_63 rfl rfl,
  fun L J h Q x0 x1 x2 x3 x4 => pf_ks pb_u_63 rfl rfl rfl rfl,
  fun L J st x h Q => pf_S pb_u_63 rfl rfl,
  fun L J st h Q => pf_S pb_u_63 rfl rfl,
  fun l1 l2 l3 l4 l5 l6 l7 st h Q x => pf_S pb_u_63 rfl rfl,
  fun l1 l2 l3 l4 l5 l6 l7 st h Q => pf_S pb_u_63 rfl rfl,
  fun l1 l2 l3 l4 l5 l6 l7 st h Q x => pf_S pb_u_63 rfl rfl,
  fun l1 l2 l3 l4 l5 l6 l7 st h Q => pf_S pb_u_63 rfl rfl,
  fun L J st h Q a => pf_gf pb_u_63 rfl rfl,
  fun l0 l1 l2 l3 l4 l6 l7 st h Q x => pf_S pb_u_63 rfl rfl,
  fun l0 l1 l2 l4 l5 l6 l7 st h Q x => pf_S pb_u_63 rfl rfl,
  fun l0 l1 l2 l3 l5 l6 l7 st h Q x => pf_S pb_u_63 rfl rfl,
  fun L J h Q x0 x1 x2 x3 x4 => pf_kv pb_u_63 rfl pb_ci_53 rfl ⟨Nat.le_of_ble_eq_true rfl, Nat.le_of_ble_eq_true rfl, Nat.le_of_ble_eq_true rfl, Nat.le_of_ble_eq_true rfl, rfl⟩ rfl rfl,
  fun l0 l1 l2 l3 l4 l5 l6 l7 st h Q x => pf_S pb_u_63 rfl rfl,
  fun l1 l2 l3 l4 l5 l6 l7 st h Q x => pf_S pb_u_63 rfl rfl,
  fun l1 l2 l3 l4 l5 l6 l7 st h Q => pf_S pb_u_63 rfl rfl,
  fun L J st h Q a => pf_gf pb_u_63 rfl rfl,
  fun l0 l1 l2 l3 l4 l6 l7 st h Q x => pf_S pb_u_63 rfl rfl,
  fun l0 l2 l3 l4 l5 l6 l7 st h Q x => pf_S pb_u_63 rfl rfl,
  fun l0 l2 l3 l4 l5 l6 l7 st h Q => pf_S pb_u_63 rfl rfl,
  fun L J st h Q a => pf_gf pb_u_63 rfl rfl,
  fun l0 l1 l2 l3 l4 l6 l7 st h Q x => pf_S pb_u_63 rfl rfl,
  fun L J st h Q => pf_S pb_u_63 rfl rfl,
  fun L J h Q x0 x1 x2 x3 x4 => pf_ks pb_u_63 rfl rfl rfl rfl,
  fun L J st x h Q => pf_S pb_u_63 rfl rfl,
  fun l1 l2 l3 l4 l5 l6 l7 st h Q x => pf_S pb_u_63 rfl rfl,
  fun l1 l2 l3 l4 l5 l6 l7 st h Q => pf_S pb_u_63 rfl rfl,
  fun L J st h Q a => pf_gf pb_u_63 rfl rfl,
  fun l0 l1 l2 l3 l4 l6 l7 st h Q x => pf_S pb_u_63 rfl rfl,
  fun L J h Q x0 x1 => pf_ks pb_u_63 rfl rfl rfl rfl,
  fun l1 l2 l3 l4 l5 l6 l7 st h Q x => pf_S pb_u_63 rfl rfl,
  fun l1 l2 l3 l4 l5 l6 l7 st h Q => pf_S pb_u_63 rfl rfl,
  fun l0 l1 l3 l4 l5 l6 l7 st h Q x => pf_S pb_u_63 rfl rfl,
  fun l0 l2 l3 l4 l5 l6 l7 st h Q x => pf_S pb_u_63 rfl rfl,
  fun l0 l2 l3 l4 l5 l6 l7 st h Q => pf_S pb_u_63 rfl rfl,
  fun l0 l1 l3 l4 l5 l6 l7 st h Q x => pf_S pb_u_63 rfl rfl,
  fun L J h Q x0 x1 x2 x3 => pf_kv pb_u_63 rfl pb_ci_60 rfl ⟨Nat.le_of_ble_eq_true rfl, Nat.le_of_ble_eq_true rfl, Nat.le_of_ble_eq_true rfl, Nat.le_of_ble_eq_true rfl, rfl⟩ rfl rfl,
  fun L J h Q x0 x1 x2 => pf_kv pb_u_63 rfl pb_ci_54 rfl ⟨Nat.le_of_ble_eq_true rfl, Nat.le_of_ble_eq_true rfl, Nat.le_of_ble_eq_true rfl, Nat.le_of_ble_eq_true rfl, rfl⟩ rfl rfl,
  fun l0 l1 l2 l3 l4 l5 l7 st h Q x => pf_S pb_u_63 rfl rfl,
  fun L J st h Q x => pf_ii pb_u_63 rfl rfl pf_ne,
  fun l1 l2 l3 l4 l5 l6 l7 st h Q x => pf_S pb_u_63 rfl rfl,
  fun l1 l2 l3 l4 l5 l6 l7 st h Q => pf_S pb_u_63 rfl rfl,
  fun l0 l1 l3 l4 l5 l6 l7 st h Q x => pf_S pb_u_63 rfl rfl,
  fun L J st h Q => pf_S pb_u_63 rfl rfl,
  fun L J h Q x0 x1 x2 => pf_kv pb_u_63 rfl pb_ci_54 rfl ⟨Nat.le_of_ble_eq_true rfl, Nat.le_of_ble_eq_true rfl, Nat.le_of_ble_eq_true rfl, Nat.le_of_ble_eq_true rfl, rfl⟩ rfl rfl,
  fun l0 l1 l2 l3 l4 l5 l6 st h Q x => pf_S pb_u_63 rfl rfl,
  fun L J h Q x => pf_ri pb_u_63 rfl rfl⟩
theorem pb_c63 (x0 : Nat) (x1 : Nat) (x2 : Int32) (x3 : Int32) (x4 : Int32) (h : pb_H) (Q : Option Value → pb_H → Prop) : pb_call 63 [.ref x0, .ref x1, .int x2, .int x3, .int x4] h Q ↔ pb_R 63 0 [some (.ref x0), some (.ref x1), some (.int x2), some (.int x3), some (.int x4), none, none, none] [] [] h Q := Iff.rfl
/-! 64: PlaneBench$Line.add(LPlaneBench$Line;)Z -/
theorem pb_u_64 : pb_t 64 = pb_t64 := rfl
theorem pb_ci_64 : pb_ci 64 = 4 := by decide +kernel
set_option maxRecDepth 100000 in
theorem pb_q64_40 (l0 l1 l2 l3 l4 l6 l7 : Option Value) (st : List Value) (h : pb_H) (Q : Option Value → pb_H → Prop) (x : Int32) : pb_R 64 40 [l0, l1, l2, l3, l4, some (.int x), l6, l7] [] st h Q ↔ pb_R 64 42 [l0, l1, l2, l3, l4, some (.int x), l6, l7] [] (.int x :: st) h Q := pf_S pb_u_64 rfl rfl
set_option maxRecDepth 100000 in
theorem pb_e64 : (∀ (L : pb_L) (J : pb_J) (st : List Value) (h : pb_H) (Q : Option Value → pb_H → Prop), pb_R 64 0 L J st h Q ↔ pb_R 64 2 L J (.int (8 : Int32) :: st) h Q) ∧
  (∀ (l1 l2 l3 l4 l5 l6 l7 : Option Value) (st : List Value) (h : pb_H) (Q : Option Value → pb_H → Prop) (x : Nat), pb_R 64 2 [some (.ref x), l1, l2, l3, l4, l5, l6, l7] [] st h Q ↔ pb_R 64 3 [some (.ref x), l1, l2, l3, l4, l5, l6, l7] [] (.ref x :: st) h Q) ∧
  (∀ (l1 l2 l3 l4 l5 l6 l7 : Option Value) (st : List Value) (h : pb_H) (Q : Option Value → pb_H → Prop), pb_R 64 2 [some .null, l1, l2, l3, l4, l5, l6, l7] [] st h Q ↔ pb_R 64 3 [some .null, l1, l2, l3, l4, l5, l6, l7] [] (.null :: st) h Q) ∧
  (∀ (L : pb_L) (J : pb_J) (st : List Value) (h : pb_H) (Q : Option Value → pb_H → Prop) (a : Nat), pb_R 64 3 L J (.ref a :: st) h Q ↔ pb_o (pb_gf (h.2 a) 4 4) (fun v => pb_R 64 6 L J (v :: st) h Q)) ∧
  (∀ (l0 l2 l3 l4 l5 l6 l7 : Option Value) (st : List Value) (h : pb_H) (Q : Option Value → pb_H → Prop) (x : Nat), pb_R 64 6 [l0, some (.ref x), l2, l3, l4, l5, l6, l7] [] st h Q ↔ pb_R 64 7 [l0, some (.ref x), l2, l3, l4, l5, l6, l7] [] (.ref x :: st) h Q) ∧
  (∀ (l0 l2 l3 l4 l5 l6 l7 : Option Value) (st : List Value) (h : pb_H) (Q : Option Value → pb_H → Prop), pb_R 64 6 [l0, some .null, l2, l3, l4, l5, l6, l7] [] st h Q ↔ pb_R 64 7 [l0, some .null, l2, l3, l4, l5, l6, l7] [] (.null :: st) h Q) ∧
  (∀ (L : pb_L) (J : pb_J) (st : List Value) (h : pb_H) (Q : Option Value → pb_H → Prop) (a : Nat), pb_R 64 7 L J (.ref a :: st) h Q ↔ pb_o (pb_gf (h.2 a) 4 4) (fun v => pb_R 64 10 L J (v :: st) h Q)) ∧
  (∀ (L : pb_L) (J : pb_J) (h : pb_H) (Q : Option Value → pb_H → Prop) (x0 : Int32) (x1 : Int32) (x2 : Int32), pb_R 64 10 L J [.int x0, .int x1, .int x2] h Q ↔ pb_R 64 13 L J [.int (if x1 < x0 then x0 else x1), .int x2] h Q) ∧
  (∀ (L : pb_L) (J : pb_J) (st : List Value) (h : pb_H) (Q : Option Value → pb_H → Prop), pb_R 64 13 L J st h Q ↔ pb_R 64 14 L J (.int (1 : Int32) :: st) h Q) ∧
  (∀ (L : pb_L) (J : pb_J) (st : List Value) (x y : Int32) (h : pb_H) (Q : Option Value → pb_H → Prop), pb_R 64 14 L J (.int y :: .int x :: st) h Q ↔ pb_R 64 15 L J (.int (x + y) :: st) h Q) ∧
  (∀ (L : pb_L) (J : pb_J) (h : pb_H) (Q : Option Value → pb_H → Prop) (x0 : Int32) (x1 : Int32), pb_R 64 15 L J [.int x0, .int x1] h Q ↔ pb_R 64 18 L J [.int (if x0 < x1 then x0 else x1)] h Q) ∧
  (∀ (l0 l1 l2 l3 l4 l5 l6 l7 : Option Value) (st : List Value) (h : pb_H) (Q : Option Value → pb_H → Prop) (x : Int32), pb_R 64 18 [l0, l1, l2, l3, l4, l5, l6, l7] [] (.int x :: st) h Q ↔ pb_R 64 19 [l0, l1, some (.int x), l3, l4, l5, l6, l7] [] st h Q) ∧
  (∀ (l1 l2 l3 l4 l5 l6 l7 : Option Value) (st : List Value) (h : pb_H) (Q : Option Value → pb_H → Prop) (x : Nat), pb_R 64 19 [some (.ref x), l1, l2, l3, l4, l5, l6, l7] [] st h Q ↔ pb_R 64 20 [some (.ref x), l1, l2, l3, l4, l5, l6, l7] [] (.ref x :: st) h Q) ∧
  (∀ (l1 l2 l3 l4 l5 l6 l7 : Option Value) (st : List Value) (h : pb_H) (Q : Option Value → pb_H → Prop), pb_R 64 19 [some .null, l1, l2, l3, l4, l5, l6, l7] [] st h Q ↔ pb_R 64 20 [some .null, l1, l2, l3, l4, l5, l6, l7] [] (.null :: st) h Q) ∧
  (∀ (L : pb_L) (J : pb_J) (st : List Value) (h : pb_H) (Q : Option Value → pb_H → Prop) (a : Nat), pb_R 64 20 L J (.ref a :: st) h Q ↔ pb_o (pb_gf (h.2 a) 4 1) (fun v => pb_R 64 23 L J (v :: st) h Q)) ∧
  (∀ (L : pb_L) (J : pb_J) (st : List Value) (h : pb_H) (Q : Option Value → pb_H → Prop), pb_R 64 23 L J st h Q ↔ pb_R 64 24 L J (.int (0 : Int32) :: st) h Q) ∧
  (∀ (l0 l2 l3 l4 l5 l6 l7 : Option Value) (st : List Value) (h : pb_H) (Q : Option Value → pb_H → Prop) (x : Nat), pb_R 64 24 [l0, some (.ref x), l2, l3, l4, l5, l6, l7] [] st h Q ↔ pb_R 64 25 [l0, some (.ref x), l2, l3, l4, l5, l6, l7] [] (.ref x :: st) h Q) ∧
  (∀ (l0 l2 l3 l4 l5 l6 l7 : Option Value) (st : List Value) (h : pb_H) (Q : Option Value → pb_H → Prop), pb_R 64 24 [l0, some .null, l2, l3, l4, l5, l6, l7] [] st h Q ↔ pb_R 64 25 [l0, some .null, l2, l3, l4, l5, l6, l7] [] (.null :: st) h Q) ∧
  (∀ (L : pb_L) (J : pb_J) (st : List Value) (h : pb_H) (Q : Option Value → pb_H → Prop) (a : Nat), pb_R 64 25 L J (.ref a :: st) h Q ↔ pb_o (pb_gf (h.2 a) 4 1) (fun v => pb_R 64 28 L J (v :: st) h Q)) ∧
  (∀ (L : pb_L) (J : pb_J) (st : List Value) (h : pb_H) (Q : Option Value → pb_H → Prop), pb_R 64 28 L J st h Q ↔ pb_R 64 29 L J (.int (0 : Int32) :: st) h Q) ∧
  (∀ (l0 l1 l3 l4 l5 l6 l7 : Option Value) (st : List Value) (h : pb_H) (Q : Option Value → pb_H → Prop) (x : Int32), pb_R 64 29 [l0, l1, some (.int x), l3, l4, l5, l6, l7] [] st h Q ↔ pb_R 64 30 [l0, l1, some (.int x), l3, l4, l5, l6, l7] [] (.int x :: st) h Q) ∧
  (∀ (L : pb_L) (J : pb_J) (h : pb_H) (Q : Option Value → pb_H → Prop) (x0 : Int32) (x1 : Int32) (x2 : Nat) (x3 : Int32) (x4 : Nat), pb_R 64 30 L J [.int x0, .int x1, .ref x2, .int x3, .ref x4] h Q ↔ pb_call 59 [.ref x4, .int x3, .ref x2, .int x1, .int x0] h (fun v t => pb_R 64 33 L J (v.toList ++ []) t Q)) ∧
  (∀ (l0 l1 l2 l3 l4 l5 l6 l7 : Option Value) (st : List Value) (h : pb_H) (Q : Option Value → pb_H → Prop) (x : Int32), pb_R 64 33 [l0, l1, l2, l3, l4, l5, l6, l7] [] (.int x :: st) h Q ↔ pb_R 64 34 [l0, l1, l2, some (.int x), l4, l5, l6, l7] [] st h Q) ∧
  (∀ (L : pb_L) (J : pb_J) (st : List Value) (h : pb_H) (Q : Option Value → pb_H → Prop), pb_R 64 34 L J st h Q ↔ pb_R 64 35 L J (.int (1 : Int32) :: st) h Q) ∧
  (∀ (l0 l1 l2 l3 l4 l5 l6 l7 : Option Value) (st : List Value) (h : pb_H) (Q : Option Value → pb_H → Prop) (x : Int32), pb_R 64 35 [l0, l1, l2, l3, l4, l5, l6, l7] [] (.int x :: st) h Q ↔ pb_R 64 37 [l0, l1, l2, l3, some (.int x), l5, l6, l7] [] st h Q) ∧
  (∀ (L : pb_L) (J : pb_J) (st : List Value) (h : pb_H) (Q : Option Value → pb_H → Prop), pb_R 64 37 L J st h Q ↔ pb_R 64 38 L J (.int (1 : Int32) :: st) h Q) ∧
  (∀ (l0 l1 l2 l3 l4 l5 l6 l7 : Option Value) (st : List Value) (h : pb_H) (Q : Option Value → pb_H → Prop) (x : Int32), pb_R 64 38 [l0, l1, l2, l3, l4, l5, l6, l7] [] (.int x :: st) h Q ↔ pb_R 64 40 [l0, l1, l2, l3, l4, some (.int x), l6, l7] [] st h Q) ∧
  (∀ (l1 l2 l3 l4 l5 l6 l7 : Option Value) (st : List Value) (h : pb_H) (Q : Option Value → pb_H → Prop) (x : Nat), pb_R 64 42 [some (.ref x), l1, l2, l3, l4, l5, l6, l7] [] st h Q ↔ pb_R 64 43 [some (.ref x), l1, l2, l3, l4, l5, l6, l7] [] (.ref x :: st) h Q) ∧
  (∀ (l1 l2 l3 l4 l5 l6 l7 : Option Value) (st : List Value) (h : pb_H) (Q : Option Value → pb_H → Prop), pb_R 64 42 [some .null, l1, l2, l3, l4, l5, l6, l7] [] st h Q ↔ pb_R 64 43 [some .null, l1, l2, l3, l4, l5, l6, l7] [] (.null :: st) h Q) ∧
  (∀ (L : pb_L) (J : pb_J) (st : List Value) (h : pb_H) (Q : Option Value → pb_H → Prop) (a : Nat), pb_R 64 43 L J (.ref a :: st) h Q ↔ pb_o (pb_gf (h.2 a) 4 0) (fun v => pb_R 64 46 L J (v :: st) h Q)) ∧
  (∀ (L : pb_L) (J : pb_J) (st : List Value) (h : pb_H) (Q : Option Value → pb_H → Prop) (x y : Int32), pb_R 64 46 L J (.int y :: .int x :: st) h Q ↔ if y < x then pb_R 64 142 L J st h Q else pb_R 64 49 L J st h Q) ∧
  (∀ (l0 l2 l3 l4 l5 l6 l7 : Option Value) (st : List Value) (h : pb_H) (Q : Option Value → pb_H → Prop) (x : Nat), pb_R 64 49 [l0, some (.ref x), l2, l3, l4, l5, l6, l7] [] st h Q ↔ pb_R 64 50 [l0, some (.ref x), l2, l3, l4, l5, l6, l7] [] (.ref x :: st) h Q) ∧
  (∀ (l0 l2 l3 l4 l5 l6 l7 : Option Value) (st : List Value) (h : pb_H) (Q : Option Value → pb_H → Prop), pb_R 64 49 [l0, some .null, l2, l3, l4, l5, l6, l7] [] st h Q ↔ pb_R 64 50 [l0, some .null, l2, l3, l4, l5, l6, l7] [] (.null :: st) h Q) ∧
  (∀ (l0 l1 l2 l3 l4 l6 l7 : Option Value) (st : List Value) (h : pb_H) (Q : Option Value → pb_H → Prop) (x : Int32), pb_R 64 50 [l0, l1, l2, l3, l4, some (.int x), l6, l7] [] st h Q ↔ pb_R 64 52 [l0, l1, l2, l3, l4, some (.int x), l6, l7] [] (.int x :: st) h Q) ∧
  (∀ (L : pb_L) (J : pb_J) (h : pb_H) (Q : Option Value → pb_H → Prop) (x0 : Int32) (x1 : Nat), pb_R 64 52 L J [.int x0, .ref x1] h Q ↔ pb_is0 (h.2 x1) 4 = true ∧ pb_call 60 [.ref x1, .int x0] h (fun v t => pb_R 64 55 L J (v.toList ++ []) t Q)) ∧
  (∀ (l0 l1 l2 l3 l4 l5 l6 l7 : Option Value) (st : List Value) (h : pb_H) (Q : Option Value → pb_H → Prop) (x : Int32), pb_R 64 55 [l0, l1, l2, l3, l4, l5, l6, l7] [] (.int x :: st) h Q ↔ pb_R 64 57 [l0, l1, l2, l3, l4, l5, some (.int x), l7] [] st h Q) ∧
  (∀ (l0 l1 l2 l3 l4 l6 l7 : Option Value) (st : List Value) (h : pb_H) (Q : Option Value → pb_H → Prop) (x : Int32), pb_R 64 57 [l0, l1, l2, l3, l4, some (.int x), l6, l7] [] st h Q ↔ pb_R 64 59 [l0, l1, l2, l3, l4, some (.int x), l6, l7] [] (.int x :: st) h Q) ∧
  (∀ (L : pb_L) (J : pb_J) (st : List Value) (h : pb_H) (Q : Option Value → pb_H → Prop), pb_R 64 59 L J st h Q ↔ pb_R 64 61 L J (.int (8 : Int32) :: st) h Q) ∧
  (∀ (L : pb_L) (J : pb_J) (st : List Value) (x y : Int32) (h : pb_H) (Q : Option Value → pb_H → Prop), pb_R 64 61 L J (.int y :: .int x :: st) h Q ↔ pb_R 64 62 L J (.int (x * y) :: st) h Q) ∧
  (∀ (l0 l1 l2 l3 l4 l5 l6 l7 : Option Value) (st : List Value) (h : pb_H) (Q : Option Value → pb_H → Prop) (x : Int32), pb_R 64 62 [l0, l1, l2, l3, l4, l5, l6, l7] [] (.int x :: st) h Q ↔ pb_R 64 64 [l0, l1, l2, l3, l4, l5, l6, some (.int x)] [] st h Q) ∧
  (∀ (l0 l1 l2 l3 l4 l5 l7 : Option Value) (st : List Value) (h : pb_H) (Q : Option Value → pb_H → Prop) (x : Int32), pb_R 64 64 [l0, l1, l2, l3, l4, l5, some (.int x), l7] [] st h Q ↔ pb_R 64 66 [l0, l1, l2, l3, l4, l5, some (.int x), l7] [] (.int x :: st) h Q) ∧
  (∀ (L : pb_L) (J : pb_J) (st : List Value) (h : pb_H) (Q : Option Value → pb_H → Prop) (x : Int32), pb_R 64 66 L J (.int x :: st) h Q ↔ if ¬ x = 0 then pb_R 64 72 L J st h Q else pb_R 64 69 L J st h Q) ∧
  (∀ (L : pb_L) (J : pb_J) (st : List Value) (h : pb_H) (Q : Option Value → pb_H → Prop), pb_R 64 69 L J st h Q ↔ pb_R 64 136 L J st h Q) ∧
  (∀ (l1 l2 l3 l4 l5 l6 l7 : Option Value) (st : List Value) (h : pb_H) (Q : Option Value → pb_H → Prop) (x : Nat), pb_R 64 72 [some (.ref x), l1, l2, l3, l4, l5, l6, l7] [] st h Q ↔ pb_R 64 73 [some (.ref x), l1, l2, l3, l4, l5, l6, l7] [] (.ref x :: st) h Q) ∧
  (∀ (l1 l2 l3 l4 l5 l6 l7 : Option Value) (st : List Value) (h : pb_H) (Q : Option Value → pb_H → Prop), pb_R 64 72 [some .null, l1, l2, l3, l4, l5, l6, l7] [] st h Q ↔ pb_R 64 73 [some .null, l1, l2, l3, l4, l5, l6, l7] [] (.null :: st) h Q) ∧
  (∀ (l0 l1 l2 l3 l4 l6 l7 : Option Value) (st : List Value) (h : pb_H) (Q : Option Value → pb_H → Prop) (x : Int32), pb_R 64 73 [l0, l1, l2, l3, l4, some (.int x), l6, l7] [] st h Q ↔ pb_R 64 75 [l0, l1, l2, l3, l4, some (.int x), l6, l7] [] (.int x :: st) h Q) ∧
  (∀ (L : pb_L) (J : pb_J) (h : pb_H) (Q : Option Value → pb_H → Prop) (x0 : Int32) (x1 : Nat), pb_R 64 75 L J [.int x0, .ref x1] h Q ↔ pb_is0 (h.2 x1) 4 = true ∧ pb_call 60 [.ref x1, .int x0] h (fun v t => pb_R 64 78 L J (v.toList ++ []) t Q)) ∧
  (∀ (l0 l1 l2 l3 l4 l5 l7 : Option Value) (st : List Value) (h : pb_H) (Q : Option Value → pb_H → Prop) (x : Int32), pb_R 64 78 [l0, l1, l2, l3, l4, l5, some (.int x), l7] [] st h Q ↔ pb_R 64 80 [l0, l1, l2, l3, l4, l5, some (.int x), l7] [] (.int x :: st) h Q) ∧
  (∀ (L : pb_L) (J : pb_J) (st : List Value) (x : Int32) (h : pb_H) (Q : Option Value → pb_H → Prop), pb_R 64 80 L J (.int x :: st) h Q ↔ pb_R 64 81 L J (.int (-x) :: st) h Q) ∧
  (∀ (L : pb_L) (J : pb_J) (st : List Value) (h : pb_H) (Q : Option Value → pb_H → Prop) (x y : Int32), pb_R 64 81 L J (.int y :: .int x :: st) h Q ↔ if ¬ x = y then pb_R 64 97 L J st h Q else pb_R 64 84 L J st h Q) ∧
  (∀ (l1 l2 l3 l4 l5 l6 l7 : Option Value) (st : List Value) (h : pb_H) (Q : Option Value → pb_H → Prop) (x : Nat), pb_R 64 84 [some (.ref x), l1, l2, l3, l4, l5, l6, l7] [] st h Q ↔ pb_R 64 85 [some (.ref x), l1, l2, l3, l4, l5, l6, l7] [] (.ref x :: st) h Q) ∧
  (∀ (l1 l2 l3 l4 l5 l6 l7 : Option Value) (st : List Value) (h : pb_H) (Q : Option Value → pb_H → Prop), pb_R 64 84 [some .null, l1, l2, l3, l4, l5, l6, l7] [] st h Q ↔ pb_R 64 85 [some .null, l1, l2, l3, l4, l5, l6, l7] [] (.null :: st) h Q) ∧
  (∀ (l0 l2 l3 l4 l5 l6 l7 : Option Value) (st : List Value) (h : pb_H) (Q : Option Value → pb_H → Prop) (x : Nat), pb_R 64 85 [l0, some (.ref x), l2, l3, l4, l5, l6, l7] [] st h Q ↔ pb_R 64 86 [l0, some (.ref x), l2, l3, l4, l5, l6, l7] [] (.ref x :: st) h Q) ∧
  (∀ (l0 l2 l3 l4 l5 l6 l7 : Option Value) (st : List Value) (h : pb_H) (Q : Option Value → pb_H → Prop), pb_R 64 85 [l0, some .null, l2, l3, l4, l5, l6, l7] [] st h Q ↔ pb_R 64 86 [l0, some .null, l2, l3, l4, l5, l6, l7] [] (.null :: st) h Q) ∧
  (∀ (l0 l1 l2 l3 l4 l6 l7 : Option Value) (st : List Value) (h : pb_H) (Q : Option Value → pb_H → Prop) (x : Int32), pb_R 64 86 [l0, l1, l2, l3, l4, some (.int x), l6, l7] [] st h Q ↔ pb_R 64 88 [l0, l1, l2, l3, l4, some (.int x), l6, l7] [] (.int x :: st) h Q) ∧
  (∀ (l0 l1 l2 l4 l5 l6 l7 : Option Value) (st : List Value) (h : pb_H) (Q : Option Value → pb_H → Prop) (x : Int32), pb_R 64 88 [l0, l1, l2, some (.int x), l4, l5, l6, l7] [] st h Q ↔ pb_R 64 89 [l0, l1, l2, some (.int x), l4, l5, l6, l7] [] (.int x :: st) h Q) ∧
  (∀ (l0 l1 l3 l4 l5 l6 l7 : Option Value) (st : List Value) (h : pb_H) (Q : Option Value → pb_H → Prop) (x : Int32), pb_R 64 89 [l0, l1, some (.int x), l3, l4, l5, l6, l7] [] st h Q ↔ pb_R 64 90 [l0, l1, some (.int x), l3, l4, l5, l6, l7] [] (.int x :: st) h Q) ∧
  (∀ (L : pb_L) (J : pb_J) (h : pb_H) (Q : Option Value → pb_H → Prop) (x0 : Int32) (x1 : Int32) (x2 : Int32) (x3 : Nat) (x4 : Nat), pb_R 64 90 L J [.int x0, .int x1, .int x2, .ref x3, .ref x4] h Q ↔ pb_is0 (h.2 x4) 4 = true ∧ pb_call 63 [.ref x4, .ref x3, .int x2, .int x1, .int x0] h (fun v t => pb_R 64 93 L J (v.toList ++ []) t Q)) ∧
  (∀ (l0 l1 l2 l3 l4 l5 l6 l7 : Option Value) (st : List Value) (h : pb_H) (Q : Option Value → pb_H → Prop) (x : Int32), pb_R 64 93 [l0, l1, l2, l3, l4, l5, l6, l7] [] (.int x :: st) h Q ↔ pb_R 64 94 [l0, l1, l2, some (.int x), l4, l5, l6, l7] [] st h Q) ∧
  (∀ (L : pb_L) (J : pb_J) (st : List Value) (h : pb_H) (Q : Option Value → pb_H → Prop), pb_R 64 94 L J st h Q ↔ pb_R 64 136 L J st h Q) ∧
  (∀ (l1 l2 l3 l4 l5 l6 l7 : Option Value) (st : List Value) (h : pb_H) (Q : Option Value → pb_H → Prop) (x : Nat), pb_R 64 97 [some (.ref x), l1, l2, l3, l4, l5, l6, l7] [] st h Q ↔ pb_R 64 98 [some (.ref x), l1, l2, l3, l4, l5, l6, l7] [] (.ref x :: st) h Q) ∧
  (∀ (l1 l2 l3 l4 l5 l6 l7 : Option Value) (st : List Value) (h : pb_H) (Q : Option Value → pb_H → Prop), pb_R 64 97 [some .null, l1, l2, l3, l4, l5, l6, l7] [] st h Q ↔ pb_R 64 98 [some .null, l1, l2, l3, l4, l5, l6, l7] [] (.null :: st) h Q) ∧
  (∀ (L : pb_L) (J : pb_J) (st : List Value) (h : pb_H) (Q : Option Value → pb_H → Prop) (a : Nat), pb_R 64 98 L J (.ref a :: st) h Q ↔ pb_o (pb_gf (h.2 a) 4 1) (fun v => pb_R 64 101 L J (v :: st) h Q)) ∧
  (∀ (l0 l1 l2 l3 l4 l5 l6 : Option Value) (st : List Value) (h : pb_H) (Q : Option Value → pb_H → Prop) (x : Int32), pb_R 64 101 [l0, l1, l2, l3, l4, l5, l6, some (.int x)] [] st h Q ↔ pb_R 64 103 [l0, l1, l2, l3, l4, l5, l6, some (.int x)] [] (.int x :: st) h Q) ∧
  (∀ (l0 l2 l3 l4 l5 l6 l7 : Option Value) (st : List Value) (h : pb_H) (Q : Option Value → pb_H → Prop) (x : Nat), pb_R 64 103 [l0, some (.ref x), l2, l3, l4, l5, l6, l7] [] st h Q ↔ pb_R 64 104 [l0, some (.ref x), l2, l3, l4, l5, l6, l7] [] (.ref x :: st) h Q) ∧
  (∀ (l0 l2 l3 l4 l5 l6 l7 : Option Value) (st : List Value) (h : pb_H) (Q : Option Value → pb_H → Prop), pb_R 64 103 [l0, some .null, l2, l3, l4, l5, l6, l7] [] st h Q ↔ pb_R 64 104 [l0, some .null, l2, l3, l4, l5, l6, l7] [] (.null :: st) h Q) ∧
  (∀ (L : pb_L) (J : pb_J) (st : List Value) (h : pb_H) (Q : Option Value → pb_H → Prop) (a : Nat), pb_R 64 104 L J (.ref a :: st) h Q ↔ pb_o (pb_gf (h.2 a) 4 1) (fun v => pb_R 64 107 L J (v :: st) h Q)) ∧
  (∀ (l0 l1 l2 l3 l4 l5 l6 : Option Value) (st : List Value) (h : pb_H) (Q : Option Value → pb_H → Prop) (x : Int32), pb_R 64 107 [l0, l1, l2, l3, l4, l5, l6, some (.int x)] [] st h Q ↔ pb_R 64 109 [l0, l1, l2, l3, l4, l5, l6, some (.int x)] [] (.int x :: st) h Q) ∧
  (∀ (l0 l1 l3 l4 l5 l6 l7 : Option Value) (st : List Value) (h : pb_H) (Q : Option Value → pb_H → Prop) (x : Int32), pb_R 64 109 [l0, l1, some (.int x), l3, l4, l5, l6, l7] [] st h Q ↔ pb_R 64 110 [l0, l1, some (.int x), l3, l4, l5, l6, l7] [] (.int x :: st) h Q) ∧
  (∀ (L : pb_L) (J : pb_J) (h : pb_H) (Q : Option Value → pb_H → Prop) (x0 : Int32) (x1 : Int32) (x2 : Nat) (x3 : Int32) (x4 : Nat), pb_R 64 110 L J [.int x0, .int x1, .ref x2, .int x3, .ref x4] h Q ↔ pb_call 59 [.ref x4, .int x3, .ref x2, .int x1, .int x0] h (fun v t => pb_R 64 113 L J (v.toList ++ []) t Q)) ∧
  (∀ (L : pb_L) (J : pb_J) (st : List Value) (h : pb_H) (Q : Option Value → pb_H → Prop) (x : Int32), pb_R 64 113 L J (.int x :: st) h Q ↔ if ¬ x = 0 then pb_R 64 125 L J st h Q else pb_R 64 116 L J st h Q) ∧
  (∀ (l0 l1 l2 l3 l5 l6 l7 : Option Value) (st : List Value) (h : pb_H) (Q : Option Value → pb_H → Prop) (x : Int32), pb_R 64 116 [l0, l1, l2, l3, some (.int x), l5, l6, l7] [] st h Q ↔ pb_R 64 118 [l0, l1, l2, l3, some (.int x), l5, l6, l7] [] (.int x :: st) h Q) ∧
  (∀ (L : pb_L) (J : pb_J) (st : List Value) (h : pb_H) (Q : Option Value → pb_H → Prop) (x : Int32), pb_R 64 118 L J (.int x :: st) h Q ↔ if x = 0 then pb_R 64 125 L J st h Q else pb_R 64 121 L J st h Q) ∧
  (∀ (L : pb_L) (J : pb_J) (st : List Value) (h : pb_H) (Q : Option Value → pb_H → Prop), pb_R 64 121 L J st h Q ↔ pb_R 64 122 L J (.int (1 : Int32) :: st) h Q) ∧
  (∀ (L : pb_L) (J : pb_J) (st : List Value) (h : pb_H) (Q : Option Value → pb_H → Prop), pb_R 64 122 L J st h Q ↔ pb_R 64 126 L J st h Q) ∧
  (∀ (L : pb_L) (J : pb_J) (st : List Value) (h : pb_H) (Q : Option Value → pb_H → Prop), pb_R 64 125 L J st h Q ↔ pb_R 64 126 L J (.int (0 : Int32) :: st) h Q) ∧
  (∀ (l0 l1 l2 l3 l4 l5 l6 l7 : Option Value) (st : List Value) (h : pb_H) (Q : Option Value → pb_H → Prop) (x : Int32), pb_R 64 126 [l0, l1, l2, l3, l4, l5, l6, l7] [] (.int x :: st) h Q ↔ pb_R 64 128 [l0, l1, l2, l3, some (.int x), l5, l6, l7] [] st h Q) ∧
  (∀ (l1 l2 l3 l4 l5 l6 l7 : Option Value) (st : List Value) (h : pb_H) (Q : Option Value → pb_H → Prop) (x : Nat), pb_R 64 128 [some (.ref x), l1, l2, l3, l4, l5, l6, l7] [] st h Q ↔ pb_R 64 129 [some (.ref x), l1, l2, l3, l4, l5, l6, l7] [] (.ref x :: st) h Q) ∧
  (∀ (l1 l2 l3 l4 l5 l6 l7 : Option Value) (st : List Value) (h : pb_H) (Q : Option Value → pb_H → Prop), pb_R 64 128 [some .null, l1, l2, l3, l4, l5, l6, l7] [] st h Q ↔ pb_R 64 129 [some .null, l1, l2, l3, l4, l5, l6, l7] [] (.null :: st) h Q) ∧
  (∀ (l0 l1 l2 l3 l4 l6 l7 : Option Value) (st : List Value) (h : pb_H) (Q : Option Value → pb_H → Prop) (x : Int32), pb_R 64 129 [l0, l1, l2, l3, l4, some (.int x), l6, l7] [] st h Q ↔ pb_R 64 131 [l0, l1, l2, l3, l4, some (.int x), l6, l7] [] (.int x :: st) h Q) ∧
  (∀ (l0 l1 l2 l3 l4 l5 l7 : Option Value) (st : List Value) (h : pb_H) (Q : Option Value → pb_H → Prop) (x : Int32), pb_R 64 131 [l0, l1, l2, l3, l4, l5, some (.int x), l7] [] st h Q ↔ pb_R 64 133 [l0, l1, l2, l3, l4, l5, some (.int x), l7] [] (.int x :: st) h Q) ∧
  (∀ (L : pb_L) (J : pb_J) (h : pb_H) (Q : Option Value → pb_H → Prop) (x0 : Int32) (x1 : Int32) (x2 : Nat), pb_R 64 133 L J [.int x0, .int x1, .ref x2] h Q ↔ pb_is0 (h.2 x2) 4 = true ∧ pb_call 54 [.ref x2, .int x1, .int x0] h (fun v t => pb_R 64 136 L J (v.toList ++ []) t Q)) ∧
  (∀ (l0 l1 l2 l3 l4 l6 l7 : Option Value) (st : List Value) (h : pb_H) (Q : Option Value → pb_H → Prop) (x : Int32), pb_R 64 136 [l0, l1, l2, l3, l4, some (.int x), l6, l7] [] st h Q ↔ pb_R 64 139 [l0, l1, l2, l3, l4, some (.int (x + (1 : Int32))), l6, l7] [] st h Q) ∧
  (∀ (L : pb_L) (J : pb_J) (st : List Value) (h : pb_H) (Q : Option Value → pb_H → Prop), pb_R 64 139 L J st h Q ↔ pb_R 64 40 L J st h Q) ∧
  (∀ (l1 l2 l3 l4 l5 l6 l7 : Option Value) (st : List Value) (h : pb_H) (Q : Option Value → pb_H → Prop) (x : Nat), pb_R 64 142 [some (.ref x), l1, l2, l3, l4, l5, l6, l7] [] st h Q ↔ pb_R 64 143 [some (.ref x), l1, l2, l3, l4, l5, l6, l7] [] (.ref x :: st) h Q) ∧
  (∀ (l1 l2 l3 l4 l5 l6 l7 : Option Value) (st : List Value) (h : pb_H) (Q : Option Value → pb_H → Prop), pb_R 64 142 [some .null, l1, l2, l3, l4, l5, l6, l7] [] st h Q ↔ pb_R 64 143 [some .null, l1, l2, l3, l4, l5, l6, l7] [] (.null :: st) h Q) ∧
  (∀ (l0 l1 l3 l4 l5 l6 l7 : Option Value) (st : List Value) (h : pb_H) (Q : Option Value → pb_H → Prop) (x : Int32), pb_R 64 143 [l0, l1, some (.int x), l3, l4, l5, l6, l7] [] st h Q ↔ pb_R 64 144 [l0, l1, some (.int x), l3, l4, l5, l6, l7] [] (.int x :: st) h Q) ∧
  (∀ (L : pb_L) (J : pb_J) (h : pb_H) (Q : Option Value → pb_H → Prop) (x0 : Int32) (x1 : Nat), pb_R 64 144 L J [.int x0, .ref x1] h Q ↔ pb_is0 (h.2 x1) 4 = true ∧ pb_call 39 [.ref x1, .int x0] h (fun v t => pb_R 64 147 L J (v.toList ++ []) t Q)) ∧
  (∀ (l0 l1 l2 l3 l5 l6 l7 : Option Value) (st : List Value) (h : pb_H) (Q : Option Value → pb_H → Prop) (x : Int32), pb_R 64 147 [l0, l1, l2, l3, some (.int x), l5, l6, l7] [] st h Q ↔ pb_R 64 149 [l0, l1, l2, l3, some (.int x), l5, l6, l7] [] (.int x :: st) h Q) ∧
  (∀ (L : pb_L) (J : pb_J) (st : List Value) (h : pb_H) (Q : Option Value → pb_H → Prop) (x : Int32), pb_R 64 149 L J (.int x :: st) h Q ↔ if x = 0 then pb_R 64 160 L J st h Q else pb_R 64 152 L J st h Q) ∧
  (∀ (l0 l1 l2 l4 l5 l6 l7 : Option Value) (st : List Value) (h : pb_H) (Q : Option Value → pb_H → Prop) (x : Int32), pb_R 64 152 [l0, l1, l2, some (.int x), l4, l5, l6, l7] [] st h Q ↔ pb_R 64 153 [l0, l1, l2, some (.int x), l4, l5, l6, l7] [] (.int x :: st) h Q) ∧
  (∀ (L : pb_L) (J : pb_J) (st : List Value) (h : pb_H) (Q : Option Value → pb_H → Prop) (x : Int32), pb_R 64 153 L J (.int x :: st) h Q ↔ if ¬ x = 0 then pb_R 64 160 L J st h Q else pb_R 64 156 L J st h Q) ∧
  (∀ (L : pb_L) (J : pb_J) (st : List Value) (h : pb_H) (Q : Option Value → pb_H → Prop), pb_R 64 156 L J st h Q ↔ pb_R 64 157 L J (.int (1 : Int32) :: st) h Q) ∧
  (∀ (L : pb_L) (J : pb_J) (st : List Value) (h : pb_H) (Q : Option Value → pb_H → Prop), pb_R 64 157 L J st h Q ↔ pb_R 64 161 L J st h Q) ∧
  (∀ (L : pb_L) (J : pb_J) (st : List Value) (h : pb_H) (Q : Option Value → pb_H → Prop), pb_R 64 160 L J st h Q ↔ pb_R 64 161 L J (.int (0 : Int32) :: st) h Q) ∧
  (∀ (L : pb_L) (J : pb_J) (h : pb_H) (Q : Option Value → pb_H → Prop) (x : Int32), pb_R 64 161 L J [.int x] h Q ↔ narrow .boolean (.int x) = .int x ∧ Q (some (.int x)) h) := ⟨
  fun L J st h Q => pf_S pb_u_64 rfl rfl,
  fun l1 l2 l3 l4 l5 l6 l7 st h Q x => pf_S pb_u_64 rfl rfl,
  fun l1 l2 l3 l4 l5 l6 l7 st h Q => pf_S pb_u_64 rfl rfl,
  fun L J st h Q a => pf_gf pb_u_64 rfl rfl,
  fun l0 l2 l3 l4 l5 l6 l7 st h Q x => pf_S pb_u_64 rfl rfl,
  fun l0 l2 l3 l4 l5 l6 l7 st h Q => pf_S pb_u_64 rfl rfl,
  fun L J st h Q a => pf_gf pb_u_64 rfl rfl,
  fun L J h Q x0 x1 x2 => pf_S pb_u_64 rfl rfl,
  fun L J st h Q => pf_S pb_u_64 rfl rfl,
  fun L J st x y h Q => pf_S pb_u_64 rfl rfl,
  fun L J h Q x0 x1 => pf_S pb_u_64 rfl rfl,
  fun l0 l1 l2 l3 l4 l5 l6 l7 st h Q x => pf_S pb_u_64 rfl rfl,
  fun l1 l2 l3 l4 l5 l6 l7 st h Q x => pf_S pb_u_64 rfl rfl,
  fun l1 l2 l3 l4 l5 l6 l7 st h Q => pf_S pb_u_64 rfl rfl,
  fun L J st h Q a => pf_gf pb_u_64 rfl rfl,
  fun L J st h Q => pf_S pb_u_64 rfl rfl,
  fun l0 l2 l3 l4 l5 l6 l7 st h Q x => pf_S pb_u_64 rfl rfl,
  fun l0 l2 l3 l4 l5 l6 l7 st h Q => pf_S pb_u_64 rfl rfl,
  fun L J st h Q a => pf_gf pb_u_64 rfl rfl,
  fun L J st h Q => pf_S pb_u_64 rfl rfl,
  fun l0 l1 l3 l4 l5 l6 l7 st h Q x => pf_S pb_u_64 rfl rfl,
  fun L J h Q x0 x1 x2 x3 x4 => pf_ks pb_u_64 rfl rfl rfl rfl,
  fun l0 l1 l2 l3 l4 l5 l6 l7 st h Q x => pf_S pb_u_64 rfl rfl,
  fun L J st h Q => pf_S pb_u_64 rfl rfl,
  fun l0 l1 l2 l3 l4 l5 l6 l7 st h Q x => pf_S pb_u_64 rfl rfl,
  fun L J st h Q => pf_S pb_u_64 rfl rfl,
  fun l0 l1 l2 l3 l4 l5 l6 l7 st h Q x => pf_S pb_u_64 rfl rfl,
  fun l1 l2 l3 l4 l5 l6 l7 st h Q x => pf_S pb_u_64 rfl rfl,
  fun l1 l2 l3 l4 l5 l6 l7 st h Q => pf_S pb_u_64 rfl rfl,
  fun L J st h Q a => pf_gf pb_u_64 rfl rfl,
  fun L J st h Q x y => pf_ic pb_u_64 rfl rfl rfl,
  fun l0 l2 l3 l4 l5 l6 l7 st h Q x => pf_S pb_u_64 rfl rfl,
  fun l0 l2 l3 l4 l5 l6 l7 st h Q => pf_S pb_u_64 rfl rfl,
  fun l0 l1 l2 l3 l4 l6 l7 st h Q x => pf_S pb_u_64 rfl rfl,
  fun L J h Q x0 x1 => pf_kv pb_u_64 rfl pb_ci_60 rfl ⟨Nat.le_of_ble_eq_true rfl, Nat.le_of_ble_eq_true rfl, Nat.le_of_ble_eq_true rfl, Nat.le_of_ble_eq_true rfl, rfl⟩ rfl rfl,
  fun l0 l1 l2 l3 l4 l5 l6 l7 st h Q x => pf_S pb_u_64 rfl rfl,
  fun l0 l1 l2 l3 l4 l6 l7 st h Q x => pf_S pb_u_64 rfl rfl,
  fun L J st h Q => pf_S pb_u_64 rfl rfl,
  fun L J st x y h Q => pf_S pb_u_64 rfl rfl,
  fun l0 l1 l2 l3 l4 l5 l6 l7 st h Q x => pf_S pb_u_64 rfl rfl,
  fun l0 l1 l2 l3 l4 l5 l7 st h Q x => pf_S pb_u_64 rfl rfl,
  fun L J st h Q x => pf_ii pb_u_64 rfl rfl pf_ne,
  fun L J st h Q => pf_S pb_u_64 rfl rfl,
  fun l1 l2 l3 l4 l5 l6 l7 st h Q x => pf_S pb_u_64 rfl rfl,
  fun l1 l2 l3 l4 l5 l6 l7 st h Q => pf_S pb_u_64 rfl rfl,
  fun l0 l1 l2 l3 l4 l6 l7 st h Q x => pf_S pb_u_64 rfl rfl,
  fun L J h Q x0 x1 => pf_kv pb_u_64 rfl pb_ci_60 rfl ⟨Nat.le_of_ble_eq_true rfl, Nat.le_of_ble_eq_true rfl, Nat.le_of_ble_eq_true rfl, Nat.le_of_ble_eq_true rfl, rfl⟩ rfl rfl,
  fun l0 l1 l2 l3 l4 l5 l7 st h Q x => pf_S pb_u_64 rfl rfl,
  fun L J st x h Q => pf_S pb_u_64 rfl rfl,
  fun L J st h Q x y => pf_ic pb_u_64 rfl rfl pf_ne,
  fun l1 l2 l3 l4 l5 l6 l7 st h Q x => pf_S pb_u_64 rfl rfl,
  fun l1 l2 l3 l4 l5 l6 l7 st h Q => pf_S pb_u_64 rfl rfl,
  fun l0 l2 l3 l4 l5 l6 l7 st h Q x => pf_S pb_u_64 rfl rfl,
  fun l0 l2 l3 l4 l5 l6 l7 st h Q => pf_S pb_u_64 rfl rfl,
  fun l0 l1 l2 l3 l4 l6 l7 st h Q x => pf_S pb_u_64 rfl rfl,
  fun l0 l1 l2 l4 l5 l6 l7 st h Q x => pf_S pb_u_64 rfl rfl,
  fun l0 l1 l3 l4 l5 l6 l7 st h Q x => pf_S pb_u_64 rfl rfl,
  fun L J h Q x0 x1 x2 x3 x4 => pf_kv pb_u_64 rfl pb_ci_63 rfl ⟨Nat.le_of_ble_eq_true rfl, Nat.le_of_ble_eq_true rfl, Nat.le_of_ble_eq_true rfl, Nat.le_of_ble_eq_true rfl, rfl⟩ rfl rfl,
  fun l0 l1 l2 l3 l4 l5 l6 l7 st h Q x => pf_S pb_u_64 rfl rfl,
  fun L J st h Q => pf_S pb_u_64 rfl rfl,
  fun l1 l2 l3 l4 l5 l6 l7 st h Q x => pf_S pb_u_64 rfl rfl,
  fun l1 l2 l3 l4 l5 l6 l7 st h Q => pf_S pb_u_64 rfl rfl,
  fun L J st h Q a => pf_gf pb_u_64 rfl rfl,
  fun l0 l1 l2 l3 l4 l5 l6 st h Q x => pf_S pb_u_64 rfl rfl,
  fun l0 l2 l3 l4 l5 l6 l7 st h Q x => pf_S pb_u_64 rfl rfl,
  fun l0 l2 l3 l4 l5 l6 l7 st h Q => pf_S pb_u_64 rfl rfl,
  fun L J st h Q a => pf_gf pb_u_64 rfl rfl,
  fun l0 l1 l2 l3 l4 l5 l6 st h Q x => pf_S pb_u_64 rfl rfl,
  fun l0 l1 l3 l4 l5 l6 l7 st h Q x => pf_S pb_u_64 rfl rfl,
  fun L J h Q x0 x1 x2 x3 x4 => pf_ks pb_u_64 rfl rfl rfl rfl,
  fun L J st h Q x => pf_ii pb_u_64 rfl rfl pf_ne,
  fun l0 l1 l2 l3 l5 l6 l7 st h Q x => pf_S pb_u_64 rfl rfl,
  fun L J st h Q x => pf_ii pb_u_64 rfl rfl rfl,
  fun L J st h Q => pf_S pb_u_64 rfl rfl,
  fun L J st h Q => pf_S pb_u_64 rfl rfl,
  fun L J st h Q => pf_S pb_u_64 rfl rfl,
  fun l0 l1 l2 l3 l4 l5 l6 l7 st h Q x => pf_S pb_u_64 rfl rfl,
  fun l1 l2 l3 l4 l5 l6 l7 st h Q x => pf_S pb_u_64 rfl rfl,
  fun l1 l2 l3 l4 l5 l6 l7 st h Q => pf_S pb_u_64 rfl rfl,
  fun l0 l1 l2 l3 l4 l6 l7 st h Q x => pf_S pb_u_64 rfl rfl,
  fun l0 l1 l2 l3 l4 l5 l7 st h Q x => pf_S pb_u_64 rfl rfl,
  fun L J h Q x0 x1 x2 => pf_kv pb_u_64 rfl pb_ci_54 rfl ⟨Nat.le_of_ble_eq_true rfl, Nat.le_of_ble_eq_true rfl, Nat.le_of_ble_eq_true rfl, Nat.le_of_ble_eq_true rfl, rfl⟩ rfl rfl,
  fun l0 l1 l2 l3 l4 l6 l7 st h Q x => pf_S pb_u_64 rfl rfl,
  fun L J st h Q => pf_S pb_u_64 rfl rfl,
  fun l1 l2 l3 l4 l5 l6 l7 st h Q x => pf_S pb_u_64 rfl rfl,
  fun l1 l2 l3 l4 l5 l6 l7 st h Q => pf_S pb_u_64 rfl rfl,
  fun l0 l1 l3 l4 l5 l6 l7 st h Q x => pf_S pb_u_64 rfl rfl,
  fun L J h Q x0 x1 => pf_kv pb_u_64 rfl pb_ci_39 rfl ⟨Nat.le_of_ble_eq_true rfl, Nat.le_of_ble_eq_true rfl, Nat.le_of_ble_eq_true rfl, Nat.le_of_ble_eq_true rfl, rfl⟩ rfl rfl,
  fun l0 l1 l2 l3 l5 l6 l7 st h Q x => pf_S pb_u_64 rfl rfl,
  fun L J st h Q x => pf_ii pb_u_64 rfl rfl rfl,
  fun l0 l1 l2 l4 l5 l6 l7 st h Q x => pf_S pb_u_64 rfl rfl,
  fun L J st h Q x => pf_ii pb_u_64 rfl rfl pf_ne,
  fun L J st h Q => pf_S pb_u_64 rfl rfl,
  fun L J st h Q => pf_S pb_u_64 rfl rfl,
  fun L J st h Q => pf_S pb_u_64 rfl rfl,
  fun L J h Q x => pf_rz pb_u_64 rfl rfl⟩
theorem pb_c64 (x0 : Nat) (x1 : Nat) (h : pb_H) (Q : Option Value → pb_H → Prop) : pb_call 64 [.ref x0, .ref x1] h Q ↔ pb_R 64 0 [some (.ref x0), some (.ref x1), none, none, none, none, none, none] [] [] h Q := Iff.rfl
/-! 65: PlaneBench$Checker.addUppermost()Z -/
theorem pb_u_65 : pb_t 65 = pb_t65 := rfl
theorem pb_ci_65 : pb_ci 65 = 1 := by decide +kernel
set_option maxRecDepth 100000 in
theorem pb_e65 : (∀ (l1 : Option Value) (st : List Value) (h : pb_H) (Q : Option Value → pb_H → Prop) (x : Nat), pb_R 65 0 [some (.ref x), l1] [] st h Q ↔ pb_R 65 1 [some (.ref x), l1] [] (.ref x :: st) h Q) ∧
  (∀ (l1 : Option Value) (st : List Value) (h : pb_H) (Q : Option Value → pb_H → Prop), pb_R 65 0 [some .null, l1] [] st h Q ↔ pb_R 65 1 [some .null, l1] [] (.null :: st) h Q) ∧
  (∀ (L : pb_L) (J : pb_J) (h : pb_H) (Q : Option Value → pb_H → Prop) (x0 : Nat), pb_R 65 1 L J [.ref x0] h Q ↔ pb_is0 (h.2 x0) 1 = true ∧ pb_call 28 [.ref x0] h (fun v t => pb_R 65 4 L J (v.toList ++ []) t Q)) ∧
  (∀ (l0 l1 : Option Value) (st : List Value) (h : pb_H) (Q : Option Value → pb_H → Prop) (x : Nat), pb_R 65 4 [l0, l1] [] (.ref x :: st) h Q ↔ pb_R 65 5 [l0, some (.ref x)] [] st h Q) ∧
  (∀ (l0 l1 : Option Value) (st : List Value) (h : pb_H) (Q : Option Value → pb_H → Prop), pb_R 65 4 [l0, l1] [] (.null :: st) h Q ↔ pb_R 65 5 [l0, some .null] [] st h Q) ∧
  (∀ (l0 : Option Value) (st : List Value) (h : pb_H) (Q : Option Value → pb_H → Prop) (x : Nat), pb_R 65 5 [l0, some (.ref x)] [] st h Q ↔ pb_R 65 6 [l0, some (.ref x)] [] (.ref x :: st) h Q) ∧
  (∀ (l0 : Option Value) (st : List Value) (h : pb_H) (Q : Option Value → pb_H → Prop), pb_R 65 5 [l0, some .null] [] st h Q ↔ pb_R 65 6 [l0, some .null] [] (.null :: st) h Q) ∧
  (∀ (L : pb_L) (J : pb_J) (st : List Value) (h : pb_H) (Q : Option Value → pb_H → Prop), pb_R 65 6 L J (.null :: st) h Q ↔ pb_R 65 17 L J st h Q) ∧
  (∀ (L : pb_L) (J : pb_J) (st : List Value) (h : pb_H) (Q : Option Value → pb_H → Prop) (x : Nat), pb_R 65 6 L J (.ref x :: st) h Q ↔ pb_R 65 9 L J st h Q) ∧
  (∀ (l1 : Option Value) (st : List Value) (h : pb_H) (Q : Option Value → pb_H → Prop) (x : Nat), pb_R 65 9 [some (.ref x), l1] [] st h Q ↔ pb_R 65 10 [some (.ref x), l1] [] (.ref x :: st) h Q) ∧
  (∀ (l1 : Option Value) (st : List Value) (h : pb_H) (Q : Option Value → pb_H → Prop), pb_R 65 9 [some .null, l1] [] st h Q ↔ pb_R 65 10 [some .null, l1] [] (.null :: st) h Q) ∧
  (∀ (L : pb_L) (J : pb_J) (st : List Value) (h : pb_H) (Q : Option Value → pb_H → Prop) (a : Nat), pb_R 65 10 L J (.ref a :: st) h Q ↔ pb_o (pb_gf (h.2 a) 1 8) (fun v => pb_R 65 13 L J (v :: st) h Q)) ∧
  (∀ (L : pb_L) (J : pb_J) (st : List Value) (h : pb_H) (Q : Option Value → pb_H → Prop), pb_R 65 13 L J st h Q ↔ pb_R 65 14 L J (.int (2 : Int32) :: st) h Q) ∧
  (∀ (L : pb_L) (J : pb_J) (st : List Value) (h : pb_H) (Q : Option Value → pb_H → Prop) (x y : Int32), pb_R 65 14 L J (.int y :: .int x :: st) h Q ↔ if y ≤ x then pb_R 65 26 L J st h Q else pb_R 65 17 L J st h Q) ∧
  (∀ (l1 : Option Value) (st : List Value) (h : pb_H) (Q : Option Value → pb_H → Prop) (x : Nat), pb_R 65 17 [some (.ref x), l1] [] st h Q ↔ pb_R 65 18 [some (.ref x), l1] [] (.ref x :: st) h Q) ∧
  (∀ (l1 : Option Value) (st : List Value) (h : pb_H) (Q : Option Value → pb_H → Prop), pb_R 65 17 [some .null, l1] [] st h Q ↔ pb_R 65 18 [some .null, l1] [] (.null :: st) h Q) ∧
  (∀ (L : pb_L) (J : pb_J) (st : List Value) (h : pb_H) (Q : Option Value → pb_H → Prop) (a : Nat), pb_R 65 18 L J (.ref a :: st) h Q ↔ pb_o (pb_gf (h.2 a) 1 0) (fun v => pb_R 65 21 L J (v :: st) h Q)) ∧
  (∀ (L : pb_L) (J : pb_J) (st : List Value) (h : pb_H) (Q : Option Value → pb_H → Prop), pb_R 65 21 L J st h Q ↔ pb_R 65 22 L J (.int (4 : Int32) :: st) h Q) ∧
  (∀ (L : pb_L) (J : pb_J) (h : pb_H) (Q : Option Value → pb_H → Prop) (x0 : Int32) (x1 : Nat), pb_R 65 22 L J [.int x0, .ref x1] h Q ↔ pb_is0 (h.2 x1) 8 = true ∧ pb_call 29 [.ref x1, .int x0] h (fun v t => pb_R 65 25 L J (v.toList ++ []) t Q)) ∧
  (∀ (L : pb_L) (J : pb_J) (h : pb_H) (Q : Option Value → pb_H → Prop) (x : Int32), pb_R 65 25 L J [.int x] h Q ↔ narrow .boolean (.int x) = .int x ∧ Q (some (.int x)) h) ∧
  (∀ (l1 : Option Value) (st : List Value) (h : pb_H) (Q : Option Value → pb_H → Prop) (x : Nat), pb_R 65 26 [some (.ref x), l1] [] st h Q ↔ pb_R 65 27 [some (.ref x), l1] [] (.ref x :: st) h Q) ∧
  (∀ (l1 : Option Value) (st : List Value) (h : pb_H) (Q : Option Value → pb_H → Prop), pb_R 65 26 [some .null, l1] [] st h Q ↔ pb_R 65 27 [some .null, l1] [] (.null :: st) h Q) ∧
  (∀ (L : pb_L) (J : pb_J) (st : List Value) (x : Nat) (h : pb_H) (Q : Option Value → pb_H → Prop), pb_R 65 27 L J (.ref x :: st) h Q ↔ pb_R 65 28 L J (.ref x :: .ref x :: st) h Q) ∧
  (∀ (L : pb_L) (J : pb_J) (st : List Value) (h : pb_H) (Q : Option Value → pb_H → Prop) (a : Nat), pb_R 65 28 L J (.ref a :: st) h Q ↔ pb_o (pb_gf (h.2 a) 1 8) (fun v => pb_R 65 31 L J (v :: st) h Q)) ∧
  (∀ (L : pb_L) (J : pb_J) (st : List Value) (h : pb_H) (Q : Option Value → pb_H → Prop), pb_R 65 31 L J st h Q ↔ pb_R 65 32 L J (.int (1 : Int32) :: st) h Q) ∧
  (∀ (L : pb_L) (J : pb_J) (st : List Value) (x y : Int32) (h : pb_H) (Q : Option Value → pb_H → Prop), pb_R 65 32 L J (.int y :: .int x :: st) h Q ↔ pb_R 65 33 L J (.int (x - y) :: st) h Q) ∧
  (∀ (L : pb_L) (J : pb_J) (st : List Value) (h : pb_H) (Q : Option Value → pb_H → Prop) (a : Nat) (x : Int32), pb_R 65 33 L J (.int x :: .ref a :: st) h Q ↔ pb_o (pb_pf (h.2 a) 1 8 (.int x)) (fun c => pb_R 65 36 L J st (pb_set h a c) Q)) ∧
  (∀ (l1 : Option Value) (st : List Value) (h : pb_H) (Q : Option Value → pb_H → Prop) (x : Nat), pb_R 65 36 [some (.ref x), l1] [] st h Q ↔ pb_R 65 37 [some (.ref x), l1] [] (.ref x :: st) h Q) ∧
  (∀ (l1 : Option Value) (st : List Value) (h : pb_H) (Q : Option Value → pb_H → Prop), pb_R 65 36 [some .null, l1] [] st h Q ↔ pb_R 65 37 [some .null, l1] [] (.null :: st) h Q) ∧
  (∀ (L : pb_L) (J : pb_J) (st : List Value) (h : pb_H) (Q : Option Value → pb_H → Prop) (a : Nat), pb_R 65 37 L J (.ref a :: st) h Q ↔ pb_o (pb_gf (h.2 a) 1 3) (fun v => pb_R 65 40 L J (v :: st) h Q)) ∧
  (∀ (l1 : Option Value) (st : List Value) (h : pb_H) (Q : Option Value → pb_H → Prop) (x : Nat), pb_R 65 40 [some (.ref x), l1] [] st h Q ↔ pb_R 65 41 [some (.ref x), l1] [] (.ref x :: st) h Q) ∧
  (∀ (l1 : Option Value) (st : List Value) (h : pb_H) (Q : Option Value → pb_H → Prop), pb_R 65 40 [some .null, l1] [] st h Q ↔ pb_R 65 41 [some .null, l1] [] (.null :: st) h Q) ∧
  (∀ (L : pb_L) (J : pb_J) (st : List Value) (h : pb_H) (Q : Option Value → pb_H → Prop) (a : Nat), pb_R 65 41 L J (.ref a :: st) h Q ↔ pb_o (pb_gf (h.2 a) 1 8) (fun v => pb_R 65 44 L J (v :: st) h Q)) ∧
  (∀ (L : pb_L) (J : pb_J) (st : List Value) (h : pb_H) (Q : Option Value → pb_H → Prop), pb_R 65 44 L J st h Q ↔ pb_R 65 45 L J (.int (1 : Int32) :: st) h Q) ∧
  (∀ (L : pb_L) (J : pb_J) (st : List Value) (x y : Int32) (h : pb_H) (Q : Option Value → pb_H → Prop), pb_R 65 45 L J (.int y :: .int x :: st) h Q ↔ pb_R 65 46 L J (.int (x - y) :: st) h Q) ∧
  (∀ (L : pb_L) (J : pb_J) (st : List Value) (h : pb_H) (Q : Option Value → pb_H → Prop) (a : Nat) (i : Int32), pb_R 65 46 L J (.int i :: .ref a :: st) h Q ↔ pb_o (pb_aa (h.2 a) i) (fun v => pb_R 65 47 L J (va_rf v :: st) h Q)) ∧
  (∀ (l0 : Option Value) (st : List Value) (h : pb_H) (Q : Option Value → pb_H → Prop) (x : Nat), pb_R 65 47 [l0, some (.ref x)] [] st h Q ↔ pb_R 65 48 [l0, some (.ref x)] [] (.ref x :: st) h Q) ∧
  (∀ (l0 : Option Value) (st : List Value) (h : pb_H) (Q : Option Value → pb_H → Prop), pb_R 65 47 [l0, some .null] [] st h Q ↔ pb_R 65 48 [l0, some .null] [] (.null :: st) h Q) ∧
  (∀ (L : pb_L) (J : pb_J) (h : pb_H) (Q : Option Value → pb_H → Prop) (x0 : Nat) (x1 : Nat), pb_R 65 48 L J [.ref x0, .ref x1] h Q ↔ pb_is0 (h.2 x1) 4 = true ∧ pb_call 64 [.ref x1, .ref x0] h (fun v t => pb_R 65 51 L J (v.toList ++ []) t Q)) ∧
  (∀ (L : pb_L) (J : pb_J) (st : List Value) (h : pb_H) (Q : Option Value → pb_H → Prop) (x : Int32), pb_R 65 51 L J (.int x :: st) h Q ↔ if ¬ x = 0 then pb_R 65 63 L J st h Q else pb_R 65 54 L J st h Q) ∧
  (∀ (l1 : Option Value) (st : List Value) (h : pb_H) (Q : Option Value → pb_H → Prop) (x : Nat), pb_R 65 54 [some (.ref x), l1] [] st h Q ↔ pb_R 65 55 [some (.ref x), l1] [] (.ref x :: st) h Q) ∧
  (∀ (l1 : Option Value) (st : List Value) (h : pb_H) (Q : Option Value → pb_H → Prop), pb_R 65 54 [some .null, l1] [] st h Q ↔ pb_R 65 55 [some .null, l1] [] (.null :: st) h Q) ∧
  (∀ (L : pb_L) (J : pb_J) (st : List Value) (h : pb_H) (Q : Option Value → pb_H → Prop) (a : Nat), pb_R 65 55 L J (.ref a :: st) h Q ↔ pb_o (pb_gf (h.2 a) 1 0) (fun v => pb_R 65 58 L J (v :: st) h Q)) ∧
  (∀ (L : pb_L) (J : pb_J) (st : List Value) (h : pb_H) (Q : Option Value → pb_H → Prop), pb_R 65 58 L J st h Q ↔ pb_R 65 59 L J (.int (5 : Int32) :: st) h Q) ∧
  (∀ (L : pb_L) (J : pb_J) (h : pb_H) (Q : Option Value → pb_H → Prop) (x0 : Int32) (x1 : Nat), pb_R 65 59 L J [.int x0, .ref x1] h Q ↔ pb_is0 (h.2 x1) 8 = true ∧ pb_call 29 [.ref x1, .int x0] h (fun v t => pb_R 65 62 L J (v.toList ++ []) t Q)) ∧
  (∀ (L : pb_L) (J : pb_J) (h : pb_H) (Q : Option Value → pb_H → Prop) (x : Int32), pb_R 65 62 L J [.int x] h Q ↔ narrow .boolean (.int x) = .int x ∧ Q (some (.int x)) h) ∧
  (∀ (l1 : Option Value) (st : List Value) (h : pb_H) (Q : Option Value → pb_H → Prop) (x : Nat), pb_R 65 63 [some (.ref x), l1] [] st h Q ↔ pb_R 65 64 [some (.ref x), l1] [] (.ref x :: st) h Q) ∧
  (∀ (l1 : Option Value) (st : List Value) (h : pb_H) (Q : Option Value → pb_H → Prop), pb_R 65 63 [some .null, l1] [] st h Q ↔ pb_R 65 64 [some .null, l1] [] (.null :: st) h Q) ∧
  (∀ (L : pb_L) (J : pb_J) (st : List Value) (h : pb_H) (Q : Option Value → pb_H → Prop) (a : Nat), pb_R 65 64 L J (.ref a :: st) h Q ↔ pb_o (pb_gf (h.2 a) 1 0) (fun v => pb_R 65 67 L J (v :: st) h Q)) ∧
  (∀ (L : pb_L) (J : pb_J) (h : pb_H) (Q : Option Value → pb_H → Prop) (x0 : Nat), pb_R 65 67 L J [.ref x0] h Q ↔ pb_is0 (h.2 x0) 8 = true ∧ pb_call 23 [.ref x0] h (fun v t => pb_R 65 70 L J (v.toList ++ []) t Q)) ∧
  (∀ (L : pb_L) (J : pb_J) (st : List Value) (h : pb_H) (Q : Option Value → pb_H → Prop), pb_R 65 70 L J st h Q ↔ pb_R 65 71 L J (.int (1 : Int32) :: st) h Q) ∧
  (∀ (L : pb_L) (J : pb_J) (h : pb_H) (Q : Option Value → pb_H → Prop) (x : Int32), pb_R 65 71 L J [.int x] h Q ↔ narrow .boolean (.int x) = .int x ∧ Q (some (.int x)) h) := ⟨
  fun l1 st h Q x => pf_S pb_u_65 rfl rfl,
  fun l1 st h Q => pf_S pb_u_65 rfl rfl,
  fun L J h Q x0 => pf_kv pb_u_65 rfl pb_ci_28 rfl ⟨Nat.le_of_ble_eq_true rfl, Nat.le_of_ble_eq_true rfl, Nat.le_of_ble_eq_true rfl, Nat.le_of_ble_eq_true rfl, rfl⟩ rfl rfl,
  fun l0 l1 st h Q x => pf_S pb_u_65 rfl rfl,
  fun l0 l1 st h Q => pf_S pb_u_65 rfl rfl,
  fun l0 st h Q x => pf_S pb_u_65 rfl rfl,
  fun l0 st h Q => pf_S pb_u_65 rfl rfl,
  fun L J st h Q => pf_S pb_u_65 rfl rfl,
  fun L J st h Q x => pf_S pb_u_65 rfl rfl,
  fun l1 st h Q x => pf_S pb_u_65 rfl rfl,
  fun l1 st h Q => pf_S pb_u_65 rfl rfl,
  fun L J st h Q a => pf_gf pb_u_65 rfl rfl,
  fun L J st h Q => pf_S pb_u_65 rfl rfl,
  fun L J st h Q x y => pf_ic pb_u_65 rfl rfl rfl,
  fun l1 st h Q x => pf_S pb_u_65 rfl rfl,
  fun l1 st h Q => pf_S pb_u_65 rfl rfl,
  fun L J st h Q a => pf_gf pb_u_65 rfl rfl,
  fun L J st h Q => pf_S pb_u_65 rfl rfl,
  fun L J h Q x0 x1 => pf_kv pb_u_65 rfl pb_ci_29 rfl ⟨Nat.le_of_ble_eq_true rfl, Nat.le_of_ble_eq_true rfl, Nat.le_of_ble_eq_true rfl, Nat.le_of_ble_eq_true rfl, rfl⟩ rfl rfl,
  fun L J h Q x => pf_rz pb_u_65 rfl rfl,
  fun l1 st h Q x => pf_S pb_u_65 rfl rfl,
  fun l1 st h Q => pf_S pb_u_65 rfl rfl,
  fun L J st x h Q => pf_S pb_u_65 rfl rfl,
  fun L J st h Q a => pf_gf pb_u_65 rfl rfl,
  fun L J st h Q => pf_S pb_u_65 rfl rfl,
  fun L J st x y h Q => pf_S pb_u_65 rfl rfl,
  fun L J st h Q a x => pf_pf pb_u_65 rfl rfl,
  fun l1 st h Q x => pf_S pb_u_65 rfl rfl,
  fun l1 st h Q => pf_S pb_u_65 rfl rfl,
  fun L J st h Q a => pf_gf pb_u_65 rfl rfl,
  fun l1 st h Q x => pf_S pb_u_65 rfl rfl,
  fun l1 st h Q => pf_S pb_u_65 rfl rfl,
  fun L J st h Q a => pf_gf pb_u_65 rfl rfl,
  fun L J st h Q => pf_S pb_u_65 rfl rfl,
  fun L J st x y h Q => pf_S pb_u_65 rfl rfl,
  fun L J st h Q a i => pf_aa pb_u_65 rfl rfl,
  fun l0 st h Q x => pf_S pb_u_65 rfl rfl,
  fun l0 st h Q => pf_S pb_u_65 rfl rfl,
  fun L J h Q x0 x1 => pf_kv pb_u_65 rfl pb_ci_64 rfl ⟨Nat.le_of_ble_eq_true rfl, Nat.le_of_ble_eq_true rfl, Nat.le_of_ble_eq_true rfl, Nat.le_of_ble_eq_true rfl, rfl⟩ rfl rfl,
  fun L J st h Q x => pf_ii pb_u_65 rfl rfl pf_ne,
  fun l1 st h Q x => pf_S pb_u_65 rfl rfl,
  fun l1 st h Q => pf_S pb_u_65 rfl rfl,
  fun L J st h Q a => pf_gf pb_u_65 rfl rfl,
  fun L J st h Q => pf_S pb_u_65 rfl rfl,
  fun L J h Q x0 x1 => pf_kv pb_u_65 rfl pb_ci_29 rfl ⟨Nat.le_of_ble_eq_true rfl, Nat.le_of_ble_eq_true rfl, Nat.le_of_ble_eq_true rfl, Nat.le_of_ble_eq_true rfl, rfl⟩ rfl rfl,
  fun L J h Q x => pf_rz pb_u_65 rfl rfl,
  fun l1 st h Q x => pf_S pb_u_65 rfl rfl,
  fun l1 st h Q => pf_S pb_u_65 rfl rfl,
  fun L J st h Q a => pf_gf pb_u_65 rfl rfl,
  fun L J h Q x0 => pf_kv pb_u_65 rfl pb_ci_23 rfl ⟨Nat.le_of_ble_eq_true rfl, Nat.le_of_ble_eq_true rfl, Nat.le_of_ble_eq_true rfl, Nat.le_of_ble_eq_true rfl, rfl⟩ rfl rfl,
  fun L J st h Q => pf_S pb_u_65 rfl rfl,
  fun L J h Q x => pf_rz pb_u_65 rfl rfl⟩
theorem pb_c65 (x0 : Nat) (h : pb_H) (Q : Option Value → pb_H → Prop) : pb_call 65 [.ref x0] h Q ↔ pb_R 65 0 [some (.ref x0), none] [] [] h Q := Iff.rfl
/-! 66: PlaneBench$Line.cut()V -/
theorem pb_u_66 : pb_t 66 = pb_t66 := rfl
theorem pb_ci_66 : pb_ci 66 = 4 := by decide +kernel
set_option maxRecDepth 100000 in
theorem pb_q66_19 (l0 l1 l3 : Option Value) (st : List Value) (h : pb_H) (Q : Option Value → pb_H → Prop) (x : Int32) : pb_R 66 19 [l0, l1, some (.int x), l3] [] st h Q ↔ pb_R 66 20 [l0, l1, some (.int x), l3] [] (.int x :: st) h Q := pf_S pb_u_66 rfl rfl
set_option maxRecDepth 100000 in
theorem pb_e66 : (∀ (l1 l2 l3 : Option Value) (st : List Value) (h : pb_H) (Q : Option Value → pb_H → Prop) (x : Nat), pb_R 66 0 [some (.ref x), l1, l2, l3] [] st h Q ↔ pb_R 66 1 [some (.ref x), l1, l2, l3] [] (.ref x :: st) h Q) ∧
  (∀ (l1 l2 l3 : Option Value) (st : List Value) (h : pb_H) (Q : Option Value → pb_H → Prop), pb_R 66 0 [some .null, l1, l2, l3] [] st h Q ↔ pb_R 66 1 [some .null, l1, l2, l3] [] (.null :: st) h Q) ∧
  (∀ (L : pb_L) (J : pb_J) (st : List Value) (h : pb_H) (Q : Option Value → pb_H → Prop) (a : Nat), pb_R 66 1 L J (.ref a :: st) h Q ↔ pb_o (pb_gf (h.2 a) 4 1) (fun v => pb_R 66 4 L J (v :: st) h Q)) ∧
  (∀ (L : pb_L) (J : pb_J) (st : List Value) (h : pb_H) (Q : Option Value → pb_H → Prop), pb_R 66 4 L J st h Q ↔ pb_R 66 5 L J (.int (0 : Int32) :: st) h Q) ∧
  (∀ (L : pb_L) (J : pb_J) (h : pb_H) (Q : Option Value → pb_H → Prop) (x0 : Int32) (x1 : Nat), pb_R 66 5 L J [.int x0, .ref x1] h Q ↔ pb_call 4 [.ref x1, .int x0] h (fun v t => pb_R 66 8 L J (v.toList ++ []) t Q)) ∧
  (∀ (L : pb_L) (J : pb_J) (st : List Value) (h : pb_H) (Q : Option Value → pb_H → Prop) (x : Int32), pb_R 66 8 L J (.int x :: st) h Q ↔ if ¬ x = 0 then pb_R 66 15 L J st h Q else pb_R 66 11 L J st h Q) ∧
  (∀ (L : pb_L) (J : pb_J) (st : List Value) (h : pb_H) (Q : Option Value → pb_H → Prop), pb_R 66 11 L J st h Q ↔ pb_R 66 12 L J (.int (1 : Int32) :: st) h Q) ∧
  (∀ (L : pb_L) (J : pb_J) (st : List Value) (h : pb_H) (Q : Option Value → pb_H → Prop), pb_R 66 12 L J st h Q ↔ pb_R 66 16 L J st h Q) ∧
  (∀ (L : pb_L) (J : pb_J) (st : List Value) (h : pb_H) (Q : Option Value → pb_H → Prop), pb_R 66 15 L J st h Q ↔ pb_R 66 16 L J (.int (0 : Int32) :: st) h Q) ∧
  (∀ (l0 l1 l2 l3 : Option Value) (st : List Value) (h : pb_H) (Q : Option Value → pb_H → Prop) (x : Int32), pb_R 66 16 [l0, l1, l2, l3] [] (.int x :: st) h Q ↔ pb_R 66 17 [l0, some (.int x), l2, l3] [] st h Q) ∧
  (∀ (L : pb_L) (J : pb_J) (st : List Value) (h : pb_H) (Q : Option Value → pb_H → Prop), pb_R 66 17 L J st h Q ↔ pb_R 66 18 L J (.int (1 : Int32) :: st) h Q) ∧
  (∀ (l0 l1 l2 l3 : Option Value) (st : List Value) (h : pb_H) (Q : Option Value → pb_H → Prop) (x : Int32), pb_R 66 18 [l0, l1, l2, l3] [] (.int x :: st) h Q ↔ pb_R 66 19 [l0, l1, some (.int x), l3] [] st h Q) ∧
  (∀ (l1 l2 l3 : Option Value) (st : List Value) (h : pb_H) (Q : Option Value → pb_H → Prop) (x : Nat), pb_R 66 20 [some (.ref x), l1, l2, l3] [] st h Q ↔ pb_R 66 21 [some (.ref x), l1, l2, l3] [] (.ref x :: st) h Q) ∧
  (∀ (l1 l2 l3 : Option Value) (st : List Value) (h : pb_H) (Q : Option Value → pb_H → Prop), pb_R 66 20 [some .null, l1, l2, l3] [] st h Q ↔ pb_R 66 21 [some .null, l1, l2, l3] [] (.null :: st) h Q) ∧
  (∀ (L : pb_L) (J : pb_J) (st : List Value) (h : pb_H) (Q : Option Value → pb_H → Prop) (a : Nat), pb_R 66 21 L J (.ref a :: st) h Q ↔ pb_o (pb_gf (h.2 a) 4 0) (fun v => pb_R 66 24 L J (v :: st) h Q)) ∧
  (∀ (L : pb_L) (J : pb_J) (st : List Value) (h : pb_H) (Q : Option Value → pb_H → Prop) (x y : Int32), pb_R 66 24 L J (.int y :: .int x :: st) h Q ↔ if y < x then pb_R 66 92 L J st h Q else pb_R 66 27 L J st h Q) ∧
  (∀ (l0 l1 l3 : Option Value) (st : List Value) (h : pb_H) (Q : Option Value → pb_H → Prop) (x : Int32), pb_R 66 27 [l0, l1, some (.int x), l3] [] st h Q ↔ pb_R 66 28 [l0, l1, some (.int x), l3] [] (.int x :: st) h Q) ∧
  (∀ (L : pb_L) (J : pb_J) (st : List Value) (h : pb_H) (Q : Option Value → pb_H → Prop), pb_R 66 28 L J st h Q ↔ pb_R 66 30 L J (.int (8 : Int32) :: st) h Q) ∧
  (∀ (L : pb_L) (J : pb_J) (st : List Value) (x y : Int32) (h : pb_H) (Q : Option Value → pb_H → Prop), pb_R 66 30 L J (.int y :: .int x :: st) h Q ↔ pb_R 66 31 L J (.int (x * y) :: st) h Q) ∧
  (∀ (l0 l1 l2 l3 : Option Value) (st : List Value) (h : pb_H) (Q : Option Value → pb_H → Prop) (x : Int32), pb_R 66 31 [l0, l1, l2, l3] [] (.int x :: st) h Q ↔ pb_R 66 32 [l0, l1, l2, some (.int x)] [] st h Q) ∧
  (∀ (l1 l2 l3 : Option Value) (st : List Value) (h : pb_H) (Q : Option Value → pb_H → Prop) (x : Nat), pb_R 66 32 [some (.ref x), l1, l2, l3] [] st h Q ↔ pb_R 66 33 [some (.ref x), l1, l2, l3] [] (.ref x :: st) h Q) ∧
  (∀ (l1 l2 l3 : Option Value) (st : List Value) (h : pb_H) (Q : Option Value → pb_H → Prop), pb_R 66 32 [some .null, l1, l2, l3] [] st h Q ↔ pb_R 66 33 [some .null, l1, l2, l3] [] (.null :: st) h Q) ∧
  (∀ (l0 l1 l3 : Option Value) (st : List Value) (h : pb_H) (Q : Option Value → pb_H → Prop) (x : Int32), pb_R 66 33 [l0, l1, some (.int x), l3] [] st h Q ↔ pb_R 66 34 [l0, l1, some (.int x), l3] [] (.int x :: st) h Q) ∧
  (∀ (L : pb_L) (J : pb_J) (h : pb_H) (Q : Option Value → pb_H → Prop) (x0 : Int32) (x1 : Nat), pb_R 66 34 L J [.int x0, .ref x1] h Q ↔ pb_is0 (h.2 x1) 4 = true ∧ pb_call 32 [.ref x1, .int x0] h (fun v t => pb_R 66 37 L J (v.toList ++ []) t Q)) ∧
  (∀ (L : pb_L) (J : pb_J) (st : List Value) (h : pb_H) (Q : Option Value → pb_H → Prop) (x : Int32), pb_R 66 37 L J (.int x :: st) h Q ↔ if x = 0 then pb_R 66 86 L J st h Q else pb_R 66 40 L J st h Q) ∧
  (∀ (l1 l2 l3 : Option Value) (st : List Value) (h : pb_H) (Q : Option Value → pb_H → Prop) (x : Nat), pb_R 66 40 [some (.ref x), l1, l2, l3] [] st h Q ↔ pb_R 66 41 [some (.ref x), l1, l2, l3] [] (.ref x :: st) h Q) ∧
  (∀ (l1 l2 l3 : Option Value) (st : List Value) (h : pb_H) (Q : Option Value → pb_H → Prop), pb_R 66 40 [some .null, l1, l2, l3] [] st h Q ↔ pb_R 66 41 [some .null, l1, l2, l3] [] (.null :: st) h Q) ∧
  (∀ (L : pb_L) (J : pb_J) (st : List Value) (h : pb_H) (Q : Option Value → pb_H → Prop) (a : Nat), pb_R 66 41 L J (.ref a :: st) h Q ↔ pb_o (pb_gf (h.2 a) 4 1) (fun v => pb_R 66 44 L J (v :: st) h Q)) ∧
  (∀ (l0 l1 l2 : Option Value) (st : List Value) (h : pb_H) (Q : Option Value → pb_H → Prop) (x : Int32), pb_R 66 44 [l0, l1, l2, some (.int x)] [] st h Q ↔ pb_R 66 45 [l0, l1, l2, some (.int x)] [] (.int x :: st) h Q) ∧
  (∀ (l1 l2 l3 : Option Value) (st : List Value) (h : pb_H) (Q : Option Value → pb_H → Prop) (x : Nat), pb_R 66 45 [some (.ref x), l1, l2, l3] [] st h Q ↔ pb_R 66 46 [some (.ref x), l1, l2, l3] [] (.ref x :: st) h Q) ∧
  (∀ (l1 l2 l3 : Option Value) (st : List Value) (h : pb_H) (Q : Option Value → pb_H → Prop), pb_R 66 45 [some .null, l1, l2, l3] [] st h Q ↔ pb_R 66 46 [some .null, l1, l2, l3] [] (.null :: st) h Q) ∧
  (∀ (L : pb_L) (J : pb_J) (st : List Value) (h : pb_H) (Q : Option Value → pb_H → Prop) (a : Nat), pb_R 66 46 L J (.ref a :: st) h Q ↔ pb_o (pb_gf (h.2 a) 4 1) (fun v => pb_R 66 49 L J (v :: st) h Q)) ∧
  (∀ (L : pb_L) (J : pb_J) (st : List Value) (h : pb_H) (Q : Option Value → pb_H → Prop), pb_R 66 49 L J st h Q ↔ pb_R 66 50 L J (.int (0 : Int32) :: st) h Q) ∧
  (∀ (l1 l2 l3 : Option Value) (st : List Value) (h : pb_H) (Q : Option Value → pb_H → Prop) (x : Nat), pb_R 66 50 [some (.ref x), l1, l2, l3] [] st h Q ↔ pb_R 66 51 [some (.ref x), l1, l2, l3] [] (.ref x :: st) h Q) ∧
  (∀ (l1 l2 l3 : Option Value) (st : List Value) (h : pb_H) (Q : Option Value → pb_H → Prop), pb_R 66 50 [some .null, l1, l2, l3] [] st h Q ↔ pb_R 66 51 [some .null, l1, l2, l3] [] (.null :: st) h Q) ∧
  (∀ (L : pb_L) (J : pb_J) (st : List Value) (h : pb_H) (Q : Option Value → pb_H → Prop) (a : Nat), pb_R 66 51 L J (.ref a :: st) h Q ↔ pb_o (pb_gf (h.2 a) 4 4) (fun v => pb_R 66 54 L J (v :: st) h Q)) ∧
  (∀ (L : pb_L) (J : pb_J) (h : pb_H) (Q : Option Value → pb_H → Prop) (x0 : Int32) (x1 : Int32) (x2 : Nat) (x3 : Int32) (x4 : Nat), pb_R 66 54 L J [.int x0, .int x1, .ref x2, .int x3, .ref x4] h Q ↔ pb_call 61 [.ref x4, .int x3, .ref x2, .int x1, .int x0] h (fun v t => pb_R 66 57 L J (v.toList ++ []) t Q)) ∧
  (∀ (L : pb_L) (J : pb_J) (st : List Value) (h : pb_H) (Q : Option Value → pb_H → Prop) (x : Int32), pb_R 66 57 L J (.int x :: st) h Q ↔ if 0 < x then pb_R 66 63 L J st h Q else pb_R 66 60 L J st h Q) ∧
  (∀ (L : pb_L) (J : pb_J) (st : List Value) (h : pb_H) (Q : Option Value → pb_H → Prop), pb_R 66 60 L J st h Q ↔ pb_R 66 86 L J st h Q) ∧
  (∀ (l1 l2 l3 : Option Value) (st : List Value) (h : pb_H) (Q : Option Value → pb_H → Prop) (x : Nat), pb_R 66 63 [some (.ref x), l1, l2, l3] [] st h Q ↔ pb_R 66 64 [some (.ref x), l1, l2, l3] [] (.ref x :: st) h Q) ∧
  (∀ (l1 l2 l3 : Option Value) (st : List Value) (h : pb_H) (Q : Option Value → pb_H → Prop), pb_R 66 63 [some .null, l1, l2, l3] [] st h Q ↔ pb_R 66 64 [some .null, l1, l2, l3] [] (.null :: st) h Q) ∧
  (∀ (L : pb_L) (J : pb_J) (st : List Value) (h : pb_H) (Q : Option Value → pb_H → Prop) (a : Nat), pb_R 66 64 L J (.ref a :: st) h Q ↔ pb_o (pb_gf (h.2 a) 4 1) (fun v => pb_R 66 67 L J (v :: st) h Q)) ∧
  (∀ (l0 l1 l2 : Option Value) (st : List Value) (h : pb_H) (Q : Option Value → pb_H → Prop) (x : Int32), pb_R 66 67 [l0, l1, l2, some (.int x)] [] st h Q ↔ pb_R 66 68 [l0, l1, l2, some (.int x)] [] (.int x :: st) h Q) ∧
  (∀ (l1 l2 l3 : Option Value) (st : List Value) (h : pb_H) (Q : Option Value → pb_H → Prop) (x : Nat), pb_R 66 68 [some (.ref x), l1, l2, l3] [] st h Q ↔ pb_R 66 69 [some (.ref x), l1, l2, l3] [] (.ref x :: st) h Q) ∧
  (∀ (l1 l2 l3 : Option Value) (st : List Value) (h : pb_H) (Q : Option Value → pb_H → Prop), pb_R 66 68 [some .null, l1, l2, l3] [] st h Q ↔ pb_R 66 69 [some .null, l1, l2, l3] [] (.null :: st) h Q) ∧
  (∀ (L : pb_L) (J : pb_J) (st : List Value) (h : pb_H) (Q : Option Value → pb_H → Prop) (a : Nat), pb_R 66 69 L J (.ref a :: st) h Q ↔ pb_o (pb_gf (h.2 a) 4 1) (fun v => pb_R 66 72 L J (v :: st) h Q)) ∧
  (∀ (L : pb_L) (J : pb_J) (st : List Value) (h : pb_H) (Q : Option Value → pb_H → Prop), pb_R 66 72 L J st h Q ↔ pb_R 66 73 L J (.int (0 : Int32) :: st) h Q) ∧
  (∀ (L : pb_L) (J : pb_J) (h : pb_H) (Q : Option Value → pb_H → Prop) (x0 : Int32) (x1 : Nat) (x2 : Int32) (x3 : Nat), pb_R 66 73 L J [.int x0, .ref x1, .int x2, .ref x3] h Q ↔ pb_call 42 [.ref x3, .int x2, .ref x1, .int x0] h (fun v t => pb_R 66 76 L J (v.toList ++ []) t Q)) ∧
  (∀ (l0 l2 l3 : Option Value) (st : List Value) (h : pb_H) (Q : Option Value → pb_H → Prop) (x : Int32), pb_R 66 76 [l0, some (.int x), l2, l3] [] st h Q ↔ pb_R 66 77 [l0, some (.int x), l2, l3] [] (.int x :: st) h Q) ∧
  (∀ (L : pb_L) (J : pb_J) (st : List Value) (h : pb_H) (Q : Option Value → pb_H → Prop) (x : Int32), pb_R 66 77 L J (.int x :: st) h Q ↔ if x = 0 then pb_R 66 86 L J st h Q else pb_R 66 80 L J st h Q) ∧
  (∀ (l1 l2 l3 : Option Value) (st : List Value) (h : pb_H) (Q : Option Value → pb_H → Prop) (x : Nat), pb_R 66 80 [some (.ref x), l1, l2, l3] [] st h Q ↔ pb_R 66 81 [some (.ref x), l1, l2, l3] [] (.ref x :: st) h Q) ∧
  (∀ (l1 l2 l3 : Option Value) (st : List Value) (h : pb_H) (Q : Option Value → pb_H → Prop), pb_R 66 80 [some .null, l1, l2, l3] [] st h Q ↔ pb_R 66 81 [some .null, l1, l2, l3] [] (.null :: st) h Q) ∧
  (∀ (l0 l1 l3 : Option Value) (st : List Value) (h : pb_H) (Q : Option Value → pb_H → Prop) (x : Int32), pb_R 66 81 [l0, l1, some (.int x), l3] [] st h Q ↔ pb_R 66 82 [l0, l1, some (.int x), l3] [] (.int x :: st) h Q) ∧
  (∀ (L : pb_L) (J : pb_J) (st : List Value) (h : pb_H) (Q : Option Value → pb_H → Prop), pb_R 66 82 L J st h Q ↔ pb_R 66 83 L J (.int (0 : Int32) :: st) h Q) ∧
  (∀ (L : pb_L) (J : pb_J) (h : pb_H) (Q : Option Value → pb_H → Prop) (x0 : Int32) (x1 : Int32) (x2 : Nat), pb_R 66 83 L J [.int x0, .int x1, .ref x2] h Q ↔ pb_is0 (h.2 x2) 4 = true ∧ pb_call 54 [.ref x2, .int x1, .int x0] h (fun v t => pb_R 66 86 L J (v.toList ++ []) t Q)) ∧
  (∀ (l0 l1 l3 : Option Value) (st : List Value) (h : pb_H) (Q : Option Value → pb_H → Prop) (x : Int32), pb_R 66 86 [l0, l1, some (.int x), l3] [] st h Q ↔ pb_R 66 89 [l0, l1, some (.int (x + (1 : Int32))), l3] [] st h Q) ∧
  (∀ (L : pb_L) (J : pb_J) (st : List Value) (h : pb_H) (Q : Option Value → pb_H → Prop), pb_R 66 89 L J st h Q ↔ pb_R 66 19 L J st h Q) ∧
  (∀ (l1 l2 l3 : Option Value) (st : List Value) (h : pb_H) (Q : Option Value → pb_H → Prop) (x : Nat), pb_R 66 92 [some (.ref x), l1, l2, l3] [] st h Q ↔ pb_R 66 93 [some (.ref x), l1, l2, l3] [] (.ref x :: st) h Q) ∧
  (∀ (l1 l2 l3 : Option Value) (st : List Value) (h : pb_H) (Q : Option Value → pb_H → Prop), pb_R 66 92 [some .null, l1, l2, l3] [] st h Q ↔ pb_R 66 93 [some .null, l1, l2, l3] [] (.null :: st) h Q) ∧
  (∀ (l1 l2 l3 : Option Value) (st : List Value) (h : pb_H) (Q : Option Value → pb_H → Prop) (x : Nat), pb_R 66 93 [some (.ref x), l1, l2, l3] [] st h Q ↔ pb_R 66 94 [some (.ref x), l1, l2, l3] [] (.ref x :: st) h Q) ∧
  (∀ (l1 l2 l3 : Option Value) (st : List Value) (h : pb_H) (Q : Option Value → pb_H → Prop), pb_R 66 93 [some .null, l1, l2, l3] [] st h Q ↔ pb_R 66 94 [some .null, l1, l2, l3] [] (.null :: st) h Q) ∧
  (∀ (L : pb_L) (J : pb_J) (st : List Value) (h : pb_H) (Q : Option Value → pb_H → Prop) (a : Nat), pb_R 66 94 L J (.ref a :: st) h Q ↔ pb_o (pb_gf (h.2 a) 4 4) (fun v => pb_R 66 97 L J (v :: st) h Q)) ∧
  (∀ (L : pb_L) (J : pb_J) (h : pb_H) (Q : Option Value → pb_H → Prop) (x0 : Int32) (x1 : Nat), pb_R 66 97 L J [.int x0, .ref x1] h Q ↔ pb_is0 (h.2 x1) 4 = true ∧ pb_call 39 [.ref x1, .int x0] h (fun v t => pb_R 66 100 L J (v.toList ++ []) t Q)) ∧
  (∀ (L : pb_L) (J : pb_J) (h : pb_H) (Q : Option Value → pb_H → Prop), pb_R 66 100 L J [] h Q ↔ Q none h) := ⟨
  fun l1 l2 l3 st h Q x => pf_S pb_u_66 rfl rfl,
  fun l1 l2 l3 st h Q => pf_S pb_u_66 rfl rfl,
  fun L J st h Q a => pf_gf pb_u_66 rfl rfl,
  fun L J st h Q => pf_S pb_u_66 rfl rfl,
  fun L J h Q x0 x1 => pf_ks pb_u_66 rfl rfl rfl rfl,
  fun L J st h Q x => pf_ii pb_u_66 rfl rfl pf_ne,
  fun L J st h Q => pf_S pb_u_66 rfl rfl,
  fun L J st h Q => pf_S pb_u_66 rfl rfl,
  fun L J st h Q => pf_S pb_u_66 rfl rfl,
  fun l0 l1 l2 l3 st h Q x => pf_S pb_u_66 rfl rfl,
  fun L J st h Q => pf_S pb_u_66 rfl rfl,
  fun l0 l1 l2 l3 st h Q x => pf_S pb_u_66 rfl rfl,
  fun l1 l2 l3 st h Q x => pf_S pb_u_66 rfl rfl,
  fun l1 l2 l3 st h Q => pf_S pb_u_66 rfl rfl,
  fun L J st h Q a => pf_gf pb_u_66 rfl rfl,
  fun L J st h Q x y => pf_ic pb_u_66 rfl rfl rfl,
  fun l0 l1 l3 st h Q x => pf_S pb_u_66 rfl rfl,
  fun L J st h Q => pf_S pb_u_66 rfl rfl,
  fun L J st x y h Q => pf_S pb_u_66 rfl rfl,
  fun l0 l1 l2 l3 st h Q x => pf_S pb_u_66 rfl rfl,
  fun l1 l2 l3 st h Q x => pf_S pb_u_66 rfl rfl,
  fun l1 l2 l3 st h Q => pf_S pb_u_66 rfl rfl,
  fun l0 l1 l3 st h Q x => pf_S pb_u_66 rfl rfl,
  fun L J h Q x0 x1 => pf_kv pb_u_66 rfl pb_ci_32 rfl ⟨Nat.le_of_ble_eq_true rfl, Nat.le_of_ble_eq_true rfl, Nat.le_of_ble_eq_true rfl, Nat.le_of_ble_eq_true rfl, rfl⟩ rfl rfl,
  fun L J st h Q x => pf_ii pb_u_66 rfl rfl rfl,
  fun l1 l2 l3 st h Q x => pf_S pb_u_66 rfl rfl,
  fun l1 l2 l3 st h Q => pf_S pb_u_66 rfl rfl,
  fun L J st h Q a => pf_gf pb_u_66 rfl rfl,
  fun l0 l1 l2 st h Q x => pf_S pb_u_66 rfl rfl,
  fun l1 l2 l3 st h Q x => pf_S pb_u_66 rfl rfl,
  fun l1 l2 l3 st h Q => pf_S pb_u_66 rfl rfl,
  fun L J st h Q a => pf_gf pb_u_66 rfl rfl,
  fun L J st h Q => pf_S pb_u_66 rfl rfl,
  fun l1 l2 l3 st h Q x => pf_S pb_u_66 rfl rfl,
  fun l1 l2 l3 st h Q => pf_S pb_u_66 rfl rfl,
  fun L J st h Q a => pf_gf pb_u_66 rfl rfl,
  fun L J h Q x0 x1 x2 x3 x4 => pf_ks pb_u_66 rfl rfl rfl rfl,
  fun L J st h Q x => pf_ii pb_u_66 rfl rfl rfl,
  fun L J st h Q => pf_S pb_u_66 rfl rfl,
  fun l1 l2 l3 st h Q x => pf_S pb_u_66 rfl rfl,
  fun l1 l2 l3 st h Q => pf_S pb_u_66 rfl rfl,
  fun L J st h Q a => pf_gf pb_u_66 rfl rfl,
  fun l0 l1 l2 st h Q x => pf_S pb_u_66 rfl rfl,
  fun l1 l2 l3 st h Q x => pf_S pb_u_66 rfl rfl,
  fun l1 l2 l3 st h Q => pf_S pb_u_66 rfl rfl,
  fun L J st h Q a => pf_gf pb_u_66 rfl rfl,
  fun L J st h Q => pf_S pb_u_66 rfl rfl,
  fun L J h Q x0 x1 x2 x3 => pf_ks pb_u_66 rfl rfl rfl rfl,
  fun l0 l2 l3 st h Q x => pf_S pb_u_66 rfl rfl,
  fun L J st h Q x => pf_ii pb_u_66 rfl rfl rfl,
  fun l1 l2 l3 st h Q x => pf_S pb_u_66 rfl rfl,
  fun l1 l2 l3 st h Q => pf_S pb_u_66 rfl rfl,
  fun l0 l1 l3 st h Q x => pf_S pb_u_66 rfl rfl,
  fun L J st h Q => pf_S pb_u_66 rfl rfl,
  fun L J h Q x0 x1 x2 => pf_kv pb_u_66 rfl pb_ci_54 rfl ⟨Nat.le_of_ble_eq_true rfl, Nat.le_of_ble_eq_true rfl, Nat.le_of_ble_eq_true rfl, Nat.le_of_ble_eq_true rfl, rfl⟩ rfl rfl,
  fun l0 l1 l3 st h Q x => pf_S pb_u_66 rfl rfl,
  fun L J st h Q => pf_S pb_u_66 rfl rfl,
  fun l1 l2 l3 st h Q x => pf_S pb_u_66 rfl rfl,
  fun l1 l2 l3 st h Q => pf_S pb_u_66 rfl rfl,
  fun l1 l2 l3 st h Q x => pf_S pb_u_66 rfl rfl,
  fun l1 l2 l3 st h Q => pf_S pb_u_66 rfl rfl,
  fun L J st h Q a => pf_gf pb_u_66 rfl rfl,
  fun L J h Q x0 x1 => pf_kv pb_u_66 rfl pb_ci_39 rfl ⟨Nat.le_of_ble_eq_true rfl, Nat.le_of_ble_eq_true rfl, Nat.le_of_ble_eq_true rfl, Nat.le_of_ble_eq_true rfl, rfl⟩ rfl rfl,
  fun L J h Q => pf_rv pb_u_66 rfl rfl⟩
theorem pb_c66 (x0 : Nat) (h : pb_H) (Q : Option Value → pb_H → Prop) : pb_call 66 [.ref x0] h Q ↔ pb_R 66 0 [some (.ref x0), none, none, none] [] [] h Q := Iff.rfl
/-! 67: PlaneBench$Checker.cutUppermost()Z -/
theorem pb_u_67 : pb_t 67 = pb_t67 := rfl
theorem pb_ci_67 : pb_ci 67 = 1 := by decide +kernel
set_option maxRecDepth 100000 in
theorem pb_e67 : (∀ (l1 : Option Value) (st : List Value) (h : pb_H) (Q : Option Value → pb_H → Prop) (x : Nat), pb_R 67 0 [some (.ref x), l1] [] st h Q ↔ pb_R 67 1 [some (.ref x), l1] [] (.ref x :: st) h Q) ∧
  (∀ (l1 : Option Value) (st : List Value) (h : pb_H) (Q : Option Value → pb_H → Prop), pb_R 67 0 [some .null, l1] [] st h Q ↔ pb_R 67 1 [some .null, l1] [] (.null :: st) h Q) ∧
  (∀ (L : pb_L) (J : pb_J) (h : pb_H) (Q : Option Value → pb_H → Prop) (x0 : Nat), pb_R 67 1 L J [.ref x0] h Q ↔ pb_is0 (h.2 x0) 1 = true ∧ pb_call 28 [.ref x0] h (fun v t => pb_R 67 4 L J (v.toList ++ []) t Q)) ∧
  (∀ (l0 l1 : Option Value) (st : List Value) (h : pb_H) (Q : Option Value → pb_H → Prop) (x : Nat), pb_R 67 4 [l0, l1] [] (.ref x :: st) h Q ↔ pb_R 67 5 [l0, some (.ref x)] [] st h Q) ∧
  (∀ (l0 l1 : Option Value) (st : List Value) (h : pb_H) (Q : Option Value → pb_H → Prop), pb_R 67 4 [l0, l1] [] (.null :: st) h Q ↔ pb_R 67 5 [l0, some .null] [] st h Q) ∧
  (∀ (l0 : Option Value) (st : List Value) (h : pb_H) (Q : Option Value → pb_H → Prop) (x : Nat), pb_R 67 5 [l0, some (.ref x)] [] st h Q ↔ pb_R 67 6 [l0, some (.ref x)] [] (.ref x :: st) h Q) ∧
  (∀ (l0 : Option Value) (st : List Value) (h : pb_H) (Q : Option Value → pb_H → Prop), pb_R 67 5 [l0, some .null] [] st h Q ↔ pb_R 67 6 [l0, some .null] [] (.null :: st) h Q) ∧
  (∀ (L : pb_L) (J : pb_J) (st : List Value) (h : pb_H) (Q : Option Value → pb_H → Prop), pb_R 67 6 L J (.null :: st) h Q ↔ pb_R 67 9 L J st h Q) ∧
  (∀ (L : pb_L) (J : pb_J) (st : List Value) (h : pb_H) (Q : Option Value → pb_H → Prop) (x : Nat), pb_R 67 6 L J (.ref x :: st) h Q ↔ pb_R 67 18 L J st h Q) ∧
  (∀ (l1 : Option Value) (st : List Value) (h : pb_H) (Q : Option Value → pb_H → Prop) (x : Nat), pb_R 67 9 [some (.ref x), l1] [] st h Q ↔ pb_R 67 10 [some (.ref x), l1] [] (.ref x :: st) h Q) ∧
  (∀ (l1 : Option Value) (st : List Value) (h : pb_H) (Q : Option Value → pb_H → Prop), pb_R 67 9 [some .null, l1] [] st h Q ↔ pb_R 67 10 [some .null, l1] [] (.null :: st) h Q) ∧
  (∀ (L : pb_L) (J : pb_J) (st : List Value) (h : pb_H) (Q : Option Value → pb_H → Prop) (a : Nat), pb_R 67 10 L J (.ref a :: st) h Q ↔ pb_o (pb_gf (h.2 a) 1 0) (fun v => pb_R 67 13 L J (v :: st) h Q)) ∧
  (∀ (L : pb_L) (J : pb_J) (st : List Value) (h : pb_H) (Q : Option Value → pb_H → Prop), pb_R 67 13 L J st h Q ↔ pb_R 67 14 L J (.int (4 : Int32) :: st) h Q) ∧
  (∀ (L : pb_L) (J : pb_J) (h : pb_H) (Q : Option Value → pb_H → Prop) (x0 : Int32) (x1 : Nat), pb_R 67 14 L J [.int x0, .ref x1] h Q ↔ pb_is0 (h.2 x1) 8 = true ∧ pb_call 29 [.ref x1, .int x0] h (fun v t => pb_R 67 17 L J (v.toList ++ []) t Q)) ∧
  (∀ (L : pb_L) (J : pb_J) (h : pb_H) (Q : Option Value → pb_H → Prop) (x : Int32), pb_R 67 17 L J [.int x] h Q ↔ narrow .boolean (.int x) = .int x ∧ Q (some (.int x)) h) ∧
  (∀ (l0 : Option Value) (st : List Value) (h : pb_H) (Q : Option Value → pb_H → Prop) (x : Nat), pb_R 67 18 [l0, some (.ref x)] [] st h Q ↔ pb_R 67 19 [l0, some (.ref x)] [] (.ref x :: st) h Q) ∧
  (∀ (l0 : Option Value) (st : List Value) (h : pb_H) (Q : Option Value → pb_H → Prop), pb_R 67 18 [l0, some .null] [] st h Q ↔ pb_R 67 19 [l0, some .null] [] (.null :: st) h Q) ∧
  (∀ (L : pb_L) (J : pb_J) (h : pb_H) (Q : Option Value → pb_H → Prop) (x0 : Nat), pb_R 67 19 L J [.ref x0] h Q ↔ pb_is0 (h.2 x0) 4 = true ∧ pb_call 66 [.ref x0] h (fun v t => pb_R 67 22 L J (v.toList ++ []) t Q)) ∧
  (∀ (l1 : Option Value) (st : List Value) (h : pb_H) (Q : Option Value → pb_H → Prop) (x : Nat), pb_R 67 22 [some (.ref x), l1] [] st h Q ↔ pb_R 67 23 [some (.ref x), l1] [] (.ref x :: st) h Q) ∧
  (∀ (l1 : Option Value) (st : List Value) (h : pb_H) (Q : Option Value → pb_H → Prop), pb_R 67 22 [some .null, l1] [] st h Q ↔ pb_R 67 23 [some .null, l1] [] (.null :: st) h Q) ∧
  (∀ (L : pb_L) (J : pb_J) (st : List Value) (h : pb_H) (Q : Option Value → pb_H → Prop) (a : Nat), pb_R 67 23 L J (.ref a :: st) h Q ↔ pb_o (pb_gf (h.2 a) 1 0) (fun v => pb_R 67 26 L J (v :: st) h Q)) ∧
  (∀ (L : pb_L) (J : pb_J) (h : pb_H) (Q : Option Value → pb_H → Prop) (x0 : Nat), pb_R 67 26 L J [.ref x0] h Q ↔ pb_is0 (h.2 x0) 8 = true ∧ pb_call 23 [.ref x0] h (fun v t => pb_R 67 29 L J (v.toList ++ []) t Q)) ∧
  (∀ (L : pb_L) (J : pb_J) (st : List Value) (h : pb_H) (Q : Option Value → pb_H → Prop), pb_R 67 29 L J st h Q ↔ pb_R 67 30 L J (.int (1 : Int32) :: st) h Q) ∧
  (∀ (L : pb_L) (J : pb_J) (h : pb_H) (Q : Option Value → pb_H → Prop) (x : Int32), pb_R 67 30 L J [.int x] h Q ↔ narrow .boolean (.int x) = .int x ∧ Q (some (.int x)) h) := ⟨
  fun l1 st h Q x => pf_S pb_u_67 rfl rfl,
  fun l1 st h Q => pf_S pb_u_67 rfl rfl,
  fun L J h Q x0 => pf_kv pb_u_67 rfl pb_ci_28 rfl ⟨Nat.le_of_ble_eq_true rfl, Nat.le_of_ble_eq_true rfl, Nat.le_of_ble_eq_true rfl, Nat.le_of_ble_eq_true rfl, rfl⟩ rfl rfl,
  fun l0 l1 st h Q x => pf_S pb_u_67 rfl rfl,
  fun l0 l1 st h Q => pf_S pb_u_67 rfl rfl,
  fun l0 st h Q x => pf_S pb_u_67 rfl rfl,
  fun l0 st h Q => pf_S pb_u_67 rfl rfl,
  fun L J st h Q => pf_S pb_u_67 rfl rfl,
  fun L J st h Q x => pf_S pb_u_67 rfl rfl,
  fun l1 st h Q x => pf_S pb_u_67 rfl rfl,
  fun l1 st h Q => pf_S pb_u_67 rfl rfl,
  fun L J st h Q a => pf_gf pb_u_67 rfl rfl,
  fun L J st h Q => pf_S pb_u_67 rfl rfl,
  fun L J h Q x0 x1 => pf_kv pb_u_67 rfl pb_ci_29 rfl ⟨Nat.le_of_ble_eq_true rfl, Nat.le_of_ble_eq_true rfl, Nat.le_of_ble_eq_true rfl, Nat.le_of_ble_eq_true rfl, rfl⟩ rfl rfl,
  fun L J h Q x => pf_rz pb_u_67 rfl rfl,
  fun l0 st h Q x => pf_S pb_u_67 rfl rfl,
  fun l0 st h Q => pf_S pb_u_67 rfl rfl,
  fun L J h Q x0 => pf_kv pb_u_67 rfl pb_ci_66 rfl ⟨Nat.le_of_ble_eq_true rfl, Nat.le_of_ble_eq_true rfl, Nat.le_of_ble_eq_true rfl, Nat.le_of_ble_eq_true rfl, rfl⟩ rfl rfl,
  fun l1 st h Q x => pf_S pb_u_67 rfl rfl,
  fun l1 st h Q => pf_S pb_u_67 rfl rfl,
  fun L J st h Q a => pf_gf pb_u_67 rfl rfl,
  fun L J h Q x0 => pf_kv pb_u_67 rfl pb_ci_23 rfl ⟨Nat.le_of_ble_eq_true rfl, Nat.le_of_ble_eq_true rfl, Nat.le_of_ble_eq_true rfl, Nat.le_of_ble_eq_true rfl, rfl⟩ rfl rfl,
  fun L J st h Q => pf_S pb_u_67 rfl rfl,
  fun L J h Q x => pf_rz pb_u_67 rfl rfl⟩
theorem pb_c67 (x0 : Nat) (h : pb_H) (Q : Option Value → pb_H → Prop) : pb_call 67 [.ref x0] h Q ↔ pb_R 67 0 [some (.ref x0), none] [] [] h Q := Iff.rfl
/-! 68: PlaneBench$Shelf.isFull()Z -/
theorem pb_u_68 : pb_t 68 = pb_t68 := rfl
theorem pb_ci_68 : pb_ci 68 = 7 := by decide +kernel
set_option maxRecDepth 100000 in
theorem pb_e68 : (∀ (st : List Value) (h : pb_H) (Q : Option Value → pb_H → Prop) (x : Nat), pb_R 68 0 [some (.ref x)] [] st h Q ↔ pb_R 68 1 [some (.ref x)] [] (.ref x :: st) h Q) ∧
  (∀ (st : List Value) (h : pb_H) (Q : Option Value → pb_H → Prop), pb_R 68 0 [some .null] [] st h Q ↔ pb_R 68 1 [some .null] [] (.null :: st) h Q) ∧
  (∀ (L : pb_L) (J : pb_J) (st : List Value) (h : pb_H) (Q : Option Value → pb_H → Prop) (a : Nat), pb_R 68 1 L J (.ref a :: st) h Q ↔ pb_o (pb_gf (h.2 a) 7 2) (fun v => pb_R 68 4 L J (v :: st) h Q)) ∧
  (∀ (L : pb_L) (J : pb_J) (st : List Value) (h : pb_H) (Q : Option Value → pb_H → Prop), pb_R 68 4 L J st h Q ↔ pb_R 68 7 L J (.int (300 : Int32) :: st) h Q) ∧
  (∀ (L : pb_L) (J : pb_J) (st : List Value) (h : pb_H) (Q : Option Value → pb_H → Prop) (x y : Int32), pb_R 68 7 L J (.int y :: .int x :: st) h Q ↔ if x < y then pb_R 68 14 L J st h Q else pb_R 68 10 L J st h Q) ∧
  (∀ (L : pb_L) (J : pb_J) (st : List Value) (h : pb_H) (Q : Option Value → pb_H → Prop), pb_R 68 10 L J st h Q ↔ pb_R 68 11 L J (.int (1 : Int32) :: st) h Q) ∧
  (∀ (L : pb_L) (J : pb_J) (st : List Value) (h : pb_H) (Q : Option Value → pb_H → Prop), pb_R 68 11 L J st h Q ↔ pb_R 68 15 L J st h Q) ∧
  (∀ (L : pb_L) (J : pb_J) (st : List Value) (h : pb_H) (Q : Option Value → pb_H → Prop), pb_R 68 14 L J st h Q ↔ pb_R 68 15 L J (.int (0 : Int32) :: st) h Q) ∧
  (∀ (L : pb_L) (J : pb_J) (h : pb_H) (Q : Option Value → pb_H → Prop) (x : Int32), pb_R 68 15 L J [.int x] h Q ↔ narrow .boolean (.int x) = .int x ∧ Q (some (.int x)) h) := ⟨
  fun st h Q x => pf_S pb_u_68 rfl rfl,
  fun st h Q => pf_S pb_u_68 rfl rfl,
  fun L J st h Q a => pf_gf pb_u_68 rfl rfl,
  fun L J st h Q => pf_S pb_u_68 rfl rfl,
  fun L J st h Q x y => pf_ic pb_u_68 rfl rfl rfl,
  fun L J st h Q => pf_S pb_u_68 rfl rfl,
  fun L J st h Q => pf_S pb_u_68 rfl rfl,
  fun L J st h Q => pf_S pb_u_68 rfl rfl,
  fun L J h Q x => pf_rz pb_u_68 rfl rfl⟩
theorem pb_c68 (x0 : Nat) (h : pb_H) (Q : Option Value → pb_H → Prop) : pb_call 68 [.ref x0] h Q ↔ pb_R 68 0 [some (.ref x0)] [] [] h Q := Iff.rfl
/-! 69: PlaneBench$Line.findRest(I[I)J -/
theorem pb_u_69 : pb_t 69 = pb_t69 := rfl
theorem pb_ci_69 : pb_ci 69 = 4 := by decide +kernel
set_option maxRecDepth 100000 in
theorem pb_q69_5 (l0 l1 l2 l3 l4 l6 : Option Value) (j0 j1 j2 j3 j4 j5 j6 : Option Int64) (st : List Value) (h : pb_H) (Q : Option Value → pb_H → Prop) (x : Int32) : pb_R 69 5 [l0, l1, l2, l3, l4, some (.int x), l6] [j0, j1, j2, j3, j4, j5, j6] st h Q ↔ pb_R 69 7 [l0, l1, l2, l3, l4, some (.int x), l6] [j0, j1, j2, j3, j4, j5, j6] (.int x :: st) h Q := pf_S pb_u_69 rfl rfl
set_option maxRecDepth 100000 in
theorem pb_q69_32 (l0 l1 l2 l3 l4 l5 : Option Value) (j0 j1 j2 j3 j4 j5 j6 : Option Int64) (st : List Value) (h : pb_H) (Q : Option Value → pb_H → Prop) (x : Int32) : pb_R 69 32 [l0, l1, l2, l3, l4, l5, some (.int x)] [j0, j1, j2, j3, j4, j5, j6] st h Q ↔ pb_R 69 34 [l0, l1, l2, l3, l4, l5, some (.int x)] [j0, j1, j2, j3, j4, j5, j6] (.int x :: st) h Q := pf_S pb_u_69 rfl rfl
set_option maxRecDepth 100000 in
theorem pb_e69 : (∀ (L : pb_L) (J : pb_J) (st : List Value) (h : pb_H) (Q : Option Value → pb_H → Prop), pb_R 69 0 L J st h Q ↔ pb_R 69 1 L J (.long (0 : Int64) :: st) h Q) ∧
  (∀ (l0 l1 l2 l3 l4 l5 l6 : Option Value) (j0 j1 j2 j3 j4 j5 j6 : Option Int64) (st : List Value) (h : pb_H) (Q : Option Value → pb_H → Prop) (x : Int64), pb_R 69 1 [l0, l1, l2, l3, l4, l5, l6] [j0, j1, j2, j3, j4, j5, j6] (.long x :: st) h Q ↔ pb_R 69 2 [l0, l1, l2, none, none, l5, l6] [j0, j1, none, some x, none, j5, j6] st h Q) ∧
  (∀ (L : pb_L) (J : pb_J) (st : List Value) (h : pb_H) (Q : Option Value → pb_H → Prop), pb_R 69 2 L J st h Q ↔ pb_R 69 3 L J (.int (0 : Int32) :: st) h Q) ∧
  (∀ (l0 l1 l2 l3 l4 l5 l6 : Option Value) (j0 j1 j2 j3 j4 j5 j6 : Option Int64) (st : List Value) (h : pb_H) (Q : Option Value → pb_H → Prop) (x : Int32), pb_R 69 3 [l0, l1, l2, l3, l4, l5, l6] [j0, j1, j2, j3, j4, j5, j6] (.int x :: st) h Q ↔ pb_R 69 5 [l0, l1, l2, l3, l4, some (.int x), l6] [j0, j1, j2, j3, none, none, j6] st h Q) ∧
  (∀ (l1 l2 l3 l4 l5 l6 : Option Value) (j0 j1 j2 j3 j4 j5 j6 : Option Int64) (st : List Value) (h : pb_H) (Q : Option Value → pb_H → Prop) (x : Nat), pb_R 69 7 [some (.ref x), l1, l2, l3, l4, l5, l6] [j0, j1, j2, j3, j4, j5, j6] st h Q ↔ pb_R 69 8 [some (.ref x), l1, l2, l3, l4, l5, l6] [j0, j1, j2, j3, j4, j5, j6] (.ref x :: st) h Q) ∧
  (∀ (l1 l2 l3 l4 l5 l6 : Option Value) (j0 j1 j2 j3 j4 j5 j6 : Option Int64) (st : List Value) (h : pb_H) (Q : Option Value → pb_H → Prop), pb_R 69 7 [some .null, l1, l2, l3, l4, l5, l6] [j0, j1, j2, j3, j4, j5, j6] st h Q ↔ pb_R 69 8 [some .null, l1, l2, l3, l4, l5, l6] [j0, j1, j2, j3, j4, j5, j6] (.null :: st) h Q) ∧
  (∀ (L : pb_L) (J : pb_J) (st : List Value) (h : pb_H) (Q : Option Value → pb_H → Prop) (a : Nat), pb_R 69 8 L J (.ref a :: st) h Q ↔ pb_o (pb_gf (h.2 a) 4 4) (fun v => pb_R 69 11 L J (v :: st) h Q)) ∧
  (∀ (L : pb_L) (J : pb_J) (st : List Value) (h : pb_H) (Q : Option Value → pb_H → Prop) (x y : Int32), pb_R 69 11 L J (.int y :: .int x :: st) h Q ↔ if y ≤ x then pb_R 69 96 L J st h Q else pb_R 69 14 L J st h Q) ∧
  (∀ (l0 l1 l2 l3 l4 l5 l6 : Option Value) (j0 j1 j2 j4 j5 j6 : Option Int64) (st : List Value) (h : pb_H) (Q : Option Value → pb_H → Prop) (x : Int64), pb_R 69 14 [l0, l1, l2, l3, l4, l5, l6] [j0, j1, j2, some x, j4, j5, j6] st h Q ↔ pb_R 69 15 [l0, l1, l2, l3, l4, l5, l6] [j0, j1, j2, some x, j4, j5, j6] (.long x :: st) h Q) ∧
  (∀ (l1 l2 l3 l4 l5 l6 : Option Value) (j0 j1 j2 j3 j4 j5 j6 : Option Int64) (st : List Value) (h : pb_H) (Q : Option Value → pb_H → Prop) (x : Nat), pb_R 69 15 [some (.ref x), l1, l2, l3, l4, l5, l6] [j0, j1, j2, j3, j4, j5, j6] st h Q ↔ pb_R 69 16 [some (.ref x), l1, l2, l3, l4, l5, l6] [j0, j1, j2, j3, j4, j5, j6] (.ref x :: st) h Q) ∧
  (∀ (l1 l2 l3 l4 l5 l6 : Option Value) (j0 j1 j2 j3 j4 j5 j6 : Option Int64) (st : List Value) (h : pb_H) (Q : Option Value → pb_H → Prop), pb_R 69 15 [some .null, l1, l2, l3, l4, l5, l6] [j0, j1, j2, j3, j4, j5, j6] st h Q ↔ pb_R 69 16 [some .null, l1, l2, l3, l4, l5, l6] [j0, j1, j2, j3, j4, j5, j6] (.null :: st) h Q) ∧
  (∀ (L : pb_L) (J : pb_J) (st : List Value) (h : pb_H) (Q : Option Value → pb_H → Prop) (a : Nat), pb_R 69 16 L J (.ref a :: st) h Q ↔ pb_o (pb_gf (h.2 a) 4 1) (fun v => pb_R 69 19 L J (v :: st) h Q)) ∧
  (∀ (l0 l1 l2 l3 l4 l6 : Option Value) (j0 j1 j2 j3 j4 j5 j6 : Option Int64) (st : List Value) (h : pb_H) (Q : Option Value → pb_H → Prop) (x : Int32), pb_R 69 19 [l0, l1, l2, l3, l4, some (.int x), l6] [j0, j1, j2, j3, j4, j5, j6] st h Q ↔ pb_R 69 21 [l0, l1, l2, l3, l4, some (.int x), l6] [j0, j1, j2, j3, j4, j5, j6] (.int x :: st) h Q) ∧
  (∀ (L : pb_L) (J : pb_J) (st : List Value) (h : pb_H) (Q : Option Value → pb_H → Prop) (a : Nat) (i : Int32), pb_R 69 21 L J (.int i :: .ref a :: st) h Q ↔ pb_o (pb_ai (h.2 a) i) (fun v => pb_R 69 22 L J (.int v :: st) h Q)) ∧
  (∀ (L : pb_L) (J : pb_J) (st : List Value) (x : Int32) (h : pb_H) (Q : Option Value → pb_H → Prop), pb_R 69 22 L J (.int x :: st) h Q ↔ pb_R 69 23 L J (.long x.toInt64 :: st) h Q) ∧
  (∀ (L : pb_L) (J : pb_J) (st : List Value) (h : pb_H) (Q : Option Value → pb_H → Prop), pb_R 69 23 L J st h Q ↔ pb_R 69 26 L J (.long (4294967295 : Int64) :: st) h Q) ∧
  (∀ (L : pb_L) (J : pb_J) (st : List Value) (x y : Int64) (h : pb_H) (Q : Option Value → pb_H → Prop), pb_R 69 26 L J (.long y :: .long x :: st) h Q ↔ pb_R 69 27 L J (.long (x &&& y) :: st) h Q) ∧
  (∀ (L : pb_L) (J : pb_J) (st : List Value) (x y : Int64) (h : pb_H) (Q : Option Value → pb_H → Prop), pb_R 69 27 L J (.long y :: .long x :: st) h Q ↔ pb_R 69 28 L J (.long (x - y) :: st) h Q) ∧
  (∀ (l0 l1 l2 l3 l4 l5 l6 : Option Value) (j0 j1 j2 j3 j4 j5 j6 : Option Int64) (st : List Value) (h : pb_H) (Q : Option Value → pb_H → Prop) (x : Int64), pb_R 69 28 [l0, l1, l2, l3, l4, l5, l6] [j0, j1, j2, j3, j4, j5, j6] (.long x :: st) h Q ↔ pb_R 69 29 [l0, l1, l2, none, none, l5, l6] [j0, j1, none, some x, none, j5, j6] st h Q) ∧
  (∀ (L : pb_L) (J : pb_J) (st : List Value) (h : pb_H) (Q : Option Value → pb_H → Prop), pb_R 69 29 L J st h Q ↔ pb_R 69 30 L J (.int (1 : Int32) :: st) h Q) ∧
  (∀ (l0 l1 l2 l3 l4 l5 l6 : Option Value) (j0 j1 j2 j3 j4 j5 j6 : Option Int64) (st : List Value) (h : pb_H) (Q : Option Value → pb_H → Prop) (x : Int32), pb_R 69 30 [l0, l1, l2, l3, l4, l5, l6] [j0, j1, j2, j3, j4, j5, j6] (.int x :: st) h Q ↔ pb_R 69 32 [l0, l1, l2, l3, l4, l5, some (.int x)] [j0, j1, j2, j3, j4, none, none] st h Q) ∧
  (∀ (l1 l2 l3 l4 l5 l6 : Option Value) (j0 j1 j2 j3 j4 j5 j6 : Option Int64) (st : List Value) (h : pb_H) (Q : Option Value → pb_H → Prop) (x : Nat), pb_R 69 34 [some (.ref x), l1, l2, l3, l4, l5, l6] [j0, j1, j2, j3, j4, j5, j6] st h Q ↔ pb_R 69 35 [some (.ref x), l1, l2, l3, l4, l5, l6] [j0, j1, j2, j3, j4, j5, j6] (.ref x :: st) h Q) ∧
  (∀ (l1 l2 l3 l4 l5 l6 : Option Value) (j0 j1 j2 j3 j4 j5 j6 : Option Int64) (st : List Value) (h : pb_H) (Q : Option Value → pb_H → Prop), pb_R 69 34 [some .null, l1, l2, l3, l4, l5, l6] [j0, j1, j2, j3, j4, j5, j6] st h Q ↔ pb_R 69 35 [some .null, l1, l2, l3, l4, l5, l6] [j0, j1, j2, j3, j4, j5, j6] (.null :: st) h Q) ∧
  (∀ (L : pb_L) (J : pb_J) (st : List Value) (h : pb_H) (Q : Option Value → pb_H → Prop) (a : Nat), pb_R 69 35 L J (.ref a :: st) h Q ↔ pb_o (pb_gf (h.2 a) 4 0) (fun v => pb_R 69 38 L J (v :: st) h Q)) ∧
  (∀ (L : pb_L) (J : pb_J) (st : List Value) (h : pb_H) (Q : Option Value → pb_H → Prop) (x y : Int32), pb_R 69 38 L J (.int y :: .int x :: st) h Q ↔ if y < x then pb_R 69 79 L J st h Q else pb_R 69 41 L J st h Q) ∧
  (∀ (l0 l2 l3 l4 l5 l6 : Option Value) (j0 j1 j2 j3 j4 j5 j6 : Option Int64) (st : List Value) (h : pb_H) (Q : Option Value → pb_H → Prop) (x : Int32), pb_R 69 41 [l0, some (.int x), l2, l3, l4, l5, l6] [j0, j1, j2, j3, j4, j5, j6] st h Q ↔ pb_R 69 42 [l0, some (.int x), l2, l3, l4, l5, l6] [j0, j1, j2, j3, j4, j5, j6] (.int x :: st) h Q) ∧
  (∀ (L : pb_L) (J : pb_J) (st : List Value) (h : pb_H) (Q : Option Value → pb_H → Prop), pb_R 69 42 L J st h Q ↔ pb_R 69 43 L J (.int (1 : Int32) :: st) h Q) ∧
  (∀ (l0 l1 l2 l3 l4 l5 : Option Value) (j0 j1 j2 j3 j4 j5 j6 : Option Int64) (st : List Value) (h : pb_H) (Q : Option Value → pb_H → Prop) (x : Int32), pb_R 69 43 [l0, l1, l2, l3, l4, l5, some (.int x)] [j0, j1, j2, j3, j4, j5, j6] st h Q ↔ pb_R 69 45 [l0, l1, l2, l3, l4, l5, some (.int x)] [j0, j1, j2, j3, j4, j5, j6] (.int x :: st) h Q) ∧
  (∀ (L : pb_L) (J : pb_J) (st : List Value) (h : pb_H) (Q : Option Value → pb_H → Prop), pb_R 69 45 L J st h Q ↔ pb_R 69 46 L J (.int (1 : Int32) :: st) h Q) ∧
  (∀ (L : pb_L) (J : pb_J) (st : List Value) (x y : Int32) (h : pb_H) (Q : Option Value → pb_H → Prop), pb_R 69 46 L J (.int y :: .int x :: st) h Q ↔ pb_R 69 47 L J (.int (x - y) :: st) h Q) ∧
  (∀ (L : pb_L) (J : pb_J) (st : List Value) (x y : Int32) (h : pb_H) (Q : Option Value → pb_H → Prop), pb_R 69 47 L J (.int y :: .int x :: st) h Q ↔ pb_R 69 48 L J (.int (x <<< (y &&& 31)) :: st) h Q) ∧
  (∀ (L : pb_L) (J : pb_J) (st : List Value) (x y : Int32) (h : pb_H) (Q : Option Value → pb_H → Prop), pb_R 69 48 L J (.int y :: .int x :: st) h Q ↔ pb_R 69 49 L J (.int (x &&& y) :: st) h Q) ∧
  (∀ (L : pb_L) (J : pb_J) (st : List Value) (h : pb_H) (Q : Option Value → pb_H → Prop) (x : Int32), pb_R 69 49 L J (.int x :: st) h Q ↔ if x = 0 then pb_R 69 73 L J st h Q else pb_R 69 52 L J st h Q) ∧
  (∀ (l0 l1 l2 l3 l4 l5 l6 : Option Value) (j0 j1 j2 j4 j5 j6 : Option Int64) (st : List Value) (h : pb_H) (Q : Option Value → pb_H → Prop) (x : Int64), pb_R 69 52 [l0, l1, l2, l3, l4, l5, l6] [j0, j1, j2, some x, j4, j5, j6] st h Q ↔ pb_R 69 53 [l0, l1, l2, l3, l4, l5, l6] [j0, j1, j2, some x, j4, j5, j6] (.long x :: st) h Q) ∧
  (∀ (l1 l2 l3 l4 l5 l6 : Option Value) (j0 j1 j2 j3 j4 j5 j6 : Option Int64) (st : List Value) (h : pb_H) (Q : Option Value → pb_H → Prop) (x : Nat), pb_R 69 53 [some (.ref x), l1, l2, l3, l4, l5, l6] [j0, j1, j2, j3, j4, j5, j6] st h Q ↔ pb_R 69 54 [some (.ref x), l1, l2, l3, l4, l5, l6] [j0, j1, j2, j3, j4, j5, j6] (.ref x :: st) h Q) ∧
  (∀ (l1 l2 l3 l4 l5 l6 : Option Value) (j0 j1 j2 j3 j4 j5 j6 : Option Int64) (st : List Value) (h : pb_H) (Q : Option Value → pb_H → Prop), pb_R 69 53 [some .null, l1, l2, l3, l4, l5, l6] [j0, j1, j2, j3, j4, j5, j6] st h Q ↔ pb_R 69 54 [some .null, l1, l2, l3, l4, l5, l6] [j0, j1, j2, j3, j4, j5, j6] (.null :: st) h Q) ∧
  (∀ (L : pb_L) (J : pb_J) (st : List Value) (h : pb_H) (Q : Option Value → pb_H → Prop) (a : Nat), pb_R 69 54 L J (.ref a :: st) h Q ↔ pb_o (pb_gf (h.2 a) 4 1) (fun v => pb_R 69 57 L J (v :: st) h Q)) ∧
  (∀ (l0 l1 l2 l3 l4 l5 : Option Value) (j0 j1 j2 j3 j4 j5 j6 : Option Int64) (st : List Value) (h : pb_H) (Q : Option Value → pb_H → Prop) (x : Int32), pb_R 69 57 [l0, l1, l2, l3, l4, l5, some (.int x)] [j0, j1, j2, j3, j4, j5, j6] st h Q ↔ pb_R 69 59 [l0, l1, l2, l3, l4, l5, some (.int x)] [j0, j1, j2, j3, j4, j5, j6] (.int x :: st) h Q) ∧
  (∀ (L : pb_L) (J : pb_J) (st : List Value) (h : pb_H) (Q : Option Value → pb_H → Prop), pb_R 69 59 L J st h Q ↔ pb_R 69 61 L J (.int (8 : Int32) :: st) h Q) ∧
  (∀ (L : pb_L) (J : pb_J) (st : List Value) (x y : Int32) (h : pb_H) (Q : Option Value → pb_H → Prop), pb_R 69 61 L J (.int y :: .int x :: st) h Q ↔ pb_R 69 62 L J (.int (x * y) :: st) h Q) ∧
  (∀ (l0 l1 l2 l3 l4 l6 : Option Value) (j0 j1 j2 j3 j4 j5 j6 : Option Int64) (st : List Value) (h : pb_H) (Q : Option Value → pb_H → Prop) (x : Int32), pb_R 69 62 [l0, l1, l2, l3, l4, some (.int x), l6] [j0, j1, j2, j3, j4, j5, j6] st h Q ↔ pb_R 69 64 [l0, l1, l2, l3, l4, some (.int x), l6] [j0, j1, j2, j3, j4, j5, j6] (.int x :: st) h Q) ∧
  (∀ (L : pb_L) (J : pb_J) (st : List Value) (x y : Int32) (h : pb_H) (Q : Option Value → pb_H → Prop), pb_R 69 64 L J (.int y :: .int x :: st) h Q ↔ pb_R 69 65 L J (.int (x + y) :: st) h Q) ∧
  (∀ (L : pb_L) (J : pb_J) (st : List Value) (h : pb_H) (Q : Option Value → pb_H → Prop) (a : Nat) (i : Int32), pb_R 69 65 L J (.int i :: .ref a :: st) h Q ↔ pb_o (pb_ai (h.2 a) i) (fun v => pb_R 69 66 L J (.int v :: st) h Q)) ∧
  (∀ (L : pb_L) (J : pb_J) (st : List Value) (x : Int32) (h : pb_H) (Q : Option Value → pb_H → Prop), pb_R 69 66 L J (.int x :: st) h Q ↔ pb_R 69 67 L J (.long x.toInt64 :: st) h Q) ∧
  (∀ (L : pb_L) (J : pb_J) (st : List Value) (h : pb_H) (Q : Option Value → pb_H → Prop), pb_R 69 67 L J st h Q ↔ pb_R 69 70 L J (.long (4294967295 : Int64) :: st) h Q) ∧
  (∀ (L : pb_L) (J : pb_J) (st : List Value) (x y : Int64) (h : pb_H) (Q : Option Value → pb_H → Prop), pb_R 69 70 L J (.long y :: .long x :: st) h Q ↔ pb_R 69 71 L J (.long (x &&& y) :: st) h Q) ∧
  (∀ (L : pb_L) (J : pb_J) (st : List Value) (x y : Int64) (h : pb_H) (Q : Option Value → pb_H → Prop), pb_R 69 71 L J (.long y :: .long x :: st) h Q ↔ pb_R 69 72 L J (.long (x + y) :: st) h Q) ∧
  (∀ (l0 l1 l2 l3 l4 l5 l6 : Option Value) (j0 j1 j2 j3 j4 j5 j6 : Option Int64) (st : List Value) (h : pb_H) (Q : Option Value → pb_H → Prop) (x : Int64), pb_R 69 72 [l0, l1, l2, l3, l4, l5, l6] [j0, j1, j2, j3, j4, j5, j6] (.long x :: st) h Q ↔ pb_R 69 73 [l0, l1, l2, none, none, l5, l6] [j0, j1, none, some x, none, j5, j6] st h Q) ∧
  (∀ (l0 l1 l2 l3 l4 l5 : Option Value) (j0 j1 j2 j3 j4 j5 j6 : Option Int64) (st : List Value) (h : pb_H) (Q : Option Value → pb_H → Prop) (x : Int32), pb_R 69 73 [l0, l1, l2, l3, l4, l5, some (.int x)] [j0, j1, j2, j3, j4, j5, j6] st h Q ↔ pb_R 69 76 [l0, l1, l2, l3, l4, l5, some (.int (x + (1 : Int32)))] [j0, j1, j2, j3, j4, none, none] st h Q) ∧
  (∀ (L : pb_L) (J : pb_J) (st : List Value) (h : pb_H) (Q : Option Value → pb_H → Prop), pb_R 69 76 L J st h Q ↔ pb_R 69 32 L J st h Q) ∧
  (∀ (l0 l1 l3 l4 l5 l6 : Option Value) (j0 j1 j2 j3 j4 j5 j6 : Option Int64) (st : List Value) (h : pb_H) (Q : Option Value → pb_H → Prop) (x : Nat), pb_R 69 79 [l0, l1, some (.ref x), l3, l4, l5, l6] [j0, j1, j2, j3, j4, j5, j6] st h Q ↔ pb_R 69 80 [l0, l1, some (.ref x), l3, l4, l5, l6] [j0, j1, j2, j3, j4, j5, j6] (.ref x :: st) h Q) ∧
  (∀ (l0 l1 l3 l4 l5 l6 : Option Value) (j0 j1 j2 j3 j4 j5 j6 : Option Int64) (st : List Value) (h : pb_H) (Q : Option Value → pb_H → Prop), pb_R 69 79 [l0, l1, some .null, l3, l4, l5, l6] [j0, j1, j2, j3, j4, j5, j6] st h Q ↔ pb_R 69 80 [l0, l1, some .null, l3, l4, l5, l6] [j0, j1, j2, j3, j4, j5, j6] (.null :: st) h Q) ∧
  (∀ (l0 l1 l2 l3 l4 l6 : Option Value) (j0 j1 j2 j3 j4 j5 j6 : Option Int64) (st : List Value) (h : pb_H) (Q : Option Value → pb_H → Prop) (x : Int32), pb_R 69 80 [l0, l1, l2, l3, l4, some (.int x), l6] [j0, j1, j2, j3, j4, j5, j6] st h Q ↔ pb_R 69 82 [l0, l1, l2, l3, l4, some (.int x), l6] [j0, j1, j2, j3, j4, j5, j6] (.int x :: st) h Q) ∧
  (∀ (l0 l1 l2 l3 l4 l5 l6 : Option Value) (j0 j1 j2 j4 j5 j6 : Option Int64) (st : List Value) (h : pb_H) (Q : Option Value → pb_H → Prop) (x : Int64), pb_R 69 82 [l0, l1, l2, l3, l4, l5, l6] [j0, j1, j2, some x, j4, j5, j6] st h Q ↔ pb_R 69 83 [l0, l1, l2, l3, l4, l5, l6] [j0, j1, j2, some x, j4, j5, j6] (.long x :: st) h Q) ∧
  (∀ (L : pb_L) (J : pb_J) (st : List Value) (x : Int64) (h : pb_H) (Q : Option Value → pb_H → Prop), pb_R 69 83 L J (.long x :: st) h Q ↔ pb_R 69 84 L J (.int x.toInt32 :: st) h Q) ∧
  (∀ (L : pb_L) (J : pb_J) (st : List Value) (h : pb_H) (Q : Option Value → pb_H → Prop) (a : Nat) (i x : Int32), pb_R 69 84 L J (.int x :: .int i :: .ref a :: st) h Q ↔ pb_o (pb_si (h.2 a) i x) (fun c => pb_R 69 85 L J st (pb_set h a c) Q)) ∧
  (∀ (l0 l1 l2 l3 l4 l5 l6 : Option Value) (j0 j1 j2 j4 j5 j6 : Option Int64) (st : List Value) (h : pb_H) (Q : Option Value → pb_H → Prop) (x : Int64), pb_R 69 85 [l0, l1, l2, l3, l4, l5, l6] [j0, j1, j2, some x, j4, j5, j6] st h Q ↔ pb_R 69 86 [l0, l1, l2, l3, l4, l5, l6] [j0, j1, j2, some x, j4, j5, j6] (.long x :: st) h Q) ∧
  (∀ (L : pb_L) (J : pb_J) (st : List Value) (h : pb_H) (Q : Option Value → pb_H → Prop), pb_R 69 86 L J st h Q ↔ pb_R 69 88 L J (.int (32 : Int32) :: st) h Q) ∧
  (∀ (L : pb_L) (J : pb_J) (st : List Value) (x : Int64) (y : Int32) (h : pb_H) (Q : Option Value → pb_H → Prop), pb_R 69 88 L J (.int y :: .long x :: st) h Q ↔ pb_R 69 89 L J (.long (x >>> (y.toInt64 &&& 63)) :: st) h Q) ∧
  (∀ (l0 l1 l2 l3 l4 l5 l6 : Option Value) (j0 j1 j2 j3 j4 j5 j6 : Option Int64) (st : List Value) (h : pb_H) (Q : Option Value → pb_H → Prop) (x : Int64), pb_R 69 89 [l0, l1, l2, l3, l4, l5, l6] [j0, j1, j2, j3, j4, j5, j6] (.long x :: st) h Q ↔ pb_R 69 90 [l0, l1, l2, none, none, l5, l6] [j0, j1, none, some x, none, j5, j6] st h Q) ∧
  (∀ (l0 l1 l2 l3 l4 l6 : Option Value) (j0 j1 j2 j3 j4 j5 j6 : Option Int64) (st : List Value) (h : pb_H) (Q : Option Value → pb_H → Prop) (x : Int32), pb_R 69 90 [l0, l1, l2, l3, l4, some (.int x), l6] [j0, j1, j2, j3, j4, j5, j6] st h Q ↔ pb_R 69 93 [l0, l1, l2, l3, l4, some (.int (x + (1 : Int32))), l6] [j0, j1, j2, j3, none, none, j6] st h Q) ∧
  (∀ (L : pb_L) (J : pb_J) (st : List Value) (h : pb_H) (Q : Option Value → pb_H → Prop), pb_R 69 93 L J st h Q ↔ pb_R 69 5 L J st h Q) ∧
  (∀ (l0 l1 l2 l3 l4 l5 l6 : Option Value) (j0 j1 j2 j4 j5 j6 : Option Int64) (st : List Value) (h : pb_H) (Q : Option Value → pb_H → Prop) (x : Int64), pb_R 69 96 [l0, l1, l2, l3, l4, l5, l6] [j0, j1, j2, some x, j4, j5, j6] st h Q ↔ pb_R 69 97 [l0, l1, l2, l3, l4, l5, l6] [j0, j1, j2, some x, j4, j5, j6] (.long x :: st) h Q) ∧
  (∀ (L : pb_L) (J : pb_J) (h : pb_H) (Q : Option Value → pb_H → Prop) (x : Int64), pb_R 69 97 L J [.long x] h Q ↔ Q (some (.long x)) h) := ⟨
  fun L J st h Q => pf_S pb_u_69 rfl rfl,
  fun l0 l1 l2 l3 l4 l5 l6 j0 j1 j2 j3 j4 j5 j6 st h Q x => pf_S pb_u_69 rfl rfl,
  fun L J st h Q => pf_S pb_u_69 rfl rfl,
  fun l0 l1 l2 l3 l4 l5 l6 j0 j1 j2 j3 j4 j5 j6 st h Q x => pf_S pb_u_69 rfl rfl,
  fun l1 l2 l3 l4 l5 l6 j0 j1 j2 j3 j4 j5 j6 st h Q x => pf_S pb_u_69 rfl rfl,
  fun l1 l2 l3 l4 l5 l6 j0 j1 j2 j3 j4 j5 j6 st h Q => pf_S pb_u_69 rfl rfl,
  fun L J st h Q a => pf_gf pb_u_69 rfl rfl,
  fun L J st h Q x y => pf_ic pb_u_69 rfl rfl rfl,
  fun l0 l1 l2 l3 l4 l5 l6 j0 j1 j2 j4 j5 j6 st h Q x => pf_S pb_u_69 rfl rfl,
  fun l1 l2 l3 l4 l5 l6 j0 j1 j2 j3 j4 j5 j6 st h Q x => pf_S pb_u_69 rfl rfl,
  fun l1 l2 l3 l4 l5 l6 j0 j1 j2 j3 j4 j5 j6 st h Q => pf_S pb_u_69 rfl rfl,
  fun L J st h Q a => pf_gf pb_u_69 rfl rfl,
  fun l0 l1 l2 l3 l4 l6 j0 j1 j2 j3 j4 j5 j6 st h Q x => pf_S pb_u_69 rfl rfl,
  fun L J st h Q a i => pf_ai pb_u_69 rfl rfl,
  fun L J st x h Q => pf_S pb_u_69 rfl rfl,
  fun L J st h Q => pf_S pb_u_69 rfl rfl,
  fun L J st x y h Q => pf_S pb_u_69 rfl rfl,
  fun L J st x y h Q => pf_S pb_u_69 rfl rfl,
  fun l0 l1 l2 l3 l4 l5 l6 j0 j1 j2 j3 j4 j5 j6 st h Q x => pf_S pb_u_69 rfl rfl,
  fun L J st h Q => pf_S pb_u_69 rfl rfl,
  fun l0 l1 l2 l3 l4 l5 l6 j0 j1 j2 j3 j4 j5 j6 st h Q x => pf_S pb_u_69 rfl rfl,
  fun l1 l2 l3 l4 l5 l6 j0 j1 j2 j3 j4 j5 j6 st h Q x => pf_S pb_u_69 rfl rfl,
  fun l1 l2 l3 l4 l5 l6 j0 j1 j2 j3 j4 j5 j6 st h Q => pf_S pb_u_69 rfl rfl,
  fun L J st h Q a => pf_gf pb_u_69 rfl rfl,
  fun L J st h Q x y => pf_ic pb_u_69 rfl rfl rfl,
  fun l0 l2 l3 l4 l5 l6 j0 j1 j2 j3 j4 j5 j6 st h Q x => pf_S pb_u_69 rfl rfl,
  fun L J st h Q => pf_S pb_u_69 rfl rfl,
  fun l0 l1 l2 l3 l4 l5 j0 j1 j2 j3 j4 j5 j6 st h Q x => pf_S pb_u_69 rfl rfl,
  fun L J st h Q => pf_S pb_u_69 rfl rfl,
  fun L J st x y h Q => pf_S pb_u_69 rfl rfl,
  fun L J st x y h Q => pf_S pb_u_69 rfl rfl,
  fun L J st x y h Q => pf_S pb_u_69 rfl rfl,
  fun L J st h Q x => pf_ii pb_u_69 rfl rfl rfl,
  fun l0 l1 l2 l3 l4 l5 l6 j0 j1 j2 j4 j5 j6 st h Q x => pf_S pb_u_69 rfl rfl,
  fun l1 l2 l3 l4 l5 l6 j0 j1 j2 j3 j4 j5 j6 st h Q x => pf_S pb_u_69 rfl rfl,
  fun l1 l2 l3 l4 l5 l6 j0 j1 j2 j3 j4 j5 j6 st h Q => pf_S pb_u_69 rfl rfl,
  fun L J st h Q a => pf_gf pb_u_69 rfl rfl,
  fun l0 l1 l2 l3 l4 l5 j0 j1 j2 j3 j4 j5 j6 st h Q x => pf_S pb_u_69 rfl rfl,
  fun L J st h Q => pf_S pb_u_69 rfl rfl,
  fun L J st x y h Q => pf_S pb_u_69 rfl rfl,
  fun l0 l1 l2 l3 l4 l6 j0 j1 j2 j3 j4 j5 j6 st h Q x => pf_S pb_u_69 rfl rfl,
  fun L J st x y h Q => pf_S pb_u_69 rfl rfl,
  fun L J st h Q a i => pf_ai pb_u_69 rfl rfl,
  fun L J st x h Q => pf_S pb_u_69 rfl rfl,
  fun L J st h Q => pf_S pb_u_69 rfl rfl,
  fun L J st x y h Q => pf_S pb_u_69 rfl rfl,
  fun L J st x y h Q => pf_S pb_u_69 rfl rfl,
  fun l0 l1 l2 l3 l4 l5 l6 j0 j1 j2 j3 j4 j5 j6 st h Q x => pf_S pb_u_69 rfl rfl,
  fun l0 l1 l2 l3 l4 l5 j0 j1 j2 j3 j4 j5 j6 st h Q x => pf_S pb_u_69 rfl rfl,
  fun L J st h Q => pf_S pb_u_69 rfl rfl,
  fun l0 l1 l3 l4 l5 l6 j0 j1 j2 j3 j4 j5 j6 st h Q x => pf_S pb_u_69 rfl rfl,
  fun l0 l1 l3 l4 l5 l6 j0 j1 j2 j3 j4 j5 j6 st h Q => pf_S pb_u_69 rfl rfl,
  fun l0 l1 l2 l3 l4 l6 j0 j1 j2 j3 j4 j5 j6 st h Q x => pf_S pb_u_69 rfl rfl,
  fun l0 l1 l2 l3 l4 l5 l6 j0 j1 j2 j4 j5 j6 st h Q x => pf_S pb_u_69 rfl rfl,
  fun L J st x h Q => pf_S pb_u_69 rfl rfl,
  fun L J st h Q a i x => pf_si pb_u_69 rfl rfl,
  fun l0 l1 l2 l3 l4 l5 l6 j0 j1 j2 j4 j5 j6 st h Q x => pf_S pb_u_69 rfl rfl,
  fun L J st h Q => pf_S pb_u_69 rfl rfl,
  fun L J st x y h Q => pf_S pb_u_69 rfl rfl,
  fun l0 l1 l2 l3 l4 l5 l6 j0 j1 j2 j3 j4 j5 j6 st h Q x => pf_S pb_u_69 rfl rfl,
  fun l0 l1 l2 l3 l4 l6 j0 j1 j2 j3 j4 j5 j6 st h Q x => pf_S pb_u_69 rfl rfl,
  fun L J st h Q => pf_S pb_u_69 rfl rfl,
  fun l0 l1 l2 l3 l4 l5 l6 j0 j1 j2 j4 j5 j6 st h Q x => pf_S pb_u_69 rfl rfl,
  fun L J h Q x => pf_rj pb_u_69 rfl rfl⟩
theorem pb_c69 (x0 : Nat) (x1 : Int32) (x2 : Nat) (h : pb_H) (Q : Option Value → pb_H → Prop) : pb_call 69 [.ref x0, .int x1, .ref x2] h Q ↔ pb_R 69 0 [some (.ref x0), some (.int x1), some (.ref x2), none, none, none, none] [none, none, none, none, none, none, none] [] h Q := Iff.rfl
/-! 70: PlaneBench$Line.findAbove(I[I)I -/
theorem pb_u_70 : pb_t 70 = pb_t70 := rfl
theorem pb_ci_70 : pb_ci 70 = 4 := by decide +kernel
set_option maxRecDepth 100000 in
theorem pb_q70_5 (l0 l1 l2 l3 l5 : Option Value) (st : List Value) (h : pb_H) (Q : Option Value → pb_H → Prop) (x : Int32) : pb_R 70 5 [l0, l1, l2, l3, some (.int x), l5] [] st h Q ↔ pb_R 70 7 [l0, l1, l2, l3, some (.int x), l5] [] (.int x :: st) h Q := pf_S pb_u_70 rfl rfl
set_option maxRecDepth 100000 in
theorem pb_e70 : (∀ (L : pb_L) (J : pb_J) (st : List Value) (h : pb_H) (Q : Option Value → pb_H → Prop), pb_R 70 0 L J st h Q ↔ pb_R 70 1 L J (.int (0 : Int32) :: st) h Q) ∧
  (∀ (l0 l1 l2 l3 l4 l5 : Option Value) (st : List Value) (h : pb_H) (Q : Option Value → pb_H → Prop) (x : Int32), pb_R 70 1 [l0, l1, l2, l3, l4, l5] [] (.int x :: st) h Q ↔ pb_R 70 2 [l0, l1, l2, some (.int x), l4, l5] [] st h Q) ∧
  (∀ (L : pb_L) (J : pb_J) (st : List Value) (h : pb_H) (Q : Option Value → pb_H → Prop), pb_R 70 2 L J st h Q ↔ pb_R 70 3 L J (.int (1 : Int32) :: st) h Q) ∧
  (∀ (l0 l1 l2 l3 l4 l5 : Option Value) (st : List Value) (h : pb_H) (Q : Option Value → pb_H → Prop) (x : Int32), pb_R 70 3 [l0, l1, l2, l3, l4, l5] [] (.int x :: st) h Q ↔ pb_R 70 5 [l0, l1, l2, l3, some (.int x), l5] [] st h Q) ∧
  (∀ (l1 l2 l3 l4 l5 : Option Value) (st : List Value) (h : pb_H) (Q : Option Value → pb_H → Prop) (x : Nat), pb_R 70 7 [some (.ref x), l1, l2, l3, l4, l5] [] st h Q ↔ pb_R 70 8 [some (.ref x), l1, l2, l3, l4, l5] [] (.ref x :: st) h Q) ∧
  (∀ (l1 l2 l3 l4 l5 : Option Value) (st : List Value) (h : pb_H) (Q : Option Value → pb_H → Prop), pb_R 70 7 [some .null, l1, l2, l3, l4, l5] [] st h Q ↔ pb_R 70 8 [some .null, l1, l2, l3, l4, l5] [] (.null :: st) h Q) ∧
  (∀ (L : pb_L) (J : pb_J) (st : List Value) (h : pb_H) (Q : Option Value → pb_H → Prop) (a : Nat), pb_R 70 8 L J (.ref a :: st) h Q ↔ pb_o (pb_gf (h.2 a) 4 0) (fun v => pb_R 70 11 L J (v :: st) h Q)) ∧
  (∀ (L : pb_L) (J : pb_J) (st : List Value) (h : pb_H) (Q : Option Value → pb_H → Prop) (x y : Int32), pb_R 70 11 L J (.int y :: .int x :: st) h Q ↔ if y < x then pb_R 70 61 L J st h Q else pb_R 70 14 L J st h Q) ∧
  (∀ (L : pb_L) (J : pb_J) (st : List Value) (h : pb_H) (Q : Option Value → pb_H → Prop), pb_R 70 14 L J st h Q ↔ pb_R 70 15 L J (.int (1 : Int32) :: st) h Q) ∧
  (∀ (l0 l1 l2 l3 l5 : Option Value) (st : List Value) (h : pb_H) (Q : Option Value → pb_H → Prop) (x : Int32), pb_R 70 15 [l0, l1, l2, l3, some (.int x), l5] [] st h Q ↔ pb_R 70 17 [l0, l1, l2, l3, some (.int x), l5] [] (.int x :: st) h Q) ∧
  (∀ (L : pb_L) (J : pb_J) (st : List Value) (h : pb_H) (Q : Option Value → pb_H → Prop), pb_R 70 17 L J st h Q ↔ pb_R 70 18 L J (.int (1 : Int32) :: st) h Q) ∧
  (∀ (L : pb_L) (J : pb_J) (st : List Value) (x y : Int32) (h : pb_H) (Q : Option Value → pb_H → Prop), pb_R 70 18 L J (.int y :: .int x :: st) h Q ↔ pb_R 70 19 L J (.int (x - y) :: st) h Q) ∧
  (∀ (L : pb_L) (J : pb_J) (st : List Value) (x y : Int32) (h : pb_H) (Q : Option Value → pb_H → Prop), pb_R 70 19 L J (.int y :: .int x :: st) h Q ↔ pb_R 70 20 L J (.int (x <<< (y &&& 31)) :: st) h Q) ∧
  (∀ (l0 l1 l2 l3 l4 l5 : Option Value) (st : List Value) (h : pb_H) (Q : Option Value → pb_H → Prop) (x : Int32), pb_R 70 20 [l0, l1, l2, l3, l4, l5] [] (.int x :: st) h Q ↔ pb_R 70 22 [l0, l1, l2, l3, l4, some (.int x)] [] st h Q) ∧
  (∀ (l0 l2 l3 l4 l5 : Option Value) (st : List Value) (h : pb_H) (Q : Option Value → pb_H → Prop) (x : Int32), pb_R 70 22 [l0, some (.int x), l2, l3, l4, l5] [] st h Q ↔ pb_R 70 23 [l0, some (.int x), l2, l3, l4, l5] [] (.int x :: st) h Q) ∧
  (∀ (l0 l1 l2 l3 l4 : Option Value) (st : List Value) (h : pb_H) (Q : Option Value → pb_H → Prop) (x : Int32), pb_R 70 23 [l0, l1, l2, l3, l4, some (.int x)] [] st h Q ↔ pb_R 70 25 [l0, l1, l2, l3, l4, some (.int x)] [] (.int x :: st) h Q) ∧
  (∀ (L : pb_L) (J : pb_J) (st : List Value) (x y : Int32) (h : pb_H) (Q : Option Value → pb_H → Prop), pb_R 70 25 L J (.int y :: .int x :: st) h Q ↔ pb_R 70 26 L J (.int (x &&& y) :: st) h Q) ∧
  (∀ (L : pb_L) (J : pb_J) (st : List Value) (h : pb_H) (Q : Option Value → pb_H → Prop) (x : Int32), pb_R 70 26 L J (.int x :: st) h Q ↔ if x = 0 then pb_R 70 55 L J st h Q else pb_R 70 29 L J st h Q) ∧
  (∀ (l1 l2 l3 l4 l5 : Option Value) (st : List Value) (h : pb_H) (Q : Option Value → pb_H → Prop) (x : Nat), pb_R 70 29 [some (.ref x), l1, l2, l3, l4, l5] [] st h Q ↔ pb_R 70 30 [some (.ref x), l1, l2, l3, l4, l5] [] (.ref x :: st) h Q) ∧
  (∀ (l1 l2 l3 l4 l5 : Option Value) (st : List Value) (h : pb_H) (Q : Option Value → pb_H → Prop), pb_R 70 29 [some .null, l1, l2, l3, l4, l5] [] st h Q ↔ pb_R 70 30 [some .null, l1, l2, l3, l4, l5] [] (.null :: st) h Q) ∧
  (∀ (L : pb_L) (J : pb_J) (st : List Value) (h : pb_H) (Q : Option Value → pb_H → Prop) (a : Nat), pb_R 70 30 L J (.ref a :: st) h Q ↔ pb_o (pb_gf (h.2 a) 4 1) (fun v => pb_R 70 33 L J (v :: st) h Q)) ∧
  (∀ (l0 l1 l2 l3 l5 : Option Value) (st : List Value) (h : pb_H) (Q : Option Value → pb_H → Prop) (x : Int32), pb_R 70 33 [l0, l1, l2, l3, some (.int x), l5] [] st h Q ↔ pb_R 70 35 [l0, l1, l2, l3, some (.int x), l5] [] (.int x :: st) h Q) ∧
  (∀ (L : pb_L) (J : pb_J) (st : List Value) (h : pb_H) (Q : Option Value → pb_H → Prop), pb_R 70 35 L J st h Q ↔ pb_R 70 37 L J (.int (8 : Int32) :: st) h Q) ∧
  (∀ (L : pb_L) (J : pb_J) (st : List Value) (x y : Int32) (h : pb_H) (Q : Option Value → pb_H → Prop), pb_R 70 37 L J (.int y :: .int x :: st) h Q ↔ pb_R 70 38 L J (.int (x * y) :: st) h Q) ∧
  (∀ (l0 l1 l3 l4 l5 : Option Value) (st : List Value) (h : pb_H) (Q : Option Value → pb_H → Prop) (x : Nat), pb_R 70 38 [l0, l1, some (.ref x), l3, l4, l5] [] st h Q ↔ pb_R 70 39 [l0, l1, some (.ref x), l3, l4, l5] [] (.ref x :: st) h Q) ∧
  (∀ (l0 l1 l3 l4 l5 : Option Value) (st : List Value) (h : pb_H) (Q : Option Value → pb_H → Prop), pb_R 70 38 [l0, l1, some .null, l3, l4, l5] [] st h Q ↔ pb_R 70 39 [l0, l1, some .null, l3, l4, l5] [] (.null :: st) h Q) ∧
  (∀ (L : pb_L) (J : pb_J) (st : List Value) (h : pb_H) (Q : Option Value → pb_H → Prop), pb_R 70 39 L J st h Q ↔ pb_R 70 40 L J (.int (0 : Int32) :: st) h Q) ∧
  (∀ (l1 l2 l3 l4 l5 : Option Value) (st : List Value) (h : pb_H) (Q : Option Value → pb_H → Prop) (x : Nat), pb_R 70 40 [some (.ref x), l1, l2, l3, l4, l5] [] st h Q ↔ pb_R 70 41 [some (.ref x), l1, l2, l3, l4, l5] [] (.ref x :: st) h Q) ∧
  (∀ (l1 l2 l3 l4 l5 : Option Value) (st : List Value) (h : pb_H) (Q : Option Value → pb_H → Prop), pb_R 70 40 [some .null, l1, l2, l3, l4, l5] [] st h Q ↔ pb_R 70 41 [some .null, l1, l2, l3, l4, l5] [] (.null :: st) h Q) ∧
  (∀ (L : pb_L) (J : pb_J) (st : List Value) (h : pb_H) (Q : Option Value → pb_H → Prop) (a : Nat), pb_R 70 41 L J (.ref a :: st) h Q ↔ pb_o (pb_gf (h.2 a) 4 4) (fun v => pb_R 70 44 L J (v :: st) h Q)) ∧
  (∀ (L : pb_L) (J : pb_J) (h : pb_H) (Q : Option Value → pb_H → Prop) (x0 : Int32) (x1 : Int32) (x2 : Nat) (x3 : Int32) (x4 : Nat), pb_R 70 44 L J [.int x0, .int x1, .ref x2, .int x3, .ref x4] h Q ↔ pb_call 61 [.ref x4, .int x3, .ref x2, .int x1, .int x0] h (fun v t => pb_R 70 47 L J (v.toList ++ []) t Q)) ∧
  (∀ (L : pb_L) (J : pb_J) (st : List Value) (h : pb_H) (Q : Option Value → pb_H → Prop) (x : Int32), pb_R 70 47 L J (.int x :: st) h Q ↔ if x ≤ 0 then pb_R 70 55 L J st h Q else pb_R 70 50 L J st h Q) ∧
  (∀ (l0 l1 l2 l4 l5 : Option Value) (st : List Value) (h : pb_H) (Q : Option Value → pb_H → Prop) (x : Int32), pb_R 70 50 [l0, l1, l2, some (.int x), l4, l5] [] st h Q ↔ pb_R 70 51 [l0, l1, l2, some (.int x), l4, l5] [] (.int x :: st) h Q) ∧
  (∀ (l0 l1 l2 l3 l4 : Option Value) (st : List Value) (h : pb_H) (Q : Option Value → pb_H → Prop) (x : Int32), pb_R 70 51 [l0, l1, l2, l3, l4, some (.int x)] [] st h Q ↔ pb_R 70 53 [l0, l1, l2, l3, l4, some (.int x)] [] (.int x :: st) h Q) ∧
  (∀ (L : pb_L) (J : pb_J) (st : List Value) (x y : Int32) (h : pb_H) (Q : Option Value → pb_H → Prop), pb_R 70 53 L J (.int y :: .int x :: st) h Q ↔ pb_R 70 54 L J (.int (x ||| y) :: st) h Q) ∧
  (∀ (l0 l1 l2 l3 l4 l5 : Option Value) (st : List Value) (h : pb_H) (Q : Option Value → pb_H → Prop) (x : Int32), pb_R 70 54 [l0, l1, l2, l3, l4, l5] [] (.int x :: st) h Q ↔ pb_R 70 55 [l0, l1, l2, some (.int x), l4, l5] [] st h Q) ∧
  (∀ (l0 l1 l2 l3 l5 : Option Value) (st : List Value) (h : pb_H) (Q : Option Value → pb_H → Prop) (x : Int32), pb_R 70 55 [l0, l1, l2, l3, some (.int x), l5] [] st h Q ↔ pb_R 70 58 [l0, l1, l2, l3, some (.int (x + (1 : Int32))), l5] [] st h Q) ∧
  (∀ (L : pb_L) (J : pb_J) (st : List Value) (h : pb_H) (Q : Option Value → pb_H → Prop), pb_R 70 58 L J st h Q ↔ pb_R 70 5 L J st h Q) ∧
  (∀ (l0 l1 l2 l4 l5 : Option Value) (st : List Value) (h : pb_H) (Q : Option Value → pb_H → Prop) (x : Int32), pb_R 70 61 [l0, l1, l2, some (.int x), l4, l5] [] st h Q ↔ pb_R 70 62 [l0, l1, l2, some (.int x), l4, l5] [] (.int x :: st) h Q) ∧
  (∀ (L : pb_L) (J : pb_J) (h : pb_H) (Q : Option Value → pb_H → Prop) (x : Int32), pb_R 70 62 L J [.int x] h Q ↔ Q (some (.int x)) h) := ⟨
  fun L J st h Q => pf_S pb_u_70 rfl rfl,
  fun l0 l1 l2 l3 l4 l5 st h Q x => pf_S pb_u_70 rfl rfl,
  fun L J st h Q => pf_S pb_u_70 rfl rfl,
  fun l0 l1 l2 l3 l4 l5 st h Q x => pf_S pb_u_70 rfl rfl,
  fun l1 l2 l3 l4 l5 st h Q x => pf_S pb_u_70 rfl rfl,
  fun l1 l2 l3 l4 l5 st h Q => pf_S pb_u_70 rfl rfl,
  fun L J st h Q a => pf_gf pb_u_70 rfl rfl,
  fun L J st h Q x y => pf_ic pb_u_70 rfl rfl rfl,
  fun L J st h Q => pf_S pb_u_70 rfl rfl,
  fun l0 l1 l2 l3 l5 st h Q x => pf_S pb_u_70 rfl rfl,
  fun L J st h Q => pf_S pb_u_70 rfl rfl,
  fun L J st x y h Q => pf_S pb_u_70 rfl rfl,
  fun L J st x y h Q => pf_S pb_u_70 rfl rfl,
  fun l0 l1 l2 l3 l4 l5 st h Q x => pf_S pb_u_70 rfl rfl,
  fun l0 l2 l3 l4 l5 st h Q x => pf_S pb_u_70 rfl rfl,
  fun l0 l1 l2 l3 l4 st h Q x => pf_S pb_u_70 rfl rfl,
  fun L J st x y h Q => pf_S pb_u_70 rfl rfl,
  fun L J st h Q x => pf_ii pb_u_70 rfl rfl rfl,
  fun l1 l2 l3 l4 l5 st h Q x => pf_S pb_u_70 rfl rfl,
  fun l1 l2 l3 l4 l5 st h Q => pf_S pb_u_70 rfl rfl,
  fun L J st h Q a => pf_gf pb_u_70 rfl rfl,
  fun l0 l1 l2 l3 l5 st h Q x => pf_S pb_u_70 rfl rfl,
  fun L J st h Q => pf_S pb_u_70 rfl rfl,
  fun L J st x y h Q => pf_S pb_u_70 rfl rfl,
  fun l0 l1 l3 l4 l5 st h Q x => pf_S pb_u_70 rfl rfl,
  fun l0 l1 l3 l4 l5 st h Q => pf_S pb_u_70 rfl rfl,
  fun L J st h Q => pf_S pb_u_70 rfl rfl,
  fun l1 l2 l3 l4 l5 st h Q x => pf_S pb_u_70 rfl rfl,
  fun l1 l2 l3 l4 l5 st h Q => pf_S pb_u_70 rfl rfl,
  fun L J st h Q a => pf_gf pb_u_70 rfl rfl,
  fun L J h Q x0 x1 x2 x3 x4 => pf_ks pb_u_70 rfl rfl rfl rfl,
  fun L J st h Q x => pf_ii pb_u_70 rfl rfl rfl,
  fun l0 l1 l2 l4 l5 st h Q x => pf_S pb_u_70 rfl rfl,
  fun l0 l1 l2 l3 l4 st h Q x => pf_S pb_u_70 rfl rfl,
  fun L J st x y h Q => pf_S pb_u_70 rfl rfl,
  fun l0 l1 l2 l3 l4 l5 st h Q x => pf_S pb_u_70 rfl rfl,
  fun l0 l1 l2 l3 l5 st h Q x => pf_S pb_u_70 rfl rfl,
  fun L J st h Q => pf_S pb_u_70 rfl rfl,
  fun l0 l1 l2 l4 l5 st h Q x => pf_S pb_u_70 rfl rfl,
  fun L J h Q x => pf_ri pb_u_70 rfl rfl⟩
theorem pb_c70 (x0 : Nat) (x1 : Int32) (x2 : Nat) (h : pb_H) (Q : Option Value → pb_H → Prop) : pb_call 70 [.ref x0, .int x1, .ref x2] h Q ↔ pb_R 70 0 [some (.ref x0), some (.int x1), some (.ref x2), none, none, none] [] [] h Q := Iff.rfl
/-! 71: PlaneBench$Line.look(II[I)I -/
theorem pb_u_71 : pb_t 71 = pb_t71 := rfl
theorem pb_ci_71 : pb_ci 71 = 4 := by decide +kernel
set_option maxRecDepth 100000 in
theorem pb_e71 : (∀ (l1 l2 l3 l4 l5 l6 l7 l8 l9 : Option Value) (j0 j1 j2 j3 j4 j5 j6 j7 j8 j9 : Option Int64) (st : List Value) (h : pb_H) (Q : Option Value → pb_H → Prop) (x : Nat), pb_R 71 0 [some (.ref x), l1, l2, l3, l4, l5, l6, l7, l8, l9] [j0, j1, j2, j3, j4, j5, j6, j7, j8, j9] st h Q ↔ pb_R 71 1 [some (.ref x), l1, l2, l3, l4, l5, l6, l7, l8, l9] [j0, j1, j2, j3, j4, j5, j6, j7, j8, j9] (.ref x :: st) h Q) ∧
  (∀ (l1 l2 l3 l4 l5 l6 l7 l8 l9 : Option Value) (j0 j1 j2 j3 j4 j5 j6 j7 j8 j9 : Option Int64) (st : List Value) (h : pb_H) (Q : Option Value → pb_H → Prop), pb_R 71 0 [some .null, l1, l2, l3, l4, l5, l6, l7, l8, l9] [j0, j1, j2, j3, j4, j5, j6, j7, j8, j9] st h Q ↔ pb_R 71 1 [some .null, l1, l2, l3, l4, l5, l6, l7, l8, l9] [j0, j1, j2, j3, j4, j5, j6, j7, j8, j9] (.null :: st) h Q) ∧
  (∀ (L : pb_L) (J : pb_J) (st : List Value) (h : pb_H) (Q : Option Value → pb_H → Prop) (a : Nat), pb_R 71 1 L J (.ref a :: st) h Q ↔ pb_o (pb_gf (h.2 a) 4 2) (fun v => pb_R 71 4 L J (v :: st) h Q)) ∧
  (∀ (l1 l2 l3 l4 l5 l6 l7 l8 l9 : Option Value) (j0 j1 j2 j3 j4 j5 j6 j7 j8 j9 : Option Int64) (st : List Value) (h : pb_H) (Q : Option Value → pb_H → Prop) (x : Nat), pb_R 71 4 [some (.ref x), l1, l2, l3, l4, l5, l6, l7, l8, l9] [j0, j1, j2, j3, j4, j5, j6, j7, j8, j9] st h Q ↔ pb_R 71 5 [some (.ref x), l1, l2, l3, l4, l5, l6, l7, l8, l9] [j0, j1, j2, j3, j4, j5, j6, j7, j8, j9] (.ref x :: st) h Q) ∧
  (∀ (l1 l2 l3 l4 l5 l6 l7 l8 l9 : Option Value) (j0 j1 j2 j3 j4 j5 j6 j7 j8 j9 : Option Int64) (st : List Value) (h : pb_H) (Q : Option Value → pb_H → Prop), pb_R 71 4 [some .null, l1, l2, l3, l4, l5, l6, l7, l8, l9] [j0, j1, j2, j3, j4, j5, j6, j7, j8, j9] st h Q ↔ pb_R 71 5 [some .null, l1, l2, l3, l4, l5, l6, l7, l8, l9] [j0, j1, j2, j3, j4, j5, j6, j7, j8, j9] (.null :: st) h Q) ∧
  (∀ (L : pb_L) (J : pb_J) (st : List Value) (h : pb_H) (Q : Option Value → pb_H → Prop) (a : Nat), pb_R 71 5 L J (.ref a :: st) h Q ↔ pb_o (pb_gf (h.2 a) 4 3) (fun v => pb_R 71 8 L J (v :: st) h Q)) ∧
  (∀ (L : pb_L) (J : pb_J) (st : List Value) (x y : Int32) (h : pb_H) (Q : Option Value → pb_H → Prop), pb_R 71 8 L J (.int y :: .int x :: st) h Q ↔ pb_R 71 9 L J (.int (x ||| y) :: st) h Q) ∧
  (∀ (l0 l1 l2 l3 l4 l5 l6 l7 l8 l9 : Option Value) (j0 j1 j2 j3 j4 j5 j6 j7 j8 j9 : Option Int64) (st : List Value) (h : pb_H) (Q : Option Value → pb_H → Prop) (x : Int32), pb_R 71 9 [l0, l1, l2, l3, l4, l5, l6, l7, l8, l9] [j0, j1, j2, j3, j4, j5, j6, j7, j8, j9] (.int x :: st) h Q ↔ pb_R 71 11 [l0, l1, l2, l3, some (.int x), l5, l6, l7, l8, l9] [j0, j1, j2, none, none, j5, j6, j7, j8, j9] st h Q) ∧
  (∀ (l1 l2 l3 l4 l5 l6 l7 l8 l9 : Option Value) (j0 j1 j2 j3 j4 j5 j6 j7 j8 j9 : Option Int64) (st : List Value) (h : pb_H) (Q : Option Value → pb_H → Prop) (x : Nat), pb_R 71 11 [some (.ref x), l1, l2, l3, l4, l5, l6, l7, l8, l9] [j0, j1, j2, j3, j4, j5, j6, j7, j8, j9] st h Q ↔ pb_R 71 12 [some (.ref x), l1, l2, l3, l4, l5, l6, l7, l8, l9] [j0, j1, j2, j3, j4, j5, j6, j7, j8, j9] (.ref x :: st) h Q) ∧
  (∀ (l1 l2 l3 l4 l5 l6 l7 l8 l9 : Option Value) (j0 j1 j2 j3 j4 j5 j6 j7 j8 j9 : Option Int64) (st : List Value) (h : pb_H) (Q : Option Value → pb_H → Prop), pb_R 71 11 [some .null, l1, l2, l3, l4, l5, l6, l7, l8, l9] [j0, j1, j2, j3, j4, j5, j6, j7, j8, j9] st h Q ↔ pb_R 71 12 [some .null, l1, l2, l3, l4, l5, l6, l7, l8, l9] [j0, j1, j2, j3, j4, j5, j6, j7, j8, j9] (.null :: st) h Q) ∧
  (∀ (L : pb_L) (J : pb_J) (st : List Value) (h : pb_H) (Q : Option Value → pb_H → Prop) (a : Nat), pb_R 71 12 L J (.ref a :: st) h Q ↔ pb_o (pb_gf (h.2 a) 4 2) (fun v => pb_R 71 15 L J (v :: st) h Q)) ∧
  (∀ (l0 l1 l3 l4 l5 l6 l7 l8 l9 : Option Value) (j0 j1 j2 j3 j4 j5 j6 j7 j8 j9 : Option Int64) (st : List Value) (h : pb_H) (Q : Option Value → pb_H → Prop) (x : Int32), pb_R 71 15 [l0, l1, some (.int x), l3, l4, l5, l6, l7, l8, l9] [j0, j1, j2, j3, j4, j5, j6, j7, j8, j9] st h Q ↔ pb_R 71 16 [l0, l1, some (.int x), l3, l4, l5, l6, l7, l8, l9] [j0, j1, j2, j3, j4, j5, j6, j7, j8, j9] (.int x :: st) h Q) ∧
  (∀ (L : pb_L) (J : pb_J) (st : List Value) (x y : Int32) (h : pb_H) (Q : Option Value → pb_H → Prop), pb_R 71 16 L J (.int y :: .int x :: st) h Q ↔ pb_R 71 17 L J (.int (x &&& y) :: st) h Q) ∧
  (∀ (l1 l2 l3 l4 l5 l6 l7 l8 l9 : Option Value) (j0 j1 j2 j3 j4 j5 j6 j7 j8 j9 : Option Int64) (st : List Value) (h : pb_H) (Q : Option Value → pb_H → Prop) (x : Nat), pb_R 71 17 [some (.ref x), l1, l2, l3, l4, l5, l6, l7, l8, l9] [j0, j1, j2, j3, j4, j5, j6, j7, j8, j9] st h Q ↔ pb_R 71 18 [some (.ref x), l1, l2, l3, l4, l5, l6, l7, l8, l9] [j0, j1, j2, j3, j4, j5, j6, j7, j8, j9] (.ref x :: st) h Q) ∧
  (∀ (l1 l2 l3 l4 l5 l6 l7 l8 l9 : Option Value) (j0 j1 j2 j3 j4 j5 j6 j7 j8 j9 : Option Int64) (st : List Value) (h : pb_H) (Q : Option Value → pb_H → Prop), pb_R 71 17 [some .null, l1, l2, l3, l4, l5, l6, l7, l8, l9] [j0, j1, j2, j3, j4, j5, j6, j7, j8, j9] st h Q ↔ pb_R 71 18 [some .null, l1, l2, l3, l4, l5, l6, l7, l8, l9] [j0, j1, j2, j3, j4, j5, j6, j7, j8, j9] (.null :: st) h Q) ∧
  (∀ (L : pb_L) (J : pb_J) (st : List Value) (h : pb_H) (Q : Option Value → pb_H → Prop) (a : Nat), pb_R 71 18 L J (.ref a :: st) h Q ↔ pb_o (pb_gf (h.2 a) 4 3) (fun v => pb_R 71 21 L J (v :: st) h Q)) ∧
  (∀ (l0 l2 l3 l4 l5 l6 l7 l8 l9 : Option Value) (j0 j1 j2 j3 j4 j5 j6 j7 j8 j9 : Option Int64) (st : List Value) (h : pb_H) (Q : Option Value → pb_H → Prop) (x : Int32), pb_R 71 21 [l0, some (.int x), l2, l3, l4, l5, l6, l7, l8, l9] [j0, j1, j2, j3, j4, j5, j6, j7, j8, j9] st h Q ↔ pb_R 71 22 [l0, some (.int x), l2, l3, l4, l5, l6, l7, l8, l9] [j0, j1, j2, j3, j4, j5, j6, j7, j8, j9] (.int x :: st) h Q) ∧
  (∀ (L : pb_L) (J : pb_J) (st : List Value) (x y : Int32) (h : pb_H) (Q : Option Value → pb_H → Prop), pb_R 71 22 L J (.int y :: .int x :: st) h Q ↔ pb_R 71 23 L J (.int (x &&& y) :: st) h Q) ∧
  (∀ (L : pb_L) (J : pb_J) (st : List Value) (x y : Int32) (h : pb_H) (Q : Option Value → pb_H → Prop), pb_R 71 23 L J (.int y :: .int x :: st) h Q ↔ pb_R 71 24 L J (.int (x ||| y) :: st) h Q) ∧
  (∀ (l0 l1 l2 l3 l4 l5 l6 l7 l8 l9 : Option Value) (j0 j1 j2 j3 j4 j5 j6 j7 j8 j9 : Option Int64) (st : List Value) (h : pb_H) (Q : Option Value → pb_H → Prop) (x : Int32), pb_R 71 24 [l0, l1, l2, l3, l4, l5, l6, l7, l8, l9] [j0, j1, j2, j3, j4, j5, j6, j7, j8, j9] (.int x :: st) h Q ↔ pb_R 71 26 [l0, l1, l2, l3, l4, some (.int x), l6, l7, l8, l9] [j0, j1, j2, j3, none, none, j6, j7, j8, j9] st h Q) ∧
  (∀ (l0 l1 l2 l3 l5 l6 l7 l8 l9 : Option Value) (j0 j1 j2 j3 j4 j5 j6 j7 j8 j9 : Option Int64) (st : List Value) (h : pb_H) (Q : Option Value → pb_H → Prop) (x : Int32), pb_R 71 26 [l0, l1, l2, l3, some (.int x), l5, l6, l7, l8, l9] [j0, j1, j2, j3, j4, j5, j6, j7, j8, j9] st h Q ↔ pb_R 71 28 [l0, l1, l2, l3, some (.int x), l5, l6, l7, l8, l9] [j0, j1, j2, j3, j4, j5, j6, j7, j8, j9] (.int x :: st) h Q) ∧
  (∀ (l0 l2 l3 l4 l5 l6 l7 l8 l9 : Option Value) (j0 j1 j2 j3 j4 j5 j6 j7 j8 j9 : Option Int64) (st : List Value) (h : pb_H) (Q : Option Value → pb_H → Prop) (x : Int32), pb_R 71 28 [l0, some (.int x), l2, l3, l4, l5, l6, l7, l8, l9] [j0, j1, j2, j3, j4, j5, j6, j7, j8, j9] st h Q ↔ pb_R 71 29 [l0, some (.int x), l2, l3, l4, l5, l6, l7, l8, l9] [j0, j1, j2, j3, j4, j5, j6, j7, j8, j9] (.int x :: st) h Q) ∧
  (∀ (l0 l1 l3 l4 l5 l6 l7 l8 l9 : Option Value) (j0 j1 j2 j3 j4 j5 j6 j7 j8 j9 : Option Int64) (st : List Value) (h : pb_H) (Q : Option Value → pb_H → Prop) (x : Int32), pb_R 71 29 [l0, l1, some (.int x), l3, l4, l5, l6, l7, l8, l9] [j0, j1, j2, j3, j4, j5, j6, j7, j8, j9] st h Q ↔ pb_R 71 30 [l0, l1, some (.int x), l3, l4, l5, l6, l7, l8, l9] [j0, j1, j2, j3, j4, j5, j6, j7, j8, j9] (.int x :: st) h Q) ∧
  (∀ (L : pb_L) (J : pb_J) (st : List Value) (x y : Int32) (h : pb_H) (Q : Option Value → pb_H → Prop), pb_R 71 30 L J (.int y :: .int x :: st) h Q ↔ pb_R 71 31 L J (.int (x ||| y) :: st) h Q) ∧
  (∀ (L : pb_L) (J : pb_J) (st : List Value) (h : pb_H) (Q : Option Value → pb_H → Prop), pb_R 71 31 L J st h Q ↔ pb_R 71 32 L J (.int (-1 : Int32) :: st) h Q) ∧
  (∀ (L : pb_L) (J : pb_J) (st : List Value) (x y : Int32) (h : pb_H) (Q : Option Value → pb_H → Prop), pb_R 71 32 L J (.int y :: .int x :: st) h Q ↔ pb_R 71 33 L J (.int (x ^^^ y) :: st) h Q) ∧
  (∀ (L : pb_L) (J : pb_J) (st : List Value) (x y : Int32) (h : pb_H) (Q : Option Value → pb_H → Prop), pb_R 71 33 L J (.int y :: .int x :: st) h Q ↔ pb_R 71 34 L J (.int (x &&& y) :: st) h Q) ∧
  (∀ (l0 l1 l2 l3 l4 l5 l6 l7 l8 l9 : Option Value) (j0 j1 j2 j3 j4 j5 j6 j7 j8 j9 : Option Int64) (st : List Value) (h : pb_H) (Q : Option Value → pb_H → Prop) (x : Int32), pb_R 71 34 [l0, l1, l2, l3, l4, l5, l6, l7, l8, l9] [j0, j1, j2, j3, j4, j5, j6, j7, j8, j9] (.int x :: st) h Q ↔ pb_R 71 36 [l0, l1, l2, l3, l4, l5, some (.int x), l7, l8, l9] [j0, j1, j2, j3, j4, none, none, j7, j8, j9] st h Q) ∧
  (∀ (l1 l2 l3 l4 l5 l6 l7 l8 l9 : Option Value) (j0 j1 j2 j3 j4 j5 j6 j7 j8 j9 : Option Int64) (st : List Value) (h : pb_H) (Q : Option Value → pb_H → Prop) (x : Nat), pb_R 71 36 [some (.ref x), l1, l2, l3, l4, l5, l6, l7, l8, l9] [j0, j1, j2, j3, j4, j5, j6, j7, j8, j9] st h Q ↔ pb_R 71 37 [some (.ref x), l1, l2, l3, l4, l5, l6, l7, l8, l9] [j0, j1, j2, j3, j4, j5, j6, j7, j8, j9] (.ref x :: st) h Q) ∧
  (∀ (l1 l2 l3 l4 l5 l6 l7 l8 l9 : Option Value) (j0 j1 j2 j3 j4 j5 j6 j7 j8 j9 : Option Int64) (st : List Value) (h : pb_H) (Q : Option Value → pb_H → Prop), pb_R 71 36 [some .null, l1, l2, l3, l4, l5, l6, l7, l8, l9] [j0, j1, j2, j3, j4, j5, j6, j7, j8, j9] st h Q ↔ pb_R 71 37 [some .null, l1, l2, l3, l4, l5, l6, l7, l8, l9] [j0, j1, j2, j3, j4, j5, j6, j7, j8, j9] (.null :: st) h Q) ∧
  (∀ (L : pb_L) (J : pb_J) (st : List Value) (h : pb_H) (Q : Option Value → pb_H → Prop) (a : Nat), pb_R 71 37 L J (.ref a :: st) h Q ↔ pb_o (pb_gf (h.2 a) 4 6) (fun v => pb_R 71 40 L J (v :: st) h Q)) ∧
  (∀ (L : pb_L) (J : pb_J) (st : List Value) (h : pb_H) (Q : Option Value → pb_H → Prop) (x : Int32), pb_R 71 40 L J (.int x :: st) h Q ↔ if x = 0 then pb_R 71 74 L J st h Q else pb_R 71 43 L J st h Q) ∧
  (∀ (l0 l1 l2 l3 l4 l6 l7 l8 l9 : Option Value) (j0 j1 j2 j3 j4 j5 j6 j7 j8 j9 : Option Int64) (st : List Value) (h : pb_H) (Q : Option Value → pb_H → Prop) (x : Int32), pb_R 71 43 [l0, l1, l2, l3, l4, some (.int x), l6, l7, l8, l9] [j0, j1, j2, j3, j4, j5, j6, j7, j8, j9] st h Q ↔ pb_R 71 45 [l0, l1, l2, l3, l4, some (.int x), l6, l7, l8, l9] [j0, j1, j2, j3, j4, j5, j6, j7, j8, j9] (.int x :: st) h Q) ∧
  (∀ (l1 l2 l3 l4 l5 l6 l7 l8 l9 : Option Value) (j0 j1 j2 j3 j4 j5 j6 j7 j8 j9 : Option Int64) (st : List Value) (h : pb_H) (Q : Option Value → pb_H → Prop) (x : Nat), pb_R 71 45 [some (.ref x), l1, l2, l3, l4, l5, l6, l7, l8, l9] [j0, j1, j2, j3, j4, j5, j6, j7, j8, j9] st h Q ↔ pb_R 71 46 [some (.ref x), l1, l2, l3, l4, l5, l6, l7, l8, l9] [j0, j1, j2, j3, j4, j5, j6, j7, j8, j9] (.ref x :: st) h Q) ∧
  (∀ (l1 l2 l3 l4 l5 l6 l7 l8 l9 : Option Value) (j0 j1 j2 j3 j4 j5 j6 j7 j8 j9 : Option Int64) (st : List Value) (h : pb_H) (Q : Option Value → pb_H → Prop), pb_R 71 45 [some .null, l1, l2, l3, l4, l5, l6, l7, l8, l9] [j0, j1, j2, j3, j4, j5, j6, j7, j8, j9] st h Q ↔ pb_R 71 46 [some .null, l1, l2, l3, l4, l5, l6, l7, l8, l9] [j0, j1, j2, j3, j4, j5, j6, j7, j8, j9] (.null :: st) h Q) ∧
  (∀ (L : pb_L) (J : pb_J) (st : List Value) (h : pb_H) (Q : Option Value → pb_H → Prop) (a : Nat), pb_R 71 46 L J (.ref a :: st) h Q ↔ pb_o (pb_gf (h.2 a) 4 7) (fun v => pb_R 71 49 L J (v :: st) h Q)) ∧
  (∀ (L : pb_L) (J : pb_J) (st : List Value) (h : pb_H) (Q : Option Value → pb_H → Prop), pb_R 71 49 L J st h Q ↔ pb_R 71 50 L J (.int (-1 : Int32) :: st) h Q) ∧
  (∀ (L : pb_L) (J : pb_J) (st : List Value) (x y : Int32) (h : pb_H) (Q : Option Value → pb_H → Prop), pb_R 71 50 L J (.int y :: .int x :: st) h Q ↔ pb_R 71 51 L J (.int (x ^^^ y) :: st) h Q) ∧
  (∀ (L : pb_L) (J : pb_J) (st : List Value) (x y : Int32) (h : pb_H) (Q : Option Value → pb_H → Prop), pb_R 71 51 L J (.int y :: .int x :: st) h Q ↔ pb_R 71 52 L J (.int (x &&& y) :: st) h Q) ∧
  (∀ (L : pb_L) (J : pb_J) (st : List Value) (h : pb_H) (Q : Option Value → pb_H → Prop) (x : Int32), pb_R 71 52 L J (.int x :: st) h Q ↔ if ¬ x = 0 then pb_R 71 74 L J st h Q else pb_R 71 55 L J st h Q) ∧
  (∀ (l0 l1 l2 l3 l4 l5 l7 l8 l9 : Option Value) (j0 j1 j2 j3 j4 j5 j6 j7 j8 j9 : Option Int64) (st : List Value) (h : pb_H) (Q : Option Value → pb_H → Prop) (x : Int32), pb_R 71 55 [l0, l1, l2, l3, l4, l5, some (.int x), l7, l8, l9] [j0, j1, j2, j3, j4, j5, j6, j7, j8, j9] st h Q ↔ pb_R 71 57 [l0, l1, l2, l3, l4, l5, some (.int x), l7, l8, l9] [j0, j1, j2, j3, j4, j5, j6, j7, j8, j9] (.int x :: st) h Q) ∧
  (∀ (l1 l2 l3 l4 l5 l6 l7 l8 l9 : Option Value) (j0 j1 j2 j3 j4 j5 j6 j7 j8 j9 : Option Int64) (st : List Value) (h : pb_H) (Q : Option Value → pb_H → Prop) (x : Nat), pb_R 71 57 [some (.ref x), l1, l2, l3, l4, l5, l6, l7, l8, l9] [j0, j1, j2, j3, j4, j5, j6, j7, j8, j9] st h Q ↔ pb_R 71 58 [some (.ref x), l1, l2, l3, l4, l5, l6, l7, l8, l9] [j0, j1, j2, j3, j4, j5, j6, j7, j8, j9] (.ref x :: st) h Q) ∧
  (∀ (l1 l2 l3 l4 l5 l6 l7 l8 l9 : Option Value) (j0 j1 j2 j3 j4 j5 j6 j7 j8 j9 : Option Int64) (st : List Value) (h : pb_H) (Q : Option Value → pb_H → Prop), pb_R 71 57 [some .null, l1, l2, l3, l4, l5, l6, l7, l8, l9] [j0, j1, j2, j3, j4, j5, j6, j7, j8, j9] st h Q ↔ pb_R 71 58 [some .null, l1, l2, l3, l4, l5, l6, l7, l8, l9] [j0, j1, j2, j3, j4, j5, j6, j7, j8, j9] (.null :: st) h Q) ∧
  (∀ (L : pb_L) (J : pb_J) (st : List Value) (h : pb_H) (Q : Option Value → pb_H → Prop) (a : Nat), pb_R 71 58 L J (.ref a :: st) h Q ↔ pb_o (pb_gf (h.2 a) 4 7) (fun v => pb_R 71 61 L J (v :: st) h Q)) ∧
  (∀ (l1 l2 l3 l4 l5 l6 l7 l8 l9 : Option Value) (j0 j1 j2 j3 j4 j5 j6 j7 j8 j9 : Option Int64) (st : List Value) (h : pb_H) (Q : Option Value → pb_H → Prop) (x : Nat), pb_R 71 61 [some (.ref x), l1, l2, l3, l4, l5, l6, l7, l8, l9] [j0, j1, j2, j3, j4, j5, j6, j7, j8, j9] st h Q ↔ pb_R 71 62 [some (.ref x), l1, l2, l3, l4, l5, l6, l7, l8, l9] [j0, j1, j2, j3, j4, j5, j6, j7, j8, j9] (.ref x :: st) h Q) ∧
  (∀ (l1 l2 l3 l4 l5 l6 l7 l8 l9 : Option Value) (j0 j1 j2 j3 j4 j5 j6 j7 j8 j9 : Option Int64) (st : List Value) (h : pb_H) (Q : Option Value → pb_H → Prop), pb_R 71 61 [some .null, l1, l2, l3, l4, l5, l6, l7, l8, l9] [j0, j1, j2, j3, j4, j5, j6, j7, j8, j9] st h Q ↔ pb_R 71 62 [some .null, l1, l2, l3, l4, l5, l6, l7, l8, l9] [j0, j1, j2, j3, j4, j5, j6, j7, j8, j9] (.null :: st) h Q) ∧
  (∀ (L : pb_L) (J : pb_J) (st : List Value) (h : pb_H) (Q : Option Value → pb_H → Prop) (a : Nat), pb_R 71 62 L J (.ref a :: st) h Q ↔ pb_o (pb_gf (h.2 a) 4 8) (fun v => pb_R 71 65 L J (v :: st) h Q)) ∧
  (∀ (L : pb_L) (J : pb_J) (st : List Value) (x y : Int32) (h : pb_H) (Q : Option Value → pb_H → Prop), pb_R 71 65 L J (.int y :: .int x :: st) h Q ↔ pb_R 71 66 L J (.int (x ||| y) :: st) h Q) ∧
  (∀ (L : pb_L) (J : pb_J) (st : List Value) (h : pb_H) (Q : Option Value → pb_H → Prop), pb_R 71 66 L J st h Q ↔ pb_R 71 67 L J (.int (-1 : Int32) :: st) h Q) ∧
  (∀ (L : pb_L) (J : pb_J) (st : List Value) (x y : Int32) (h : pb_H) (Q : Option Value → pb_H → Prop), pb_R 71 67 L J (.int y :: .int x :: st) h Q ↔ pb_R 71 68 L J (.int (x ^^^ y) :: st) h Q) ∧
  (∀ (L : pb_L) (J : pb_J) (st : List Value) (x y : Int32) (h : pb_H) (Q : Option Value → pb_H → Prop), pb_R 71 68 L J (.int y :: .int x :: st) h Q ↔ pb_R 71 69 L J (.int (x &&& y) :: st) h Q) ∧
  (∀ (L : pb_L) (J : pb_J) (st : List Value) (h : pb_H) (Q : Option Value → pb_H → Prop) (x : Int32), pb_R 71 69 L J (.int x :: st) h Q ↔ if ¬ x = 0 then pb_R 71 74 L J st h Q else pb_R 71 72 L J st h Q) ∧
  (∀ (L : pb_L) (J : pb_J) (st : List Value) (h : pb_H) (Q : Option Value → pb_H → Prop), pb_R 71 72 L J st h Q ↔ pb_R 71 73 L J (.int (0 : Int32) :: st) h Q) ∧
  (∀ (L : pb_L) (J : pb_J) (h : pb_H) (Q : Option Value → pb_H → Prop) (x : Int32), pb_R 71 73 L J [.int x] h Q ↔ Q (some (.int x)) h) ∧
  (∀ (l1 l2 l3 l4 l5 l6 l7 l8 l9 : Option Value) (j0 j1 j2 j3 j4 j5 j6 j7 j8 j9 : Option Int64) (st : List Value) (h : pb_H) (Q : Option Value → pb_H → Prop) (x : Nat), pb_R 71 74 [some (.ref x), l1, l2, l3, l4, l5, l6, l7, l8, l9] [j0, j1, j2, j3, j4, j5, j6, j7, j8, j9] st h Q ↔ pb_R 71 75 [some (.ref x), l1, l2, l3, l4, l5, l6, l7, l8, l9] [j0, j1, j2, j3, j4, j5, j6, j7, j8, j9] (.ref x :: st) h Q) ∧
  (∀ (l1 l2 l3 l4 l5 l6 l7 l8 l9 : Option Value) (j0 j1 j2 j3 j4 j5 j6 j7 j8 j9 : Option Int64) (st : List Value) (h : pb_H) (Q : Option Value → pb_H → Prop), pb_R 71 74 [some .null, l1, l2, l3, l4, l5, l6, l7, l8, l9] [j0, j1, j2, j3, j4, j5, j6, j7, j8, j9] st h Q ↔ pb_R 71 75 [some .null, l1, l2, l3, l4, l5, l6, l7, l8, l9] [j0, j1, j2, j3, j4, j5, j6, j7, j8, j9] (.null :: st) h Q) ∧
  (∀ (l0 l1 l2 l3 l5 l6 l7 l8 l9 : Option Value) (j0 j1 j2 j3 j4 j5 j6 j7 j8 j9 : Option Int64) (st : List Value) (h : pb_H) (Q : Option Value → pb_H → Prop) (x : Int32), pb_R 71 75 [l0, l1, l2, l3, some (.int x), l5, l6, l7, l8, l9] [j0, j1, j2, j3, j4, j5, j6, j7, j8, j9] st h Q ↔ pb_R 71 77 [l0, l1, l2, l3, some (.int x), l5, l6, l7, l8, l9] [j0, j1, j2, j3, j4, j5, j6, j7, j8, j9] (.int x :: st) h Q) ∧
  (∀ (l0 l1 l2 l3 l4 l6 l7 l8 l9 : Option Value) (j0 j1 j2 j3 j4 j5 j6 j7 j8 j9 : Option Int64) (st : List Value) (h : pb_H) (Q : Option Value → pb_H → Prop) (x : Int32), pb_R 71 77 [l0, l1, l2, l3, l4, some (.int x), l6, l7, l8, l9] [j0, j1, j2, j3, j4, j5, j6, j7, j8, j9] st h Q ↔ pb_R 71 79 [l0, l1, l2, l3, l4, some (.int x), l6, l7, l8, l9] [j0, j1, j2, j3, j4, j5, j6, j7, j8, j9] (.int x :: st) h Q) ∧
  (∀ (L : pb_L) (J : pb_J) (st : List Value) (h : pb_H) (Q : Option Value → pb_H → Prop), pb_R 71 79 L J st h Q ↔ pb_R 71 80 L J (.int (-1 : Int32) :: st) h Q) ∧
  (∀ (L : pb_L) (J : pb_J) (st : List Value) (x y : Int32) (h : pb_H) (Q : Option Value → pb_H → Prop), pb_R 71 80 L J (.int y :: .int x :: st) h Q ↔ pb_R 71 81 L J (.int (x ^^^ y) :: st) h Q) ∧
  (∀ (L : pb_L) (J : pb_J) (st : List Value) (x y : Int32) (h : pb_H) (Q : Option Value → pb_H → Prop), pb_R 71 81 L J (.int y :: .int x :: st) h Q ↔ pb_R 71 82 L J (.int (x &&& y) :: st) h Q) ∧
  (∀ (l0 l1 l2 l4 l5 l6 l7 l8 l9 : Option Value) (j0 j1 j2 j3 j4 j5 j6 j7 j8 j9 : Option Int64) (st : List Value) (h : pb_H) (Q : Option Value → pb_H → Prop) (x : Nat), pb_R 71 82 [l0, l1, l2, some (.ref x), l4, l5, l6, l7, l8, l9] [j0, j1, j2, j3, j4, j5, j6, j7, j8, j9] st h Q ↔ pb_R 71 83 [l0, l1, l2, some (.ref x), l4, l5, l6, l7, l8, l9] [j0, j1, j2, j3, j4, j5, j6, j7, j8, j9] (.ref x :: st) h Q) ∧
  (∀ (l0 l1 l2 l4 l5 l6 l7 l8 l9 : Option Value) (j0 j1 j2 j3 j4 j5 j6 j7 j8 j9 : Option Int64) (st : List Value) (h : pb_H) (Q : Option Value → pb_H → Prop), pb_R 71 82 [l0, l1, l2, some .null, l4, l5, l6, l7, l8, l9] [j0, j1, j2, j3, j4, j5, j6, j7, j8, j9] st h Q ↔ pb_R 71 83 [l0, l1, l2, some .null, l4, l5, l6, l7, l8, l9] [j0, j1, j2, j3, j4, j5, j6, j7, j8, j9] (.null :: st) h Q) ∧
  (∀ (L : pb_L) (J : pb_J) (h : pb_H) (Q : Option Value → pb_H → Prop) (x0 : Nat) (x1 : Int32) (x2 : Nat), pb_R 71 83 L J [.ref x0, .int x1, .ref x2] h Q ↔ pb_is0 (h.2 x2) 4 = true ∧ pb_call 69 [.ref x2, .int x1, .ref x0] h (fun v t => pb_R 71 86 L J (v.toList ++ []) t Q)) ∧
  (∀ (l0 l1 l2 l3 l4 l5 l6 l7 l8 l9 : Option Value) (j0 j1 j2 j3 j4 j5 j6 j7 j8 j9 : Option Int64) (st : List Value) (h : pb_H) (Q : Option Value → pb_H → Prop) (x : Int64), pb_R 71 86 [l0, l1, l2, l3, l4, l5, l6, l7, l8, l9] [j0, j1, j2, j3, j4, j5, j6, j7, j8, j9] (.long x :: st) h Q ↔ pb_R 71 88 [l0, l1, l2, l3, l4, l5, l6, none, none, l9] [j0, j1, j2, j3, j4, j5, none, some x, none, j9] st h Q) ∧
  (∀ (l0 l1 l2 l3 l4 l5 l6 l7 l8 l9 : Option Value) (j0 j1 j2 j3 j4 j5 j6 j8 j9 : Option Int64) (st : List Value) (h : pb_H) (Q : Option Value → pb_H → Prop) (x : Int64), pb_R 71 88 [l0, l1, l2, l3, l4, l5, l6, l7, l8, l9] [j0, j1, j2, j3, j4, j5, j6, some x, j8, j9] st h Q ↔ pb_R 71 90 [l0, l1, l2, l3, l4, l5, l6, l7, l8, l9] [j0, j1, j2, j3, j4, j5, j6, some x, j8, j9] (.long x :: st) h Q) ∧
  (∀ (L : pb_L) (J : pb_J) (st : List Value) (h : pb_H) (Q : Option Value → pb_H → Prop), pb_R 71 90 L J st h Q ↔ pb_R 71 91 L J (.long (0 : Int64) :: st) h Q) ∧
  (∀ (L : pb_L) (J : pb_J) (st : List Value) (x y : Int64) (h : pb_H) (Q : Option Value → pb_H → Prop), pb_R 71 91 L J (.long y :: .long x :: st) h Q ↔ pb_R 71 92 L J (.int (lg_cmp x y) :: st) h Q) ∧
  (∀ (L : pb_L) (J : pb_J) (st : List Value) (h : pb_H) (Q : Option Value → pb_H → Prop) (x : Int32), pb_R 71 92 L J (.int x :: st) h Q ↔ if 0 ≤ x then pb_R 71 97 L J st h Q else pb_R 71 95 L J st h Q) ∧
  (∀ (L : pb_L) (J : pb_J) (st : List Value) (h : pb_H) (Q : Option Value → pb_H → Prop), pb_R 71 95 L J st h Q ↔ pb_R 71 96 L J (.int (-1 : Int32) :: st) h Q) ∧
  (∀ (L : pb_L) (J : pb_J) (h : pb_H) (Q : Option Value → pb_H → Prop) (x : Int32), pb_R 71 96 L J [.int x] h Q ↔ Q (some (.int x)) h) ∧
  (∀ (l0 l1 l2 l3 l4 l5 l6 l7 l8 l9 : Option Value) (j0 j1 j2 j3 j4 j5 j6 j8 j9 : Option Int64) (st : List Value) (h : pb_H) (Q : Option Value → pb_H → Prop) (x : Int64), pb_R 71 97 [l0, l1, l2, l3, l4, l5, l6, l7, l8, l9] [j0, j1, j2, j3, j4, j5, j6, some x, j8, j9] st h Q ↔ pb_R 71 99 [l0, l1, l2, l3, l4, l5, l6, l7, l8, l9] [j0, j1, j2, j3, j4, j5, j6, some x, j8, j9] (.long x :: st) h Q) ∧
  (∀ (L : pb_L) (J : pb_J) (st : List Value) (h : pb_H) (Q : Option Value → pb_H → Prop), pb_R 71 99 L J st h Q ↔ pb_R 71 100 L J (.long (0 : Int64) :: st) h Q) ∧
  (∀ (L : pb_L) (J : pb_J) (st : List Value) (x y : Int64) (h : pb_H) (Q : Option Value → pb_H → Prop), pb_R 71 100 L J (.long y :: .long x :: st) h Q ↔ pb_R 71 101 L J (.int (lg_cmp x y) :: st) h Q) ∧
  (∀ (L : pb_L) (J : pb_J) (st : List Value) (h : pb_H) (Q : Option Value → pb_H → Prop) (x : Int32), pb_R 71 101 L J (.int x :: st) h Q ↔ if x ≤ 0 then pb_R 71 108 L J st h Q else pb_R 71 104 L J st h Q) ∧
  (∀ (L : pb_L) (J : pb_J) (st : List Value) (h : pb_H) (Q : Option Value → pb_H → Prop), pb_R 71 104 L J st h Q ↔ pb_R 71 105 L J (.int (0 : Int32) :: st) h Q) ∧
  (∀ (L : pb_L) (J : pb_J) (st : List Value) (h : pb_H) (Q : Option Value → pb_H → Prop), pb_R 71 105 L J st h Q ↔ pb_R 71 115 L J st h Q) ∧
  (∀ (l1 l2 l3 l4 l5 l6 l7 l8 l9 : Option Value) (j0 j1 j2 j3 j4 j5 j6 j7 j8 j9 : Option Int64) (st : List Value) (h : pb_H) (Q : Option Value → pb_H → Prop) (x : Nat), pb_R 71 108 [some (.ref x), l1, l2, l3, l4, l5, l6, l7, l8, l9] [j0, j1, j2, j3, j4, j5, j6, j7, j8, j9] st h Q ↔ pb_R 71 109 [some (.ref x), l1, l2, l3, l4, l5, l6, l7, l8, l9] [j0, j1, j2, j3, j4, j5, j6, j7, j8, j9] (.ref x :: st) h Q) ∧
  (∀ (l1 l2 l3 l4 l5 l6 l7 l8 l9 : Option Value) (j0 j1 j2 j3 j4 j5 j6 j7 j8 j9 : Option Int64) (st : List Value) (h : pb_H) (Q : Option Value → pb_H → Prop), pb_R 71 108 [some .null, l1, l2, l3, l4, l5, l6, l7, l8, l9] [j0, j1, j2, j3, j4, j5, j6, j7, j8, j9] st h Q ↔ pb_R 71 109 [some .null, l1, l2, l3, l4, l5, l6, l7, l8, l9] [j0, j1, j2, j3, j4, j5, j6, j7, j8, j9] (.null :: st) h Q) ∧
  (∀ (l0 l1 l2 l3 l4 l5 l7 l8 l9 : Option Value) (j0 j1 j2 j3 j4 j5 j6 j7 j8 j9 : Option Int64) (st : List Value) (h : pb_H) (Q : Option Value → pb_H → Prop) (x : Int32), pb_R 71 109 [l0, l1, l2, l3, l4, l5, some (.int x), l7, l8, l9] [j0, j1, j2, j3, j4, j5, j6, j7, j8, j9] st h Q ↔ pb_R 71 111 [l0, l1, l2, l3, l4, l5, some (.int x), l7, l8, l9] [j0, j1, j2, j3, j4, j5, j6, j7, j8, j9] (.int x :: st) h Q) ∧
  (∀ (l0 l1 l2 l4 l5 l6 l7 l8 l9 : Option Value) (j0 j1 j2 j3 j4 j5 j6 j7 j8 j9 : Option Int64) (st : List Value) (h : pb_H) (Q : Option Value → pb_H → Prop) (x : Nat), pb_R 71 111 [l0, l1, l2, some (.ref x), l4, l5, l6, l7, l8, l9] [j0, j1, j2, j3, j4, j5, j6, j7, j8, j9] st h Q ↔ pb_R 71 112 [l0, l1, l2, some (.ref x), l4, l5, l6, l7, l8, l9] [j0, j1, j2, j3, j4, j5, j6, j7, j8, j9] (.ref x :: st) h Q) ∧
  (∀ (l0 l1 l2 l4 l5 l6 l7 l8 l9 : Option Value) (j0 j1 j2 j3 j4 j5 j6 j7 j8 j9 : Option Int64) (st : List Value) (h : pb_H) (Q : Option Value → pb_H → Prop), pb_R 71 111 [l0, l1, l2, some .null, l4, l5, l6, l7, l8, l9] [j0, j1, j2, j3, j4, j5, j6, j7, j8, j9] st h Q ↔ pb_R 71 112 [l0, l1, l2, some .null, l4, l5, l6, l7, l8, l9] [j0, j1, j2, j3, j4, j5, j6, j7, j8, j9] (.null :: st) h Q) ∧
  (∀ (L : pb_L) (J : pb_J) (h : pb_H) (Q : Option Value → pb_H → Prop) (x0 : Nat) (x1 : Int32) (x2 : Nat), pb_R 71 112 L J [.ref x0, .int x1, .ref x2] h Q ↔ pb_is0 (h.2 x2) 4 = true ∧ pb_call 70 [.ref x2, .int x1, .ref x0] h (fun v t => pb_R 71 115 L J (v.toList ++ []) t Q)) ∧
  (∀ (l0 l1 l2 l3 l4 l5 l6 l7 l8 l9 : Option Value) (j0 j1 j2 j3 j4 j5 j6 j7 j8 j9 : Option Int64) (st : List Value) (h : pb_H) (Q : Option Value → pb_H → Prop) (x : Int32), pb_R 71 115 [l0, l1, l2, l3, l4, l5, l6, l7, l8, l9] [j0, j1, j2, j3, j4, j5, j6, j7, j8, j9] (.int x :: st) h Q ↔ pb_R 71 117 [l0, l1, l2, l3, l4, l5, l6, l7, l8, some (.int x)] [j0, j1, j2, j3, j4, j5, j6, j7, none, none] st h Q) ∧
  (∀ (l0 l1 l2 l3 l4 l5 l6 l7 l8 : Option Value) (j0 j1 j2 j3 j4 j5 j6 j7 j8 j9 : Option Int64) (st : List Value) (h : pb_H) (Q : Option Value → pb_H → Prop) (x : Int32), pb_R 71 117 [l0, l1, l2, l3, l4, l5, l6, l7, l8, some (.int x)] [j0, j1, j2, j3, j4, j5, j6, j7, j8, j9] st h Q ↔ pb_R 71 119 [l0, l1, l2, l3, l4, l5, l6, l7, l8, some (.int x)] [j0, j1, j2, j3, j4, j5, j6, j7, j8, j9] (.int x :: st) h Q) ∧
  (∀ (L : pb_L) (J : pb_J) (st : List Value) (h : pb_H) (Q : Option Value → pb_H → Prop) (x : Int32), pb_R 71 119 L J (.int x :: st) h Q ↔ if ¬ x = 0 then pb_R 71 139 L J st h Q else pb_R 71 122 L J st h Q) ∧
  (∀ (l1 l2 l3 l4 l5 l6 l7 l8 l9 : Option Value) (j0 j1 j2 j3 j4 j5 j6 j7 j8 j9 : Option Int64) (st : List Value) (h : pb_H) (Q : Option Value → pb_H → Prop) (x : Nat), pb_R 71 122 [some (.ref x), l1, l2, l3, l4, l5, l6, l7, l8, l9] [j0, j1, j2, j3, j4, j5, j6, j7, j8, j9] st h Q ↔ pb_R 71 123 [some (.ref x), l1, l2, l3, l4, l5, l6, l7, l8, l9] [j0, j1, j2, j3, j4, j5, j6, j7, j8, j9] (.ref x :: st) h Q) ∧
  (∀ (l1 l2 l3 l4 l5 l6 l7 l8 l9 : Option Value) (j0 j1 j2 j3 j4 j5 j6 j7 j8 j9 : Option Int64) (st : List Value) (h : pb_H) (Q : Option Value → pb_H → Prop), pb_R 71 122 [some .null, l1, l2, l3, l4, l5, l6, l7, l8, l9] [j0, j1, j2, j3, j4, j5, j6, j7, j8, j9] st h Q ↔ pb_R 71 123 [some .null, l1, l2, l3, l4, l5, l6, l7, l8, l9] [j0, j1, j2, j3, j4, j5, j6, j7, j8, j9] (.null :: st) h Q) ∧
  (∀ (L : pb_L) (J : pb_J) (st : List Value) (h : pb_H) (Q : Option Value → pb_H → Prop), pb_R 71 123 L J st h Q ↔ pb_R 71 124 L J (.int (1 : Int32) :: st) h Q) ∧
  (∀ (L : pb_L) (J : pb_J) (st : List Value) (h : pb_H) (Q : Option Value → pb_H → Prop) (a : Nat) (x : Int32), pb_R 71 124 L J (.int x :: .ref a :: st) h Q ↔ pb_o (pb_pf (h.2 a) 4 6 (.int x)) (fun c => pb_R 71 127 L J st (pb_set h a c) Q)) ∧
  (∀ (l1 l2 l3 l4 l5 l6 l7 l8 l9 : Option Value) (j0 j1 j2 j3 j4 j5 j6 j7 j8 j9 : Option Int64) (st : List Value) (h : pb_H) (Q : Option Value → pb_H → Prop) (x : Nat), pb_R 71 127 [some (.ref x), l1, l2, l3, l4, l5, l6, l7, l8, l9] [j0, j1, j2, j3, j4, j5, j6, j7, j8, j9] st h Q ↔ pb_R 71 128 [some (.ref x), l1, l2, l3, l4, l5, l6, l7, l8, l9] [j0, j1, j2, j3, j4, j5, j6, j7, j8, j9] (.ref x :: st) h Q) ∧
  (∀ (l1 l2 l3 l4 l5 l6 l7 l8 l9 : Option Value) (j0 j1 j2 j3 j4 j5 j6 j7 j8 j9 : Option Int64) (st : List Value) (h : pb_H) (Q : Option Value → pb_H → Prop), pb_R 71 127 [some .null, l1, l2, l3, l4, l5, l6, l7, l8, l9] [j0, j1, j2, j3, j4, j5, j6, j7, j8, j9] st h Q ↔ pb_R 71 128 [some .null, l1, l2, l3, l4, l5, l6, l7, l8, l9] [j0, j1, j2, j3, j4, j5, j6, j7, j8, j9] (.null :: st) h Q) ∧
  (∀ (l0 l1 l2 l3 l4 l6 l7 l8 l9 : Option Value) (j0 j1 j2 j3 j4 j5 j6 j7 j8 j9 : Option Int64) (st : List Value) (h : pb_H) (Q : Option Value → pb_H → Prop) (x : Int32), pb_R 71 128 [l0, l1, l2, l3, l4, some (.int x), l6, l7, l8, l9] [j0, j1, j2, j3, j4, j5, j6, j7, j8, j9] st h Q ↔ pb_R 71 130 [l0, l1, l2, l3, l4, some (.int x), l6, l7, l8, l9] [j0, j1, j2, j3, j4, j5, j6, j7, j8, j9] (.int x :: st) h Q) ∧
  (∀ (L : pb_L) (J : pb_J) (st : List Value) (h : pb_H) (Q : Option Value → pb_H → Prop) (a : Nat) (x : Int32), pb_R 71 130 L J (.int x :: .ref a :: st) h Q ↔ pb_o (pb_pf (h.2 a) 4 7 (.int x)) (fun c => pb_R 71 133 L J st (pb_set h a c) Q)) ∧
  (∀ (l1 l2 l3 l4 l5 l6 l7 l8 l9 : Option Value) (j0 j1 j2 j3 j4 j5 j6 j7 j8 j9 : Option Int64) (st : List Value) (h : pb_H) (Q : Option Value → pb_H → Prop) (x : Nat), pb_R 71 133 [some (.ref x), l1, l2, l3, l4, l5, l6, l7, l8, l9] [j0, j1, j2, j3, j4, j5, j6, j7, j8, j9] st h Q ↔ pb_R 71 134 [some (.ref x), l1, l2, l3, l4, l5, l6, l7, l8, l9] [j0, j1, j2, j3, j4, j5, j6, j7, j8, j9] (.ref x :: st) h Q) ∧
  (∀ (l1 l2 l3 l4 l5 l6 l7 l8 l9 : Option Value) (j0 j1 j2 j3 j4 j5 j6 j7 j8 j9 : Option Int64) (st : List Value) (h : pb_H) (Q : Option Value → pb_H → Prop), pb_R 71 133 [some .null, l1, l2, l3, l4, l5, l6, l7, l8, l9] [j0, j1, j2, j3, j4, j5, j6, j7, j8, j9] st h Q ↔ pb_R 71 134 [some .null, l1, l2, l3, l4, l5, l6, l7, l8, l9] [j0, j1, j2, j3, j4, j5, j6, j7, j8, j9] (.null :: st) h Q) ∧
  (∀ (l0 l1 l2 l3 l4 l5 l7 l8 l9 : Option Value) (j0 j1 j2 j3 j4 j5 j6 j7 j8 j9 : Option Int64) (st : List Value) (h : pb_H) (Q : Option Value → pb_H → Prop) (x : Int32), pb_R 71 134 [l0, l1, l2, l3, l4, l5, some (.int x), l7, l8, l9] [j0, j1, j2, j3, j4, j5, j6, j7, j8, j9] st h Q ↔ pb_R 71 136 [l0, l1, l2, l3, l4, l5, some (.int x), l7, l8, l9] [j0, j1, j2, j3, j4, j5, j6, j7, j8, j9] (.int x :: st) h Q) ∧
  (∀ (L : pb_L) (J : pb_J) (st : List Value) (h : pb_H) (Q : Option Value → pb_H → Prop) (a : Nat) (x : Int32), pb_R 71 136 L J (.int x :: .ref a :: st) h Q ↔ pb_o (pb_pf (h.2 a) 4 8 (.int x)) (fun c => pb_R 71 139 L J st (pb_set h a c) Q)) ∧
  (∀ (l0 l1 l2 l3 l4 l5 l6 l7 l8 : Option Value) (j0 j1 j2 j3 j4 j5 j6 j7 j8 j9 : Option Int64) (st : List Value) (h : pb_H) (Q : Option Value → pb_H → Prop) (x : Int32), pb_R 71 139 [l0, l1, l2, l3, l4, l5, l6, l7, l8, some (.int x)] [j0, j1, j2, j3, j4, j5, j6, j7, j8, j9] st h Q ↔ pb_R 71 141 [l0, l1, l2, l3, l4, l5, l6, l7, l8, some (.int x)] [j0, j1, j2, j3, j4, j5, j6, j7, j8, j9] (.int x :: st) h Q) ∧
  (∀ (L : pb_L) (J : pb_J) (h : pb_H) (Q : Option Value → pb_H → Prop) (x : Int32), pb_R 71 141 L J [.int x] h Q ↔ Q (some (.int x)) h) := ⟨
  fun l1 l2 l3 l4 l5 l6 l7 l8 l9 j0 j1 j2 j3 j4 j5 j6 j7 j8 j9 st h Q x => pf_S pb_u_71 rfl rfl,
  fun l1 l2 l3 l4 l5 l6 l7 l8 l9 j0 j1 j2 j3 j4 j5 j6 j7 j8 j9 st h Q => pf_S pb_u_71 rfl rfl,
  fun L J st h Q a => pf_gf pb_u_71 rfl rfl,
  fun l1 l2 l3 l4 l5 l6 l7 l8 l9 j0 j1 j2 j3 j4 j5 j6 j7 j8 j9 st h Q x => pf_S pb_u_71 rfl rfl,
  fun l1 l2 l3 l4 l5 l6 l7 l8 l9 j0 j1 j2 j3 j4 j5 j6 j7 j8 j9 st h Q => pf_S pb_u_71 rfl rfl,
  fun L J st h Q a => pf_gf pb_u_71 rfl rfl,
  fun L J st x y h Q => pf_S pb_u_71 rfl rfl,
  fun l0 l1 l2 l3 l4 l5 l6 l7 l8 l9 j0 j1 j2 j3 j4 j5 j6 j7 j8 j9 st h Q x => pf_S pb_u_71 rfl rfl,
  fun l1 l2 l3 l4 l5 l6 l7 l8 l9 j0 j1 j2 j3 j4 j5 j6 j7 j8 j9 st h Q x => pf_S pb_u_71 rfl rfl,
  fun l1 l2 l3 l4 l5 l6 l7 l8 l9 j0 j1 j2 j3 j4 j5 j6 j7 j8 j9 st h Q => pf_S pb_u_71 rfl rfl,
  fun L J st h Q a => pf_gf pb_u_71 rfl rfl,
  fun l0 l1 l3 l4 l5 l6 l7 l8 l9 j0 j1 j2 j3 j4 j5 j6 j7 j8 j9 st h Q x => pf_S pb_u_71 rfl rfl,
  fun L J st x y h Q => pf_S pb_u_71 rfl rfl,
  fun l1 l2 l3 l4 l5 l6 l7 l8 l9 j0 j1 j2 j3 j4 j5 j6 j7 j8 j9 st h Q x => pf_S pb_u_71 rfl rfl,
  fun l1 l2 l3 l4 l5 l6 l7 l8 l9 j0 j1 j2 j3 j4 j5 j6 j7 j8 j9 st h Q => pf_S pb_u_71 rfl rfl,
  fun L J st h Q a => pf_gf pb_u_71 rfl rfl,
  fun l0 l2 l3 l4 l5 l6 l7 l8 l9 j0 j1 j2 j3 j4 j5 j6 j7 j8 j9 st h Q x => pf_S pb_u_71 rfl rfl,
  fun L J st x y h Q => pf_S pb_u_71 rfl rfl,
  fun L J st x y h Q => pf_S pb_u_71 rfl rfl,
  fun l0 l1 l2 l3 l4 l5 l6 l7 l8 l9 j0 j1 j2 j3 j4 j5 j6 j7 j8 j9 st h Q x => pf_S pb_u_71 rfl rfl,
  fun l0 l1 l2 l3 l5 l6 l7 l8 l9 j0 j1 j2 j3 j4 j5 j6 j7 j8 j9 st h Q x => pf_S pb_u_71 rfl rfl,
  fun l0 l2 l3 l4 l5 l6 l7 l8 l9 j0 j1 j2 j3 j4 j5 j6 j7 j8 j9 st h Q x => pf_S pb_u_71 rfl rfl,
  fun l0 l1 l3 l4 l5 l6 l7 l8 l9 j0 j1 j2 j3 j4 j5 j6 j7 j8 j9 st h Q x => pf_S pb_u_71 rfl rfl,
  fun L J st x y h Q => pf_S pb_u_71 rfl rfl,
  fun L J st h Q => pf_S pb_u_71 rfl rfl,
  fun L J st x y h Q => pf_S pb_u_71 rfl rfl,
  fun L J st x y h Q => pf_S pb_u_71 rfl rfl,
  fun l0 l1 l2 l3 l4 l5 l6 l7 l8 l9 j0 j1 j2 j3 j4 j5 j6 j7 j8 j9 st h Q x => pf_S pb_u_71 rfl rfl,
  fun l1 l2 l3 l4 l5 l6 l7 l8 l9 j0 j1 j2 j3 j4 j5 j6 j7 j8 j9 st h Q x => pf_S pb_u_71 rfl rfl,
  fun l1 l2 l3 l4 l5 l6 l7 l8 l9 j0 j1 j2 j3 j4 j5 j6 j7 j8 j9 st h Q => pf_S pb_u_71 rfl rfl,
  fun L J st h Q a => pf_gf pb_u_71 rfl rfl,
  fun L J st h Q x => pf_ii pb_u_71 rfl rfl rfl,
  fun l0 l1 l2 l3 l4 l6 l7 l8 l9 j0 j1 j2 j3 j4 j5 j6 j7 j8 j9 st h Q x => pf_S pb_u_71 rfl rfl,
  fun l1 l2 l3 l4 l5 l6 l7 l8 l9 j0 j1 j2 j3 j4 j5 j6 j7 j8 j9 st h Q x => pf_S pb_u_71 rfl rfl,
  fun l1 l2 l3 l4 l5 l6 l7 l8 l9 j0 j1 j2 j3 j4 j5 j6 j7 j8 j9 st h Q => pf_S pb_u_71 rfl rfl,
  fun L J st h Q a => pf_gf pb_u_71 rfl rfl,
  fun L J st h Q => pf_S pb_u_71 rfl rfl,
  fun L J st x y h Q => pf_S pb_u_71 rfl rfl,
  fun L J st x y h Q => pf_S pb_u_71 rfl rfl,
  fun L J st h Q x => pf_ii pb_u_71 rfl rfl pf_ne,
  fun l0 l1 l2 l3 l4 l5 l7 l8 l9 j0 j1 j2 j3 j4 j5 j6 j7 j8 j9 st h Q x => pf_S pb_u_71 rfl rfl,
  fun l1 l2 l3 l4 l5 l6 l7 l8 l9 j0 j1 j2 j3 j4 j5 j6 j7 j8 j9 st h Q x => pf_S pb_u_71 rfl rfl,
  fun l1 l2 l3 l4 l5 l6 l7 l8 l9 j0 j1 j2 j3 j4 j5 j6 j7 j8 j9 st h Q => pf_S pb_u_71 rfl rfl,
  fun L J st h Q a => pf_gf pb_u_71 rfl rfl,
  fun l1 l2 l3 l4 l5 l6 l7 l8 l9 j0 j1 j2 j3 j4 j5 j6 j7 j8 j9 st h Q x => pf_S pb_u_71 rfl rfl,
  fun l1 l2 l3 l4 l5 l6 l7 l8 l9 j0 j1 j2 j3 j4 j5 j6 j7 j8 j9 st h Q => pf_S pb_u_71 rfl rfl,
  fun L J st h Q a => pf_gf pb_u_71 rfl rfl,
  fun L J st x y h Q => pf_S pb_u_71 rfl rfl,
  fun L J st h Q => pf_S pb_u_71 rfl rfl,
  fun L J st x y h Q => pf_S pb_u_71 rfl rfl,
  fun L J st x y h Q => pf_S pb_u_71 rfl rfl,
  fun L J st h Q x => pf_ii pb_u_71 rfl rfl pf_ne,
  fun L J st h Q => pf_S pb_u_71 rfl rfl,
  fun L J h Q x => pf_ri pb_u_71 rfl rfl,
  fun l1 l2 l3 l4 l5 l6 l7 l8 l9 j0 j1 j2 j3 j4 j5 j6 j7 j8 j9 st h Q x => pf_S pb_u_71 rfl rfl,
  fun l1 l2 l3 l4 l5 l6 l7 l8 l9 j0 j1 j2 j3 j4 j5 j6 j7 j8 j9 st h Q => pf_S pb_u_71 rfl rfl,
  fun l0 l1 l2 l3 l5 l6 l7 l8 l9 j0 j1 j2 j3 j4 j5 j6 j7 j8 j9 st h Q x => pf_S pb_u_71 rfl rfl,
  fun l0 l1 l2 l3 l4 l6 l7 l8 l9 j0 j1 j2 j3 j4 j5 j6 j7 j8 j9 st h Q x => pf_S pb_u_71 rfl rfl,
  fun L J st h Q => pf_S pb_u_71 rfl rfl,
  fun L J st x y h Q => pf_S pb_u_71 rfl rfl,
  fun L J st x y h Q => pf_S pb_u_71 rfl rfl,
  fun l0 l1 l2 l4 l5 l6 l7 l8 l9 j0 j1 j2 j3 j4 j5 j6 j7 j8 j9 st h Q x => pf_S pb_u_71 rfl rfl,
  fun l0 l1 l2 l4 l5 l6 l7 l8 l9 j0 j1 j2 j3 j4 j5 j6 j7 j8 j9 st h Q => pf_S pb_u_71 rfl rfl,
  fun L J h Q x0 x1 x2 => pf_kv pb_u_71 rfl pb_ci_69 rfl ⟨Nat.le_of_ble_eq_true rfl, Nat.le_of_ble_eq_true rfl, Nat.le_of_ble_eq_true rfl, Nat.le_of_ble_eq_true rfl, rfl⟩ rfl rfl,
  fun l0 l1 l2 l3 l4 l5 l6 l7 l8 l9 j0 j1 j2 j3 j4 j5 j6 j7 j8 j9 st h Q x => pf_S pb_u_71 rfl rfl,
  fun l0 l1 l2 l3 l4 l5 l6 l7 l8 l9 j0 j1 j2 j3 j4 j5 j6 j8 j9 st h Q x => pf_S pb_u_71 rfl rfl,
  fun L J st h Q => pf_S pb_u_71 rfl rfl,
  fun L J st x y h Q => pf_S pb_u_71 rfl rfl,
  fun L J st h Q x => pf_ii pb_u_71 rfl rfl rfl,
  fun L J st h Q => pf_S pb_u_71 rfl rfl,
  fun L J h Q x => pf_ri pb_u_71 rfl rfl,
  fun l0 l1 l2 l3 l4 l5 l6 l7 l8 l9 j0 j1 j2 j3 j4 j5 j6 j8 j9 st h Q x => pf_S pb_u_71 rfl rfl,
  fun L J st h Q => pf_S pb_u_71 rfl rfl,
  fun L J st x y h Q => pf_S pb_u_71 rfl rfl,
  fun L J st h Q x => pf_ii pb_u_71 rfl rfl rfl,
  fun L J st h Q => pf_S pb_u_71 rfl rfl,
  fun L J st h Q => pf_S pb_u_71 rfl rfl,
  fun l1 l2 l3 l4 l5 l6 l7 l8 l9 j0 j1 j2 j3 j4 j5 j6 j7 j8 j9 st h Q x => pf_S pb_u_71 rfl rfl,
  fun l1 l2 l3 l4 l5 l6 l7 l8 l9 j0 j1 j2 j3 j4 j5 j6 j7 j8 j9 st h Q => pf_S pb_u_71 rfl rfl,
  fun l0 l1 l2 l3 l4 l5 l7 l8 l9 j0 j1 j2 j3 j4 j5 j6 j7 j8 j9 st h Q x => pf_S pb_u_71 rfl rfl,
  fun l0 l1 l2 l4 l5 l6 l7 l8 l9 j0 j1 j2 j3 j4 j5 j6 j7 j8 j9 st h Q x => pf_S pb_u_71 rfl rfl,
  fun l0 l1 l2 l4 l5 l6 l7 l8 l9 j0 j1 j2 j3 j4 j5 j6 j7 j8 j9 st h Q => pf_S pb_u_71 rfl rfl,
  fun L J h Q x0 x1 x2 => pf_kv pb_u_71 rfl pb_ci_70 rfl ⟨Nat.le_of_ble_eq_true rfl, Nat.le_of_ble_eq_true rfl, Nat.le_of_ble_eq_true rfl, Nat.le_of_ble_eq_true rfl, rfl⟩ rfl rfl,
  fun l0 l1 l2 l3 l4 l5 l6 l7 l8 l9 j0 j1 j2 j3 j4 j5 j6 j7 j8 j9 st h Q x => pf_S pb_u_71 rfl rfl,
  fun l0 l1 l2 l3 l4 l5 l6 l7 l8 j0 j1 j2 j3 j4 j5 j6 j7 j8 j9 st h Q x => pf_S pb_u_71 rfl rfl,
  fun L J st h Q x => pf_ii pb_u_71 rfl rfl pf_ne,
  fun l1 l2 l3 l4 l5 l6 l7 l8 l9 j0 j1 j2 j3 j4 j5 j6 j7 j8 j9 st h Q x => pf_S pb_u_71 rfl rfl,
  fun l1 l2 l3 l4 l5 l6 l7 l8 l9 j0 j1 j2 j3 j4 j5 j6 j7 j8 j9 st h Q => pf_S pb_u_71 rfl rfl,
  fun L J st h Q => pf_S pb_u_71 rfl rfl,
  fun L J st h Q a x => pf_pf pb_u_71 rfl rfl,
  fun l1 l2 l3 l4 l5 l6 l7 l8 l9 j0 j1 j2 j3 j4 j5 j6 j7 j8 j9 st h Q x => pf_S pb_u_71 rfl rfl,
  fun l1 l2 l3 l4 l5 l6 l7 l8 l9 j0 j1 j2 j3 j4 j5 j6 j7 j8 j9 st h Q => pf_S pb_u_71 rfl rfl,
  fun l0 l1 l2 l3 l4 l6 l7 l8 l9 j0 j1 j2 j3 j4 j5 j6 j7 j8 j9 st h Q x => pf_S pb_u_71 rfl rfl,
  fun L J st h Q a x => pf_pf pb_u_71 rfl rfl,
  fun l1 l2 l3 l4 l5 l6 l7 l8 l9 j0 j1 j2 j3 j4 j5 j6 j7 j8 j9 st h Q x => pf_S pb_u_71 rfl rfl,
  fun l1 l2 l3 l4 l5 l6 l7 l8 l9 j0 j1 j2 j3 j4 j5 j6 j7 j8 j9 st h Q => pf_S pb_u_71 rfl rfl,
  fun l0 l1 l2 l3 l4 l5 l7 l8 l9 j0 j1 j2 j3 j4 j5 j6 j7 j8 j9 st h Q x => pf_S pb_u_71 rfl rfl,
  fun L J st h Q a x => pf_pf pb_u_71 rfl rfl,
  fun l0 l1 l2 l3 l4 l5 l6 l7 l8 j0 j1 j2 j3 j4 j5 j6 j7 j8 j9 st h Q x => pf_S pb_u_71 rfl rfl,
  fun L J h Q x => pf_ri pb_u_71 rfl rfl⟩
theorem pb_c71 (x0 : Nat) (x1 : Int32) (x2 : Int32) (x3 : Nat) (h : pb_H) (Q : Option Value → pb_H → Prop) : pb_call 71 [.ref x0, .int x1, .int x2, .ref x3] h Q ↔ pb_R 71 0 [some (.ref x0), some (.int x1), some (.int x2), some (.ref x3), none, none, none, none, none, none] [none, none, none, none, none, none, none, none, none, none] [] h Q := Iff.rfl
/-! 72: PlaneBench$Shelf.add(LPlaneBench$Line;I)V -/
theorem pb_u_72 : pb_t 72 = pb_t72 := rfl
theorem pb_ci_72 : pb_ci 72 = 7 := by decide +kernel
set_option maxRecDepth 100000 in
theorem pb_e72 : (∀ (l1 l2 l3 : Option Value) (st : List Value) (h : pb_H) (Q : Option Value → pb_H → Prop) (x : Nat), pb_R 72 0 [some (.ref x), l1, l2, l3] [] st h Q ↔ pb_R 72 1 [some (.ref x), l1, l2, l3] [] (.ref x :: st) h Q) ∧
  (∀ (l1 l2 l3 : Option Value) (st : List Value) (h : pb_H) (Q : Option Value → pb_H → Prop), pb_R 72 0 [some .null, l1, l2, l3] [] st h Q ↔ pb_R 72 1 [some .null, l1, l2, l3] [] (.null :: st) h Q) ∧
  (∀ (L : pb_L) (J : pb_J) (h : pb_H) (Q : Option Value → pb_H → Prop) (x0 : Nat), pb_R 72 1 L J [.ref x0] h Q ↔ pb_is0 (h.2 x0) 7 = true ∧ pb_call 68 [.ref x0] h (fun v t => pb_R 72 4 L J (v.toList ++ []) t Q)) ∧
  (∀ (L : pb_L) (J : pb_J) (st : List Value) (h : pb_H) (Q : Option Value → pb_H → Prop) (x : Int32), pb_R 72 4 L J (.int x :: st) h Q ↔ if x = 0 then pb_R 72 8 L J st h Q else pb_R 72 7 L J st h Q) ∧
  (∀ (L : pb_L) (J : pb_J) (h : pb_H) (Q : Option Value → pb_H → Prop), pb_R 72 7 L J [] h Q ↔ Q none h) ∧
  (∀ (l1 l2 l3 : Option Value) (st : List Value) (h : pb_H) (Q : Option Value → pb_H → Prop) (x : Nat), pb_R 72 8 [some (.ref x), l1, l2, l3] [] st h Q ↔ pb_R 72 9 [some (.ref x), l1, l2, l3] [] (.ref x :: st) h Q) ∧
  (∀ (l1 l2 l3 : Option Value) (st : List Value) (h : pb_H) (Q : Option Value → pb_H → Prop), pb_R 72 8 [some .null, l1, l2, l3] [] st h Q ↔ pb_R 72 9 [some .null, l1, l2, l3] [] (.null :: st) h Q) ∧
  (∀ (L : pb_L) (J : pb_J) (st : List Value) (h : pb_H) (Q : Option Value → pb_H → Prop) (a : Nat), pb_R 72 9 L J (.ref a :: st) h Q ↔ pb_o (pb_gf (h.2 a) 7 5) (fun v => pb_R 72 12 L J (v :: st) h Q)) ∧
  (∀ (l1 l2 l3 : Option Value) (st : List Value) (h : pb_H) (Q : Option Value → pb_H → Prop) (x : Nat), pb_R 72 12 [some (.ref x), l1, l2, l3] [] st h Q ↔ pb_R 72 13 [some (.ref x), l1, l2, l3] [] (.ref x :: st) h Q) ∧
  (∀ (l1 l2 l3 : Option Value) (st : List Value) (h : pb_H) (Q : Option Value → pb_H → Prop), pb_R 72 12 [some .null, l1, l2, l3] [] st h Q ↔ pb_R 72 13 [some .null, l1, l2, l3] [] (.null :: st) h Q) ∧
  (∀ (L : pb_L) (J : pb_J) (st : List Value) (h : pb_H) (Q : Option Value → pb_H → Prop) (a : Nat), pb_R 72 13 L J (.ref a :: st) h Q ↔ pb_o (pb_gf (h.2 a) 7 2) (fun v => pb_R 72 16 L J (v :: st) h Q)) ∧
  (∀ (L : pb_L) (J : pb_J) (st : List Value) (h : pb_H) (Q : Option Value → pb_H → Prop) (a : Nat) (i : Int32), pb_R 72 16 L J (.int i :: .ref a :: st) h Q ↔ pb_o (pb_aa (h.2 a) i) (fun v => pb_R 72 17 L J (va_rf v :: st) h Q)) ∧
  (∀ (L : pb_L) (J : pb_J) (st : List Value) (h : pb_H) (Q : Option Value → pb_H → Prop), pb_R 72 17 L J (.null :: st) h Q ↔ pb_R 72 20 L J st h Q) ∧
  (∀ (L : pb_L) (J : pb_J) (st : List Value) (h : pb_H) (Q : Option Value → pb_H → Prop) (x : Nat), pb_R 72 17 L J (.ref x :: st) h Q ↔ pb_R 72 40 L J st h Q) ∧
  (∀ (l1 l2 l3 : Option Value) (st : List Value) (h : pb_H) (Q : Option Value → pb_H → Prop) (x : Nat), pb_R 72 20 [some (.ref x), l1, l2, l3] [] st h Q ↔ pb_R 72 21 [some (.ref x), l1, l2, l3] [] (.ref x :: st) h Q) ∧
  (∀ (l1 l2 l3 : Option Value) (st : List Value) (h : pb_H) (Q : Option Value → pb_H → Prop), pb_R 72 20 [some .null, l1, l2, l3] [] st h Q ↔ pb_R 72 21 [some .null, l1, l2, l3] [] (.null :: st) h Q) ∧
  (∀ (L : pb_L) (J : pb_J) (st : List Value) (h : pb_H) (Q : Option Value → pb_H → Prop) (a : Nat), pb_R 72 21 L J (.ref a :: st) h Q ↔ pb_o (pb_gf (h.2 a) 7 5) (fun v => pb_R 72 24 L J (v :: st) h Q)) ∧
  (∀ (l1 l2 l3 : Option Value) (st : List Value) (h : pb_H) (Q : Option Value → pb_H → Prop) (x : Nat), pb_R 72 24 [some (.ref x), l1, l2, l3] [] st h Q ↔ pb_R 72 25 [some (.ref x), l1, l2, l3] [] (.ref x :: st) h Q) ∧
  (∀ (l1 l2 l3 : Option Value) (st : List Value) (h : pb_H) (Q : Option Value → pb_H → Prop), pb_R 72 24 [some .null, l1, l2, l3] [] st h Q ↔ pb_R 72 25 [some .null, l1, l2, l3] [] (.null :: st) h Q) ∧
  (∀ (L : pb_L) (J : pb_J) (st : List Value) (h : pb_H) (Q : Option Value → pb_H → Prop) (a : Nat), pb_R 72 25 L J (.ref a :: st) h Q ↔ pb_o (pb_gf (h.2 a) 7 2) (fun v => pb_R 72 28 L J (v :: st) h Q)) ∧
  (∀ (L : pb_L) (J : pb_J) (st : List Value) (h : pb_H) (Q : Option Value → pb_H → Prop), pb_R 72 28 L J st h Q ↔ pb_R 72 31 L J (.ref h.1 :: st) (pb_new h (.inr (4, pb_df 4))) Q) ∧
  (∀ (L : pb_L) (J : pb_J) (st : List Value) (x : Nat) (h : pb_H) (Q : Option Value → pb_H → Prop), pb_R 72 31 L J (.ref x :: st) h Q ↔ pb_R 72 32 L J (.ref x :: .ref x :: st) h Q) ∧
  (∀ (l1 l2 l3 : Option Value) (st : List Value) (h : pb_H) (Q : Option Value → pb_H → Prop) (x : Nat), pb_R 72 32 [some (.ref x), l1, l2, l3] [] st h Q ↔ pb_R 72 33 [some (.ref x), l1, l2, l3] [] (.ref x :: st) h Q) ∧
  (∀ (l1 l2 l3 : Option Value) (st : List Value) (h : pb_H) (Q : Option Value → pb_H → Prop), pb_R 72 32 [some .null, l1, l2, l3] [] st h Q ↔ pb_R 72 33 [some .null, l1, l2, l3] [] (.null :: st) h Q) ∧
  (∀ (L : pb_L) (J : pb_J) (st : List Value) (h : pb_H) (Q : Option Value → pb_H → Prop) (a : Nat), pb_R 72 33 L J (.ref a :: st) h Q ↔ pb_o (pb_gf (h.2 a) 7 0) (fun v => pb_R 72 36 L J (v :: st) h Q)) ∧
  (∀ (L : pb_L) (J : pb_J) (h : pb_H) (Q : Option Value → pb_H → Prop) (x0 : Int32) (x1 : Nat) (x2 : Nat) (x3 : Int32) (x4 : Nat), pb_R 72 36 L J [.int x0, .ref x1, .ref x2, .int x3, .ref x4] h Q ↔ pb_call 13 [.ref x1, .int x0] h (fun v t => pb_R 72 39 L J (v.toList ++ [.ref x2, .int x3, .ref x4]) t Q)) ∧
  (∀ (L : pb_L) (J : pb_J) (st : List Value) (h : pb_H) (Q : Option Value → pb_H → Prop) (a : Nat) (i : Int32), pb_R 72 39 L J (.null :: .int i :: .ref a :: st) h Q ↔ (∀ v, (none : Option Nat) = some v → pb_is0 (h.2 v) 4 = true) ∧ pb_o (pb_sa (h.2 a) i none) (fun c => pb_R 72 40 L J st (pb_set h a c) Q)) ∧
  (∀ (L : pb_L) (J : pb_J) (st : List Value) (h : pb_H) (Q : Option Value → pb_H → Prop) (a x : Nat) (i : Int32), pb_R 72 39 L J (.ref x :: .int i :: .ref a :: st) h Q ↔ (∀ v, some x = some v → pb_is0 (h.2 v) 4 = true) ∧ pb_o (pb_sa (h.2 a) i (some x)) (fun c => pb_R 72 40 L J st (pb_set h a c) Q)) ∧
  (∀ (l1 l2 l3 : Option Value) (st : List Value) (h : pb_H) (Q : Option Value → pb_H → Prop) (x : Nat), pb_R 72 40 [some (.ref x), l1, l2, l3] [] st h Q ↔ pb_R 72 41 [some (.ref x), l1, l2, l3] [] (.ref x :: st) h Q) ∧
  (∀ (l1 l2 l3 : Option Value) (st : List Value) (h : pb_H) (Q : Option Value → pb_H → Prop), pb_R 72 40 [some .null, l1, l2, l3] [] st h Q ↔ pb_R 72 41 [some .null, l1, l2, l3] [] (.null :: st) h Q) ∧
  (∀ (L : pb_L) (J : pb_J) (st : List Value) (h : pb_H) (Q : Option Value → pb_H → Prop) (a : Nat), pb_R 72 41 L J (.ref a :: st) h Q ↔ pb_o (pb_gf (h.2 a) 7 5) (fun v => pb_R 72 44 L J (v :: st) h Q)) ∧
  (∀ (l1 l2 l3 : Option Value) (st : List Value) (h : pb_H) (Q : Option Value → pb_H → Prop) (x : Nat), pb_R 72 44 [some (.ref x), l1, l2, l3] [] st h Q ↔ pb_R 72 45 [some (.ref x), l1, l2, l3] [] (.ref x :: st) h Q) ∧
  (∀ (l1 l2 l3 : Option Value) (st : List Value) (h : pb_H) (Q : Option Value → pb_H → Prop), pb_R 72 44 [some .null, l1, l2, l3] [] st h Q ↔ pb_R 72 45 [some .null, l1, l2, l3] [] (.null :: st) h Q) ∧
  (∀ (L : pb_L) (J : pb_J) (st : List Value) (h : pb_H) (Q : Option Value → pb_H → Prop) (a : Nat), pb_R 72 45 L J (.ref a :: st) h Q ↔ pb_o (pb_gf (h.2 a) 7 2) (fun v => pb_R 72 48 L J (v :: st) h Q)) ∧
  (∀ (L : pb_L) (J : pb_J) (st : List Value) (h : pb_H) (Q : Option Value → pb_H → Prop) (a : Nat) (i : Int32), pb_R 72 48 L J (.int i :: .ref a :: st) h Q ↔ pb_o (pb_aa (h.2 a) i) (fun v => pb_R 72 49 L J (va_rf v :: st) h Q)) ∧
  (∀ (l0 l1 l2 l3 : Option Value) (st : List Value) (h : pb_H) (Q : Option Value → pb_H → Prop) (x : Nat), pb_R 72 49 [l0, l1, l2, l3] [] (.ref x :: st) h Q ↔ pb_R 72 50 [l0, l1, l2, some (.ref x)] [] st h Q) ∧
  (∀ (l0 l1 l2 l3 : Option Value) (st : List Value) (h : pb_H) (Q : Option Value → pb_H → Prop), pb_R 72 49 [l0, l1, l2, l3] [] (.null :: st) h Q ↔ pb_R 72 50 [l0, l1, l2, some .null] [] st h Q) ∧
  (∀ (l0 l1 l2 : Option Value) (st : List Value) (h : pb_H) (Q : Option Value → pb_H → Prop) (x : Nat), pb_R 72 50 [l0, l1, l2, some (.ref x)] [] st h Q ↔ pb_R 72 51 [l0, l1, l2, some (.ref x)] [] (.ref x :: st) h Q) ∧
  (∀ (l0 l1 l2 : Option Value) (st : List Value) (h : pb_H) (Q : Option Value → pb_H → Prop), pb_R 72 50 [l0, l1, l2, some .null] [] st h Q ↔ pb_R 72 51 [l0, l1, l2, some .null] [] (.null :: st) h Q) ∧
  (∀ (l0 l2 l3 : Option Value) (st : List Value) (h : pb_H) (Q : Option Value → pb_H → Prop) (x : Nat), pb_R 72 51 [l0, some (.ref x), l2, l3] [] st h Q ↔ pb_R 72 52 [l0, some (.ref x), l2, l3] [] (.ref x :: st) h Q) ∧
  (∀ (l0 l2 l3 : Option Value) (st : List Value) (h : pb_H) (Q : Option Value → pb_H → Prop), pb_R 72 51 [l0, some .null, l2, l3] [] st h Q ↔ pb_R 72 52 [l0, some .null, l2, l3] [] (.null :: st) h Q) ∧
  (∀ (L : pb_L) (J : pb_J) (h : pb_H) (Q : Option Value → pb_H → Prop) (x0 : Nat) (x1 : Nat), pb_R 72 52 L J [.ref x0, .ref x1] h Q ↔ pb_is0 (h.2 x1) 4 = true ∧ pb_call 48 [.ref x1, .ref x0] h (fun v t => pb_R 72 55 L J (v.toList ++ []) t Q)) ∧
  (∀ (l0 l1 l2 : Option Value) (st : List Value) (h : pb_H) (Q : Option Value → pb_H → Prop) (x : Nat), pb_R 72 55 [l0, l1, l2, some (.ref x)] [] st h Q ↔ pb_R 72 56 [l0, l1, l2, some (.ref x)] [] (.ref x :: st) h Q) ∧
  (∀ (l0 l1 l2 : Option Value) (st : List Value) (h : pb_H) (Q : Option Value → pb_H → Prop), pb_R 72 55 [l0, l1, l2, some .null] [] st h Q ↔ pb_R 72 56 [l0, l1, l2, some .null] [] (.null :: st) h Q) ∧
  (∀ (l0 l1 l3 : Option Value) (st : List Value) (h : pb_H) (Q : Option Value → pb_H → Prop) (x : Int32), pb_R 72 56 [l0, l1, some (.int x), l3] [] st h Q ↔ pb_R 72 57 [l0, l1, some (.int x), l3] [] (.int x :: st) h Q) ∧
  (∀ (L : pb_L) (J : pb_J) (st : List Value) (h : pb_H) (Q : Option Value → pb_H → Prop) (a : Nat) (x : Int32), pb_R 72 57 L J (.int x :: .ref a :: st) h Q ↔ pb_o (pb_pf (h.2 a) 4 5 (.int x)) (fun c => pb_R 72 60 L J st (pb_set h a c) Q)) ∧
  (∀ (l1 l2 l3 : Option Value) (st : List Value) (h : pb_H) (Q : Option Value → pb_H → Prop) (x : Nat), pb_R 72 60 [some (.ref x), l1, l2, l3] [] st h Q ↔ pb_R 72 61 [some (.ref x), l1, l2, l3] [] (.ref x :: st) h Q) ∧
  (∀ (l1 l2 l3 : Option Value) (st : List Value) (h : pb_H) (Q : Option Value → pb_H → Prop), pb_R 72 60 [some .null, l1, l2, l3] [] st h Q ↔ pb_R 72 61 [some .null, l1, l2, l3] [] (.null :: st) h Q) ∧
  (∀ (L : pb_L) (J : pb_J) (st : List Value) (x : Nat) (h : pb_H) (Q : Option Value → pb_H → Prop), pb_R 72 61 L J (.ref x :: st) h Q ↔ pb_R 72 62 L J (.ref x :: .ref x :: st) h Q) ∧
  (∀ (L : pb_L) (J : pb_J) (st : List Value) (h : pb_H) (Q : Option Value → pb_H → Prop) (a : Nat), pb_R 72 62 L J (.ref a :: st) h Q ↔ pb_o (pb_gf (h.2 a) 7 2) (fun v => pb_R 72 65 L J (v :: st) h Q)) ∧
  (∀ (L : pb_L) (J : pb_J) (st : List Value) (h : pb_H) (Q : Option Value → pb_H → Prop), pb_R 72 65 L J st h Q ↔ pb_R 72 66 L J (.int (1 : Int32) :: st) h Q) ∧
  (∀ (L : pb_L) (J : pb_J) (st : List Value) (x y : Int32) (h : pb_H) (Q : Option Value → pb_H → Prop), pb_R 72 66 L J (.int y :: .int x :: st) h Q ↔ pb_R 72 67 L J (.int (x + y) :: st) h Q) ∧
  (∀ (L : pb_L) (J : pb_J) (st : List Value) (h : pb_H) (Q : Option Value → pb_H → Prop) (a : Nat) (x : Int32), pb_R 72 67 L J (.int x :: .ref a :: st) h Q ↔ pb_o (pb_pf (h.2 a) 7 2 (.int x)) (fun c => pb_R 72 70 L J st (pb_set h a c) Q)) ∧
  (∀ (l1 l2 l3 : Option Value) (st : List Value) (h : pb_H) (Q : Option Value → pb_H → Prop) (x : Nat), pb_R 72 70 [some (.ref x), l1, l2, l3] [] st h Q ↔ pb_R 72 71 [some (.ref x), l1, l2, l3] [] (.ref x :: st) h Q) ∧
  (∀ (l1 l2 l3 : Option Value) (st : List Value) (h : pb_H) (Q : Option Value → pb_H → Prop), pb_R 72 70 [some .null, l1, l2, l3] [] st h Q ↔ pb_R 72 71 [some .null, l1, l2, l3] [] (.null :: st) h Q) ∧
  (∀ (L : pb_L) (J : pb_J) (st : List Value) (x : Nat) (h : pb_H) (Q : Option Value → pb_H → Prop), pb_R 72 71 L J (.ref x :: st) h Q ↔ pb_R 72 72 L J (.ref x :: .ref x :: st) h Q) ∧
  (∀ (L : pb_L) (J : pb_J) (st : List Value) (h : pb_H) (Q : Option Value → pb_H → Prop) (a : Nat), pb_R 72 72 L J (.ref a :: st) h Q ↔ pb_o (pb_gf (h.2 a) 7 4) (fun v => pb_R 72 75 L J (v :: st) h Q)) ∧
  (∀ (l0 l1 l2 : Option Value) (st : List Value) (h : pb_H) (Q : Option Value → pb_H → Prop) (x : Nat), pb_R 72 75 [l0, l1, l2, some (.ref x)] [] st h Q ↔ pb_R 72 76 [l0, l1, l2, some (.ref x)] [] (.ref x :: st) h Q) ∧
  (∀ (l0 l1 l2 : Option Value) (st : List Value) (h : pb_H) (Q : Option Value → pb_H → Prop), pb_R 72 75 [l0, l1, l2, some .null] [] st h Q ↔ pb_R 72 76 [l0, l1, l2, some .null] [] (.null :: st) h Q) ∧
  (∀ (L : pb_L) (J : pb_J) (st : List Value) (h : pb_H) (Q : Option Value → pb_H → Prop), pb_R 72 76 L J st h Q ↔ pb_R 72 77 L J (.int (0 : Int32) :: st) h Q) ∧
  (∀ (L : pb_L) (J : pb_J) (st : List Value) (h : pb_H) (Q : Option Value → pb_H → Prop), pb_R 72 77 L J st h Q ↔ pb_R 72 78 L J (.int (0 : Int32) :: st) h Q) ∧
  (∀ (l1 l2 l3 : Option Value) (st : List Value) (h : pb_H) (Q : Option Value → pb_H → Prop) (x : Nat), pb_R 72 78 [some (.ref x), l1, l2, l3] [] st h Q ↔ pb_R 72 79 [some (.ref x), l1, l2, l3] [] (.ref x :: st) h Q) ∧
  (∀ (l1 l2 l3 : Option Value) (st : List Value) (h : pb_H) (Q : Option Value → pb_H → Prop), pb_R 72 78 [some .null, l1, l2, l3] [] st h Q ↔ pb_R 72 79 [some .null, l1, l2, l3] [] (.null :: st) h Q) ∧
  (∀ (L : pb_L) (J : pb_J) (st : List Value) (h : pb_H) (Q : Option Value → pb_H → Prop) (a : Nat), pb_R 72 79 L J (.ref a :: st) h Q ↔ pb_o (pb_gf (h.2 a) 7 1) (fun v => pb_R 72 82 L J (v :: st) h Q)) ∧
  (∀ (L : pb_L) (J : pb_J) (h : pb_H) (Q : Option Value → pb_H → Prop) (x0 : Nat) (x1 : Int32) (x2 : Int32) (x3 : Nat) (x4 : Int32) (x5 : Nat), pb_R 72 82 L J [.ref x0, .int x1, .int x2, .ref x3, .int x4, .ref x5] h Q ↔ pb_is0 (h.2 x3) 4 = true ∧ pb_call 71 [.ref x3, .int x2, .int x1, .ref x0] h (fun v t => pb_R 72 85 L J (v.toList ++ [.int x4, .ref x5]) t Q)) ∧
  (∀ (L : pb_L) (J : pb_J) (st : List Value) (h : pb_H) (Q : Option Value → pb_H → Prop), pb_R 72 85 L J st h Q ↔ pb_R 72 86 L J (.int (-1 : Int32) :: st) h Q) ∧
  (∀ (L : pb_L) (J : pb_J) (st : List Value) (h : pb_H) (Q : Option Value → pb_H → Prop) (x y : Int32), pb_R 72 86 L J (.int y :: .int x :: st) h Q ↔ if ¬ x = y then pb_R 72 93 L J st h Q else pb_R 72 89 L J st h Q) ∧
  (∀ (L : pb_L) (J : pb_J) (st : List Value) (h : pb_H) (Q : Option Value → pb_H → Prop), pb_R 72 89 L J st h Q ↔ pb_R 72 90 L J (.int (1 : Int32) :: st) h Q) ∧
  (∀ (L : pb_L) (J : pb_J) (st : List Value) (h : pb_H) (Q : Option Value → pb_H → Prop), pb_R 72 90 L J st h Q ↔ pb_R 72 94 L J st h Q) ∧
  (∀ (L : pb_L) (J : pb_J) (st : List Value) (h : pb_H) (Q : Option Value → pb_H → Prop), pb_R 72 93 L J st h Q ↔ pb_R 72 94 L J (.int (0 : Int32) :: st) h Q) ∧
  (∀ (L : pb_L) (J : pb_J) (st : List Value) (x y : Int32) (h : pb_H) (Q : Option Value → pb_H → Prop), pb_R 72 94 L J (.int y :: .int x :: st) h Q ↔ pb_R 72 95 L J (.int (x + y) :: st) h Q) ∧
  (∀ (L : pb_L) (J : pb_J) (st : List Value) (h : pb_H) (Q : Option Value → pb_H → Prop) (a : Nat) (x : Int32), pb_R 72 95 L J (.int x :: .ref a :: st) h Q ↔ pb_o (pb_pf (h.2 a) 7 4 (.int x)) (fun c => pb_R 72 98 L J st (pb_set h a c) Q)) ∧
  (∀ (L : pb_L) (J : pb_J) (h : pb_H) (Q : Option Value → pb_H → Prop), pb_R 72 98 L J [] h Q ↔ Q none h) := ⟨
  fun l1 l2 l3 st h Q x => pf_S pb_u_72 rfl rfl,
  fun l1 l2 l3 st h Q => pf_S pb_u_72 rfl rfl,
  fun L J h Q x0 => pf_kv pb_u_72 rfl pb_ci_68 rfl ⟨Nat.le_of_ble_eq_true rfl, Nat.le_of_ble_eq_true rfl, Nat.le_of_ble_eq_true rfl, Nat.le_of_ble_eq_true rfl, rfl⟩ rfl rfl,
  fun L J st h Q x => pf_ii pb_u_72 rfl rfl rfl,
  fun L J h Q => pf_rv pb_u_72 rfl rfl,
  fun l1 l2 l3 st h Q x => pf_S pb_u_72 rfl rfl,
  fun l1 l2 l3 st h Q => pf_S pb_u_72 rfl rfl,
  fun L J st h Q a => pf_gf pb_u_72 rfl rfl,
  fun l1 l2 l3 st h Q x => pf_S pb_u_72 rfl rfl,
  fun l1 l2 l3 st h Q => pf_S pb_u_72 rfl rfl,
  fun L J st h Q a => pf_gf pb_u_72 rfl rfl,
  fun L J st h Q a i => pf_aa pb_u_72 rfl rfl,
  fun L J st h Q => pf_S pb_u_72 rfl rfl,
  fun L J st h Q x => pf_S pb_u_72 rfl rfl,
  fun l1 l2 l3 st h Q x => pf_S pb_u_72 rfl rfl,
  fun l1 l2 l3 st h Q => pf_S pb_u_72 rfl rfl,
  fun L J st h Q a => pf_gf pb_u_72 rfl rfl,
  fun l1 l2 l3 st h Q x => pf_S pb_u_72 rfl rfl,
  fun l1 l2 l3 st h Q => pf_S pb_u_72 rfl rfl,
  fun L J st h Q a => pf_gf pb_u_72 rfl rfl,
  fun L J st h Q => pf_S pb_u_72 rfl rfl,
  fun L J st x h Q => pf_S pb_u_72 rfl rfl,
  fun l1 l2 l3 st h Q x => pf_S pb_u_72 rfl rfl,
  fun l1 l2 l3 st h Q => pf_S pb_u_72 rfl rfl,
  fun L J st h Q a => pf_gf pb_u_72 rfl rfl,
  fun L J h Q x0 x1 x2 x3 x4 => pf_kp pb_u_72 rfl rfl rfl rfl,
  fun L J st h Q a i => pf_sa (r := none) pb_u_72 rfl rfl,
  fun L J st h Q a x i => pf_sa (r := some x) pb_u_72 rfl rfl,
  fun l1 l2 l3 st h Q x => pf_S pb_u_72 rfl rfl,
  fun l1 l2 l3 st h Q => pf_S pb_u_72 rfl rfl,
  fun L J st h Q a => pf_gf pb_u_72 rfl rfl,
  fun l1 l2 l3 st h Q x => pf_S pb_u_72 rfl rfl,
  fun l1 l2 l3 st h Q => pf_S pb_u_72 rfl rfl,
  fun L J st h Q a => pf_gf pb_u_72 rfl rfl,
  fun L J st h Q a i => pf_aa pb_u_72 rfl rfl,
  fun l0 l1 l2 l3 st h Q x => pf_S pb_u_72 rfl rfl,
  fun l0 l1 l2 l3 st h Q => pf_S pb_u_72 rfl rfl,
  fun l0 l1 l2 st h Q x => pf_S pb_u_72 rfl rfl,
  fun l0 l1 l2 st h Q => pf_S pb_u_72 rfl rfl,
  fun l0 l2 l3 st h Q x => pf_S pb_u_72 rfl rfl,
  fun l0 l2 l3 st h Q => pf_S pb_u_72 rfl rfl,
  fun L J h Q x0 x1 => pf_kv pb_u_72 rfl pb_ci_48 rfl ⟨Nat.le_of_ble_eq_true rfl, Nat.le_of_ble_eq_true rfl, Nat.le_of_ble_eq_true rfl, Nat.le_of_ble_eq_true rfl, rfl⟩ rfl rfl,
  fun l0 l1 l2 st h Q x => pf_S pb_u_72 rfl rfl,
  fun l0 l1 l2 st h Q => pf_S pb_u_72 rfl rfl,
  fun l0 l1 l3 st h Q x => pf_S pb_u_72 rfl rfl,
  fun L J st h Q a x => pf_pf pb_u_72 rfl rfl,
  fun l1 l2 l3 st h Q x => pf_S pb_u_72 rfl rfl,
  fun l1 l2 l3 st h Q => pf_S pb_u_72 rfl rfl,
  fun L J st x h Q => pf_S pb_u_72 rfl rfl,
  fun L J st h Q a => pf_gf pb_u_72 rfl rfl,
  fun L J st h Q => pf_S pb_u_72 rfl rfl,
  fun L J st x y h Q => pf_S pb_u_72 rfl rfl,
  fun L J st h Q a x => pf_pf pb_u_72 rfl rfl,
  fun l1 l2 l3 st h Q x => pf_S pb_u_72 rfl rfl,
  fun l1 l2 l3 st h Q => pf_S pb_u_72 rfl rfl,
  fun L J st x h Q => pf_S pb_u_72 rfl rfl,
  fun L J st h Q a => pf_gf pb_u_72 rfl rfl,
  fun l0 l1 l2 st h Q x => pf_S pb_u_72 rfl rfl,
  fun l0 l1 l2 st h Q => pf_S pb_u_72 rfl rfl,
  fun L J st h Q => pf_S pb_u_72 rfl rfl,
  fun L J st h Q => pf_S pb_u_72 rfl rfl,
  fun l1 l2 l3 st h Q x => pf_S pb_u_72 rfl rfl,
  fun l1 l2 l3 st h Q => pf_S pb_u_72 rfl rfl,
  fun L J st h Q a => pf_gf pb_u_72 rfl rfl,
  fun L J h Q x0 x1 x2 x3 x4 x5 => pf_kv pb_u_72 rfl pb_ci_71 rfl ⟨Nat.le_of_ble_eq_true rfl, Nat.le_of_ble_eq_true rfl, Nat.le_of_ble_eq_true rfl, Nat.le_of_ble_eq_true rfl, rfl⟩ rfl rfl,
  fun L J st h Q => pf_S pb_u_72 rfl rfl,
  fun L J st h Q x y => pf_ic pb_u_72 rfl rfl pf_ne,
  fun L J st h Q => pf_S pb_u_72 rfl rfl,
  fun L J st h Q => pf_S pb_u_72 rfl rfl,
  fun L J st h Q => pf_S pb_u_72 rfl rfl,
  fun L J st x y h Q => pf_S pb_u_72 rfl rfl,
  fun L J st h Q a x => pf_pf pb_u_72 rfl rfl,
  fun L J h Q => pf_rv pb_u_72 rfl rfl⟩
theorem pb_c72 (x0 : Nat) (x1 : Nat) (x2 : Int32) (h : pb_H) (Q : Option Value → pb_H → Prop) : pb_call 72 [.ref x0, .ref x1, .int x2] h Q ↔ pb_R 72 0 [some (.ref x0), some (.ref x1), some (.int x2), none] [] [] h Q := Iff.rfl
/-! 73: PlaneBench$Checker.addLine(I)Z -/
theorem pb_u_73 : pb_t 73 = pb_t73 := rfl
theorem pb_ci_73 : pb_ci 73 = 1 := by decide +kernel
set_option maxRecDepth 100000 in
theorem pb_e73 : (∀ (l1 : Option Value) (st : List Value) (h : pb_H) (Q : Option Value → pb_H → Prop) (x : Nat), pb_R 73 0 [some (.ref x), l1] [] st h Q ↔ pb_R 73 1 [some (.ref x), l1] [] (.ref x :: st) h Q) ∧
  (∀ (l1 : Option Value) (st : List Value) (h : pb_H) (Q : Option Value → pb_H → Prop), pb_R 73 0 [some .null, l1] [] st h Q ↔ pb_R 73 1 [some .null, l1] [] (.null :: st) h Q) ∧
  (∀ (L : pb_L) (J : pb_J) (st : List Value) (h : pb_H) (Q : Option Value → pb_H → Prop) (a : Nat), pb_R 73 1 L J (.ref a :: st) h Q ↔ pb_o (pb_gf (h.2 a) 1 2) (fun v => pb_R 73 4 L J (v :: st) h Q)) ∧
  (∀ (L : pb_L) (J : pb_J) (h : pb_H) (Q : Option Value → pb_H → Prop) (x0 : Nat), pb_R 73 4 L J [.ref x0] h Q ↔ pb_is0 (h.2 x0) 7 = true ∧ pb_call 68 [.ref x0] h (fun v t => pb_R 73 7 L J (v.toList ++ []) t Q)) ∧
  (∀ (L : pb_L) (J : pb_J) (st : List Value) (h : pb_H) (Q : Option Value → pb_H → Prop) (x : Int32), pb_R 73 7 L J (.int x :: st) h Q ↔ if x = 0 then pb_R 73 19 L J st h Q else pb_R 73 10 L J st h Q) ∧
  (∀ (l1 : Option Value) (st : List Value) (h : pb_H) (Q : Option Value → pb_H → Prop) (x : Nat), pb_R 73 10 [some (.ref x), l1] [] st h Q ↔ pb_R 73 11 [some (.ref x), l1] [] (.ref x :: st) h Q) ∧
  (∀ (l1 : Option Value) (st : List Value) (h : pb_H) (Q : Option Value → pb_H → Prop), pb_R 73 10 [some .null, l1] [] st h Q ↔ pb_R 73 11 [some .null, l1] [] (.null :: st) h Q) ∧
  (∀ (L : pb_L) (J : pb_J) (st : List Value) (h : pb_H) (Q : Option Value → pb_H → Prop) (a : Nat), pb_R 73 11 L J (.ref a :: st) h Q ↔ pb_o (pb_gf (h.2 a) 1 0) (fun v => pb_R 73 14 L J (v :: st) h Q)) ∧
  (∀ (L : pb_L) (J : pb_J) (st : List Value) (h : pb_H) (Q : Option Value → pb_H → Prop), pb_R 73 14 L J st h Q ↔ pb_R 73 15 L J (.int (5 : Int32) :: st) h Q) ∧
  (∀ (L : pb_L) (J : pb_J) (h : pb_H) (Q : Option Value → pb_H → Prop) (x0 : Int32) (x1 : Nat), pb_R 73 15 L J [.int x0, .ref x1] h Q ↔ pb_is0 (h.2 x1) 8 = true ∧ pb_call 29 [.ref x1, .int x0] h (fun v t => pb_R 73 18 L J (v.toList ++ []) t Q)) ∧
  (∀ (L : pb_L) (J : pb_J) (h : pb_H) (Q : Option Value → pb_H → Prop) (x : Int32), pb_R 73 18 L J [.int x] h Q ↔ narrow .boolean (.int x) = .int x ∧ Q (some (.int x)) h) ∧
  (∀ (l1 : Option Value) (st : List Value) (h : pb_H) (Q : Option Value → pb_H → Prop) (x : Nat), pb_R 73 19 [some (.ref x), l1] [] st h Q ↔ pb_R 73 20 [some (.ref x), l1] [] (.ref x :: st) h Q) ∧
  (∀ (l1 : Option Value) (st : List Value) (h : pb_H) (Q : Option Value → pb_H → Prop), pb_R 73 19 [some .null, l1] [] st h Q ↔ pb_R 73 20 [some .null, l1] [] (.null :: st) h Q) ∧
  (∀ (L : pb_L) (J : pb_J) (st : List Value) (h : pb_H) (Q : Option Value → pb_H → Prop) (a : Nat), pb_R 73 20 L J (.ref a :: st) h Q ↔ pb_o (pb_gf (h.2 a) 1 2) (fun v => pb_R 73 23 L J (v :: st) h Q)) ∧
  (∀ (l1 : Option Value) (st : List Value) (h : pb_H) (Q : Option Value → pb_H → Prop) (x : Nat), pb_R 73 23 [some (.ref x), l1] [] st h Q ↔ pb_R 73 24 [some (.ref x), l1] [] (.ref x :: st) h Q) ∧
  (∀ (l1 : Option Value) (st : List Value) (h : pb_H) (Q : Option Value → pb_H → Prop), pb_R 73 23 [some .null, l1] [] st h Q ↔ pb_R 73 24 [some .null, l1] [] (.null :: st) h Q) ∧
  (∀ (L : pb_L) (J : pb_J) (st : List Value) (h : pb_H) (Q : Option Value → pb_H → Prop) (a : Nat), pb_R 73 24 L J (.ref a :: st) h Q ↔ pb_o (pb_gf (h.2 a) 1 3) (fun v => pb_R 73 27 L J (v :: st) h Q)) ∧
  (∀ (L : pb_L) (J : pb_J) (st : List Value) (h : pb_H) (Q : Option Value → pb_H → Prop), pb_R 73 27 L J st h Q ↔ pb_R 73 28 L J (.int (0 : Int32) :: st) h Q) ∧
  (∀ (L : pb_L) (J : pb_J) (st : List Value) (h : pb_H) (Q : Option Value → pb_H → Prop) (a : Nat) (i : Int32), pb_R 73 28 L J (.int i :: .ref a :: st) h Q ↔ pb_o (pb_aa (h.2 a) i) (fun v => pb_R 73 29 L J (va_rf v :: st) h Q)) ∧
  (∀ (l0 : Option Value) (st : List Value) (h : pb_H) (Q : Option Value → pb_H → Prop) (x : Int32), pb_R 73 29 [l0, some (.int x)] [] st h Q ↔ pb_R 73 30 [l0, some (.int x)] [] (.int x :: st) h Q) ∧
  (∀ (L : pb_L) (J : pb_J) (h : pb_H) (Q : Option Value → pb_H → Prop) (x0 : Int32) (x1 : Nat) (x2 : Nat), pb_R 73 30 L J [.int x0, .ref x1, .ref x2] h Q ↔ pb_is0 (h.2 x2) 7 = true ∧ pb_call 72 [.ref x2, .ref x1, .int x0] h (fun v t => pb_R 73 33 L J (v.toList ++ []) t Q)) ∧
  (∀ (L : pb_L) (J : pb_J) (st : List Value) (h : pb_H) (Q : Option Value → pb_H → Prop), pb_R 73 33 L J st h Q ↔ pb_R 73 34 L J (.int (1 : Int32) :: st) h Q) ∧
  (∀ (L : pb_L) (J : pb_J) (h : pb_H) (Q : Option Value → pb_H → Prop) (x : Int32), pb_R 73 34 L J [.int x] h Q ↔ narrow .boolean (.int x) = .int x ∧ Q (some (.int x)) h) := ⟨
  fun l1 st h Q x => pf_S pb_u_73 rfl rfl,
  fun l1 st h Q => pf_S pb_u_73 rfl rfl,
  fun L J st h Q a => pf_gf pb_u_73 rfl rfl,
  fun L J h Q x0 => pf_kv pb_u_73 rfl pb_ci_68 rfl ⟨Nat.le_of_ble_eq_true rfl, Nat.le_of_ble_eq_true rfl, Nat.le_of_ble_eq_true rfl, Nat.le_of_ble_eq_true rfl, rfl⟩ rfl rfl,
  fun L J st h Q x => pf_ii pb_u_73 rfl rfl rfl,
  fun l1 st h Q x => pf_S pb_u_73 rfl rfl,
  fun l1 st h Q => pf_S pb_u_73 rfl rfl,
  fun L J st h Q a => pf_gf pb_u_73 rfl rfl,
  fun L J st h Q => pf_S pb_u_73 rfl rfl,
  fun L J h Q x0 x1 => pf_kv pb_u_73 rfl pb_ci_29 rfl ⟨Nat.le_of_ble_eq_true rfl, Nat.le_of_ble_eq_true rfl, Nat.le_of_ble_eq_true rfl, Nat.le_of_ble_eq_true rfl, rfl⟩ rfl rfl,
  fun L J h Q x => pf_rz pb_u_73 rfl rfl,
  fun l1 st h Q x => pf_S pb_u_73 rfl rfl,
  fun l1 st h Q => pf_S pb_u_73 rfl rfl,
  fun L J st h Q a => pf_gf pb_u_73 rfl rfl,
  fun l1 st h Q x => pf_S pb_u_73 rfl rfl,
  fun l1 st h Q => pf_S pb_u_73 rfl rfl,
  fun L J st h Q a => pf_gf pb_u_73 rfl rfl,
  fun L J st h Q => pf_S pb_u_73 rfl rfl,
  fun L J st h Q a i => pf_aa pb_u_73 rfl rfl,
  fun l0 st h Q x => pf_S pb_u_73 rfl rfl,
  fun L J h Q x0 x1 x2 => pf_kv pb_u_73 rfl pb_ci_72 rfl ⟨Nat.le_of_ble_eq_true rfl, Nat.le_of_ble_eq_true rfl, Nat.le_of_ble_eq_true rfl, Nat.le_of_ble_eq_true rfl, rfl⟩ rfl rfl,
  fun L J st h Q => pf_S pb_u_73 rfl rfl,
  fun L J h Q x => pf_rz pb_u_73 rfl rfl⟩
theorem pb_c73 (x0 : Nat) (x1 : Int32) (h : pb_H) (Q : Option Value → pb_H → Prop) : pb_call 73 [.ref x0, .int x1] h Q ↔ pb_R 73 0 [some (.ref x0), some (.int x1)] [] [] h Q := Iff.rfl
/-! 74: PlaneBench$Checker.takeItems()Z -/
theorem pb_u_74 : pb_t 74 = pb_t74 := rfl
theorem pb_ci_74 : pb_ci 74 = 1 := by decide +kernel
set_option maxRecDepth 100000 in
theorem pb_q74_16 (l0 l2 : Option Value) (st : List Value) (h : pb_H) (Q : Option Value → pb_H → Prop) (x : Int32) : pb_R 74 16 [l0, some (.int x), l2] [] st h Q ↔ pb_R 74 17 [l0, some (.int x), l2] [] (.int x :: st) h Q := pf_S pb_u_74 rfl rfl
set_option maxRecDepth 100000 in
theorem pb_q74_50 (L : pb_L) (J : pb_J) (st : List Value) (h : pb_H) (Q : Option Value → pb_H → Prop) (x : Int32) : pb_R 74 50 L J (.int x :: st) h Q ↔ if x = 43 then pb_R 74 108 L J st h Q else (if x = 48 then pb_R 74 92 L J st h Q else (if x = 115 then pb_R 74 116 L J st h Q else (if x = 120 then pb_R 74 100 L J st h Q else (pb_R 74 124 L J st h Q)))) := by
  by_cases c43 : x = 43
  · subst c43
    rw [if_pos rfl]
    exact pf_S pb_u_74 rfl rfl
  rw [if_neg c43]
  by_cases c48 : x = 48
  · subst c48
    rw [if_pos rfl]
    exact pf_S pb_u_74 rfl rfl
  rw [if_neg c48]
  by_cases c115 : x = 115
  · subst c115
    rw [if_pos rfl]
    exact pf_S pb_u_74 rfl rfl
  rw [if_neg c115]
  by_cases c120 : x = 120
  · subst c120
    rw [if_pos rfl]
    exact pf_S pb_u_74 rfl rfl
  rw [if_neg c120]
  have ic43 : ¬ x.toInt = 43 := pf_ni (k := 43) (fun e => c43 (e.trans rfl))
  have ic48 : ¬ x.toInt = 48 := pf_ni (k := 48) (fun e => c48 (e.trans rfl))
  have ic115 : ¬ x.toInt = 115 := pf_ni (k := 115) (fun e => c115 (e.trans rfl))
  have ic120 : ¬ x.toInt = 120 := pf_ni (k := 120) (fun e => c120 (e.trans rfl))
  have hoff : Op.lookupswitch.offset [(43, 58), (48, 42), (115, 66), (120, 50)] 74 x.toInt = 74 := by simp [Op.lookupswitch.offset_cons, Op.lookupswitch.offset_nil, Ne.symm ic43, Ne.symm ic48, Ne.symm ic115, Ne.symm ic120]
  exact pf_ls pb_u_74 rfl (by decide) hoff rfl
set_option maxRecDepth 100000 in
theorem pb_e74 : (∀ (l1 l2 : Option Value) (st : List Value) (h : pb_H) (Q : Option Value → pb_H → Prop) (x : Nat), pb_R 74 0 [some (.ref x), l1, l2] [] st h Q ↔ pb_R 74 1 [some (.ref x), l1, l2] [] (.ref x :: st) h Q) ∧
  (∀ (l1 l2 : Option Value) (st : List Value) (h : pb_H) (Q : Option Value → pb_H → Prop), pb_R 74 0 [some .null, l1, l2] [] st h Q ↔ pb_R 74 1 [some .null, l1, l2] [] (.null :: st) h Q) ∧
  (∀ (L : pb_L) (J : pb_J) (st : List Value) (h : pb_H) (Q : Option Value → pb_H → Prop) (a : Nat), pb_R 74 1 L J (.ref a :: st) h Q ↔ pb_o (pb_gf (h.2 a) 1 0) (fun v => pb_R 74 4 L J (v :: st) h Q)) ∧
  (∀ (L : pb_L) (J : pb_J) (h : pb_H) (Q : Option Value → pb_H → Prop) (x0 : Nat), pb_R 74 4 L J [.ref x0] h Q ↔ pb_is0 (h.2 x0) 8 = true ∧ pb_call 23 [.ref x0] h (fun v t => pb_R 74 7 L J (v.toList ++ []) t Q)) ∧
  (∀ (l1 l2 : Option Value) (st : List Value) (h : pb_H) (Q : Option Value → pb_H → Prop) (x : Nat), pb_R 74 7 [some (.ref x), l1, l2] [] st h Q ↔ pb_R 74 8 [some (.ref x), l1, l2] [] (.ref x :: st) h Q) ∧
  (∀ (l1 l2 : Option Value) (st : List Value) (h : pb_H) (Q : Option Value → pb_H → Prop), pb_R 74 7 [some .null, l1, l2] [] st h Q ↔ pb_R 74 8 [some .null, l1, l2] [] (.null :: st) h Q) ∧
  (∀ (L : pb_L) (J : pb_J) (st : List Value) (h : pb_H) (Q : Option Value → pb_H → Prop), pb_R 74 8 L J st h Q ↔ pb_R 74 9 L J (.int (0 : Int32) :: st) h Q) ∧
  (∀ (L : pb_L) (J : pb_J) (st : List Value) (h : pb_H) (Q : Option Value → pb_H → Prop) (a : Nat) (x : Int32), pb_R 74 9 L J (.int x :: .ref a :: st) h Q ↔ pb_o (pb_pf (h.2 a) 1 8 (.int x)) (fun c => pb_R 74 12 L J st (pb_set h a c) Q)) ∧
  (∀ (L : pb_L) (J : pb_J) (st : List Value) (h : pb_H) (Q : Option Value → pb_H → Prop), pb_R 74 12 L J st h Q ↔ pb_R 74 13 L J (.int (1 : Int32) :: st) h Q) ∧
  (∀ (l0 l1 l2 : Option Value) (st : List Value) (h : pb_H) (Q : Option Value → pb_H → Prop) (x : Int32), pb_R 74 13 [l0, l1, l2] [] (.int x :: st) h Q ↔ pb_R 74 14 [l0, some (.int x), l2] [] st h Q) ∧
  (∀ (L : pb_L) (J : pb_J) (st : List Value) (h : pb_H) (Q : Option Value → pb_H → Prop), pb_R 74 14 L J st h Q ↔ pb_R 74 15 L J (.int (0 : Int32) :: st) h Q) ∧
  (∀ (l0 l1 l2 : Option Value) (st : List Value) (h : pb_H) (Q : Option Value → pb_H → Prop) (x : Int32), pb_R 74 15 [l0, l1, l2] [] (.int x :: st) h Q ↔ pb_R 74 16 [l0, l1, some (.int x)] [] st h Q) ∧
  (∀ (L : pb_L) (J : pb_J) (st : List Value) (h : pb_H) (Q : Option Value → pb_H → Prop) (x : Int32), pb_R 74 17 L J (.int x :: st) h Q ↔ if x = 0 then pb_R 74 139 L J st h Q else pb_R 74 20 L J st h Q) ∧
  (∀ (l0 l1 : Option Value) (st : List Value) (h : pb_H) (Q : Option Value → pb_H → Prop) (x : Int32), pb_R 74 20 [l0, l1, some (.int x)] [] st h Q ↔ pb_R 74 21 [l0, l1, some (.int x)] [] (.int x :: st) h Q) ∧
  (∀ (l1 l2 : Option Value) (st : List Value) (h : pb_H) (Q : Option Value → pb_H → Prop) (x : Nat), pb_R 74 21 [some (.ref x), l1, l2] [] st h Q ↔ pb_R 74 22 [some (.ref x), l1, l2] [] (.ref x :: st) h Q) ∧
  (∀ (l1 l2 : Option Value) (st : List Value) (h : pb_H) (Q : Option Value → pb_H → Prop), pb_R 74 21 [some .null, l1, l2] [] st h Q ↔ pb_R 74 22 [some .null, l1, l2] [] (.null :: st) h Q) ∧
  (∀ (L : pb_L) (J : pb_J) (st : List Value) (h : pb_H) (Q : Option Value → pb_H → Prop) (a : Nat), pb_R 74 22 L J (.ref a :: st) h Q ↔ pb_o (pb_gf (h.2 a) 1 0) (fun v => pb_R 74 25 L J (v :: st) h Q)) ∧
  (∀ (L : pb_L) (J : pb_J) (st : List Value) (h : pb_H) (Q : Option Value → pb_H → Prop) (a : Nat), pb_R 74 25 L J (.ref a :: st) h Q ↔ pb_o (pb_gf (h.2 a) 8 1) (fun v => pb_R 74 28 L J (v :: st) h Q)) ∧
  (∀ (L : pb_L) (J : pb_J) (st : List Value) (h : pb_H) (Q : Option Value → pb_H → Prop) (x y : Int32), pb_R 74 28 L J (.int y :: .int x :: st) h Q ↔ if y < x then pb_R 74 139 L J st h Q else pb_R 74 31 L J st h Q) ∧
  (∀ (l1 l2 : Option Value) (st : List Value) (h : pb_H) (Q : Option Value → pb_H → Prop) (x : Nat), pb_R 74 31 [some (.ref x), l1, l2] [] st h Q ↔ pb_R 74 32 [some (.ref x), l1, l2] [] (.ref x :: st) h Q) ∧
  (∀ (l1 l2 : Option Value) (st : List Value) (h : pb_H) (Q : Option Value → pb_H → Prop), pb_R 74 31 [some .null, l1, l2] [] st h Q ↔ pb_R 74 32 [some .null, l1, l2] [] (.null :: st) h Q) ∧
  (∀ (L : pb_L) (J : pb_J) (st : List Value) (h : pb_H) (Q : Option Value → pb_H → Prop) (a : Nat), pb_R 74 32 L J (.ref a :: st) h Q ↔ pb_o (pb_gf (h.2 a) 1 0) (fun v => pb_R 74 35 L J (v :: st) h Q)) ∧
  (∀ (L : pb_L) (J : pb_J) (st : List Value) (h : pb_H) (Q : Option Value → pb_H → Prop) (a : Nat), pb_R 74 35 L J (.ref a :: st) h Q ↔ pb_o (pb_gf (h.2 a) 8 2) (fun v => pb_R 74 38 L J (v :: st) h Q)) ∧
  (∀ (L : pb_L) (J : pb_J) (st : List Value) (h : pb_H) (Q : Option Value → pb_H → Prop), pb_R 74 38 L J st h Q ↔ pb_R 74 40 L J (.int (59 : Int32) :: st) h Q) ∧
  (∀ (L : pb_L) (J : pb_J) (st : List Value) (h : pb_H) (Q : Option Value → pb_H → Prop) (x y : Int32), pb_R 74 40 L J (.int y :: .int x :: st) h Q ↔ if x = y then pb_R 74 139 L J st h Q else pb_R 74 43 L J st h Q) ∧
  (∀ (l1 l2 : Option Value) (st : List Value) (h : pb_H) (Q : Option Value → pb_H → Prop) (x : Nat), pb_R 74 43 [some (.ref x), l1, l2] [] st h Q ↔ pb_R 74 44 [some (.ref x), l1, l2] [] (.ref x :: st) h Q) ∧
  (∀ (l1 l2 : Option Value) (st : List Value) (h : pb_H) (Q : Option Value → pb_H → Prop), pb_R 74 43 [some .null, l1, l2] [] st h Q ↔ pb_R 74 44 [some .null, l1, l2] [] (.null :: st) h Q) ∧
  (∀ (L : pb_L) (J : pb_J) (st : List Value) (h : pb_H) (Q : Option Value → pb_H → Prop) (a : Nat), pb_R 74 44 L J (.ref a :: st) h Q ↔ pb_o (pb_gf (h.2 a) 1 0) (fun v => pb_R 74 47 L J (v :: st) h Q)) ∧
  (∀ (L : pb_L) (J : pb_J) (st : List Value) (h : pb_H) (Q : Option Value → pb_H → Prop) (a : Nat), pb_R 74 47 L J (.ref a :: st) h Q ↔ pb_o (pb_gf (h.2 a) 8 2) (fun v => pb_R 74 50 L J (v :: st) h Q)) ∧
  (∀ (L : pb_L) (J : pb_J) (st : List Value) (h : pb_H) (Q : Option Value → pb_H → Prop) (x : Int32), pb_R 74 50 L J (.int x :: st) h Q ↔ if x = 43 then pb_R 74 108 L J st h Q else (if x = 48 then pb_R 74 92 L J st h Q else (if x = 115 then pb_R 74 116 L J st h Q else (if x = 120 then pb_R 74 100 L J st h Q else (pb_R 74 124 L J st h Q))))) ∧
  (∀ (l1 l2 : Option Value) (st : List Value) (h : pb_H) (Q : Option Value → pb_H → Prop) (x : Nat), pb_R 74 92 [some (.ref x), l1, l2] [] st h Q ↔ pb_R 74 93 [some (.ref x), l1, l2] [] (.ref x :: st) h Q) ∧
  (∀ (l1 l2 : Option Value) (st : List Value) (h : pb_H) (Q : Option Value → pb_H → Prop), pb_R 74 92 [some .null, l1, l2] [] st h Q ↔ pb_R 74 93 [some .null, l1, l2] [] (.null :: st) h Q) ∧
  (∀ (L : pb_L) (J : pb_J) (h : pb_H) (Q : Option Value → pb_H → Prop) (x0 : Nat), pb_R 74 93 L J [.ref x0] h Q ↔ pb_is0 (h.2 x0) 1 = true ∧ pb_call 49 [.ref x0] h (fun v t => pb_R 74 96 L J (v.toList ++ []) t Q)) ∧
  (∀ (l0 l1 l2 : Option Value) (st : List Value) (h : pb_H) (Q : Option Value → pb_H → Prop) (x : Int32), pb_R 74 96 [l0, l1, l2] [] (.int x :: st) h Q ↔ pb_R 74 97 [l0, some (.int x), l2] [] st h Q) ∧
  (∀ (L : pb_L) (J : pb_J) (st : List Value) (h : pb_H) (Q : Option Value → pb_H → Prop), pb_R 74 97 L J st h Q ↔ pb_R 74 133 L J st h Q) ∧
  (∀ (l1 l2 : Option Value) (st : List Value) (h : pb_H) (Q : Option Value → pb_H → Prop) (x : Nat), pb_R 74 100 [some (.ref x), l1, l2] [] st h Q ↔ pb_R 74 101 [some (.ref x), l1, l2] [] (.ref x :: st) h Q) ∧
  (∀ (l1 l2 : Option Value) (st : List Value) (h : pb_H) (Q : Option Value → pb_H → Prop), pb_R 74 100 [some .null, l1, l2] [] st h Q ↔ pb_R 74 101 [some .null, l1, l2] [] (.null :: st) h Q) ∧
  (∀ (L : pb_L) (J : pb_J) (h : pb_H) (Q : Option Value → pb_H → Prop) (x0 : Nat), pb_R 74 101 L J [.ref x0] h Q ↔ pb_is0 (h.2 x0) 1 = true ∧ pb_call 58 [.ref x0] h (fun v t => pb_R 74 104 L J (v.toList ++ []) t Q)) ∧
  (∀ (l0 l1 l2 : Option Value) (st : List Value) (h : pb_H) (Q : Option Value → pb_H → Prop) (x : Int32), pb_R 74 104 [l0, l1, l2] [] (.int x :: st) h Q ↔ pb_R 74 105 [l0, some (.int x), l2] [] st h Q) ∧
  (∀ (L : pb_L) (J : pb_J) (st : List Value) (h : pb_H) (Q : Option Value → pb_H → Prop), pb_R 74 105 L J st h Q ↔ pb_R 74 133 L J st h Q) ∧
  (∀ (l1 l2 : Option Value) (st : List Value) (h : pb_H) (Q : Option Value → pb_H → Prop) (x : Nat), pb_R 74 108 [some (.ref x), l1, l2] [] st h Q ↔ pb_R 74 109 [some (.ref x), l1, l2] [] (.ref x :: st) h Q) ∧
  (∀ (l1 l2 : Option Value) (st : List Value) (h : pb_H) (Q : Option Value → pb_H → Prop), pb_R 74 108 [some .null, l1, l2] [] st h Q ↔ pb_R 74 109 [some .null, l1, l2] [] (.null :: st) h Q) ∧
  (∀ (L : pb_L) (J : pb_J) (h : pb_H) (Q : Option Value → pb_H → Prop) (x0 : Nat), pb_R 74 109 L J [.ref x0] h Q ↔ pb_is0 (h.2 x0) 1 = true ∧ pb_call 65 [.ref x0] h (fun v t => pb_R 74 112 L J (v.toList ++ []) t Q)) ∧
  (∀ (l0 l1 l2 : Option Value) (st : List Value) (h : pb_H) (Q : Option Value → pb_H → Prop) (x : Int32), pb_R 74 112 [l0, l1, l2] [] (.int x :: st) h Q ↔ pb_R 74 113 [l0, some (.int x), l2] [] st h Q) ∧
  (∀ (L : pb_L) (J : pb_J) (st : List Value) (h : pb_H) (Q : Option Value → pb_H → Prop), pb_R 74 113 L J st h Q ↔ pb_R 74 133 L J st h Q) ∧
  (∀ (l1 l2 : Option Value) (st : List Value) (h : pb_H) (Q : Option Value → pb_H → Prop) (x : Nat), pb_R 74 116 [some (.ref x), l1, l2] [] st h Q ↔ pb_R 74 117 [some (.ref x), l1, l2] [] (.ref x :: st) h Q) ∧
  (∀ (l1 l2 : Option Value) (st : List Value) (h : pb_H) (Q : Option Value → pb_H → Prop), pb_R 74 116 [some .null, l1, l2] [] st h Q ↔ pb_R 74 117 [some .null, l1, l2] [] (.null :: st) h Q) ∧
  (∀ (L : pb_L) (J : pb_J) (h : pb_H) (Q : Option Value → pb_H → Prop) (x0 : Nat), pb_R 74 117 L J [.ref x0] h Q ↔ pb_is0 (h.2 x0) 1 = true ∧ pb_call 67 [.ref x0] h (fun v t => pb_R 74 120 L J (v.toList ++ []) t Q)) ∧
  (∀ (l0 l1 l2 : Option Value) (st : List Value) (h : pb_H) (Q : Option Value → pb_H → Prop) (x : Int32), pb_R 74 120 [l0, l1, l2] [] (.int x :: st) h Q ↔ pb_R 74 121 [l0, some (.int x), l2] [] st h Q) ∧
  (∀ (L : pb_L) (J : pb_J) (st : List Value) (h : pb_H) (Q : Option Value → pb_H → Prop), pb_R 74 121 L J st h Q ↔ pb_R 74 133 L J st h Q) ∧
  (∀ (l1 l2 : Option Value) (st : List Value) (h : pb_H) (Q : Option Value → pb_H → Prop) (x : Nat), pb_R 74 124 [some (.ref x), l1, l2] [] st h Q ↔ pb_R 74 125 [some (.ref x), l1, l2] [] (.ref x :: st) h Q) ∧
  (∀ (l1 l2 : Option Value) (st : List Value) (h : pb_H) (Q : Option Value → pb_H → Prop), pb_R 74 124 [some .null, l1, l2] [] st h Q ↔ pb_R 74 125 [some .null, l1, l2] [] (.null :: st) h Q) ∧
  (∀ (L : pb_L) (J : pb_J) (st : List Value) (h : pb_H) (Q : Option Value → pb_H → Prop) (a : Nat), pb_R 74 125 L J (.ref a :: st) h Q ↔ pb_o (pb_gf (h.2 a) 1 0) (fun v => pb_R 74 128 L J (v :: st) h Q)) ∧
  (∀ (L : pb_L) (J : pb_J) (st : List Value) (h : pb_H) (Q : Option Value → pb_H → Prop), pb_R 74 128 L J st h Q ↔ pb_R 74 129 L J (.int (1 : Int32) :: st) h Q) ∧
  (∀ (L : pb_L) (J : pb_J) (h : pb_H) (Q : Option Value → pb_H → Prop) (x0 : Int32) (x1 : Nat), pb_R 74 129 L J [.int x0, .ref x1] h Q ↔ pb_is0 (h.2 x1) 8 = true ∧ pb_call 29 [.ref x1, .int x0] h (fun v t => pb_R 74 132 L J (v.toList ++ []) t Q)) ∧
  (∀ (l0 l1 l2 : Option Value) (st : List Value) (h : pb_H) (Q : Option Value → pb_H → Prop) (x : Int32), pb_R 74 132 [l0, l1, l2] [] (.int x :: st) h Q ↔ pb_R 74 133 [l0, some (.int x), l2] [] st h Q) ∧
  (∀ (l0 l1 : Option Value) (st : List Value) (h : pb_H) (Q : Option Value → pb_H → Prop) (x : Int32), pb_R 74 133 [l0, l1, some (.int x)] [] st h Q ↔ pb_R 74 136 [l0, l1, some (.int (x + (1 : Int32)))] [] st h Q) ∧
  (∀ (L : pb_L) (J : pb_J) (st : List Value) (h : pb_H) (Q : Option Value → pb_H → Prop), pb_R 74 136 L J st h Q ↔ pb_R 74 16 L J st h Q) ∧
  (∀ (l0 l2 : Option Value) (st : List Value) (h : pb_H) (Q : Option Value → pb_H → Prop) (x : Int32), pb_R 74 139 [l0, some (.int x), l2] [] st h Q ↔ pb_R 74 140 [l0, some (.int x), l2] [] (.int x :: st) h Q) ∧
  (∀ (L : pb_L) (J : pb_J) (st : List Value) (h : pb_H) (Q : Option Value → pb_H → Prop) (x : Int32), pb_R 74 140 L J (.int x :: st) h Q ↔ if x = 0 then pb_R 74 160 L J st h Q else pb_R 74 143 L J st h Q) ∧
  (∀ (l1 l2 : Option Value) (st : List Value) (h : pb_H) (Q : Option Value → pb_H → Prop) (x : Nat), pb_R 74 143 [some (.ref x), l1, l2] [] st h Q ↔ pb_R 74 144 [some (.ref x), l1, l2] [] (.ref x :: st) h Q) ∧
  (∀ (l1 l2 : Option Value) (st : List Value) (h : pb_H) (Q : Option Value → pb_H → Prop), pb_R 74 143 [some .null, l1, l2] [] st h Q ↔ pb_R 74 144 [some .null, l1, l2] [] (.null :: st) h Q) ∧
  (∀ (L : pb_L) (J : pb_J) (st : List Value) (h : pb_H) (Q : Option Value → pb_H → Prop) (a : Nat), pb_R 74 144 L J (.ref a :: st) h Q ↔ pb_o (pb_gf (h.2 a) 1 8) (fun v => pb_R 74 147 L J (v :: st) h Q)) ∧
  (∀ (L : pb_L) (J : pb_J) (st : List Value) (h : pb_H) (Q : Option Value → pb_H → Prop), pb_R 74 147 L J st h Q ↔ pb_R 74 148 L J (.int (1 : Int32) :: st) h Q) ∧
  (∀ (L : pb_L) (J : pb_J) (st : List Value) (h : pb_H) (Q : Option Value → pb_H → Prop) (x y : Int32), pb_R 74 148 L J (.int y :: .int x :: st) h Q ↔ if x = y then pb_R 74 160 L J st h Q else pb_R 74 151 L J st h Q) ∧
  (∀ (l1 l2 : Option Value) (st : List Value) (h : pb_H) (Q : Option Value → pb_H → Prop) (x : Nat), pb_R 74 151 [some (.ref x), l1, l2] [] st h Q ↔ pb_R 74 152 [some (.ref x), l1, l2] [] (.ref x :: st) h Q) ∧
  (∀ (l1 l2 : Option Value) (st : List Value) (h : pb_H) (Q : Option Value → pb_H → Prop), pb_R 74 151 [some .null, l1, l2] [] st h Q ↔ pb_R 74 152 [some .null, l1, l2] [] (.null :: st) h Q) ∧
  (∀ (L : pb_L) (J : pb_J) (st : List Value) (h : pb_H) (Q : Option Value → pb_H → Prop) (a : Nat), pb_R 74 152 L J (.ref a :: st) h Q ↔ pb_o (pb_gf (h.2 a) 1 0) (fun v => pb_R 74 155 L J (v :: st) h Q)) ∧
  (∀ (L : pb_L) (J : pb_J) (st : List Value) (h : pb_H) (Q : Option Value → pb_H → Prop), pb_R 74 155 L J st h Q ↔ pb_R 74 156 L J (.int (4 : Int32) :: st) h Q) ∧
  (∀ (L : pb_L) (J : pb_J) (h : pb_H) (Q : Option Value → pb_H → Prop) (x0 : Int32) (x1 : Nat), pb_R 74 156 L J [.int x0, .ref x1] h Q ↔ pb_is0 (h.2 x1) 8 = true ∧ pb_call 29 [.ref x1, .int x0] h (fun v t => pb_R 74 159 L J (v.toList ++ []) t Q)) ∧
  (∀ (L : pb_L) (J : pb_J) (h : pb_H) (Q : Option Value → pb_H → Prop) (x : Int32), pb_R 74 159 L J [.int x] h Q ↔ narrow .boolean (.int x) = .int x ∧ Q (some (.int x)) h) ∧
  (∀ (l0 l2 : Option Value) (st : List Value) (h : pb_H) (Q : Option Value → pb_H → Prop) (x : Int32), pb_R 74 160 [l0, some (.int x), l2] [] st h Q ↔ pb_R 74 161 [l0, some (.int x), l2] [] (.int x :: st) h Q) ∧
  (∀ (L : pb_L) (J : pb_J) (st : List Value) (h : pb_H) (Q : Option Value → pb_H → Prop) (x : Int32), pb_R 74 161 L J (.int x :: st) h Q ↔ if x = 0 then pb_R 74 176 L J st h Q else pb_R 74 164 L J st h Q) ∧
  (∀ (l1 l2 : Option Value) (st : List Value) (h : pb_H) (Q : Option Value → pb_H → Prop) (x : Nat), pb_R 74 164 [some (.ref x), l1, l2] [] st h Q ↔ pb_R 74 165 [some (.ref x), l1, l2] [] (.ref x :: st) h Q) ∧
  (∀ (l1 l2 : Option Value) (st : List Value) (h : pb_H) (Q : Option Value → pb_H → Prop), pb_R 74 164 [some .null, l1, l2] [] st h Q ↔ pb_R 74 165 [some .null, l1, l2] [] (.null :: st) h Q) ∧
  (∀ (L : pb_L) (J : pb_J) (st : List Value) (h : pb_H) (Q : Option Value → pb_H → Prop), pb_R 74 165 L J st h Q ↔ pb_R 74 166 L J (.int (2 : Int32) :: st) h Q) ∧
  (∀ (L : pb_L) (J : pb_J) (h : pb_H) (Q : Option Value → pb_H → Prop) (x0 : Int32) (x1 : Nat), pb_R 74 166 L J [.int x0, .ref x1] h Q ↔ pb_is0 (h.2 x1) 1 = true ∧ pb_call 73 [.ref x1, .int x0] h (fun v t => pb_R 74 169 L J (v.toList ++ []) t Q)) ∧
  (∀ (L : pb_L) (J : pb_J) (st : List Value) (h : pb_H) (Q : Option Value → pb_H → Prop) (x : Int32), pb_R 74 169 L J (.int x :: st) h Q ↔ if x = 0 then pb_R 74 176 L J st h Q else pb_R 74 172 L J st h Q) ∧
  (∀ (L : pb_L) (J : pb_J) (st : List Value) (h : pb_H) (Q : Option Value → pb_H → Prop), pb_R 74 172 L J st h Q ↔ pb_R 74 173 L J (.int (1 : Int32) :: st) h Q) ∧
  (∀ (L : pb_L) (J : pb_J) (st : List Value) (h : pb_H) (Q : Option Value → pb_H → Prop), pb_R 74 173 L J st h Q ↔ pb_R 74 177 L J st h Q) ∧
  (∀ (L : pb_L) (J : pb_J) (st : List Value) (h : pb_H) (Q : Option Value → pb_H → Prop), pb_R 74 176 L J st h Q ↔ pb_R 74 177 L J (.int (0 : Int32) :: st) h Q) ∧
  (∀ (L : pb_L) (J : pb_J) (h : pb_H) (Q : Option Value → pb_H → Prop) (x : Int32), pb_R 74 177 L J [.int x] h Q ↔ narrow .boolean (.int x) = .int x ∧ Q (some (.int x)) h) := ⟨
  fun l1 l2 st h Q x => pf_S pb_u_74 rfl rfl,
  fun l1 l2 st h Q => pf_S pb_u_74 rfl rfl,
  fun L J st h Q a => pf_gf pb_u_74 rfl rfl,
  fun L J h Q x0 => pf_kv pb_u_74 rfl pb_ci_23 rfl ⟨Nat.le_of_ble_eq_true rfl, Nat.le_of_ble_eq_true rfl, Nat.le_of_ble_eq_true rfl, Nat.le_of_ble_eq_true rfl, rfl⟩ rfl rfl,
  fun l1 l2 st h Q x => pf_S pb_u_74 rfl rfl,
  fun l1 l2 st h Q => pf_S pb_u_74 rfl rfl,
  fun L J st h Q => pf_S pb_u_74 rfl rfl,
  fun L J st h Q a x => pf_pf pb_u_74 rfl rfl,
  fun L J st h Q => pf_S pb_u_74 rfl rfl,
  fun l0 l1 l2 st h Q x => pf_S pb_u_74 rfl rfl,
  fun L J st h Q => pf_S pb_u_74 rfl rfl,
  fun l0 l1 l2 st h Q x => pf_S pb_u_74 rfl rfl,
  fun L J st h Q x => pf_ii pb_u_74 rfl rfl rfl,
  fun l0 l1 st h Q x => pf_S pb_u_74 rfl rfl,
  fun l1 l2 st h Q x => pf_S pb_u_74 rfl rfl,
  fun l1 l2 st h Q => pf_S pb_u_74 rfl rfl,
  fun L J st h Q a => pf_gf pb_u_74 rfl rfl,
  fun L J st h Q a => pf_gf pb_u_74 rfl rfl,
  fun L J st h Q x y => pf_ic pb_u_74 rfl rfl rfl,
  fun l1 l2 st h Q x => pf_S pb_u_74 rfl rfl,
  fun l1 l2 st h Q => pf_S pb_u_74 rfl rfl,
  fun L J st h Q a => pf_gf pb_u_74 rfl rfl,
  fun L J st h Q a => pf_gf pb_u_74 rfl rfl,
  fun L J st h Q => pf_S pb_u_74 rfl rfl,
  fun L J st h Q x y => pf_ic pb_u_74 rfl rfl rfl,
  fun l1 l2 st h Q x => pf_S pb_u_74 rfl rfl,
  fun l1 l2 st h Q => pf_S pb_u_74 rfl rfl,
  fun L J st h Q a => pf_gf pb_u_74 rfl rfl,
  fun L J st h Q a => pf_gf pb_u_74 rfl rfl,
  fun L J st h Q x => pb_q74_50 L J st h Q x,
  fun l1 l2 st h Q x => pf_S pb_u_74 rfl rfl,
  fun l1 l2 st h Q => pf_S pb_u_74 rfl rfl,
  fun L J h Q x0 => pf_kv pb_u_74 rfl pb_ci_49 rfl ⟨Nat.le_of_ble_eq_true rfl, Nat.le_of_ble_eq_true rfl, Nat.le_of_ble_eq_true rfl, Nat.le_of_ble_eq_true rfl, rfl⟩ rfl rfl,
  fun l0 l1 l2 st h Q x => pf_S pb_u_74 rfl rfl,
  fun L J st h Q => pf_S pb_u_74 rfl rfl,
  fun l1 l2 st h Q x => pf_S pb_u_74 rfl rfl,
  fun l1 l2 st h Q => pf_S pb_u_74 rfl rfl,
  fun L J h Q x0 => pf_kv pb_u_74 rfl pb_ci_58 rfl ⟨Nat.le_of_ble_eq_true rfl, Nat.le_of_ble_eq_true rfl, Nat.le_of_ble_eq_true rfl, Nat.le_of_ble_eq_true rfl, rfl⟩ rfl rfl,
  fun l0 l1 l2 st h Q x => pf_S pb_u_74 rfl rfl,
  fun L J st h Q => pf_S pb_u_74 rfl rfl,
  fun l1 l2 st h Q x => pf_S pb_u_74 rfl rfl,
  fun l1 l2 st h Q => pf_S pb_u_74 rfl rfl,
  fun L J h Q x0 => pf_kv pb_u_74 rfl pb_ci_65 rfl ⟨Nat.le_of_ble_eq_true rfl, Nat.le_of_ble_eq_true rfl, Nat.le_of_ble_eq_true rfl, Nat.le_of_ble_eq_true rfl, rfl⟩ rfl rfl,
  fun l0 l1 l2 st h Q x => pf_S pb_u_74 rfl rfl,
  fun L J st h Q => pf_S pb_u_74 rfl rfl,
  fun l1 l2 st h Q x => pf_S pb_u_74 rfl rfl,
  fun l1 l2 st h Q => pf_S pb_u_74 rfl rfl,
  fun L J h Q x0 => pf_kv pb_u_74 rfl pb_ci_67 rfl ⟨Nat.le_of_ble_eq_true rfl, Nat.le_of_ble_eq_true rfl, Nat.le_of_ble_eq_true rfl, Nat.le_of_ble_eq_true rfl, rfl⟩ rfl rfl,
  fun l0 l1 l2 st h Q x => pf_S pb_u_74 rfl rfl,
  fun L J st h Q => pf_S pb_u_74 rfl rfl,
  fun l1 l2 st h Q x => pf_S pb_u_74 rfl rfl,
  fun l1 l2 st h Q => pf_S pb_u_74 rfl rfl,
  fun L J st h Q a => pf_gf pb_u_74 rfl rfl,
  fun L J st h Q => pf_S pb_u_74 rfl rfl,
  fun L J h Q x0 x1 => pf_kv pb_u_74 rfl pb_ci_29 rfl ⟨Nat.le_of_ble_eq_true rfl, Nat.le_of_ble_eq_true rfl, Nat.le_of_ble_eq_true rfl, Nat.le_of_ble_eq_true rfl, rfl⟩ rfl rfl,
  fun l0 l1 l2 st h Q x => pf_S pb_u_74 rfl rfl,
  fun l0 l1 st h Q x => pf_S pb_u_74 rfl rfl,
  fun L J st h Q => pf_S pb_u_74 rfl rfl,
  fun l0 l2 st h Q x => pf_S pb_u_74 rfl rfl,
  fun L J st h Q x => pf_ii pb_u_74 rfl rfl rfl,
  fun l1 l2 st h Q x => pf_S pb_u_74 rfl rfl,
  fun l1 l2 st h Q => pf_S pb_u_74 rfl rfl,
  fun L J st h Q a => pf_gf pb_u_74 rfl rfl,
  fun L J st h Q => pf_S pb_u_74 rfl rfl,
  fun L J st h Q x y => pf_ic pb_u_74 rfl rfl rfl,
  fun l1 l2 st h Q x => pf_S pb_u_74 rfl rfl,
  fun l1 l2 st h Q => pf_S pb_u_74 rfl rfl,
  fun L J st h Q a => pf_gf pb_u_74 rfl rfl,
  fun L J st h Q => pf_S pb_u_74 rfl rfl,
  fun L J h Q x0 x1 => pf_kv pb_u_74 rfl pb_ci_29 rfl ⟨Nat.le_of_ble_eq_true rfl, Nat.le_of_ble_eq_true rfl, Nat.le_of_ble_eq_true rfl, Nat.le_of_ble_eq_true rfl, rfl⟩ rfl rfl,
  fun L J h Q x => pf_rz pb_u_74 rfl rfl,
  fun l0 l2 st h Q x => pf_S pb_u_74 rfl rfl,
  fun L J st h Q x => pf_ii pb_u_74 rfl rfl rfl,
  fun l1 l2 st h Q x => pf_S pb_u_74 rfl rfl,
  fun l1 l2 st h Q => pf_S pb_u_74 rfl rfl,
  fun L J st h Q => pf_S pb_u_74 rfl rfl,
  fun L J h Q x0 x1 => pf_kv pb_u_74 rfl pb_ci_73 rfl ⟨Nat.le_of_ble_eq_true rfl, Nat.le_of_ble_eq_true rfl, Nat.le_of_ble_eq_true rfl, Nat.le_of_ble_eq_true rfl, rfl⟩ rfl rfl,
  fun L J st h Q x => pf_ii pb_u_74 rfl rfl rfl,
  fun L J st h Q => pf_S pb_u_74 rfl rfl,
  fun L J st h Q => pf_S pb_u_74 rfl rfl,
  fun L J st h Q => pf_S pb_u_74 rfl rfl,
  fun L J h Q x => pf_rz pb_u_74 rfl rfl⟩
theorem pb_c74 (x0 : Nat) (h : pb_H) (Q : Option Value → pb_H → Prop) : pb_call 74 [.ref x0] h Q ↔ pb_R 74 0 [some (.ref x0), none, none] [] [] h Q := Iff.rfl
/-! 75: PlaneBench$Condition.beginsTerm()Z -/
theorem pb_u_75 : pb_t 75 = pb_t75 := rfl
theorem pb_ci_75 : pb_ci 75 = 2 := by decide +kernel
set_option maxRecDepth 100000 in
theorem pb_e75 : (∀ (st : List Value) (h : pb_H) (Q : Option Value → pb_H → Prop) (x : Nat), pb_R 75 0 [some (.ref x)] [] st h Q ↔ pb_R 75 1 [some (.ref x)] [] (.ref x :: st) h Q) ∧
  (∀ (st : List Value) (h : pb_H) (Q : Option Value → pb_H → Prop), pb_R 75 0 [some .null] [] st h Q ↔ pb_R 75 1 [some .null] [] (.null :: st) h Q) ∧
  (∀ (L : pb_L) (J : pb_J) (st : List Value) (h : pb_H) (Q : Option Value → pb_H → Prop) (a : Nat), pb_R 75 1 L J (.ref a :: st) h Q ↔ pb_o (pb_gf (h.2 a) 2 0) (fun v => pb_R 75 4 L J (v :: st) h Q)) ∧
  (∀ (L : pb_L) (J : pb_J) (st : List Value) (h : pb_H) (Q : Option Value → pb_H → Prop) (a : Nat), pb_R 75 4 L J (.ref a :: st) h Q ↔ pb_o (pb_gf (h.2 a) 8 2) (fun v => pb_R 75 7 L J (v :: st) h Q)) ∧
  (∀ (L : pb_L) (J : pb_J) (st : List Value) (h : pb_H) (Q : Option Value → pb_H → Prop), pb_R 75 7 L J st h Q ↔ pb_R 75 9 L J (.int (120 : Int32) :: st) h Q) ∧
  (∀ (L : pb_L) (J : pb_J) (st : List Value) (h : pb_H) (Q : Option Value → pb_H → Prop) (x y : Int32), pb_R 75 9 L J (.int y :: .int x :: st) h Q ↔ if x = y then pb_R 75 48 L J st h Q else pb_R 75 12 L J st h Q) ∧
  (∀ (st : List Value) (h : pb_H) (Q : Option Value → pb_H → Prop) (x : Nat), pb_R 75 12 [some (.ref x)] [] st h Q ↔ pb_R 75 13 [some (.ref x)] [] (.ref x :: st) h Q) ∧
  (∀ (st : List Value) (h : pb_H) (Q : Option Value → pb_H → Prop), pb_R 75 12 [some .null] [] st h Q ↔ pb_R 75 13 [some .null] [] (.null :: st) h Q) ∧
  (∀ (L : pb_L) (J : pb_J) (st : List Value) (h : pb_H) (Q : Option Value → pb_H → Prop) (a : Nat), pb_R 75 13 L J (.ref a :: st) h Q ↔ pb_o (pb_gf (h.2 a) 2 0) (fun v => pb_R 75 16 L J (v :: st) h Q)) ∧
  (∀ (L : pb_L) (J : pb_J) (st : List Value) (h : pb_H) (Q : Option Value → pb_H → Prop) (a : Nat), pb_R 75 16 L J (.ref a :: st) h Q ↔ pb_o (pb_gf (h.2 a) 8 2) (fun v => pb_R 75 19 L J (v :: st) h Q)) ∧
  (∀ (L : pb_L) (J : pb_J) (st : List Value) (h : pb_H) (Q : Option Value → pb_H → Prop), pb_R 75 19 L J st h Q ↔ pb_R 75 21 L J (.int (48 : Int32) :: st) h Q) ∧
  (∀ (L : pb_L) (J : pb_J) (st : List Value) (h : pb_H) (Q : Option Value → pb_H → Prop) (x y : Int32), pb_R 75 21 L J (.int y :: .int x :: st) h Q ↔ if x = y then pb_R 75 48 L J st h Q else pb_R 75 24 L J st h Q) ∧
  (∀ (st : List Value) (h : pb_H) (Q : Option Value → pb_H → Prop) (x : Nat), pb_R 75 24 [some (.ref x)] [] st h Q ↔ pb_R 75 25 [some (.ref x)] [] (.ref x :: st) h Q) ∧
  (∀ (st : List Value) (h : pb_H) (Q : Option Value → pb_H → Prop), pb_R 75 24 [some .null] [] st h Q ↔ pb_R 75 25 [some .null] [] (.null :: st) h Q) ∧
  (∀ (L : pb_L) (J : pb_J) (st : List Value) (h : pb_H) (Q : Option Value → pb_H → Prop) (a : Nat), pb_R 75 25 L J (.ref a :: st) h Q ↔ pb_o (pb_gf (h.2 a) 2 0) (fun v => pb_R 75 28 L J (v :: st) h Q)) ∧
  (∀ (L : pb_L) (J : pb_J) (st : List Value) (h : pb_H) (Q : Option Value → pb_H → Prop) (a : Nat), pb_R 75 28 L J (.ref a :: st) h Q ↔ pb_o (pb_gf (h.2 a) 8 2) (fun v => pb_R 75 31 L J (v :: st) h Q)) ∧
  (∀ (L : pb_L) (J : pb_J) (st : List Value) (h : pb_H) (Q : Option Value → pb_H → Prop), pb_R 75 31 L J st h Q ↔ pb_R 75 33 L J (.int (43 : Int32) :: st) h Q) ∧
  (∀ (L : pb_L) (J : pb_J) (st : List Value) (h : pb_H) (Q : Option Value → pb_H → Prop) (x y : Int32), pb_R 75 33 L J (.int y :: .int x :: st) h Q ↔ if x = y then pb_R 75 48 L J st h Q else pb_R 75 36 L J st h Q) ∧
  (∀ (st : List Value) (h : pb_H) (Q : Option Value → pb_H → Prop) (x : Nat), pb_R 75 36 [some (.ref x)] [] st h Q ↔ pb_R 75 37 [some (.ref x)] [] (.ref x :: st) h Q) ∧
  (∀ (st : List Value) (h : pb_H) (Q : Option Value → pb_H → Prop), pb_R 75 36 [some .null] [] st h Q ↔ pb_R 75 37 [some .null] [] (.null :: st) h Q) ∧
  (∀ (L : pb_L) (J : pb_J) (st : List Value) (h : pb_H) (Q : Option Value → pb_H → Prop) (a : Nat), pb_R 75 37 L J (.ref a :: st) h Q ↔ pb_o (pb_gf (h.2 a) 2 0) (fun v => pb_R 75 40 L J (v :: st) h Q)) ∧
  (∀ (L : pb_L) (J : pb_J) (st : List Value) (h : pb_H) (Q : Option Value → pb_H → Prop) (a : Nat), pb_R 75 40 L J (.ref a :: st) h Q ↔ pb_o (pb_gf (h.2 a) 8 2) (fun v => pb_R 75 43 L J (v :: st) h Q)) ∧
  (∀ (L : pb_L) (J : pb_J) (st : List Value) (h : pb_H) (Q : Option Value → pb_H → Prop), pb_R 75 43 L J st h Q ↔ pb_R 75 45 L J (.int (45 : Int32) :: st) h Q) ∧
  (∀ (L : pb_L) (J : pb_J) (st : List Value) (h : pb_H) (Q : Option Value → pb_H → Prop) (x y : Int32), pb_R 75 45 L J (.int y :: .int x :: st) h Q ↔ if ¬ x = y then pb_R 75 52 L J st h Q else pb_R 75 48 L J st h Q) ∧
  (∀ (L : pb_L) (J : pb_J) (st : List Value) (h : pb_H) (Q : Option Value → pb_H → Prop), pb_R 75 48 L J st h Q ↔ pb_R 75 49 L J (.int (1 : Int32) :: st) h Q) ∧
  (∀ (L : pb_L) (J : pb_J) (st : List Value) (h : pb_H) (Q : Option Value → pb_H → Prop), pb_R 75 49 L J st h Q ↔ pb_R 75 53 L J st h Q) ∧
  (∀ (L : pb_L) (J : pb_J) (st : List Value) (h : pb_H) (Q : Option Value → pb_H → Prop), pb_R 75 52 L J st h Q ↔ pb_R 75 53 L J (.int (0 : Int32) :: st) h Q) ∧
  (∀ (L : pb_L) (J : pb_J) (h : pb_H) (Q : Option Value → pb_H → Prop) (x : Int32), pb_R 75 53 L J [.int x] h Q ↔ narrow .boolean (.int x) = .int x ∧ Q (some (.int x)) h) := ⟨
  fun st h Q x => pf_S pb_u_75 rfl rfl,
  fun st h Q => pf_S pb_u_75 rfl rfl,
  fun L J st h Q a => pf_gf pb_u_75 rfl rfl,
  fun L J st h Q a => pf_gf pb_u_75 rfl rfl,
  fun L J st h Q => pf_S pb_u_75 rfl rfl,
  fun L J st h Q x y => pf_ic pb_u_75 rfl rfl rfl,
  fun st h Q x => pf_S pb_u_75 rfl rfl,
  fun st h Q => pf_S pb_u_75 rfl rfl,
  fun L J st h Q a => pf_gf pb_u_75 rfl rfl,
  fun L J st h Q a => pf_gf pb_u_75 rfl rfl,
  fun L J st h Q => pf_S pb_u_75 rfl rfl,
  fun L J st h Q x y => pf_ic pb_u_75 rfl rfl rfl,
  fun st h Q x => pf_S pb_u_75 rfl rfl,
  fun st h Q => pf_S pb_u_75 rfl rfl,
  fun L J st h Q a => pf_gf pb_u_75 rfl rfl,
  fun L J st h Q a => pf_gf pb_u_75 rfl rfl,
  fun L J st h Q => pf_S pb_u_75 rfl rfl,
  fun L J st h Q x y => pf_ic pb_u_75 rfl rfl rfl,
  fun st h Q x => pf_S pb_u_75 rfl rfl,
  fun st h Q => pf_S pb_u_75 rfl rfl,
  fun L J st h Q a => pf_gf pb_u_75 rfl rfl,
  fun L J st h Q a => pf_gf pb_u_75 rfl rfl,
  fun L J st h Q => pf_S pb_u_75 rfl rfl,
  fun L J st h Q x y => pf_ic pb_u_75 rfl rfl pf_ne,
  fun L J st h Q => pf_S pb_u_75 rfl rfl,
  fun L J st h Q => pf_S pb_u_75 rfl rfl,
  fun L J st h Q => pf_S pb_u_75 rfl rfl,
  fun L J h Q x => pf_rz pb_u_75 rfl rfl⟩
theorem pb_c75 (x0 : Nat) (h : pb_H) (Q : Option Value → pb_H → Prop) : pb_call 75 [.ref x0] h Q ↔ pb_R 75 0 [some (.ref x0)] [] [] h Q := Iff.rfl
/-! 76: PlaneBench$TextReader.expect(I)Z -/
theorem pb_u_76 : pb_t 76 = pb_t76 := rfl
theorem pb_ci_76 : pb_ci 76 = 8 := by decide +kernel
set_option maxRecDepth 100000 in
theorem pb_e76 : (∀ (l1 : Option Value) (st : List Value) (h : pb_H) (Q : Option Value → pb_H → Prop) (x : Nat), pb_R 76 0 [some (.ref x), l1] [] st h Q ↔ pb_R 76 1 [some (.ref x), l1] [] (.ref x :: st) h Q) ∧
  (∀ (l1 : Option Value) (st : List Value) (h : pb_H) (Q : Option Value → pb_H → Prop), pb_R 76 0 [some .null, l1] [] st h Q ↔ pb_R 76 1 [some .null, l1] [] (.null :: st) h Q) ∧
  (∀ (L : pb_L) (J : pb_J) (st : List Value) (h : pb_H) (Q : Option Value → pb_H → Prop) (a : Nat), pb_R 76 1 L J (.ref a :: st) h Q ↔ pb_o (pb_gf (h.2 a) 8 2) (fun v => pb_R 76 4 L J (v :: st) h Q)) ∧
  (∀ (l0 : Option Value) (st : List Value) (h : pb_H) (Q : Option Value → pb_H → Prop) (x : Int32), pb_R 76 4 [l0, some (.int x)] [] st h Q ↔ pb_R 76 5 [l0, some (.int x)] [] (.int x :: st) h Q) ∧
  (∀ (L : pb_L) (J : pb_J) (st : List Value) (h : pb_H) (Q : Option Value → pb_H → Prop) (x y : Int32), pb_R 76 5 L J (.int y :: .int x :: st) h Q ↔ if x = y then pb_R 76 16 L J st h Q else pb_R 76 8 L J st h Q) ∧
  (∀ (l1 : Option Value) (st : List Value) (h : pb_H) (Q : Option Value → pb_H → Prop) (x : Nat), pb_R 76 8 [some (.ref x), l1] [] st h Q ↔ pb_R 76 9 [some (.ref x), l1] [] (.ref x :: st) h Q) ∧
  (∀ (l1 : Option Value) (st : List Value) (h : pb_H) (Q : Option Value → pb_H → Prop), pb_R 76 8 [some .null, l1] [] st h Q ↔ pb_R 76 9 [some .null, l1] [] (.null :: st) h Q) ∧
  (∀ (L : pb_L) (J : pb_J) (st : List Value) (h : pb_H) (Q : Option Value → pb_H → Prop), pb_R 76 9 L J st h Q ↔ pb_R 76 10 L J (.int (1 : Int32) :: st) h Q) ∧
  (∀ (L : pb_L) (J : pb_J) (h : pb_H) (Q : Option Value → pb_H → Prop) (x0 : Int32) (x1 : Nat), pb_R 76 10 L J [.int x0, .ref x1] h Q ↔ pb_is0 (h.2 x1) 8 = true ∧ pb_call 29 [.ref x1, .int x0] h (fun v t => pb_R 76 13 L J (v.toList ++ []) t Q)) ∧
  (∀ (L : pb_L) (J : pb_J) (st : List Value) (h : pb_H) (Q : Option Value → pb_H → Prop) (x : Int32), pb_R 76 13 L J (.int x :: st) h Q ↔ if x = 0 then pb_R 76 20 L J st h Q else pb_R 76 16 L J st h Q) ∧
  (∀ (L : pb_L) (J : pb_J) (st : List Value) (h : pb_H) (Q : Option Value → pb_H → Prop), pb_R 76 16 L J st h Q ↔ pb_R 76 17 L J (.int (1 : Int32) :: st) h Q) ∧
  (∀ (L : pb_L) (J : pb_J) (st : List Value) (h : pb_H) (Q : Option Value → pb_H → Prop), pb_R 76 17 L J st h Q ↔ pb_R 76 21 L J st h Q) ∧
  (∀ (L : pb_L) (J : pb_J) (st : List Value) (h : pb_H) (Q : Option Value → pb_H → Prop), pb_R 76 20 L J st h Q ↔ pb_R 76 21 L J (.int (0 : Int32) :: st) h Q) ∧
  (∀ (L : pb_L) (J : pb_J) (h : pb_H) (Q : Option Value → pb_H → Prop) (x : Int32), pb_R 76 21 L J [.int x] h Q ↔ narrow .boolean (.int x) = .int x ∧ Q (some (.int x)) h) := ⟨
  fun l1 st h Q x => pf_S pb_u_76 rfl rfl,
  fun l1 st h Q => pf_S pb_u_76 rfl rfl,
  fun L J st h Q a => pf_gf pb_u_76 rfl rfl,
  fun l0 st h Q x => pf_S pb_u_76 rfl rfl,
  fun L J st h Q x y => pf_ic pb_u_76 rfl rfl rfl,
  fun l1 st h Q x => pf_S pb_u_76 rfl rfl,
  fun l1 st h Q => pf_S pb_u_76 rfl rfl,
  fun L J st h Q => pf_S pb_u_76 rfl rfl,
  fun L J h Q x0 x1 => pf_kv pb_u_76 rfl pb_ci_29 rfl ⟨Nat.le_of_ble_eq_true rfl, Nat.le_of_ble_eq_true rfl, Nat.le_of_ble_eq_true rfl, Nat.le_of_ble_eq_true rfl, rfl⟩ rfl rfl,
  fun L J st h Q x => pf_ii pb_u_76 rfl rfl rfl,
  fun L J st h Q => pf_S pb_u_76 rfl rfl,
  fun L J st h Q => pf_S pb_u_76 rfl rfl,
  fun L J st h Q => pf_S pb_u_76 rfl rfl,
  fun L J h Q x => pf_rz pb_u_76 rfl rfl⟩
theorem pb_c76 (x0 : Nat) (x1 : Int32) (h : pb_H) (Q : Option Value → pb_H → Prop) : pb_call 76 [.ref x0, .int x1] h Q ↔ pb_R 76 0 [some (.ref x0), some (.int x1)] [] [] h Q := Iff.rfl
/-! 77: PlaneBench$Condition.readFactor()Z -/
theorem pb_u_77 : pb_t 77 = pb_t77 := rfl
theorem pb_ci_77 : pb_ci 77 = 2 := by decide +kernel
set_option maxRecDepth 100000 in
theorem pb_e77 : (∀ (l1 : Option Value) (st : List Value) (h : pb_H) (Q : Option Value → pb_H → Prop) (x : Nat), pb_R 77 0 [some (.ref x), l1] [] st h Q ↔ pb_R 77 1 [some (.ref x), l1] [] (.ref x :: st) h Q) ∧
  (∀ (l1 : Option Value) (st : List Value) (h : pb_H) (Q : Option Value → pb_H → Prop), pb_R 77 0 [some .null, l1] [] st h Q ↔ pb_R 77 1 [some .null, l1] [] (.null :: st) h Q) ∧
  (∀ (L : pb_L) (J : pb_J) (st : List Value) (h : pb_H) (Q : Option Value → pb_H → Prop) (a : Nat), pb_R 77 1 L J (.ref a :: st) h Q ↔ pb_o (pb_gf (h.2 a) 2 0) (fun v => pb_R 77 4 L J (v :: st) h Q)) ∧
  (∀ (L : pb_L) (J : pb_J) (st : List Value) (h : pb_H) (Q : Option Value → pb_H → Prop) (a : Nat), pb_R 77 4 L J (.ref a :: st) h Q ↔ pb_o (pb_gf (h.2 a) 8 2) (fun v => pb_R 77 7 L J (v :: st) h Q)) ∧
  (∀ (L : pb_L) (J : pb_J) (st : List Value) (h : pb_H) (Q : Option Value → pb_H → Prop), pb_R 77 7 L J st h Q ↔ pb_R 77 9 L J (.int (120 : Int32) :: st) h Q) ∧
  (∀ (L : pb_L) (J : pb_J) (st : List Value) (h : pb_H) (Q : Option Value → pb_H → Prop) (x y : Int32), pb_R 77 9 L J (.int y :: .int x :: st) h Q ↔ if ¬ x = y then pb_R 77 23 L J st h Q else pb_R 77 12 L J st h Q) ∧
  (∀ (l1 : Option Value) (st : List Value) (h : pb_H) (Q : Option Value → pb_H → Prop) (x : Nat), pb_R 77 12 [some (.ref x), l1] [] st h Q ↔ pb_R 77 13 [some (.ref x), l1] [] (.ref x :: st) h Q) ∧
  (∀ (l1 : Option Value) (st : List Value) (h : pb_H) (Q : Option Value → pb_H → Prop), pb_R 77 12 [some .null, l1] [] st h Q ↔ pb_R 77 13 [some .null, l1] [] (.null :: st) h Q) ∧
  (∀ (L : pb_L) (J : pb_J) (st : List Value) (h : pb_H) (Q : Option Value → pb_H → Prop) (a : Nat), pb_R 77 13 L J (.ref a :: st) h Q ↔ pb_o (pb_gf (h.2 a) 2 3) (fun v => pb_R 77 16 L J (v :: st) h Q)) ∧
  (∀ (L : pb_L) (J : pb_J) (st : List Value) (h : pb_H) (Q : Option Value → pb_H → Prop), pb_R 77 16 L J st h Q ↔ pb_R 77 17 L J (.int (0 : Int32) :: st) h Q) ∧
  (∀ (L : pb_L) (J : pb_J) (st : List Value) (h : pb_H) (Q : Option Value → pb_H → Prop), pb_R 77 17 L J st h Q ↔ pb_R 77 18 L J (.int (1 : Int32) :: st) h Q) ∧
  (∀ (L : pb_L) (J : pb_J) (h : pb_H) (Q : Option Value → pb_H → Prop) (x0 : Int32) (x1 : Int32) (x2 : Nat), pb_R 77 18 L J [.int x0, .int x1, .ref x2] h Q ↔ pb_call 52 [.ref x2, .int x1, .int x0] h (fun v t => pb_R 77 21 L J (v.toList ++ []) t Q)) ∧
  (∀ (L : pb_L) (J : pb_J) (st : List Value) (h : pb_H) (Q : Option Value → pb_H → Prop), pb_R 77 21 L J st h Q ↔ pb_R 77 22 L J (.int (1 : Int32) :: st) h Q) ∧
  (∀ (L : pb_L) (J : pb_J) (h : pb_H) (Q : Option Value → pb_H → Prop) (x : Int32), pb_R 77 22 L J [.int x] h Q ↔ narrow .boolean (.int x) = .int x ∧ Q (some (.int x)) h) ∧
  (∀ (l1 : Option Value) (st : List Value) (h : pb_H) (Q : Option Value → pb_H → Prop) (x : Nat), pb_R 77 23 [some (.ref x), l1] [] st h Q ↔ pb_R 77 24 [some (.ref x), l1] [] (.ref x :: st) h Q) ∧
  (∀ (l1 : Option Value) (st : List Value) (h : pb_H) (Q : Option Value → pb_H → Prop), pb_R 77 23 [some .null, l1] [] st h Q ↔ pb_R 77 24 [some .null, l1] [] (.null :: st) h Q) ∧
  (∀ (L : pb_L) (J : pb_J) (st : List Value) (h : pb_H) (Q : Option Value → pb_H → Prop) (a : Nat), pb_R 77 24 L J (.ref a :: st) h Q ↔ pb_o (pb_gf (h.2 a) 2 0) (fun v => pb_R 77 27 L J (v :: st) h Q)) ∧
  (∀ (L : pb_L) (J : pb_J) (st : List Value) (h : pb_H) (Q : Option Value → pb_H → Prop) (a : Nat), pb_R 77 27 L J (.ref a :: st) h Q ↔ pb_o (pb_gf (h.2 a) 8 2) (fun v => pb_R 77 30 L J (v :: st) h Q)) ∧
  (∀ (L : pb_L) (J : pb_J) (st : List Value) (h : pb_H) (Q : Option Value → pb_H → Prop), pb_R 77 30 L J st h Q ↔ pb_R 77 32 L J (.int (45 : Int32) :: st) h Q) ∧
  (∀ (L : pb_L) (J : pb_J) (st : List Value) (h : pb_H) (Q : Option Value → pb_H → Prop) (x y : Int32), pb_R 77 32 L J (.int y :: .int x :: st) h Q ↔ if ¬ x = y then pb_R 77 39 L J st h Q else pb_R 77 35 L J st h Q) ∧
  (∀ (L : pb_L) (J : pb_J) (st : List Value) (h : pb_H) (Q : Option Value → pb_H → Prop), pb_R 77 35 L J st h Q ↔ pb_R 77 36 L J (.int (1 : Int32) :: st) h Q) ∧
  (∀ (L : pb_L) (J : pb_J) (st : List Value) (h : pb_H) (Q : Option Value → pb_H → Prop), pb_R 77 36 L J st h Q ↔ pb_R 77 40 L J st h Q) ∧
  (∀ (L : pb_L) (J : pb_J) (st : List Value) (h : pb_H) (Q : Option Value → pb_H → Prop), pb_R 77 39 L J st h Q ↔ pb_R 77 40 L J (.int (0 : Int32) :: st) h Q) ∧
  (∀ (l0 l1 : Option Value) (st : List Value) (h : pb_H) (Q : Option Value → pb_H → Prop) (x : Int32), pb_R 77 40 [l0, l1] [] (.int x :: st) h Q ↔ pb_R 77 41 [l0, some (.int x)] [] st h Q) ∧
  (∀ (l0 : Option Value) (st : List Value) (h : pb_H) (Q : Option Value → pb_H → Prop) (x : Int32), pb_R 77 41 [l0, some (.int x)] [] st h Q ↔ pb_R 77 42 [l0, some (.int x)] [] (.int x :: st) h Q) ∧
  (∀ (L : pb_L) (J : pb_J) (st : List Value) (h : pb_H) (Q : Option Value → pb_H → Prop) (x : Int32), pb_R 77 42 L J (.int x :: st) h Q ↔ if ¬ x = 0 then pb_R 77 57 L J st h Q else pb_R 77 45 L J st h Q) ∧
  (∀ (l1 : Option Value) (st : List Value) (h : pb_H) (Q : Option Value → pb_H → Prop) (x : Nat), pb_R 77 45 [some (.ref x), l1] [] st h Q ↔ pb_R 77 46 [some (.ref x), l1] [] (.ref x :: st) h Q) ∧
  (∀ (l1 : Option Value) (st : List Value) (h : pb_H) (Q : Option Value → pb_H → Prop), pb_R 77 45 [some .null, l1] [] st h Q ↔ pb_R 77 46 [some .null, l1] [] (.null :: st) h Q) ∧
  (∀ (L : pb_L) (J : pb_J) (st : List Value) (h : pb_H) (Q : Option Value → pb_H → Prop) (a : Nat), pb_R 77 46 L J (.ref a :: st) h Q ↔ pb_o (pb_gf (h.2 a) 2 0) (fun v => pb_R 77 49 L J (v :: st) h Q)) ∧
  (∀ (L : pb_L) (J : pb_J) (st : List Value) (h : pb_H) (Q : Option Value → pb_H → Prop) (a : Nat), pb_R 77 49 L J (.ref a :: st) h Q ↔ pb_o (pb_gf (h.2 a) 8 2) (fun v => pb_R 77 52 L J (v :: st) h Q)) ∧
  (∀ (L : pb_L) (J : pb_J) (st : List Value) (h : pb_H) (Q : Option Value → pb_H → Prop), pb_R 77 52 L J st h Q ↔ pb_R 77 54 L J (.int (43 : Int32) :: st) h Q) ∧
  (∀ (L : pb_L) (J : pb_J) (st : List Value) (h : pb_H) (Q : Option Value → pb_H → Prop) (x y : Int32), pb_R 77 54 L J (.int y :: .int x :: st) h Q ↔ if ¬ x = y then pb_R 77 64 L J st h Q else pb_R 77 57 L J st h Q) ∧
  (∀ (l1 : Option Value) (st : List Value) (h : pb_H) (Q : Option Value → pb_H → Prop) (x : Nat), pb_R 77 57 [some (.ref x), l1] [] st h Q ↔ pb_R 77 58 [some (.ref x), l1] [] (.ref x :: st) h Q) ∧
  (∀ (l1 : Option Value) (st : List Value) (h : pb_H) (Q : Option Value → pb_H → Prop), pb_R 77 57 [some .null, l1] [] st h Q ↔ pb_R 77 58 [some .null, l1] [] (.null :: st) h Q) ∧
  (∀ (L : pb_L) (J : pb_J) (st : List Value) (h : pb_H) (Q : Option Value → pb_H → Prop) (a : Nat), pb_R 77 58 L J (.ref a :: st) h Q ↔ pb_o (pb_gf (h.2 a) 2 0) (fun v => pb_R 77 61 L J (v :: st) h Q)) ∧
  (∀ (L : pb_L) (J : pb_J) (h : pb_H) (Q : Option Value → pb_H → Prop) (x0 : Nat), pb_R 77 61 L J [.ref x0] h Q ↔ pb_is0 (h.2 x0) 8 = true ∧ pb_call 23 [.ref x0] h (fun v t => pb_R 77 64 L J (v.toList ++ []) t Q)) ∧
  (∀ (l1 : Option Value) (st : List Value) (h : pb_H) (Q : Option Value → pb_H → Prop) (x : Nat), pb_R 77 64 [some (.ref x), l1] [] st h Q ↔ pb_R 77 65 [some (.ref x), l1] [] (.ref x :: st) h Q) ∧
  (∀ (l1 : Option Value) (st : List Value) (h : pb_H) (Q : Option Value → pb_H → Prop), pb_R 77 64 [some .null, l1] [] st h Q ↔ pb_R 77 65 [some .null, l1] [] (.null :: st) h Q) ∧
  (∀ (L : pb_L) (J : pb_J) (st : List Value) (h : pb_H) (Q : Option Value → pb_H → Prop) (a : Nat), pb_R 77 65 L J (.ref a :: st) h Q ↔ pb_o (pb_gf (h.2 a) 2 0) (fun v => pb_R 77 68 L J (v :: st) h Q)) ∧
  (∀ (L : pb_L) (J : pb_J) (st : List Value) (h : pb_H) (Q : Option Value → pb_H → Prop), pb_R 77 68 L J st h Q ↔ pb_R 77 70 L J (.int (48 : Int32) :: st) h Q) ∧
  (∀ (L : pb_L) (J : pb_J) (h : pb_H) (Q : Option Value → pb_H → Prop) (x0 : Int32) (x1 : Nat), pb_R 77 70 L J [.int x0, .ref x1] h Q ↔ pb_is0 (h.2 x1) 8 = true ∧ pb_call 76 [.ref x1, .int x0] h (fun v t => pb_R 77 73 L J (v.toList ++ []) t Q)) ∧
  (∀ (L : pb_L) (J : pb_J) (st : List Value) (h : pb_H) (Q : Option Value → pb_H → Prop) (x : Int32), pb_R 77 73 L J (.int x :: st) h Q ↔ if ¬ x = 0 then pb_R 77 78 L J st h Q else pb_R 77 76 L J st h Q) ∧
  (∀ (L : pb_L) (J : pb_J) (st : List Value) (h : pb_H) (Q : Option Value → pb_H → Prop), pb_R 77 76 L J st h Q ↔ pb_R 77 77 L J (.int (0 : Int32) :: st) h Q) ∧
  (∀ (L : pb_L) (J : pb_J) (h : pb_H) (Q : Option Value → pb_H → Prop) (x : Int32), pb_R 77 77 L J [.int x] h Q ↔ narrow .boolean (.int x) = .int x ∧ Q (some (.int x)) h) ∧
  (∀ (l1 : Option Value) (st : List Value) (h : pb_H) (Q : Option Value → pb_H → Prop) (x : Nat), pb_R 77 78 [some (.ref x), l1] [] st h Q ↔ pb_R 77 79 [some (.ref x), l1] [] (.ref x :: st) h Q) ∧
  (∀ (l1 : Option Value) (st : List Value) (h : pb_H) (Q : Option Value → pb_H → Prop), pb_R 77 78 [some .null, l1] [] st h Q ↔ pb_R 77 79 [some .null, l1] [] (.null :: st) h Q) ∧
  (∀ (L : pb_L) (J : pb_J) (st : List Value) (h : pb_H) (Q : Option Value → pb_H → Prop) (a : Nat), pb_R 77 79 L J (.ref a :: st) h Q ↔ pb_o (pb_gf (h.2 a) 2 0) (fun v => pb_R 77 82 L J (v :: st) h Q)) ∧
  (∀ (l1 : Option Value) (st : List Value) (h : pb_H) (Q : Option Value → pb_H → Prop) (x : Nat), pb_R 77 82 [some (.ref x), l1] [] st h Q ↔ pb_R 77 83 [some (.ref x), l1] [] (.ref x :: st) h Q) ∧
  (∀ (l1 : Option Value) (st : List Value) (h : pb_H) (Q : Option Value → pb_H → Prop), pb_R 77 82 [some .null, l1] [] st h Q ↔ pb_R 77 83 [some .null, l1] [] (.null :: st) h Q) ∧
  (∀ (L : pb_L) (J : pb_J) (st : List Value) (h : pb_H) (Q : Option Value → pb_H → Prop) (a : Nat), pb_R 77 83 L J (.ref a :: st) h Q ↔ pb_o (pb_gf (h.2 a) 2 3) (fun v => pb_R 77 86 L J (v :: st) h Q)) ∧
  (∀ (L : pb_L) (J : pb_J) (h : pb_H) (Q : Option Value → pb_H → Prop) (x0 : Nat) (x1 : Nat), pb_R 77 86 L J [.ref x0, .ref x1] h Q ↔ pb_is0 (h.2 x1) 8 = true ∧ pb_call 26 [.ref x1, .ref x0] h (fun v t => pb_R 77 89 L J (v.toList ++ []) t Q)) ∧
  (∀ (l0 : Option Value) (st : List Value) (h : pb_H) (Q : Option Value → pb_H → Prop) (x : Int32), pb_R 77 89 [l0, some (.int x)] [] st h Q ↔ pb_R 77 90 [l0, some (.int x)] [] (.int x :: st) h Q) ∧
  (∀ (L : pb_L) (J : pb_J) (st : List Value) (h : pb_H) (Q : Option Value → pb_H → Prop) (x : Int32), pb_R 77 90 L J (.int x :: st) h Q ↔ if x = 0 then pb_R 77 101 L J st h Q else pb_R 77 93 L J st h Q) ∧
  (∀ (l1 : Option Value) (st : List Value) (h : pb_H) (Q : Option Value → pb_H → Prop) (x : Nat), pb_R 77 93 [some (.ref x), l1] [] st h Q ↔ pb_R 77 94 [some (.ref x), l1] [] (.ref x :: st) h Q) ∧
  (∀ (l1 : Option Value) (st : List Value) (h : pb_H) (Q : Option Value → pb_H → Prop), pb_R 77 93 [some .null, l1] [] st h Q ↔ pb_R 77 94 [some .null, l1] [] (.null :: st) h Q) ∧
  (∀ (L : pb_L) (J : pb_J) (st : List Value) (h : pb_H) (Q : Option Value → pb_H → Prop) (a : Nat), pb_R 77 94 L J (.ref a :: st) h Q ↔ pb_o (pb_gf (h.2 a) 2 3) (fun v => pb_R 77 97 L J (v :: st) h Q)) ∧
  (∀ (L : pb_L) (J : pb_J) (st : List Value) (h : pb_H) (Q : Option Value → pb_H → Prop), pb_R 77 97 L J st h Q ↔ pb_R 77 98 L J (.int (0 : Int32) :: st) h Q) ∧
  (∀ (L : pb_L) (J : pb_J) (h : pb_H) (Q : Option Value → pb_H → Prop) (x0 : Int32) (x1 : Nat), pb_R 77 98 L J [.int x0, .ref x1] h Q ↔ pb_call 62 [.ref x1, .int x0] h (fun v t => pb_R 77 101 L J (v.toList ++ []) t Q)) ∧
  (∀ (l1 : Option Value) (st : List Value) (h : pb_H) (Q : Option Value → pb_H → Prop) (x : Nat), pb_R 77 101 [some (.ref x), l1] [] st h Q ↔ pb_R 77 102 [some (.ref x), l1] [] (.ref x :: st) h Q) ∧
  (∀ (l1 : Option Value) (st : List Value) (h : pb_H) (Q : Option Value → pb_H → Prop), pb_R 77 101 [some .null, l1] [] st h Q ↔ pb_R 77 102 [some .null, l1] [] (.null :: st) h Q) ∧
  (∀ (L : pb_L) (J : pb_J) (st : List Value) (h : pb_H) (Q : Option Value → pb_H → Prop) (a : Nat), pb_R 77 102 L J (.ref a :: st) h Q ↔ pb_o (pb_gf (h.2 a) 2 0) (fun v => pb_R 77 105 L J (v :: st) h Q)) ∧
  (∀ (L : pb_L) (J : pb_J) (h : pb_H) (Q : Option Value → pb_H → Prop) (x0 : Nat), pb_R 77 105 L J [.ref x0] h Q ↔ pb_is0 (h.2 x0) 8 = true ∧ pb_call 23 [.ref x0] h (fun v t => pb_R 77 108 L J (v.toList ++ []) t Q)) ∧
  (∀ (L : pb_L) (J : pb_J) (st : List Value) (h : pb_H) (Q : Option Value → pb_H → Prop), pb_R 77 108 L J st h Q ↔ pb_R 77 109 L J (.int (1 : Int32) :: st) h Q) ∧
  (∀ (L : pb_L) (J : pb_J) (h : pb_H) (Q : Option Value → pb_H → Prop) (x : Int32), pb_R 77 109 L J [.int x] h Q ↔ narrow .boolean (.int x) = .int x ∧ Q (some (.int x)) h) := ⟨
  fun l1 st h Q x => pf_S pb_u_77 rfl rfl,
  fun l1 st h Q => pf_S pb_u_77 rfl rfl,
  fun L J st h Q a => pf_gf pb_u_77 rfl rfl,
  fun L J st h Q a => pf_gf pb_u_77 rfl rfl,
  fun L J st h Q => pf_S pb_u_77 rfl rfl,
  fun L J st h Q x y => pf_ic pb_u_77 rfl rfl pf_ne,
  fun l1 st h Q x => pf_S pb_u_77 rfl rfl,
  fun l1 st h Q => pf_S pb_u_77 rfl rfl,
  fun L J st h Q a => pf_gf pb_u_77 rfl rfl,
  fun L J st h Q => pf_S pb_u_77 rfl rfl,
  fun L J st h Q => pf_S pb_u_77 rfl rfl,
  fun L J h Q x0 x1 x2 => pf_ks pb_u_77 rfl rfl rfl rfl,
  fun L J st h Q => pf_S pb_u_77 rfl rfl,
  fun L J h Q x => pf_rz pb_u_77 rfl rfl,
  fun l1 st h Q x => pf_S pb_u_77 rfl rfl,
  fun l1 st h Q => pf_S pb_u_77 rfl rfl,
  fun L J st h Q a => pf_gf pb_u_77 rfl rfl,
  fun L J st h Q a => pf_gf pb_u_77 rfl rfl,
  fun L J st h Q => pf_S pb_u_77 rfl rfl,
  fun L J st h Q x y => pf_ic pb_u_77 rfl rfl pf_ne,
  fun L J st h Q => pf_S pb_u_77 rfl rfl,
  fun L J st h Q => pf_S pb_u_77 rfl rfl,
  fun L J st h Q => pf_S pb_u_77 rfl rfl,
  fun l0 l1 st h Q x => pf_S pb_u_77 rfl rfl,
  fun l0 st h Q x => pf_S pb_u_77 rfl rfl,
  fun L J st h Q x => pf_ii pb_u_77 rfl rfl pf_ne,
  fun l1 st h Q x => pf_S pb_u_77 rfl rfl,
  fun l1 st h Q => pf_S pb_u_77 rfl rfl,
  fun L J st h Q a => pf_gf pb_u_77 rfl rfl,
  fun L J st h Q a => pf_gf pb_u_77 rfl rfl,
  fun L J st h Q => pf_S pb_u_77 rfl rfl,
  fun L J st h Q x y => pf_ic pb_u_77 rfl rfl pf_ne,
  fun l1 st h Q x => pf_S pb_u_77 rfl rfl,
  fun l1 st h Q => pf_S pb_u_77 rfl rfl,
  fun L J st h Q a => pf_gf pb_u_77 rfl rfl,
  fun L J h Q x0 => pf_kv pb_u_77 rfl pb_ci_23 rfl ⟨Nat.le_of_ble_eq_true rfl, Nat.le_of_ble_eq_true rfl, Nat.le_of_ble_eq_true rfl, Nat.le_of_ble_eq_true rfl, rfl⟩ rfl rfl,
  fun l1 st h Q x => pf_S pb_u_77 rfl rfl,
  fun l1 st h Q => pf_S pb_u_77 rfl rfl,
  fun L J st h Q a => pf_gf pb_u_77 rfl rfl,
  fun L J st h Q => pf_S pb_u_77 rfl rfl,
  fun L J h Q x0 x1 => pf_kv pb_u_77 rfl pb_ci_76 rfl ⟨Nat.le_of_ble_eq_true rfl, Nat.le_of_ble_eq_true rfl, Nat.le_of_ble_eq_true rfl, Nat.le_of_ble_eq_true rfl, rfl⟩ rfl rfl,
  fun L J st h Q x => pf_ii pb_u_77 rfl rfl pf_ne,
  fun L J st h Q => pf_S pb_u_77 rfl rfl,
  fun L J h Q x => pf_rz pb_u_77 rfl rfl,
  fun l1 st h Q x => pf_S pb_u_77 rfl rfl,
  fun l1 st h Q => pf_S pb_u_77 rfl rfl,
  fun L J st h Q a => pf_gf pb_u_77 rfl rfl,
  fun l1 st h Q x => pf_S pb_u_77 rfl rfl,
  fun l1 st h Q => pf_S pb_u_77 rfl rfl,
  fun L J st h Q a => pf_gf pb_u_77 rfl rfl,
  fun L J h Q x0 x1 => pf_kv pb_u_77 rfl pb_ci_26 rfl ⟨Nat.le_of_ble_eq_true rfl, Nat.le_of_ble_eq_true rfl, Nat.le_of_ble_eq_true rfl, Nat.le_of_ble_eq_true rfl, rfl⟩ rfl rfl,
  fun l0 st h Q x => pf_S pb_u_77 rfl rfl,
  fun L J st h Q x => pf_ii pb_u_77 rfl rfl rfl,
  fun l1 st h Q x => pf_S pb_u_77 rfl rfl,
  fun l1 st h Q => pf_S pb_u_77 rfl rfl,
  fun L J st h Q a => pf_gf pb_u_77 rfl rfl,
  fun L J st h Q => pf_S pb_u_77 rfl rfl,
  fun L J h Q x0 x1 => pf_ks pb_u_77 rfl rfl rfl rfl,
  fun l1 st h Q x => pf_S pb_u_77 rfl rfl,
  fun l1 st h Q => pf_S pb_u_77 rfl rfl,
  fun L J st h Q a => pf_gf pb_u_77 rfl rfl,
  fun L J h Q x0 => pf_kv pb_u_77 rfl pb_ci_23 rfl ⟨Nat.le_of_ble_eq_true rfl, Nat.le_of_ble_eq_true rfl, Nat.le_of_ble_eq_true rfl, Nat.le_of_ble_eq_true rfl, rfl⟩ rfl rfl,
  fun L J st h Q => pf_S pb_u_77 rfl rfl,
  fun L J h Q x => pf_rz pb_u_77 rfl rfl⟩
theorem pb_c77 (x0 : Nat) (h : pb_H) (Q : Option Value → pb_H → Prop) : pb_call 77 [.ref x0] h Q ↔ pb_R 77 0 [some (.ref x0), none] [] [] h Q := Iff.rfl
/-! 78: PlaneBench$Condition.addLiteral()Z -/
theorem pb_u_78 : pb_t 78 = pb_t78 := rfl
theorem pb_ci_78 : pb_ci 78 = 2 := by decide +kernel
set_option maxRecDepth 100000 in
theorem pb_e78 : (∀ (l1 : Option Value) (st : List Value) (h : pb_H) (Q : Option Value → pb_H → Prop) (x : Nat), pb_R 78 0 [some (.ref x), l1] [] st h Q ↔ pb_R 78 1 [some (.ref x), l1] [] (.ref x :: st) h Q) ∧
  (∀ (l1 : Option Value) (st : List Value) (h : pb_H) (Q : Option Value → pb_H → Prop), pb_R 78 0 [some .null, l1] [] st h Q ↔ pb_R 78 1 [some .null, l1] [] (.null :: st) h Q) ∧
  (∀ (L : pb_L) (J : pb_J) (st : List Value) (h : pb_H) (Q : Option Value → pb_H → Prop) (a : Nat), pb_R 78 1 L J (.ref a :: st) h Q ↔ pb_o (pb_gf (h.2 a) 2 0) (fun v => pb_R 78 4 L J (v :: st) h Q)) ∧
  (∀ (L : pb_L) (J : pb_J) (st : List Value) (h : pb_H) (Q : Option Value → pb_H → Prop), pb_R 78 4 L J st h Q ↔ pb_R 78 6 L J (.int (120 : Int32) :: st) h Q) ∧
  (∀ (L : pb_L) (J : pb_J) (h : pb_H) (Q : Option Value → pb_H → Prop) (x0 : Int32) (x1 : Nat), pb_R 78 6 L J [.int x0, .ref x1] h Q ↔ pb_is0 (h.2 x1) 8 = true ∧ pb_call 76 [.ref x1, .int x0] h (fun v t => pb_R 78 9 L J (v.toList ++ []) t Q)) ∧
  (∀ (L : pb_L) (J : pb_J) (st : List Value) (h : pb_H) (Q : Option Value → pb_H → Prop) (x : Int32), pb_R 78 9 L J (.int x :: st) h Q ↔ if ¬ x = 0 then pb_R 78 14 L J st h Q else pb_R 78 12 L J st h Q) ∧
  (∀ (L : pb_L) (J : pb_J) (st : List Value) (h : pb_H) (Q : Option Value → pb_H → Prop), pb_R 78 12 L J st h Q ↔ pb_R 78 13 L J (.int (0 : Int32) :: st) h Q) ∧
  (∀ (L : pb_L) (J : pb_J) (h : pb_H) (Q : Option Value → pb_H → Prop) (x : Int32), pb_R 78 13 L J [.int x] h Q ↔ narrow .boolean (.int x) = .int x ∧ Q (some (.int x)) h) ∧
  (∀ (l1 : Option Value) (st : List Value) (h : pb_H) (Q : Option Value → pb_H → Prop) (x : Nat), pb_R 78 14 [some (.ref x), l1] [] st h Q ↔ pb_R 78 15 [some (.ref x), l1] [] (.ref x :: st) h Q) ∧
  (∀ (l1 : Option Value) (st : List Value) (h : pb_H) (Q : Option Value → pb_H → Prop), pb_R 78 14 [some .null, l1] [] st h Q ↔ pb_R 78 15 [some .null, l1] [] (.null :: st) h Q) ∧
  (∀ (L : pb_L) (J : pb_J) (st : List Value) (h : pb_H) (Q : Option Value → pb_H → Prop) (a : Nat), pb_R 78 15 L J (.ref a :: st) h Q ↔ pb_o (pb_gf (h.2 a) 2 0) (fun v => pb_R 78 18 L J (v :: st) h Q)) ∧
  (∀ (l1 : Option Value) (st : List Value) (h : pb_H) (Q : Option Value → pb_H → Prop) (x : Nat), pb_R 78 18 [some (.ref x), l1] [] st h Q ↔ pb_R 78 19 [some (.ref x), l1] [] (.ref x :: st) h Q) ∧
  (∀ (l1 : Option Value) (st : List Value) (h : pb_H) (Q : Option Value → pb_H → Prop), pb_R 78 18 [some .null, l1] [] st h Q ↔ pb_R 78 19 [some .null, l1] [] (.null :: st) h Q) ∧
  (∀ (L : pb_L) (J : pb_J) (st : List Value) (h : pb_H) (Q : Option Value → pb_H → Prop) (a : Nat), pb_R 78 19 L J (.ref a :: st) h Q ↔ pb_o (pb_gf (h.2 a) 2 1) (fun v => pb_R 78 22 L J (v :: st) h Q)) ∧
  (∀ (L : pb_L) (J : pb_J) (h : pb_H) (Q : Option Value → pb_H → Prop) (x0 : Int32) (x1 : Nat), pb_R 78 22 L J [.int x0, .ref x1] h Q ↔ pb_is0 (h.2 x1) 8 = true ∧ pb_call 50 [.ref x1, .int x0] h (fun v t => pb_R 78 25 L J (v.toList ++ []) t Q)) ∧
  (∀ (L : pb_L) (J : pb_J) (st : List Value) (h : pb_H) (Q : Option Value → pb_H → Prop) (x : Int32), pb_R 78 25 L J (.int x :: st) h Q ↔ if ¬ x = 0 then pb_R 78 37 L J st h Q else pb_R 78 28 L J st h Q) ∧
  (∀ (l1 : Option Value) (st : List Value) (h : pb_H) (Q : Option Value → pb_H → Prop) (x : Nat), pb_R 78 28 [some (.ref x), l1] [] st h Q ↔ pb_R 78 29 [some (.ref x), l1] [] (.ref x :: st) h Q) ∧
  (∀ (l1 : Option Value) (st : List Value) (h : pb_H) (Q : Option Value → pb_H → Prop), pb_R 78 28 [some .null, l1] [] st h Q ↔ pb_R 78 29 [some .null, l1] [] (.null :: st) h Q) ∧
  (∀ (L : pb_L) (J : pb_J) (st : List Value) (h : pb_H) (Q : Option Value → pb_H → Prop) (a : Nat), pb_R 78 29 L J (.ref a :: st) h Q ↔ pb_o (pb_gf (h.2 a) 2 0) (fun v => pb_R 78 32 L J (v :: st) h Q)) ∧
  (∀ (L : pb_L) (J : pb_J) (st : List Value) (h : pb_H) (Q : Option Value → pb_H → Prop), pb_R 78 32 L J st h Q ↔ pb_R 78 33 L J (.int (2 : Int32) :: st) h Q) ∧
  (∀ (L : pb_L) (J : pb_J) (h : pb_H) (Q : Option Value → pb_H → Prop) (x0 : Int32) (x1 : Nat), pb_R 78 33 L J [.int x0, .ref x1] h Q ↔ pb_is0 (h.2 x1) 8 = true ∧ pb_call 29 [.ref x1, .int x0] h (fun v t => pb_R 78 36 L J (v.toList ++ []) t Q)) ∧
  (∀ (L : pb_L) (J : pb_J) (h : pb_H) (Q : Option Value → pb_H → Prop) (x : Int32), pb_R 78 36 L J [.int x] h Q ↔ narrow .boolean (.int x) = .int x ∧ Q (some (.int x)) h) ∧
  (∀ (l1 : Option Value) (st : List Value) (h : pb_H) (Q : Option Value → pb_H → Prop) (x : Nat), pb_R 78 37 [some (.ref x), l1] [] st h Q ↔ pb_R 78 38 [some (.ref x), l1] [] (.ref x :: st) h Q) ∧
  (∀ (l1 : Option Value) (st : List Value) (h : pb_H) (Q : Option Value → pb_H → Prop), pb_R 78 37 [some .null, l1] [] st h Q ↔ pb_R 78 38 [some .null, l1] [] (.null :: st) h Q) ∧
  (∀ (L : pb_L) (J : pb_J) (st : List Value) (h : pb_H) (Q : Option Value → pb_H → Prop) (a : Nat), pb_R 78 38 L J (.ref a :: st) h Q ↔ pb_o (pb_gf (h.2 a) 2 0) (fun v => pb_R 78 41 L J (v :: st) h Q)) ∧
  (∀ (L : pb_L) (J : pb_J) (st : List Value) (h : pb_H) (Q : Option Value → pb_H → Prop) (a : Nat), pb_R 78 41 L J (.ref a :: st) h Q ↔ pb_o (pb_gf (h.2 a) 8 5) (fun v => pb_R 78 44 L J (v :: st) h Q)) ∧
  (∀ (L : pb_L) (J : pb_J) (st : List Value) (h : pb_H) (Q : Option Value → pb_H → Prop), pb_R 78 44 L J st h Q ↔ pb_R 78 46 L J (.int (8 : Int32) :: st) h Q) ∧
  (∀ (L : pb_L) (J : pb_J) (st : List Value) (x y : Int32) (h : pb_H) (Q : Option Value → pb_H → Prop), pb_R 78 46 L J (.int y :: .int x :: st) h Q ↔ pb_R 78 47 L J (.int (x * y) :: st) h Q) ∧
  (∀ (l0 l1 : Option Value) (st : List Value) (h : pb_H) (Q : Option Value → pb_H → Prop) (x : Int32), pb_R 78 47 [l0, l1] [] (.int x :: st) h Q ↔ pb_R 78 48 [l0, some (.int x)] [] st h Q) ∧
  (∀ (l1 : Option Value) (st : List Value) (h : pb_H) (Q : Option Value → pb_H → Prop) (x : Nat), pb_R 78 48 [some (.ref x), l1] [] st h Q ↔ pb_R 78 49 [some (.ref x), l1] [] (.ref x :: st) h Q) ∧
  (∀ (l1 : Option Value) (st : List Value) (h : pb_H) (Q : Option Value → pb_H → Prop), pb_R 78 48 [some .null, l1] [] st h Q ↔ pb_R 78 49 [some .null, l1] [] (.null :: st) h Q) ∧
  (∀ (L : pb_L) (J : pb_J) (st : List Value) (h : pb_H) (Q : Option Value → pb_H → Prop) (a : Nat), pb_R 78 49 L J (.ref a :: st) h Q ↔ pb_o (pb_gf (h.2 a) 2 0) (fun v => pb_R 78 52 L J (v :: st) h Q)) ∧
  (∀ (L : pb_L) (J : pb_J) (st : List Value) (h : pb_H) (Q : Option Value → pb_H → Prop) (a : Nat), pb_R 78 52 L J (.ref a :: st) h Q ↔ pb_o (pb_gf (h.2 a) 8 6) (fun v => pb_R 78 55 L J (v :: st) h Q)) ∧
  (∀ (L : pb_L) (J : pb_J) (st : List Value) (h : pb_H) (Q : Option Value → pb_H → Prop) (x : Int32), pb_R 78 55 L J (.int x :: st) h Q ↔ if x ≤ 0 then pb_R 78 77 L J st h Q else pb_R 78 58 L J st h Q) ∧
  (∀ (l1 : Option Value) (st : List Value) (h : pb_H) (Q : Option Value → pb_H → Prop) (x : Nat), pb_R 78 58 [some (.ref x), l1] [] st h Q ↔ pb_R 78 59 [some (.ref x), l1] [] (.ref x :: st) h Q) ∧
  (∀ (l1 : Option Value) (st : List Value) (h : pb_H) (Q : Option Value → pb_H → Prop), pb_R 78 58 [some .null, l1] [] st h Q ↔ pb_R 78 59 [some .null, l1] [] (.null :: st) h Q) ∧
  (∀ (L : pb_L) (J : pb_J) (st : List Value) (h : pb_H) (Q : Option Value → pb_H → Prop) (a : Nat), pb_R 78 59 L J (.ref a :: st) h Q ↔ pb_o (pb_gf (h.2 a) 2 2) (fun v => pb_R 78 62 L J (v :: st) h Q)) ∧
  (∀ (l0 : Option Value) (st : List Value) (h : pb_H) (Q : Option Value → pb_H → Prop) (x : Int32), pb_R 78 62 [l0, some (.int x)] [] st h Q ↔ pb_R 78 63 [l0, some (.int x)] [] (.int x :: st) h Q) ∧
  (∀ (l1 : Option Value) (st : List Value) (h : pb_H) (Q : Option Value → pb_H → Prop) (x : Nat), pb_R 78 63 [some (.ref x), l1] [] st h Q ↔ pb_R 78 64 [some (.ref x), l1] [] (.ref x :: st) h Q) ∧
  (∀ (l1 : Option Value) (st : List Value) (h : pb_H) (Q : Option Value → pb_H → Prop), pb_R 78 63 [some .null, l1] [] st h Q ↔ pb_R 78 64 [some .null, l1] [] (.null :: st) h Q) ∧
  (∀ (L : pb_L) (J : pb_J) (st : List Value) (h : pb_H) (Q : Option Value → pb_H → Prop) (a : Nat), pb_R 78 64 L J (.ref a :: st) h Q ↔ pb_o (pb_gf (h.2 a) 2 3) (fun v => pb_R 78 67 L J (v :: st) h Q)) ∧
  (∀ (L : pb_L) (J : pb_J) (st : List Value) (h : pb_H) (Q : Option Value → pb_H → Prop), pb_R 78 67 L J st h Q ↔ pb_R 78 68 L J (.int (0 : Int32) :: st) h Q) ∧
  (∀ (L : pb_L) (J : pb_J) (st : List Value) (h : pb_H) (Q : Option Value → pb_H → Prop), pb_R 78 68 L J st h Q ↔ pb_R 78 70 L J (.int (8 : Int32) :: st) h Q) ∧
  (∀ (L : pb_L) (J : pb_J) (h : pb_H) (Q : Option Value → pb_H → Prop) (x0 : Int32) (x1 : Int32) (x2 : Nat) (x3 : Int32) (x4 : Nat), pb_R 78 70 L J [.int x0, .int x1, .ref x2, .int x3, .ref x4] h Q ↔ pb_call 59 [.ref x4, .int x3, .ref x2, .int x1, .int x0] h (fun v t => pb_R 78 73 L J (v.toList ++ []) t Q)) ∧
  (∀ (L : pb_L) (J : pb_J) (st : List Value) (x : Int32) (h : pb_H) (Q : Option Value → pb_H → Prop), pb_R 78 73 L J (.int x :: st) h Q ↔ pb_R 78 74 L J st h Q) ∧
  (∀ (L : pb_L) (J : pb_J) (st : List Value) (h : pb_H) (Q : Option Value → pb_H → Prop), pb_R 78 74 L J st h Q ↔ pb_R 78 109 L J st h Q) ∧
  (∀ (l1 : Option Value) (st : List Value) (h : pb_H) (Q : Option Value → pb_H → Prop) (x : Nat), pb_R 78 77 [some (.ref x), l1] [] st h Q ↔ pb_R 78 78 [some (.ref x), l1] [] (.ref x :: st) h Q) ∧
  (∀ (l1 : Option Value) (st : List Value) (h : pb_H) (Q : Option Value → pb_H → Prop), pb_R 78 77 [some .null, l1] [] st h Q ↔ pb_R 78 78 [some .null, l1] [] (.null :: st) h Q) ∧
  (∀ (L : pb_L) (J : pb_J) (st : List Value) (h : pb_H) (Q : Option Value → pb_H → Prop) (a : Nat), pb_R 78 78 L J (.ref a :: st) h Q ↔ pb_o (pb_gf (h.2 a) 2 2) (fun v => pb_R 78 81 L J (v :: st) h Q)) ∧
  (∀ (l0 : Option Value) (st : List Value) (h : pb_H) (Q : Option Value → pb_H → Prop) (x : Int32), pb_R 78 81 [l0, some (.int x)] [] st h Q ↔ pb_R 78 82 [l0, some (.int x)] [] (.int x :: st) h Q) ∧
  (∀ (l1 : Option Value) (st : List Value) (h : pb_H) (Q : Option Value → pb_H → Prop) (x : Nat), pb_R 78 82 [some (.ref x), l1] [] st h Q ↔ pb_R 78 83 [some (.ref x), l1] [] (.ref x :: st) h Q) ∧
  (∀ (l1 : Option Value) (st : List Value) (h : pb_H) (Q : Option Value → pb_H → Prop), pb_R 78 82 [some .null, l1] [] st h Q ↔ pb_R 78 83 [some .null, l1] [] (.null :: st) h Q) ∧
  (∀ (L : pb_L) (J : pb_J) (st : List Value) (h : pb_H) (Q : Option Value → pb_H → Prop) (a : Nat), pb_R 78 83 L J (.ref a :: st) h Q ↔ pb_o (pb_gf (h.2 a) 2 3) (fun v => pb_R 78 86 L J (v :: st) h Q)) ∧
  (∀ (L : pb_L) (J : pb_J) (st : List Value) (h : pb_H) (Q : Option Value → pb_H → Prop), pb_R 78 86 L J st h Q ↔ pb_R 78 87 L J (.int (0 : Int32) :: st) h Q) ∧
  (∀ (L : pb_L) (J : pb_J) (st : List Value) (h : pb_H) (Q : Option Value → pb_H → Prop), pb_R 78 87 L J st h Q ↔ pb_R 78 89 L J (.int (8 : Int32) :: st) h Q) ∧
  (∀ (L : pb_L) (J : pb_J) (h : pb_H) (Q : Option Value → pb_H → Prop) (x0 : Int32) (x1 : Int32) (x2 : Nat) (x3 : Int32) (x4 : Nat), pb_R 78 89 L J [.int x0, .int x1, .ref x2, .int x3, .ref x4] h Q ↔ pb_call 51 [.ref x4, .int x3, .ref x2, .int x1, .int x0] h (fun v t => pb_R 78 92 L J (v.toList ++ []) t Q)) ∧
  (∀ (L : pb_L) (J : pb_J) (st : List Value) (x : Int32) (h : pb_H) (Q : Option Value → pb_H → Prop), pb_R 78 92 L J (.int x :: st) h Q ↔ pb_R 78 93 L J st h Q) ∧
  (∀ (l1 : Option Value) (st : List Value) (h : pb_H) (Q : Option Value → pb_H → Prop) (x : Nat), pb_R 78 93 [some (.ref x), l1] [] st h Q ↔ pb_R 78 94 [some (.ref x), l1] [] (.ref x :: st) h Q) ∧
  (∀ (l1 : Option Value) (st : List Value) (h : pb_H) (Q : Option Value → pb_H → Prop), pb_R 78 93 [some .null, l1] [] st h Q ↔ pb_R 78 94 [some .null, l1] [] (.null :: st) h Q) ∧
  (∀ (L : pb_L) (J : pb_J) (st : List Value) (h : pb_H) (Q : Option Value → pb_H → Prop) (a : Nat), pb_R 78 94 L J (.ref a :: st) h Q ↔ pb_o (pb_gf (h.2 a) 2 2) (fun v => pb_R 78 97 L J (v :: st) h Q)) ∧
  (∀ (L : pb_L) (J : pb_J) (st : List Value) (h : pb_H) (Q : Option Value → pb_H → Prop), pb_R 78 97 L J st h Q ↔ pb_R 78 98 L J (.int (0 : Int32) :: st) h Q) ∧
  (∀ (l1 : Option Value) (st : List Value) (h : pb_H) (Q : Option Value → pb_H → Prop) (x : Nat), pb_R 78 98 [some (.ref x), l1] [] st h Q ↔ pb_R 78 99 [some (.ref x), l1] [] (.ref x :: st) h Q) ∧
  (∀ (l1 : Option Value) (st : List Value) (h : pb_H) (Q : Option Value → pb_H → Prop), pb_R 78 98 [some .null, l1] [] st h Q ↔ pb_R 78 99 [some .null, l1] [] (.null :: st) h Q) ∧
  (∀ (L : pb_L) (J : pb_J) (st : List Value) (h : pb_H) (Q : Option Value → pb_H → Prop) (a : Nat), pb_R 78 99 L J (.ref a :: st) h Q ↔ pb_o (pb_gf (h.2 a) 2 3) (fun v => pb_R 78 102 L J (v :: st) h Q)) ∧
  (∀ (L : pb_L) (J : pb_J) (st : List Value) (h : pb_H) (Q : Option Value → pb_H → Prop), pb_R 78 102 L J st h Q ↔ pb_R 78 103 L J (.int (0 : Int32) :: st) h Q) ∧
  (∀ (L : pb_L) (J : pb_J) (st : List Value) (h : pb_H) (Q : Option Value → pb_H → Prop), pb_R 78 103 L J st h Q ↔ pb_R 78 105 L J (.int (8 : Int32) :: st) h Q) ∧
  (∀ (L : pb_L) (J : pb_J) (h : pb_H) (Q : Option Value → pb_H → Prop) (x0 : Int32) (x1 : Int32) (x2 : Nat) (x3 : Int32) (x4 : Nat), pb_R 78 105 L J [.int x0, .int x1, .ref x2, .int x3, .ref x4] h Q ↔ pb_call 51 [.ref x4, .int x3, .ref x2, .int x1, .int x0] h (fun v t => pb_R 78 108 L J (v.toList ++ []) t Q)) ∧
  (∀ (L : pb_L) (J : pb_J) (st : List Value) (x : Int32) (h : pb_H) (Q : Option Value → pb_H → Prop), pb_R 78 108 L J (.int x :: st) h Q ↔ pb_R 78 109 L J st h Q) ∧
  (∀ (l1 : Option Value) (st : List Value) (h : pb_H) (Q : Option Value → pb_H → Prop) (x : Nat), pb_R 78 109 [some (.ref x), l1] [] st h Q ↔ pb_R 78 110 [some (.ref x), l1] [] (.ref x :: st) h Q) ∧
  (∀ (l1 : Option Value) (st : List Value) (h : pb_H) (Q : Option Value → pb_H → Prop), pb_R 78 109 [some .null, l1] [] st h Q ↔ pb_R 78 110 [some .null, l1] [] (.null :: st) h Q) ∧
  (∀ (L : pb_L) (J : pb_J) (st : List Value) (h : pb_H) (Q : Option Value → pb_H → Prop) (a : Nat), pb_R 78 110 L J (.ref a :: st) h Q ↔ pb_o (pb_gf (h.2 a) 2 0) (fun v => pb_R 78 113 L J (v :: st) h Q)) ∧
  (∀ (L : pb_L) (J : pb_J) (h : pb_H) (Q : Option Value → pb_H → Prop) (x0 : Nat), pb_R 78 113 L J [.ref x0] h Q ↔ pb_is0 (h.2 x0) 8 = true ∧ pb_call 23 [.ref x0] h (fun v t => pb_R 78 116 L J (v.toList ++ []) t Q)) ∧
  (∀ (L : pb_L) (J : pb_J) (st : List Value) (h : pb_H) (Q : Option Value → pb_H → Prop), pb_R 78 116 L J st h Q ↔ pb_R 78 117 L J (.int (1 : Int32) :: st) h Q) ∧
  (∀ (L : pb_L) (J : pb_J) (h : pb_H) (Q : Option Value → pb_H → Prop) (x : Int32), pb_R 78 117 L J [.int x] h Q ↔ narrow .boolean (.int x) = .int x ∧ Q (some (.int x)) h) := ⟨
  fun l1 st h Q x => pf_S pb_u_78 rfl rfl,
  fun l1 st h Q => pf_S pb_u_78 rfl rfl,
  fun L J st h Q a => pf_gf pb_u_78 rfl rfl,
  fun L J st h Q => pf_S pb_u_78 rfl rfl,
  fun L J h Q x0 x1 => pf_kv pb_u_78 rfl pb_ci_76 rfl ⟨Nat.le_of_ble_eq_true rfl, Nat.le_of_ble_eq_true rfl, Nat.le_of_ble_eq_true rfl, Nat.le_of_ble_eq_true rfl, rfl⟩ rfl rfl,
  fun L J st h Q x => pf_ii pb_u_78 rfl rfl pf_ne,
  fun L J st h Q => pf_S pb_u_78 rfl rfl,
  fun L J h Q x => pf_rz pb_u_78 rfl rfl,
  fun l1 st h Q x => pf_S pb_u_78 rfl rfl,
  fun l1 st h Q => pf_S pb_u_78 rfl rfl,
  fun L J st h Q a => pf_gf pb_u_78 rfl rfl,
  fun l1 st h Q x => pf_S pb_u_78 rfl rfl,
  fun l1 st h Q => pf_S pb_u_78 rfl rfl,
  fun L J st h Q a => pf_gf pb_u_78 rfl rfl,
  fun L J h Q x0 x1 => pf_kv pb_u_78 rfl pb_ci_50 rfl ⟨Nat.le_of_ble_eq_true rfl, Nat.le_of_ble_eq_true rfl, Nat.le_of_ble_eq_true rfl, Nat.le_of_ble_eq_true rfl, rfl⟩ rfl rfl,
  fun L J st h Q x => pf_ii pb_u_78 rfl rfl pf_ne,
  fun l1 st h Q x => pf_S pb_u_78 rfl rfl,
  fun l1 st h Q => pf_S pb_u_78 rfl rfl,
  fun L J st h Q a => pf_gf pb_u_78 rfl rfl,
  fun L J st h Q => pf_S pb_u_78 rfl rfl,
  fun L J h Q x0 x1 => pf_kv pb_u_78 rfl pb_ci_29 rfl ⟨Nat.le_of_ble_eq_true rfl, Nat.le_of_ble_eq_true rfl, Nat.le_of_ble_eq_true rfl, Nat.le_of_ble_eq_true rfl, rfl⟩ rfl rfl,
  fun L J h Q x => pf_rz pb_u_78 rfl rfl,
  fun l1 st h Q x => pf_S pb_u_78 rfl rfl,
  fun l1 st h Q => pf_S pb_u_78 rfl rfl,
  fun L J st h Q a => pf_gf pb_u_78 rfl rfl,
  fun L J st h Q a => pf_gf pb_u_78 rfl rfl,
  fun L J st h Q => pf_S pb_u_78 rfl rfl,
  fun L J st x y h Q => pf_S pb_u_78 rfl rfl,
  fun l0 l1 st h Q x => pf_S pb_u_78 rfl rfl,
  fun l1 st h Q x => pf_S pb_u_78 rfl rfl,
  fun l1 st h Q => pf_S pb_u_78 rfl rfl,
  fun L J st h Q a => pf_gf pb_u_78 rfl rfl,
  fun L J st h Q a => pf_gf pb_u_78 rfl rfl,
  fun L J st h Q x => pf_ii pb_u_78 rfl rfl rfl,
  fun l1 st h Q x => pf_S pb_u_78 rfl rfl,
  fun l1 st h Q => pf_S pb_u_78 rfl rfl,
  fun L J st h Q a => pf_gf pb_u_78 rfl rfl,
  fun l0 st h Q x => pf_S pb_u_78 rfl rfl,
  fun l1 st h Q x => pf_S pb_u_78 rfl rfl,
  fun l1 st h Q => pf_S pb_u_78 rfl rfl,
  fun L J st h Q a => pf_gf pb_u_78 rfl rfl,
  fun L J st h Q => pf_S pb_u_78 rfl rfl,
  fun L J st h Q => pf_S pb_u_78 rfl rfl,
  fun L J h Q x0 x1 x2 x3 x4 => pf_ks pb_u_78 rfl rfl rfl rfl,
  fun L J st x h Q => pf_S pb_u_78 rfl rfl,
  fun L J st h Q => pf_S pb_u_78 rfl rfl,
  fun l1 st h Q x => pf_S pb_u_78 rfl rfl,
  fun l1 st h Q => pf_S pb_u_78 rfl rfl,
  fun L J st h Q a => pf_gf pb_u_78 rfl rfl,
  fun l0 st h Q x => pf_S pb_u_78 rfl rfl,
  fun l1 st h Q x => pf_S pb_u_78 rfl rfl,
  fun l1 st h Q => pf_S pb_u_78 rfl rfl,
  fun L J st h Q a => pf_gf pb_u_78 rfl rfl,
  fun L J st h Q => pf_S pb_u_78 rfl rfl,
  fun L J st h Q => pf_S pb_u_78 rfl rfl,
  fun L J h Q x0 x1 x2 x3 x4 => pf_ks pb_u_78 rfl rfl rfl rfl,
  fun L J st x h Q => pf_S pb_u_78 rfl rfl,
  fun l1 st h Q x => pf_S pb_u_78 rfl rfl,
  fun l1 st h Q => pf_S pb_u_78 rfl rfl,
  fun L J st h Q a => pf_gf pb_u_78 rfl rfl,
  fun L J st h Q => pf_S pb_u_78 rfl rfl,
  fun l1 st h Q x => pf_S pb_u_78 rfl rfl,
  fun l1 st h Q => pf_S pb_u_78 rfl rfl,
  fun L J st h Q a => pf_gf pb_u_78 rfl rfl,
  fun L J st h Q => pf_S pb_u_78 rfl rfl,
  fun L J st h Q => pf_S pb_u_78 rfl rfl,
  fun L J h Q x0 x1 x2 x3 x4 => pf_ks pb_u_78 rfl rfl rfl rfl,
  fun L J st x h Q => pf_S pb_u_78 rfl rfl,
  fun l1 st h Q x => pf_S pb_u_78 rfl rfl,
  fun l1 st h Q => pf_S pb_u_78 rfl rfl,
  fun L J st h Q a => pf_gf pb_u_78 rfl rfl,
  fun L J h Q x0 => pf_kv pb_u_78 rfl pb_ci_23 rfl ⟨Nat.le_of_ble_eq_true rfl, Nat.le_of_ble_eq_true rfl, Nat.le_of_ble_eq_true rfl, Nat.le_of_ble_eq_true rfl, rfl⟩ rfl rfl,
  fun L J st h Q => pf_S pb_u_78 rfl rfl,
  fun L J h Q x => pf_rz pb_u_78 rfl rfl⟩
theorem pb_c78 (x0 : Nat) (h : pb_H) (Q : Option Value → pb_H → Prop) : pb_call 78 [.ref x0] h Q ↔ pb_R 78 0 [some (.ref x0), none] [] [] h Q := Iff.rfl
/-! 79: PlaneBench$Condition.isOtherRelation()Z -/
theorem pb_u_79 : pb_t 79 = pb_t79 := rfl
theorem pb_ci_79 : pb_ci 79 = 2 := by decide +kernel
set_option maxRecDepth 100000 in
theorem pb_e79 : (∀ (st : List Value) (h : pb_H) (Q : Option Value → pb_H → Prop) (x : Nat), pb_R 79 0 [some (.ref x)] [] st h Q ↔ pb_R 79 1 [some (.ref x)] [] (.ref x :: st) h Q) ∧
  (∀ (st : List Value) (h : pb_H) (Q : Option Value → pb_H → Prop), pb_R 79 0 [some .null] [] st h Q ↔ pb_R 79 1 [some .null] [] (.null :: st) h Q) ∧
  (∀ (L : pb_L) (J : pb_J) (st : List Value) (h : pb_H) (Q : Option Value → pb_H → Prop) (a : Nat), pb_R 79 1 L J (.ref a :: st) h Q ↔ pb_o (pb_gf (h.2 a) 2 4) (fun v => pb_R 79 4 L J (v :: st) h Q)) ∧
  (∀ (L : pb_L) (J : pb_J) (st : List Value) (h : pb_H) (Q : Option Value → pb_H → Prop), pb_R 79 4 L J st h Q ↔ pb_R 79 6 L J (.int (60 : Int32) :: st) h Q) ∧
  (∀ (L : pb_L) (J : pb_J) (st : List Value) (h : pb_H) (Q : Option Value → pb_H → Prop) (x y : Int32), pb_R 79 6 L J (.int y :: .int x :: st) h Q ↔ if x = y then pb_R 79 18 L J st h Q else pb_R 79 9 L J st h Q) ∧
  (∀ (st : List Value) (h : pb_H) (Q : Option Value → pb_H → Prop) (x : Nat), pb_R 79 9 [some (.ref x)] [] st h Q ↔ pb_R 79 10 [some (.ref x)] [] (.ref x :: st) h Q) ∧
  (∀ (st : List Value) (h : pb_H) (Q : Option Value → pb_H → Prop), pb_R 79 9 [some .null] [] st h Q ↔ pb_R 79 10 [some .null] [] (.null :: st) h Q) ∧
  (∀ (L : pb_L) (J : pb_J) (st : List Value) (h : pb_H) (Q : Option Value → pb_H → Prop) (a : Nat), pb_R 79 10 L J (.ref a :: st) h Q ↔ pb_o (pb_gf (h.2 a) 2 4) (fun v => pb_R 79 13 L J (v :: st) h Q)) ∧
  (∀ (L : pb_L) (J : pb_J) (st : List Value) (h : pb_H) (Q : Option Value → pb_H → Prop), pb_R 79 13 L J st h Q ↔ pb_R 79 15 L J (.int (61 : Int32) :: st) h Q) ∧
  (∀ (L : pb_L) (J : pb_J) (st : List Value) (h : pb_H) (Q : Option Value → pb_H → Prop) (x y : Int32), pb_R 79 15 L J (.int y :: .int x :: st) h Q ↔ if ¬ x = y then pb_R 79 22 L J st h Q else pb_R 79 18 L J st h Q) ∧
  (∀ (L : pb_L) (J : pb_J) (st : List Value) (h : pb_H) (Q : Option Value → pb_H → Prop), pb_R 79 18 L J st h Q ↔ pb_R 79 19 L J (.int (1 : Int32) :: st) h Q) ∧
  (∀ (L : pb_L) (J : pb_J) (st : List Value) (h : pb_H) (Q : Option Value → pb_H → Prop), pb_R 79 19 L J st h Q ↔ pb_R 79 23 L J st h Q) ∧
  (∀ (L : pb_L) (J : pb_J) (st : List Value) (h : pb_H) (Q : Option Value → pb_H → Prop), pb_R 79 22 L J st h Q ↔ pb_R 79 23 L J (.int (0 : Int32) :: st) h Q) ∧
  (∀ (L : pb_L) (J : pb_J) (h : pb_H) (Q : Option Value → pb_H → Prop) (x : Int32), pb_R 79 23 L J [.int x] h Q ↔ narrow .boolean (.int x) = .int x ∧ Q (some (.int x)) h) := ⟨
  fun st h Q x => pf_S pb_u_79 rfl rfl,
  fun st h Q => pf_S pb_u_79 rfl rfl,
  fun L J st h Q a => pf_gf pb_u_79 rfl rfl,
  fun L J st h Q => pf_S pb_u_79 rfl rfl,
  fun L J st h Q x y => pf_ic pb_u_79 rfl rfl rfl,
  fun st h Q x => pf_S pb_u_79 rfl rfl,
  fun st h Q => pf_S pb_u_79 rfl rfl,
  fun L J st h Q a => pf_gf pb_u_79 rfl rfl,
  fun L J st h Q => pf_S pb_u_79 rfl rfl,
  fun L J st h Q x y => pf_ic pb_u_79 rfl rfl pf_ne,
  fun L J st h Q => pf_S pb_u_79 rfl rfl,
  fun L J st h Q => pf_S pb_u_79 rfl rfl,
  fun L J st h Q => pf_S pb_u_79 rfl rfl,
  fun L J h Q x => pf_rz pb_u_79 rfl rfl⟩
theorem pb_c79 (x0 : Nat) (h : pb_H) (Q : Option Value → pb_H → Prop) : pb_call 79 [.ref x0] h Q ↔ pb_R 79 0 [some (.ref x0)] [] [] h Q := Iff.rfl
/-! 80: PlaneBench$Condition.read(Z)Z -/
theorem pb_u_80 : pb_t 80 = pb_t80 := rfl
theorem pb_ci_80 : pb_ci 80 = 2 := by decide +kernel
set_option maxRecDepth 100000 in
theorem pb_q80_10 (l0 l1 : Option Value) (st : List Value) (h : pb_H) (Q : Option Value → pb_H → Prop) (x : Int32) : pb_R 80 10 [l0, l1, some (.int x)] [] st h Q ↔ pb_R 80 11 [l0, l1, some (.int x)] [] (.int x :: st) h Q := pf_S pb_u_80 rfl rfl
set_option maxRecDepth 100000 in
theorem pb_e80 : (∀ (l1 l2 : Option Value) (st : List Value) (h : pb_H) (Q : Option Value → pb_H → Prop) (x : Nat), pb_R 80 0 [some (.ref x), l1, l2] [] st h Q ↔ pb_R 80 1 [some (.ref x), l1, l2] [] (.ref x :: st) h Q) ∧
  (∀ (l1 l2 : Option Value) (st : List Value) (h : pb_H) (Q : Option Value → pb_H → Prop), pb_R 80 0 [some .null, l1, l2] [] st h Q ↔ pb_R 80 1 [some .null, l1, l2] [] (.null :: st) h Q) ∧
  (∀ (L : pb_L) (J : pb_J) (st : List Value) (h : pb_H) (Q : Option Value → pb_H → Prop) (a : Nat), pb_R 80 1 L J (.ref a :: st) h Q ↔ pb_o (pb_gf (h.2 a) 2 2) (fun v => pb_R 80 4 L J (v :: st) h Q)) ∧
  (∀ (L : pb_L) (J : pb_J) (st : List Value) (h : pb_H) (Q : Option Value → pb_H → Prop), pb_R 80 4 L J st h Q ↔ pb_R 80 5 L J (.int (0 : Int32) :: st) h Q) ∧
  (∀ (L : pb_L) (J : pb_J) (h : pb_H) (Q : Option Value → pb_H → Prop) (x0 : Int32) (x1 : Nat), pb_R 80 5 L J [.int x0, .ref x1] h Q ↔ pb_call 24 [.ref x1, .int x0] h (fun v t => pb_R 80 8 L J (v.toList ++ []) t Q)) ∧
  (∀ (L : pb_L) (J : pb_J) (st : List Value) (h : pb_H) (Q : Option Value → pb_H → Prop), pb_R 80 8 L J st h Q ↔ pb_R 80 9 L J (.int (0 : Int32) :: st) h Q) ∧
  (∀ (l0 l1 l2 : Option Value) (st : List Value) (h : pb_H) (Q : Option Value → pb_H → Prop) (x : Int32), pb_R 80 9 [l0, l1, l2] [] (.int x :: st) h Q ↔ pb_R 80 10 [l0, l1, some (.int x)] [] st h Q) ∧
  (∀ (l1 l2 : Option Value) (st : List Value) (h : pb_H) (Q : Option Value → pb_H → Prop) (x : Nat), pb_R 80 11 [some (.ref x), l1, l2] [] st h Q ↔ pb_R 80 12 [some (.ref x), l1, l2] [] (.ref x :: st) h Q) ∧
  (∀ (l1 l2 : Option Value) (st : List Value) (h : pb_H) (Q : Option Value → pb_H → Prop), pb_R 80 11 [some .null, l1, l2] [] st h Q ↔ pb_R 80 12 [some .null, l1, l2] [] (.null :: st) h Q) ∧
  (∀ (L : pb_L) (J : pb_J) (st : List Value) (h : pb_H) (Q : Option Value → pb_H → Prop) (a : Nat), pb_R 80 12 L J (.ref a :: st) h Q ↔ pb_o (pb_gf (h.2 a) 2 0) (fun v => pb_R 80 15 L J (v :: st) h Q)) ∧
  (∀ (L : pb_L) (J : pb_J) (st : List Value) (h : pb_H) (Q : Option Value → pb_H → Prop) (a : Nat), pb_R 80 15 L J (.ref a :: st) h Q ↔ pb_o (pb_gf (h.2 a) 8 1) (fun v => pb_R 80 18 L J (v :: st) h Q)) ∧
  (∀ (L : pb_L) (J : pb_J) (st : List Value) (h : pb_H) (Q : Option Value → pb_H → Prop) (x y : Int32), pb_R 80 18 L J (.int y :: .int x :: st) h Q ↔ if y < x then pb_R 80 50 L J st h Q else pb_R 80 21 L J st h Q) ∧
  (∀ (l1 l2 : Option Value) (st : List Value) (h : pb_H) (Q : Option Value → pb_H → Prop) (x : Nat), pb_R 80 21 [some (.ref x), l1, l2] [] st h Q ↔ pb_R 80 22 [some (.ref x), l1, l2] [] (.ref x :: st) h Q) ∧
  (∀ (l1 l2 : Option Value) (st : List Value) (h : pb_H) (Q : Option Value → pb_H → Prop), pb_R 80 21 [some .null, l1, l2] [] st h Q ↔ pb_R 80 22 [some .null, l1, l2] [] (.null :: st) h Q) ∧
  (∀ (L : pb_L) (J : pb_J) (h : pb_H) (Q : Option Value → pb_H → Prop) (x0 : Nat), pb_R 80 22 L J [.ref x0] h Q ↔ pb_is0 (h.2 x0) 2 = true ∧ pb_call 75 [.ref x0] h (fun v t => pb_R 80 25 L J (v.toList ++ []) t Q)) ∧
  (∀ (L : pb_L) (J : pb_J) (st : List Value) (h : pb_H) (Q : Option Value → pb_H → Prop) (x : Int32), pb_R 80 25 L J (.int x :: st) h Q ↔ if x = 0 then pb_R 80 50 L J st h Q else pb_R 80 28 L J st h Q) ∧
  (∀ (l1 l2 : Option Value) (st : List Value) (h : pb_H) (Q : Option Value → pb_H → Prop) (x : Nat), pb_R 80 28 [some (.ref x), l1, l2] [] st h Q ↔ pb_R 80 29 [some (.ref x), l1, l2] [] (.ref x :: st) h Q) ∧
  (∀ (l1 l2 : Option Value) (st : List Value) (h : pb_H) (Q : Option Value → pb_H → Prop), pb_R 80 28 [some .null, l1, l2] [] st h Q ↔ pb_R 80 29 [some .null, l1, l2] [] (.null :: st) h Q) ∧
  (∀ (L : pb_L) (J : pb_J) (h : pb_H) (Q : Option Value → pb_H → Prop) (x0 : Nat), pb_R 80 29 L J [.ref x0] h Q ↔ pb_is0 (h.2 x0) 2 = true ∧ pb_call 77 [.ref x0] h (fun v t => pb_R 80 32 L J (v.toList ++ []) t Q)) ∧
  (∀ (L : pb_L) (J : pb_J) (st : List Value) (h : pb_H) (Q : Option Value → pb_H → Prop) (x : Int32), pb_R 80 32 L J (.int x :: st) h Q ↔ if x = 0 then pb_R 80 42 L J st h Q else pb_R 80 35 L J st h Q) ∧
  (∀ (l1 l2 : Option Value) (st : List Value) (h : pb_H) (Q : Option Value → pb_H → Prop) (x : Nat), pb_R 80 35 [some (.ref x), l1, l2] [] st h Q ↔ pb_R 80 36 [some (.ref x), l1, l2] [] (.ref x :: st) h Q) ∧
  (∀ (l1 l2 : Option Value) (st : List Value) (h : pb_H) (Q : Option Value → pb_H → Prop), pb_R 80 35 [some .null, l1, l2] [] st h Q ↔ pb_R 80 36 [some .null, l1, l2] [] (.null :: st) h Q) ∧
  (∀ (L : pb_L) (J : pb_J) (h : pb_H) (Q : Option Value → pb_H → Prop) (x0 : Nat), pb_R 80 36 L J [.ref x0] h Q ↔ pb_is0 (h.2 x0) 2 = true ∧ pb_call 78 [.ref x0] h (fun v t => pb_R 80 39 L J (v.toList ++ []) t Q)) ∧
  (∀ (L : pb_L) (J : pb_J) (st : List Value) (h : pb_H) (Q : Option Value → pb_H → Prop) (x : Int32), pb_R 80 39 L J (.int x :: st) h Q ↔ if ¬ x = 0 then pb_R 80 44 L J st h Q else pb_R 80 42 L J st h Q) ∧
  (∀ (L : pb_L) (J : pb_J) (st : List Value) (h : pb_H) (Q : Option Value → pb_H → Prop), pb_R 80 42 L J st h Q ↔ pb_R 80 43 L J (.int (0 : Int32) :: st) h Q) ∧
  (∀ (L : pb_L) (J : pb_J) (h : pb_H) (Q : Option Value → pb_H → Prop) (x : Int32), pb_R 80 43 L J [.int x] h Q ↔ narrow .boolean (.int x) = .int x ∧ Q (some (.int x)) h) ∧
  (∀ (l0 l1 : Option Value) (st : List Value) (h : pb_H) (Q : Option Value → pb_H → Prop) (x : Int32), pb_R 80 44 [l0, l1, some (.int x)] [] st h Q ↔ pb_R 80 47 [l0, l1, some (.int (x + (1 : Int32)))] [] st h Q) ∧
  (∀ (L : pb_L) (J : pb_J) (st : List Value) (h : pb_H) (Q : Option Value → pb_H → Prop), pb_R 80 47 L J st h Q ↔ pb_R 80 10 L J st h Q) ∧
  (∀ (l1 l2 : Option Value) (st : List Value) (h : pb_H) (Q : Option Value → pb_H → Prop) (x : Nat), pb_R 80 50 [some (.ref x), l1, l2] [] st h Q ↔ pb_R 80 51 [some (.ref x), l1, l2] [] (.ref x :: st) h Q) ∧
  (∀ (l1 l2 : Option Value) (st : List Value) (h : pb_H) (Q : Option Value → pb_H → Prop), pb_R 80 50 [some .null, l1, l2] [] st h Q ↔ pb_R 80 51 [some .null, l1, l2] [] (.null :: st) h Q) ∧
  (∀ (l1 l2 : Option Value) (st : List Value) (h : pb_H) (Q : Option Value → pb_H → Prop) (x : Nat), pb_R 80 51 [some (.ref x), l1, l2] [] st h Q ↔ pb_R 80 52 [some (.ref x), l1, l2] [] (.ref x :: st) h Q) ∧
  (∀ (l1 l2 : Option Value) (st : List Value) (h : pb_H) (Q : Option Value → pb_H → Prop), pb_R 80 51 [some .null, l1, l2] [] st h Q ↔ pb_R 80 52 [some .null, l1, l2] [] (.null :: st) h Q) ∧
  (∀ (L : pb_L) (J : pb_J) (st : List Value) (h : pb_H) (Q : Option Value → pb_H → Prop) (a : Nat), pb_R 80 52 L J (.ref a :: st) h Q ↔ pb_o (pb_gf (h.2 a) 2 0) (fun v => pb_R 80 55 L J (v :: st) h Q)) ∧
  (∀ (L : pb_L) (J : pb_J) (st : List Value) (h : pb_H) (Q : Option Value → pb_H → Prop) (a : Nat), pb_R 80 55 L J (.ref a :: st) h Q ↔ pb_o (pb_gf (h.2 a) 8 2) (fun v => pb_R 80 58 L J (v :: st) h Q)) ∧
  (∀ (L : pb_L) (J : pb_J) (st : List Value) (h : pb_H) (Q : Option Value → pb_H → Prop) (a : Nat) (x : Int32), pb_R 80 58 L J (.int x :: .ref a :: st) h Q ↔ pb_o (pb_pf (h.2 a) 2 4 (.int x)) (fun c => pb_R 80 61 L J st (pb_set h a c) Q)) ∧
  (∀ (l1 l2 : Option Value) (st : List Value) (h : pb_H) (Q : Option Value → pb_H → Prop) (x : Nat), pb_R 80 61 [some (.ref x), l1, l2] [] st h Q ↔ pb_R 80 62 [some (.ref x), l1, l2] [] (.ref x :: st) h Q) ∧
  (∀ (l1 l2 : Option Value) (st : List Value) (h : pb_H) (Q : Option Value → pb_H → Prop), pb_R 80 61 [some .null, l1, l2] [] st h Q ↔ pb_R 80 62 [some .null, l1, l2] [] (.null :: st) h Q) ∧
  (∀ (L : pb_L) (J : pb_J) (st : List Value) (h : pb_H) (Q : Option Value → pb_H → Prop) (a : Nat), pb_R 80 62 L J (.ref a :: st) h Q ↔ pb_o (pb_gf (h.2 a) 2 4) (fun v => pb_R 80 65 L J (v :: st) h Q)) ∧
  (∀ (L : pb_L) (J : pb_J) (st : List Value) (h : pb_H) (Q : Option Value → pb_H → Prop), pb_R 80 65 L J st h Q ↔ pb_R 80 67 L J (.int (62 : Int32) :: st) h Q) ∧
  (∀ (L : pb_L) (J : pb_J) (st : List Value) (h : pb_H) (Q : Option Value → pb_H → Prop) (x y : Int32), pb_R 80 67 L J (.int y :: .int x :: st) h Q ↔ if x = y then pb_R 80 90 L J st h Q else pb_R 80 70 L J st h Q) ∧
  (∀ (l0 l2 : Option Value) (st : List Value) (h : pb_H) (Q : Option Value → pb_H → Prop) (x : Int32), pb_R 80 70 [l0, some (.int x), l2] [] st h Q ↔ pb_R 80 71 [l0, some (.int x), l2] [] (.int x :: st) h Q) ∧
  (∀ (L : pb_L) (J : pb_J) (st : List Value) (h : pb_H) (Q : Option Value → pb_H → Prop) (x : Int32), pb_R 80 71 L J (.int x :: st) h Q ↔ if x = 0 then pb_R 80 81 L J st h Q else pb_R 80 74 L J st h Q) ∧
  (∀ (l1 l2 : Option Value) (st : List Value) (h : pb_H) (Q : Option Value → pb_H → Prop) (x : Nat), pb_R 80 74 [some (.ref x), l1, l2] [] st h Q ↔ pb_R 80 75 [some (.ref x), l1, l2] [] (.ref x :: st) h Q) ∧
  (∀ (l1 l2 : Option Value) (st : List Value) (h : pb_H) (Q : Option Value → pb_H → Prop), pb_R 80 74 [some .null, l1, l2] [] st h Q ↔ pb_R 80 75 [some .null, l1, l2] [] (.null :: st) h Q) ∧
  (∀ (L : pb_L) (J : pb_J) (h : pb_H) (Q : Option Value → pb_H → Prop) (x0 : Nat), pb_R 80 75 L J [.ref x0] h Q ↔ pb_is0 (h.2 x0) 2 = true ∧ pb_call 79 [.ref x0] h (fun v t => pb_R 80 78 L J (v.toList ++ []) t Q)) ∧
  (∀ (L : pb_L) (J : pb_J) (st : List Value) (h : pb_H) (Q : Option Value → pb_H → Prop) (x : Int32), pb_R 80 78 L J (.int x :: st) h Q ↔ if ¬ x = 0 then pb_R 80 90 L J st h Q else pb_R 80 81 L J st h Q) ∧
  (∀ (l1 l2 : Option Value) (st : List Value) (h : pb_H) (Q : Option Value → pb_H → Prop) (x : Nat), pb_R 80 81 [some (.ref x), l1, l2] [] st h Q ↔ pb_R 80 82 [some (.ref x), l1, l2] [] (.ref x :: st) h Q) ∧
  (∀ (l1 l2 : Option Value) (st : List Value) (h : pb_H) (Q : Option Value → pb_H → Prop), pb_R 80 81 [some .null, l1, l2] [] st h Q ↔ pb_R 80 82 [some .null, l1, l2] [] (.null :: st) h Q) ∧
  (∀ (L : pb_L) (J : pb_J) (st : List Value) (h : pb_H) (Q : Option Value → pb_H → Prop) (a : Nat), pb_R 80 82 L J (.ref a :: st) h Q ↔ pb_o (pb_gf (h.2 a) 2 0) (fun v => pb_R 80 85 L J (v :: st) h Q)) ∧
  (∀ (L : pb_L) (J : pb_J) (st : List Value) (h : pb_H) (Q : Option Value → pb_H → Prop), pb_R 80 85 L J st h Q ↔ pb_R 80 86 L J (.int (1 : Int32) :: st) h Q) ∧
  (∀ (L : pb_L) (J : pb_J) (h : pb_H) (Q : Option Value → pb_H → Prop) (x0 : Int32) (x1 : Nat), pb_R 80 86 L J [.int x0, .ref x1] h Q ↔ pb_is0 (h.2 x1) 8 = true ∧ pb_call 29 [.ref x1, .int x0] h (fun v t => pb_R 80 89 L J (v.toList ++ []) t Q)) ∧
  (∀ (L : pb_L) (J : pb_J) (h : pb_H) (Q : Option Value → pb_H → Prop) (x : Int32), pb_R 80 89 L J [.int x] h Q ↔ narrow .boolean (.int x) = .int x ∧ Q (some (.int x)) h) ∧
  (∀ (l1 l2 : Option Value) (st : List Value) (h : pb_H) (Q : Option Value → pb_H → Prop) (x : Nat), pb_R 80 90 [some (.ref x), l1, l2] [] st h Q ↔ pb_R 80 91 [some (.ref x), l1, l2] [] (.ref x :: st) h Q) ∧
  (∀ (l1 l2 : Option Value) (st : List Value) (h : pb_H) (Q : Option Value → pb_H → Prop), pb_R 80 90 [some .null, l1, l2] [] st h Q ↔ pb_R 80 91 [some .null, l1, l2] [] (.null :: st) h Q) ∧
  (∀ (L : pb_L) (J : pb_J) (st : List Value) (h : pb_H) (Q : Option Value → pb_H → Prop) (a : Nat), pb_R 80 91 L J (.ref a :: st) h Q ↔ pb_o (pb_gf (h.2 a) 2 0) (fun v => pb_R 80 94 L J (v :: st) h Q)) ∧
  (∀ (L : pb_L) (J : pb_J) (h : pb_H) (Q : Option Value → pb_H → Prop) (x0 : Nat), pb_R 80 94 L J [.ref x0] h Q ↔ pb_is0 (h.2 x0) 8 = true ∧ pb_call 23 [.ref x0] h (fun v t => pb_R 80 97 L J (v.toList ++ []) t Q)) ∧
  (∀ (l1 l2 : Option Value) (st : List Value) (h : pb_H) (Q : Option Value → pb_H → Prop) (x : Nat), pb_R 80 97 [some (.ref x), l1, l2] [] st h Q ↔ pb_R 80 98 [some (.ref x), l1, l2] [] (.ref x :: st) h Q) ∧
  (∀ (l1 l2 : Option Value) (st : List Value) (h : pb_H) (Q : Option Value → pb_H → Prop), pb_R 80 97 [some .null, l1, l2] [] st h Q ↔ pb_R 80 98 [some .null, l1, l2] [] (.null :: st) h Q) ∧
  (∀ (L : pb_L) (J : pb_J) (st : List Value) (h : pb_H) (Q : Option Value → pb_H → Prop) (a : Nat), pb_R 80 98 L J (.ref a :: st) h Q ↔ pb_o (pb_gf (h.2 a) 2 0) (fun v => pb_R 80 101 L J (v :: st) h Q)) ∧
  (∀ (L : pb_L) (J : pb_J) (st : List Value) (h : pb_H) (Q : Option Value → pb_H → Prop) (a : Nat), pb_R 80 101 L J (.ref a :: st) h Q ↔ pb_o (pb_gf (h.2 a) 8 2) (fun v => pb_R 80 104 L J (v :: st) h Q)) ∧
  (∀ (L : pb_L) (J : pb_J) (st : List Value) (h : pb_H) (Q : Option Value → pb_H → Prop), pb_R 80 104 L J st h Q ↔ pb_R 80 106 L J (.int (120 : Int32) :: st) h Q) ∧
  (∀ (L : pb_L) (J : pb_J) (st : List Value) (h : pb_H) (Q : Option Value → pb_H → Prop) (x y : Int32), pb_R 80 106 L J (.int y :: .int x :: st) h Q ↔ if ¬ x = y then pb_R 80 118 L J st h Q else pb_R 80 109 L J st h Q) ∧
  (∀ (l1 l2 : Option Value) (st : List Value) (h : pb_H) (Q : Option Value → pb_H → Prop) (x : Nat), pb_R 80 109 [some (.ref x), l1, l2] [] st h Q ↔ pb_R 80 110 [some (.ref x), l1, l2] [] (.ref x :: st) h Q) ∧
  (∀ (l1 l2 : Option Value) (st : List Value) (h : pb_H) (Q : Option Value → pb_H → Prop), pb_R 80 109 [some .null, l1, l2] [] st h Q ↔ pb_R 80 110 [some .null, l1, l2] [] (.null :: st) h Q) ∧
  (∀ (L : pb_L) (J : pb_J) (st : List Value) (h : pb_H) (Q : Option Value → pb_H → Prop) (a : Nat), pb_R 80 110 L J (.ref a :: st) h Q ↔ pb_o (pb_gf (h.2 a) 2 0) (fun v => pb_R 80 113 L J (v :: st) h Q)) ∧
  (∀ (L : pb_L) (J : pb_J) (st : List Value) (h : pb_H) (Q : Option Value → pb_H → Prop), pb_R 80 113 L J st h Q ↔ pb_R 80 114 L J (.int (1 : Int32) :: st) h Q) ∧
  (∀ (L : pb_L) (J : pb_J) (h : pb_H) (Q : Option Value → pb_H → Prop) (x0 : Int32) (x1 : Nat), pb_R 80 114 L J [.int x0, .ref x1] h Q ↔ pb_is0 (h.2 x1) 8 = true ∧ pb_call 29 [.ref x1, .int x0] h (fun v t => pb_R 80 117 L J (v.toList ++ []) t Q)) ∧
  (∀ (L : pb_L) (J : pb_J) (h : pb_H) (Q : Option Value → pb_H → Prop) (x : Int32), pb_R 80 117 L J [.int x] h Q ↔ narrow .boolean (.int x) = .int x ∧ Q (some (.int x)) h) ∧
  (∀ (l1 l2 : Option Value) (st : List Value) (h : pb_H) (Q : Option Value → pb_H → Prop) (x : Nat), pb_R 80 118 [some (.ref x), l1, l2] [] st h Q ↔ pb_R 80 119 [some (.ref x), l1, l2] [] (.ref x :: st) h Q) ∧
  (∀ (l1 l2 : Option Value) (st : List Value) (h : pb_H) (Q : Option Value → pb_H → Prop), pb_R 80 118 [some .null, l1, l2] [] st h Q ↔ pb_R 80 119 [some .null, l1, l2] [] (.null :: st) h Q) ∧
  (∀ (L : pb_L) (J : pb_J) (h : pb_H) (Q : Option Value → pb_H → Prop) (x0 : Nat), pb_R 80 119 L J [.ref x0] h Q ↔ pb_is0 (h.2 x0) 2 = true ∧ pb_call 77 [.ref x0] h (fun v t => pb_R 80 122 L J (v.toList ++ []) t Q)) ∧
  (∀ (L : pb_L) (J : pb_J) (st : List Value) (h : pb_H) (Q : Option Value → pb_H → Prop) (x : Int32), pb_R 80 122 L J (.int x :: st) h Q ↔ if ¬ x = 0 then pb_R 80 127 L J st h Q else pb_R 80 125 L J st h Q) ∧
  (∀ (L : pb_L) (J : pb_J) (st : List Value) (h : pb_H) (Q : Option Value → pb_H → Prop), pb_R 80 125 L J st h Q ↔ pb_R 80 126 L J (.int (0 : Int32) :: st) h Q) ∧
  (∀ (L : pb_L) (J : pb_J) (h : pb_H) (Q : Option Value → pb_H → Prop) (x : Int32), pb_R 80 126 L J [.int x] h Q ↔ narrow .boolean (.int x) = .int x ∧ Q (some (.int x)) h) ∧
  (∀ (l1 l2 : Option Value) (st : List Value) (h : pb_H) (Q : Option Value → pb_H → Prop) (x : Nat), pb_R 80 127 [some (.ref x), l1, l2] [] st h Q ↔ pb_R 80 128 [some (.ref x), l1, l2] [] (.ref x :: st) h Q) ∧
  (∀ (l1 l2 : Option Value) (st : List Value) (h : pb_H) (Q : Option Value → pb_H → Prop), pb_R 80 127 [some .null, l1, l2] [] st h Q ↔ pb_R 80 128 [some .null, l1, l2] [] (.null :: st) h Q) ∧
  (∀ (L : pb_L) (J : pb_J) (st : List Value) (h : pb_H) (Q : Option Value → pb_H → Prop) (a : Nat), pb_R 80 128 L J (.ref a :: st) h Q ↔ pb_o (pb_gf (h.2 a) 2 2) (fun v => pb_R 80 131 L J (v :: st) h Q)) ∧
  (∀ (L : pb_L) (J : pb_J) (st : List Value) (h : pb_H) (Q : Option Value → pb_H → Prop), pb_R 80 131 L J st h Q ↔ pb_R 80 132 L J (.int (0 : Int32) :: st) h Q) ∧
  (∀ (l1 l2 : Option Value) (st : List Value) (h : pb_H) (Q : Option Value → pb_H → Prop) (x : Nat), pb_R 80 132 [some (.ref x), l1, l2] [] st h Q ↔ pb_R 80 133 [some (.ref x), l1, l2] [] (.ref x :: st) h Q) ∧
  (∀ (l1 l2 : Option Value) (st : List Value) (h : pb_H) (Q : Option Value → pb_H → Prop), pb_R 80 132 [some .null, l1, l2] [] st h Q ↔ pb_R 80 133 [some .null, l1, l2] [] (.null :: st) h Q) ∧
  (∀ (L : pb_L) (J : pb_J) (st : List Value) (h : pb_H) (Q : Option Value → pb_H → Prop) (a : Nat), pb_R 80 133 L J (.ref a :: st) h Q ↔ pb_o (pb_gf (h.2 a) 2 3) (fun v => pb_R 80 136 L J (v :: st) h Q)) ∧
  (∀ (L : pb_L) (J : pb_J) (st : List Value) (h : pb_H) (Q : Option Value → pb_H → Prop), pb_R 80 136 L J st h Q ↔ pb_R 80 137 L J (.int (0 : Int32) :: st) h Q) ∧
  (∀ (L : pb_L) (J : pb_J) (st : List Value) (h : pb_H) (Q : Option Value → pb_H → Prop), pb_R 80 137 L J st h Q ↔ pb_R 80 139 L J (.int (8 : Int32) :: st) h Q) ∧
  (∀ (L : pb_L) (J : pb_J) (h : pb_H) (Q : Option Value → pb_H → Prop) (x0 : Int32) (x1 : Int32) (x2 : Nat) (x3 : Int32) (x4 : Nat), pb_R 80 139 L J [.int x0, .int x1, .ref x2, .int x3, .ref x4] h Q ↔ pb_call 59 [.ref x4, .int x3, .ref x2, .int x1, .int x0] h (fun v t => pb_R 80 142 L J (v.toList ++ []) t Q)) ∧
  (∀ (L : pb_L) (J : pb_J) (st : List Value) (x : Int32) (h : pb_H) (Q : Option Value → pb_H → Prop), pb_R 80 142 L J (.int x :: st) h Q ↔ pb_R 80 143 L J st h Q) ∧
  (∀ (l1 l2 : Option Value) (st : List Value) (h : pb_H) (Q : Option Value → pb_H → Prop) (x : Nat), pb_R 80 143 [some (.ref x), l1, l2] [] st h Q ↔ pb_R 80 144 [some (.ref x), l1, l2] [] (.ref x :: st) h Q) ∧
  (∀ (l1 l2 : Option Value) (st : List Value) (h : pb_H) (Q : Option Value → pb_H → Prop), pb_R 80 143 [some .null, l1, l2] [] st h Q ↔ pb_R 80 144 [some .null, l1, l2] [] (.null :: st) h Q) ∧
  (∀ (L : pb_L) (J : pb_J) (st : List Value) (h : pb_H) (Q : Option Value → pb_H → Prop) (a : Nat), pb_R 80 144 L J (.ref a :: st) h Q ↔ pb_o (pb_gf (h.2 a) 2 0) (fun v => pb_R 80 147 L J (v :: st) h Q)) ∧
  (∀ (L : pb_L) (J : pb_J) (st : List Value) (h : pb_H) (Q : Option Value → pb_H → Prop), pb_R 80 147 L J st h Q ↔ pb_R 80 149 L J (.int (59 : Int32) :: st) h Q) ∧
  (∀ (L : pb_L) (J : pb_J) (h : pb_H) (Q : Option Value → pb_H → Prop) (x0 : Int32) (x1 : Nat), pb_R 80 149 L J [.int x0, .ref x1] h Q ↔ pb_is0 (h.2 x1) 8 = true ∧ pb_call 76 [.ref x1, .int x0] h (fun v t => pb_R 80 152 L J (v.toList ++ []) t Q)) ∧
  (∀ (L : pb_L) (J : pb_J) (h : pb_H) (Q : Option Value → pb_H → Prop) (x : Int32), pb_R 80 152 L J [.int x] h Q ↔ narrow .boolean (.int x) = .int x ∧ Q (some (.int x)) h) := ⟨
  fun l1 l2 st h Q x => pf_S pb_u_80 rfl rfl,
  fun l1 l2 st h Q => pf_S pb_u_80 rfl rfl,
  fun L J st h Q a => pf_gf pb_u_80 rfl rfl,
  fun L J st h Q => pf_S pb_u_80 rfl rfl,
  fun L J h Q x0 x1 => pf_ks pb_u_80 rfl rfl rfl rfl,
  fun L J st h Q => pf_S pb_u_80 rfl rfl,
  fun l0 l1 l2 st h Q x => pf_S pb_u_80 rfl rfl,
  fun l1 l2 st h Q x => pf_S pb_u_80 rfl rfl,
  fun l1 l2 st h Q => pf_S pb_u_80 rfl rfl,
  fun L J st h Q a => pf_gf pb_u_80 rfl rfl,
  fun L J st h Q a => pf_gf pb_u_80 rfl rfl,
  fun L J st h Q x y => pf_ic pb_u_80 rfl rfl rfl,
  fun l1 l2 st h Q x => pf_S pb_u_80 rfl rfl,
  fun l1 l2 st h Q => pf_S pb_u_80 rfl rfl,
  fun L J h Q x0 => pf_kv pb_u_80 rfl pb_ci_75 rfl ⟨Nat.le_of_ble_eq_true rfl, Nat.le_of_ble_eq_true rfl, Nat.le_of_ble_eq_true rfl, Nat.le_of_ble_eq_true rfl, rfl⟩ rfl rfl,
  fun L J st h Q x => pf_ii pb_u_80 rfl rfl rfl,
  fun l1 l2 st h Q x => pf_S pb_u_80 rfl rfl,
  fun l1 l2 st h Q => pf_S pb_u_80 rfl rfl,
  fun L J h Q x0 => pf_kv pb_u_80 rfl pb_ci_77 rfl ⟨Nat.le_of_ble_eq_true rfl, Nat.le_of_ble_eq_true rfl, Nat.le_of_ble_eq_true rfl, Nat.le_of_ble_eq_true rfl, rfl⟩ rfl rfl,
  fun L J st h Q x => pf_ii pb_u_80 rfl rfl rfl,
  fun l1 l2 st h Q x => pf_S pb_u_80 rfl rfl,
  fun l1 l2 st h Q => pf_S pb_u_80 rfl rfl,
  fun L J h Q x0 => pf_kv pb_u_80 rfl pb_ci_78 rfl ⟨Nat.le_of_ble_eq_true rfl, Nat.le_of_ble_eq_true rfl, Nat.le_of_ble_eq_true rfl, Nat.le_of_ble_eq_true rfl, rfl⟩ rfl rfl,
  fun L J st h Q x => pf_ii pb_u_80 rfl rfl pf_ne,
  fun L J st h Q => pf_S pb_u_80 rfl rfl,
  fun L J h Q x => pf_rz pb_u_80 rfl rfl,
  fun l0 l1 st h Q x => pf_S pb_u_80 rfl rfl,
  fun L J st h Q => pf_S pb_u_80 rfl rfl,
  fun l1 l2 st h Q x => pf_S pb_u_80 rfl rfl,
  fun l1 l2 st h Q => pf_S pb_u_80 rfl rfl,
  fun l1 l2 st h Q x => pf_S pb_u_80 rfl rfl,
  fun l1 l2 st h Q => pf_S pb_u_80 rfl rfl,
  fun L J st h Q a => pf_gf pb_u_80 rfl rfl,
  fun L J st h Q a => pf_gf pb_u_80 rfl rfl,
  fun L J st h Q a x => pf_pf pb_u_80 rfl rfl,
  fun l1 l2 st h Q x => pf_S pb_u_80 rfl rfl,
  fun l1 l2 st h Q => pf_S pb_u_80 rfl rfl,
  fun L J st h Q a => pf_gf pb_u_80 rfl rfl,
  fun L J st h Q => pf_S pb_u_80 rfl rfl,
  fun L J st h Q x y => pf_ic pb_u_80 rfl rfl rfl,
  fun l0 l2 st h Q x => pf_S pb_u_80 rfl rfl,
  fun L J st h Q x => pf_ii pb_u_80 rfl rfl rfl,
  fun l1 l2 st h Q x => pf_S pb_u_80 rfl rfl,
  fun l1 l2 st h Q => pf_S pb_u_80 rfl rfl,
  fun L J h Q x0 => pf_kv pb_u_80 rfl pb_ci_79 rfl ⟨Nat.le_of_ble_eq_true rfl, Nat.le_of_ble_eq_true rfl, Nat.le_of_ble_eq_true rfl, Nat.le_of_ble_eq_true rfl, rfl⟩ rfl rfl,
  fun L J st h Q x => pf_ii pb_u_80 rfl rfl pf_ne,
  fun l1 l2 st h Q x => pf_S pb_u_80 rfl rfl,
  fun l1 l2 st h Q => pf_S pb_u_80 rfl rfl,
  fun L J st h Q a => pf_gf pb_u_80 rfl rfl,
  fun L J st h Q => pf_S pb_u_80 rfl rfl,
  fun L J h Q x0 x1 => pf_kv pb_u_80 rfl pb_ci_29 rfl ⟨Nat.le_of_ble_eq_true rfl, Nat.le_of_ble_eq_true rfl, Nat.le_of_ble_eq_true rfl, Nat.le_of_ble_eq_true rfl, rfl⟩ rfl rfl,
  fun L J h Q x => pf_rz pb_u_80 rfl rfl,
  fun l1 l2 st h Q x => pf_S pb_u_80 rfl rfl,
  fun l1 l2 st h Q => pf_S pb_u_80 rfl rfl,
  fun L J st h Q a => pf_gf pb_u_80 rfl rfl,
  fun L J h Q x0 => pf_kv pb_u_80 rfl pb_ci_23 rfl ⟨Nat.le_of_ble_eq_true rfl, Nat.le_of_ble_eq_true rfl, Nat.le_of_ble_eq_true rfl, Nat.le_of_ble_eq_true rfl, rfl⟩ rfl rfl,
  fun l1 l2 st h Q x => pf_S pb_u_80 rfl rfl,
  fun l1 l2 st h Q => pf_S pb_u_80 rfl rfl,
  fun L J st h Q a => pf_gf pb_u_80 rfl rfl,
  fun L J st h Q a => pf_gf pb_u_80 rfl rfl,
  fun L J st h Q => pf_S pb_u_80 rfl rfl,
  fun L J st h Q x y => pf_ic pb_u_80 rfl rfl pf_ne,
  fun l1 l2 st h Q x => pf_S pb_u_80 rfl rfl,
  fun l1 l2 st h Q => pf_S pb_u_80 rfl rfl,
  fun L J st h Q a => pf_gf pb_u_80 rfl rfl,
  fun L J st h Q => pf_S pb_u_80 rfl rfl,
  fun L J h Q x0 x1 => pf_kv pb_u_80 rfl pb_ci_29 rfl ⟨Nat.le_of_ble_eq_true rfl, Nat.le_of_ble_eq_true rfl, Nat.le_of_ble_eq_true rfl, Nat.le_of_ble_eq_true rfl, rfl⟩ rfl rfl,
  fun L J h Q x => pf_rz pb_u_80 rfl rfl,
  fun l1 l2 st h Q x => pf_S pb_u_80 rfl rfl,
  fun l1 l2 st h Q => pf_S pb_u_80 rfl rfl,
  fun L J h Q x0 => pf_kv pb_u_80 rfl pb_ci_77 rfl ⟨Nat.le_of_ble_eq_true rfl, Nat.le_of_ble_eq_true rfl, Nat.le_of_ble_eq_true rfl, Nat.le_of_ble_eq_true rfl, rfl⟩ rfl rfl,
  fun L J st h Q x => pf_ii pb_u_80 rfl rfl pf_ne,
  fun L J st h Q => pf_S pb_u_80 rfl rfl,
  fun L J h Q x => pf_rz pb_u_80 rfl rfl,
  fun l1 l2 st h Q x => pf_S pb_u_80 rfl rfl,
  fun l1 l2 st h Q => pf_S pb_u_80 rfl rfl,
  fun L J st h Q a => pf_gf pb_u_80 rfl rfl,
  fun L J st h Q => pf_S pb_u_80 rfl rfl,
  fun l1 l2 st h Q x => pf_S pb_u_80 rfl rfl,
  fun l1 l2 st h Q => pf_S pb_u_80 rfl rfl,
  fun L J st h Q a => pf_gf pb_u_80 rfl rfl,
  fun L J st h Q => pf_S pb_u_80 rfl rfl,
  fun L J st h Q => pf_S pb_u_80 rfl rfl,
  fun L J h Q x0 x1 x2 x3 x4 => pf_ks pb_u_80 rfl rfl rfl rfl,
  fun L J st x h Q => pf_S pb_u_80 rfl rfl,
  fun l1 l2 st h Q x => pf_S pb_u_80 rfl rfl,
  fun l1 l2 st h Q => pf_S pb_u_80 rfl rfl,
  fun L J st h Q a => pf_gf pb_u_80 rfl rfl,
  fun L J st h Q => pf_S pb_u_80 rfl rfl,
  fun L J h Q x0 x1 => pf_kv pb_u_80 rfl pb_ci_76 rfl ⟨Nat.le_of_ble_eq_true rfl, Nat.le_of_ble_eq_true rfl, Nat.le_of_ble_eq_true rfl, Nat.le_of_ble_eq_true rfl, rfl⟩ rfl rfl,
  fun L J h Q x => pf_rz pb_u_80 rfl rfl⟩
theorem pb_c80 (x0 : Nat) (x1 : Int32) (h : pb_H) (Q : Option Value → pb_H → Prop) : pb_call 80 [.ref x0, .int x1] h Q ↔ pb_R 80 0 [some (.ref x0), some (.int x1), none] [] [] h Q := Iff.rfl
/-! 81: PlaneBench$Line.setSums([IZ)V -/
theorem pb_u_81 : pb_t 81 = pb_t81 := rfl
theorem pb_ci_81 : pb_ci 81 = 4 := by decide +kernel
set_option maxRecDepth 100000 in
theorem pb_q81_32 (l0 l1 l2 l4 : Option Value) (st : List Value) (h : pb_H) (Q : Option Value → pb_H → Prop) (x : Int32) : pb_R 81 32 [l0, l1, l2, some (.int x), l4] [] st h Q ↔ pb_R 81 33 [l0, l1, l2, some (.int x), l4] [] (.int x :: st) h Q := pf_S pb_u_81 rfl rfl
set_option maxRecDepth 100000 in
theorem pb_q81_63 (l0 l1 l2 l4 : Option Value) (st : List Value) (h : pb_H) (Q : Option Value → pb_H → Prop) (x : Int32) : pb_R 81 63 [l0, l1, l2, some (.int x), l4] [] st h Q ↔ pb_R 81 64 [l0, l1, l2, some (.int x), l4] [] (.int x :: st) h Q := pf_S pb_u_81 rfl rfl
set_option maxRecDepth 100000 in
theorem pb_e81 : (∀ (l0 l2 l3 l4 : Option Value) (st : List Value) (h : pb_H) (Q : Option Value → pb_H → Prop) (x : Nat), pb_R 81 0 [l0, some (.ref x), l2, l3, l4] [] st h Q ↔ pb_R 81 1 [l0, some (.ref x), l2, l3, l4] [] (.ref x :: st) h Q) ∧
  (∀ (l0 l2 l3 l4 : Option Value) (st : List Value) (h : pb_H) (Q : Option Value → pb_H → Prop), pb_R 81 0 [l0, some .null, l2, l3, l4] [] st h Q ↔ pb_R 81 1 [l0, some .null, l2, l3, l4] [] (.null :: st) h Q) ∧
  (∀ (L : pb_L) (J : pb_J) (st : List Value) (h : pb_H) (Q : Option Value → pb_H → Prop), pb_R 81 1 L J st h Q ↔ pb_R 81 2 L J (.int (0 : Int32) :: st) h Q) ∧
  (∀ (l1 l2 l3 l4 : Option Value) (st : List Value) (h : pb_H) (Q : Option Value → pb_H → Prop) (x : Nat), pb_R 81 2 [some (.ref x), l1, l2, l3, l4] [] st h Q ↔ pb_R 81 3 [some (.ref x), l1, l2, l3, l4] [] (.ref x :: st) h Q) ∧
  (∀ (l1 l2 l3 l4 : Option Value) (st : List Value) (h : pb_H) (Q : Option Value → pb_H → Prop), pb_R 81 2 [some .null, l1, l2, l3, l4] [] st h Q ↔ pb_R 81 3 [some .null, l1, l2, l3, l4] [] (.null :: st) h Q) ∧
  (∀ (L : pb_L) (J : pb_J) (st : List Value) (h : pb_H) (Q : Option Value → pb_H → Prop) (a : Nat), pb_R 81 3 L J (.ref a :: st) h Q ↔ pb_o (pb_gf (h.2 a) 4 1) (fun v => pb_R 81 6 L J (v :: st) h Q)) ∧
  (∀ (L : pb_L) (J : pb_J) (st : List Value) (h : pb_H) (Q : Option Value → pb_H → Prop), pb_R 81 6 L J st h Q ↔ pb_R 81 7 L J (.int (0 : Int32) :: st) h Q) ∧
  (∀ (l1 l2 l3 l4 : Option Value) (st : List Value) (h : pb_H) (Q : Option Value → pb_H → Prop) (x : Nat), pb_R 81 7 [some (.ref x), l1, l2, l3, l4] [] st h Q ↔ pb_R 81 8 [some (.ref x), l1, l2, l3, l4] [] (.ref x :: st) h Q) ∧
  (∀ (l1 l2 l3 l4 : Option Value) (st : List Value) (h : pb_H) (Q : Option Value → pb_H → Prop), pb_R 81 7 [some .null, l1, l2, l3, l4] [] st h Q ↔ pb_R 81 8 [some .null, l1, l2, l3, l4] [] (.null :: st) h Q) ∧
  (∀ (L : pb_L) (J : pb_J) (st : List Value) (h : pb_H) (Q : Option Value → pb_H → Prop) (a : Nat), pb_R 81 8 L J (.ref a :: st) h Q ↔ pb_o (pb_gf (h.2 a) 4 1) (fun v => pb_R 81 11 L J (v :: st) h Q)) ∧
  (∀ (L : pb_L) (J : pb_J) (st : List Value) (h : pb_H) (Q : Option Value → pb_H → Prop) (a : Nat), pb_R 81 11 L J (.ref a :: st) h Q ↔ pb_o (pb_al2 (h.2 a)) (fun n => pb_R 81 12 L J (.int (Int32.ofNat n) :: st) h Q)) ∧
  (∀ (l0 l2 l3 l4 : Option Value) (st : List Value) (h : pb_H) (Q : Option Value → pb_H → Prop) (x : Nat), pb_R 81 12 [l0, some (.ref x), l2, l3, l4] [] st h Q ↔ pb_R 81 13 [l0, some (.ref x), l2, l3, l4] [] (.ref x :: st) h Q) ∧
  (∀ (l0 l2 l3 l4 : Option Value) (st : List Value) (h : pb_H) (Q : Option Value → pb_H → Prop), pb_R 81 12 [l0, some .null, l2, l3, l4] [] st h Q ↔ pb_R 81 13 [l0, some .null, l2, l3, l4] [] (.null :: st) h Q) ∧
  (∀ (L : pb_L) (J : pb_J) (st : List Value) (h : pb_H) (Q : Option Value → pb_H → Prop) (a : Nat), pb_R 81 13 L J (.ref a :: st) h Q ↔ pb_o (pb_al2 (h.2 a)) (fun n => pb_R 81 14 L J (.int (Int32.ofNat n) :: st) h Q)) ∧
  (∀ (L : pb_L) (J : pb_J) (h : pb_H) (Q : Option Value → pb_H → Prop) (x0 : Int32) (x1 : Int32) (x2 : Int32) (x3 : Nat) (x4 : Int32) (x5 : Nat), pb_R 81 14 L J [.int x0, .int x1, .int x2, .ref x3, .int x4, .ref x5] h Q ↔ pb_R 81 17 L J [.int (if x0 < x1 then x0 else x1), .int x2, .ref x3, .int x4, .ref x5] h Q) ∧
  (∀ (L : pb_L) (J : pb_J) (h : pb_H) (Q : Option Value → pb_H → Prop) (x0 : Int32) (x1 : Int32) (x2 : Nat) (x3 : Int32) (x4 : Nat), pb_R 81 17 L J [.int x0, .int x1, .ref x2, .int x3, .ref x4] h Q ↔ pb_o (pb_cp (h.2 x4) (h.2 x2) x3 x1 x0) (fun c => pb_R 81 20 L J [] (pb_set h x2 c) Q)) ∧
  (∀ (l1 l2 l3 l4 : Option Value) (st : List Value) (h : pb_H) (Q : Option Value → pb_H → Prop) (x : Nat), pb_R 81 20 [some (.ref x), l1, l2, l3, l4] [] st h Q ↔ pb_R 81 21 [some (.ref x), l1, l2, l3, l4] [] (.ref x :: st) h Q) ∧
  (∀ (l1 l2 l3 l4 : Option Value) (st : List Value) (h : pb_H) (Q : Option Value → pb_H → Prop), pb_R 81 20 [some .null, l1, l2, l3, l4] [] st h Q ↔ pb_R 81 21 [some .null, l1, l2, l3, l4] [] (.null :: st) h Q) ∧
  (∀ (L : pb_L) (J : pb_J) (st : List Value) (h : pb_H) (Q : Option Value → pb_H → Prop), pb_R 81 21 L J st h Q ↔ pb_R 81 22 L J (.int (0 : Int32) :: st) h Q) ∧
  (∀ (L : pb_L) (J : pb_J) (st : List Value) (h : pb_H) (Q : Option Value → pb_H → Prop) (a : Nat) (x : Int32), pb_R 81 22 L J (.int x :: .ref a :: st) h Q ↔ pb_o (pb_pf (h.2 a) 4 2 (.int x)) (fun c => pb_R 81 25 L J st (pb_set h a c) Q)) ∧
  (∀ (l1 l2 l3 l4 : Option Value) (st : List Value) (h : pb_H) (Q : Option Value → pb_H → Prop) (x : Nat), pb_R 81 25 [some (.ref x), l1, l2, l3, l4] [] st h Q ↔ pb_R 81 26 [some (.ref x), l1, l2, l3, l4] [] (.ref x :: st) h Q) ∧
  (∀ (l1 l2 l3 l4 : Option Value) (st : List Value) (h : pb_H) (Q : Option Value → pb_H → Prop), pb_R 81 25 [some .null, l1, l2, l3, l4] [] st h Q ↔ pb_R 81 26 [some .null, l1, l2, l3, l4] [] (.null :: st) h Q) ∧
  (∀ (L : pb_L) (J : pb_J) (st : List Value) (h : pb_H) (Q : Option Value → pb_H → Prop), pb_R 81 26 L J st h Q ↔ pb_R 81 27 L J (.int (0 : Int32) :: st) h Q) ∧
  (∀ (L : pb_L) (J : pb_J) (st : List Value) (h : pb_H) (Q : Option Value → pb_H → Prop) (a : Nat) (x : Int32), pb_R 81 27 L J (.int x :: .ref a :: st) h Q ↔ pb_o (pb_pf (h.2 a) 4 3 (.int x)) (fun c => pb_R 81 30 L J st (pb_set h a c) Q)) ∧
  (∀ (L : pb_L) (J : pb_J) (st : List Value) (h : pb_H) (Q : Option Value → pb_H → Prop), pb_R 81 30 L J st h Q ↔ pb_R 81 31 L J (.int (0 : Int32) :: st) h Q) ∧
  (∀ (l0 l1 l2 l3 l4 : Option Value) (st : List Value) (h : pb_H) (Q : Option Value → pb_H → Prop) (x : Int32), pb_R 81 31 [l0, l1, l2, l3, l4] [] (.int x :: st) h Q ↔ pb_R 81 32 [l0, l1, l2, some (.int x), l4] [] st h Q) ∧
  (∀ (l1 l2 l3 l4 : Option Value) (st : List Value) (h : pb_H) (Q : Option Value → pb_H → Prop) (x : Nat), pb_R 81 33 [some (.ref x), l1, l2, l3, l4] [] st h Q ↔ pb_R 81 34 [some (.ref x), l1, l2, l3, l4] [] (.ref x :: st) h Q) ∧
  (∀ (l1 l2 l3 l4 : Option Value) (st : List Value) (h : pb_H) (Q : Option Value → pb_H → Prop), pb_R 81 33 [some .null, l1, l2, l3, l4] [] st h Q ↔ pb_R 81 34 [some .null, l1, l2, l3, l4] [] (.null :: st) h Q) ∧
  (∀ (L : pb_L) (J : pb_J) (st : List Value) (h : pb_H) (Q : Option Value → pb_H → Prop) (a : Nat), pb_R 81 34 L J (.ref a :: st) h Q ↔ pb_o (pb_gf (h.2 a) 4 0) (fun v => pb_R 81 37 L J (v :: st) h Q)) ∧
  (∀ (L : pb_L) (J : pb_J) (st : List Value) (h : pb_H) (Q : Option Value → pb_H → Prop) (x y : Int32), pb_R 81 37 L J (.int y :: .int x :: st) h Q ↔ if y < x then pb_R 81 61 L J st h Q else pb_R 81 40 L J st h Q) ∧
  (∀ (l0 l1 l3 l4 : Option Value) (st : List Value) (h : pb_H) (Q : Option Value → pb_H → Prop) (x : Int32), pb_R 81 40 [l0, l1, some (.int x), l3, l4] [] st h Q ↔ pb_R 81 41 [l0, l1, some (.int x), l3, l4] [] (.int x :: st) h Q) ∧
  (∀ (L : pb_L) (J : pb_J) (st : List Value) (h : pb_H) (Q : Option Value → pb_H → Prop) (x : Int32), pb_R 81 41 L J (.int x :: st) h Q ↔ if x = 0 then pb_R 81 61 L J st h Q else pb_R 81 44 L J st h Q) ∧
  (∀ (l1 l2 l3 l4 : Option Value) (st : List Value) (h : pb_H) (Q : Option Value → pb_H → Prop) (x : Nat), pb_R 81 44 [some (.ref x), l1, l2, l3, l4] [] st h Q ↔ pb_R 81 45 [some (.ref x), l1, l2, l3, l4] [] (.ref x :: st) h Q) ∧
  (∀ (l1 l2 l3 l4 : Option Value) (st : List Value) (h : pb_H) (Q : Option Value → pb_H → Prop), pb_R 81 44 [some .null, l1, l2, l3, l4] [] st h Q ↔ pb_R 81 45 [some .null, l1, l2, l3, l4] [] (.null :: st) h Q) ∧
  (∀ (L : pb_L) (J : pb_J) (st : List Value) (h : pb_H) (Q : Option Value → pb_H → Prop) (a : Nat), pb_R 81 45 L J (.ref a :: st) h Q ↔ pb_o (pb_gf (h.2 a) 4 1) (fun v => pb_R 81 48 L J (v :: st) h Q)) ∧
  (∀ (l0 l1 l2 l4 : Option Value) (st : List Value) (h : pb_H) (Q : Option Value → pb_H → Prop) (x : Int32), pb_R 81 48 [l0, l1, l2, some (.int x), l4] [] st h Q ↔ pb_R 81 49 [l0, l1, l2, some (.int x), l4] [] (.int x :: st) h Q) ∧
  (∀ (L : pb_L) (J : pb_J) (st : List Value) (h : pb_H) (Q : Option Value → pb_H → Prop), pb_R 81 49 L J st h Q ↔ pb_R 81 51 L J (.int (8 : Int32) :: st) h Q) ∧
  (∀ (L : pb_L) (J : pb_J) (st : List Value) (x y : Int32) (h : pb_H) (Q : Option Value → pb_H → Prop), pb_R 81 51 L J (.int y :: .int x :: st) h Q ↔ pb_R 81 52 L J (.int (x * y) :: st) h Q) ∧
  (∀ (L : pb_L) (J : pb_J) (h : pb_H) (Q : Option Value → pb_H → Prop) (x0 : Int32) (x1 : Nat), pb_R 81 52 L J [.int x0, .ref x1] h Q ↔ pb_call 62 [.ref x1, .int x0] h (fun v t => pb_R 81 55 L J (v.toList ++ []) t Q)) ∧
  (∀ (l0 l1 l2 l4 : Option Value) (st : List Value) (h : pb_H) (Q : Option Value → pb_H → Prop) (x : Int32), pb_R 81 55 [l0, l1, l2, some (.int x), l4] [] st h Q ↔ pb_R 81 58 [l0, l1, l2, some (.int (x + (1 : Int32))), l4] [] st h Q) ∧
  (∀ (L : pb_L) (J : pb_J) (st : List Value) (h : pb_H) (Q : Option Value → pb_H → Prop), pb_R 81 58 L J st h Q ↔ pb_R 81 32 L J st h Q) ∧
  (∀ (L : pb_L) (J : pb_J) (st : List Value) (h : pb_H) (Q : Option Value → pb_H → Prop), pb_R 81 61 L J st h Q ↔ pb_R 81 62 L J (.int (1 : Int32) :: st) h Q) ∧
  (∀ (l0 l1 l2 l3 l4 : Option Value) (st : List Value) (h : pb_H) (Q : Option Value → pb_H → Prop) (x : Int32), pb_R 81 62 [l0, l1, l2, l3, l4] [] (.int x :: st) h Q ↔ pb_R 81 63 [l0, l1, l2, some (.int x), l4] [] st h Q) ∧
  (∀ (l1 l2 l3 l4 : Option Value) (st : List Value) (h : pb_H) (Q : Option Value → pb_H → Prop) (x : Nat), pb_R 81 64 [some (.ref x), l1, l2, l3, l4] [] st h Q ↔ pb_R 81 65 [some (.ref x), l1, l2, l3, l4] [] (.ref x :: st) h Q) ∧
  (∀ (l1 l2 l3 l4 : Option Value) (st : List Value) (h : pb_H) (Q : Option Value → pb_H → Prop), pb_R 81 64 [some .null, l1, l2, l3, l4] [] st h Q ↔ pb_R 81 65 [some .null, l1, l2, l3, l4] [] (.null :: st) h Q) ∧
  (∀ (L : pb_L) (J : pb_J) (st : List Value) (h : pb_H) (Q : Option Value → pb_H → Prop) (a : Nat), pb_R 81 65 L J (.ref a :: st) h Q ↔ pb_o (pb_gf (h.2 a) 4 0) (fun v => pb_R 81 68 L J (v :: st) h Q)) ∧
  (∀ (L : pb_L) (J : pb_J) (st : List Value) (h : pb_H) (Q : Option Value → pb_H → Prop) (x y : Int32), pb_R 81 68 L J (.int y :: .int x :: st) h Q ↔ if y < x then pb_R 81 151 L J st h Q else pb_R 81 71 L J st h Q) ∧
  (∀ (l0 l1 l2 l4 : Option Value) (st : List Value) (h : pb_H) (Q : Option Value → pb_H → Prop) (x : Int32), pb_R 81 71 [l0, l1, l2, some (.int x), l4] [] st h Q ↔ pb_R 81 72 [l0, l1, l2, some (.int x), l4] [] (.int x :: st) h Q) ∧
  (∀ (L : pb_L) (J : pb_J) (st : List Value) (h : pb_H) (Q : Option Value → pb_H → Prop), pb_R 81 72 L J st h Q ↔ pb_R 81 74 L J (.int (8 : Int32) :: st) h Q) ∧
  (∀ (L : pb_L) (J : pb_J) (st : List Value) (x y : Int32) (h : pb_H) (Q : Option Value → pb_H → Prop), pb_R 81 74 L J (.int y :: .int x :: st) h Q ↔ pb_R 81 75 L J (.int (x * y) :: st) h Q) ∧
  (∀ (l0 l1 l2 l3 l4 : Option Value) (st : List Value) (h : pb_H) (Q : Option Value → pb_H → Prop) (x : Int32), pb_R 81 75 [l0, l1, l2, l3, l4] [] (.int x :: st) h Q ↔ pb_R 81 77 [l0, l1, l2, l3, some (.int x)] [] st h Q) ∧
  (∀ (l1 l2 l3 l4 : Option Value) (st : List Value) (h : pb_H) (Q : Option Value → pb_H → Prop) (x : Nat), pb_R 81 77 [some (.ref x), l1, l2, l3, l4] [] st h Q ↔ pb_R 81 78 [some (.ref x), l1, l2, l3, l4] [] (.ref x :: st) h Q) ∧
  (∀ (l1 l2 l3 l4 : Option Value) (st : List Value) (h : pb_H) (Q : Option Value → pb_H → Prop), pb_R 81 77 [some .null, l1, l2, l3, l4] [] st h Q ↔ pb_R 81 78 [some .null, l1, l2, l3, l4] [] (.null :: st) h Q) ∧
  (∀ (L : pb_L) (J : pb_J) (st : List Value) (h : pb_H) (Q : Option Value → pb_H → Prop) (a : Nat), pb_R 81 78 L J (.ref a :: st) h Q ↔ pb_o (pb_gf (h.2 a) 4 1) (fun v => pb_R 81 81 L J (v :: st) h Q)) ∧
  (∀ (l0 l1 l2 l3 : Option Value) (st : List Value) (h : pb_H) (Q : Option Value → pb_H → Prop) (x : Int32), pb_R 81 81 [l0, l1, l2, l3, some (.int x)] [] st h Q ↔ pb_R 81 83 [l0, l1, l2, l3, some (.int x)] [] (.int x :: st) h Q) ∧
  (∀ (L : pb_L) (J : pb_J) (st : List Value) (h : pb_H) (Q : Option Value → pb_H → Prop), pb_R 81 83 L J st h Q ↔ pb_R 81 85 L J (.int (8 : Int32) :: st) h Q) ∧
  (∀ (L : pb_L) (J : pb_J) (st : List Value) (x y : Int32) (h : pb_H) (Q : Option Value → pb_H → Prop), pb_R 81 85 L J (.int y :: .int x :: st) h Q ↔ pb_R 81 86 L J (.int (x + y) :: st) h Q) ∧
  (∀ (L : pb_L) (J : pb_J) (st : List Value) (h : pb_H) (Q : Option Value → pb_H → Prop), pb_R 81 86 L J st h Q ↔ pb_R 81 87 L J (.int (1 : Int32) :: st) h Q) ∧
  (∀ (L : pb_L) (J : pb_J) (st : List Value) (x y : Int32) (h : pb_H) (Q : Option Value → pb_H → Prop), pb_R 81 87 L J (.int y :: .int x :: st) h Q ↔ pb_R 81 88 L J (.int (x - y) :: st) h Q) ∧
  (∀ (L : pb_L) (J : pb_J) (st : List Value) (h : pb_H) (Q : Option Value → pb_H → Prop) (a : Nat) (i : Int32), pb_R 81 88 L J (.int i :: .ref a :: st) h Q ↔ pb_o (pb_ai (h.2 a) i) (fun v => pb_R 81 89 L J (.int v :: st) h Q)) ∧
  (∀ (L : pb_L) (J : pb_J) (st : List Value) (h : pb_H) (Q : Option Value → pb_H → Prop) (x : Int32), pb_R 81 89 L J (.int x :: st) h Q ↔ if 0 ≤ x then pb_R 81 127 L J st h Q else pb_R 81 92 L J st h Q) ∧
  (∀ (l1 l2 l3 l4 : Option Value) (st : List Value) (h : pb_H) (Q : Option Value → pb_H → Prop) (x : Nat), pb_R 81 92 [some (.ref x), l1, l2, l3, l4] [] st h Q ↔ pb_R 81 93 [some (.ref x), l1, l2, l3, l4] [] (.ref x :: st) h Q) ∧
  (∀ (l1 l2 l3 l4 : Option Value) (st : List Value) (h : pb_H) (Q : Option Value → pb_H → Prop), pb_R 81 92 [some .null, l1, l2, l3, l4] [] st h Q ↔ pb_R 81 93 [some .null, l1, l2, l3, l4] [] (.null :: st) h Q) ∧
  (∀ (L : pb_L) (J : pb_J) (st : List Value) (h : pb_H) (Q : Option Value → pb_H → Prop) (a : Nat), pb_R 81 93 L J (.ref a :: st) h Q ↔ pb_o (pb_gf (h.2 a) 4 1) (fun v => pb_R 81 96 L J (v :: st) h Q)) ∧
  (∀ (l0 l1 l2 l3 : Option Value) (st : List Value) (h : pb_H) (Q : Option Value → pb_H → Prop) (x : Int32), pb_R 81 96 [l0, l1, l2, l3, some (.int x)] [] st h Q ↔ pb_R 81 98 [l0, l1, l2, l3, some (.int x)] [] (.int x :: st) h Q) ∧
  (∀ (L : pb_L) (J : pb_J) (h : pb_H) (Q : Option Value → pb_H → Prop) (x0 : Int32) (x1 : Nat), pb_R 81 98 L J [.int x0, .ref x1] h Q ↔ pb_call 62 [.ref x1, .int x0] h (fun v t => pb_R 81 101 L J (v.toList ++ []) t Q)) ∧
  (∀ (l1 l2 l3 l4 : Option Value) (st : List Value) (h : pb_H) (Q : Option Value → pb_H → Prop) (x : Nat), pb_R 81 101 [some (.ref x), l1, l2, l3, l4] [] st h Q ↔ pb_R 81 102 [some (.ref x), l1, l2, l3, l4] [] (.ref x :: st) h Q) ∧
  (∀ (l1 l2 l3 l4 : Option Value) (st : List Value) (h : pb_H) (Q : Option Value → pb_H → Prop), pb_R 81 101 [some .null, l1, l2, l3, l4] [] st h Q ↔ pb_R 81 102 [some .null, l1, l2, l3, l4] [] (.null :: st) h Q) ∧
  (∀ (L : pb_L) (J : pb_J) (st : List Value) (h : pb_H) (Q : Option Value → pb_H → Prop) (a : Nat), pb_R 81 102 L J (.ref a :: st) h Q ↔ pb_o (pb_gf (h.2 a) 4 1) (fun v => pb_R 81 105 L J (v :: st) h Q)) ∧
  (∀ (L : pb_L) (J : pb_J) (st : List Value) (h : pb_H) (Q : Option Value → pb_H → Prop), pb_R 81 105 L J st h Q ↔ pb_R 81 106 L J (.int (0 : Int32) :: st) h Q) ∧
  (∀ (l1 l2 l3 l4 : Option Value) (st : List Value) (h : pb_H) (Q : Option Value → pb_H → Prop) (x : Nat), pb_R 81 106 [some (.ref x), l1, l2, l3, l4] [] st h Q ↔ pb_R 81 107 [some (.ref x), l1, l2, l3, l4] [] (.ref x :: st) h Q) ∧
  (∀ (l1 l2 l3 l4 : Option Value) (st : List Value) (h : pb_H) (Q : Option Value → pb_H → Prop), pb_R 81 106 [some .null, l1, l2, l3, l4] [] st h Q ↔ pb_R 81 107 [some .null, l1, l2, l3, l4] [] (.null :: st) h Q) ∧
  (∀ (L : pb_L) (J : pb_J) (st : List Value) (h : pb_H) (Q : Option Value → pb_H → Prop) (a : Nat), pb_R 81 107 L J (.ref a :: st) h Q ↔ pb_o (pb_gf (h.2 a) 4 1) (fun v => pb_R 81 110 L J (v :: st) h Q)) ∧
  (∀ (l0 l1 l2 l3 : Option Value) (st : List Value) (h : pb_H) (Q : Option Value → pb_H → Prop) (x : Int32), pb_R 81 110 [l0, l1, l2, l3, some (.int x)] [] st h Q ↔ pb_R 81 112 [l0, l1, l2, l3, some (.int x)] [] (.int x :: st) h Q) ∧
  (∀ (L : pb_L) (J : pb_J) (st : List Value) (h : pb_H) (Q : Option Value → pb_H → Prop), pb_R 81 112 L J st h Q ↔ pb_R 81 114 L J (.int (8 : Int32) :: st) h Q) ∧
  (∀ (L : pb_L) (J : pb_J) (h : pb_H) (Q : Option Value → pb_H → Prop) (x0 : Int32) (x1 : Int32) (x2 : Nat) (x3 : Int32) (x4 : Nat), pb_R 81 114 L J [.int x0, .int x1, .ref x2, .int x3, .ref x4] h Q ↔ pb_call 59 [.ref x4, .int x3, .ref x2, .int x1, .int x0] h (fun v t => pb_R 81 117 L J (v.toList ++ []) t Q)) ∧
  (∀ (L : pb_L) (J : pb_J) (st : List Value) (x : Int32) (h : pb_H) (Q : Option Value → pb_H → Prop), pb_R 81 117 L J (.int x :: st) h Q ↔ pb_R 81 118 L J st h Q) ∧
  (∀ (l1 l2 l3 l4 : Option Value) (st : List Value) (h : pb_H) (Q : Option Value → pb_H → Prop) (x : Nat), pb_R 81 118 [some (.ref x), l1, l2, l3, l4] [] st h Q ↔ pb_R 81 119 [some (.ref x), l1, l2, l3, l4] [] (.ref x :: st) h Q) ∧
  (∀ (l1 l2 l3 l4 : Option Value) (st : List Value) (h : pb_H) (Q : Option Value → pb_H → Prop), pb_R 81 118 [some .null, l1, l2, l3, l4] [] st h Q ↔ pb_R 81 119 [some .null, l1, l2, l3, l4] [] (.null :: st) h Q) ∧
  (∀ (l0 l1 l2 l4 : Option Value) (st : List Value) (h : pb_H) (Q : Option Value → pb_H → Prop) (x : Int32), pb_R 81 119 [l0, l1, l2, some (.int x), l4] [] st h Q ↔ pb_R 81 120 [l0, l1, l2, some (.int x), l4] [] (.int x :: st) h Q) ∧
  (∀ (L : pb_L) (J : pb_J) (st : List Value) (h : pb_H) (Q : Option Value → pb_H → Prop), pb_R 81 120 L J st h Q ↔ pb_R 81 121 L J (.int (-1 : Int32) :: st) h Q) ∧
  (∀ (L : pb_L) (J : pb_J) (h : pb_H) (Q : Option Value → pb_H → Prop) (x0 : Int32) (x1 : Int32) (x2 : Nat), pb_R 81 121 L J [.int x0, .int x1, .ref x2] h Q ↔ pb_is0 (h.2 x2) 4 = true ∧ pb_call 54 [.ref x2, .int x1, .int x0] h (fun v t => pb_R 81 124 L J (v.toList ++ []) t Q)) ∧
  (∀ (L : pb_L) (J : pb_J) (st : List Value) (h : pb_H) (Q : Option Value → pb_H → Prop), pb_R 81 124 L J st h Q ↔ pb_R 81 145 L J st h Q) ∧
  (∀ (l1 l2 l3 l4 : Option Value) (st : List Value) (h : pb_H) (Q : Option Value → pb_H → Prop) (x : Nat), pb_R 81 127 [some (.ref x), l1, l2, l3, l4] [] st h Q ↔ pb_R 81 128 [some (.ref x), l1, l2, l3, l4] [] (.ref x :: st) h Q) ∧
  (∀ (l1 l2 l3 l4 : Option Value) (st : List Value) (h : pb_H) (Q : Option Value → pb_H → Prop), pb_R 81 127 [some .null, l1, l2, l3, l4] [] st h Q ↔ pb_R 81 128 [some .null, l1, l2, l3, l4] [] (.null :: st) h Q) ∧
  (∀ (L : pb_L) (J : pb_J) (st : List Value) (h : pb_H) (Q : Option Value → pb_H → Prop) (a : Nat), pb_R 81 128 L J (.ref a :: st) h Q ↔ pb_o (pb_gf (h.2 a) 4 1) (fun v => pb_R 81 131 L J (v :: st) h Q)) ∧
  (∀ (l0 l1 l2 l3 : Option Value) (st : List Value) (h : pb_H) (Q : Option Value → pb_H → Prop) (x : Int32), pb_R 81 131 [l0, l1, l2, l3, some (.int x)] [] st h Q ↔ pb_R 81 133 [l0, l1, l2, l3, some (.int x)] [] (.int x :: st) h Q) ∧
  (∀ (L : pb_L) (J : pb_J) (h : pb_H) (Q : Option Value → pb_H → Prop) (x0 : Int32) (x1 : Nat), pb_R 81 133 L J [.int x0, .ref x1] h Q ↔ pb_call 4 [.ref x1, .int x0] h (fun v t => pb_R 81 136 L J (v.toList ++ []) t Q)) ∧
  (∀ (L : pb_L) (J : pb_J) (st : List Value) (h : pb_H) (Q : Option Value → pb_H → Prop) (x : Int32), pb_R 81 136 L J (.int x :: st) h Q ↔ if x ≤ 0 then pb_R 81 145 L J st h Q else pb_R 81 139 L J st h Q) ∧
  (∀ (l1 l2 l3 l4 : Option Value) (st : List Value) (h : pb_H) (Q : Option Value → pb_H → Prop) (x : Nat), pb_R 81 139 [some (.ref x), l1, l2, l3, l4] [] st h Q ↔ pb_R 81 140 [some (.ref x), l1, l2, l3, l4] [] (.ref x :: st) h Q) ∧
  (∀ (l1 l2 l3 l4 : Option Value) (st : List Value) (h : pb_H) (Q : Option Value → pb_H → Prop), pb_R 81 139 [some .null, l1, l2, l3, l4] [] st h Q ↔ pb_R 81 140 [some .null, l1, l2, l3, l4] [] (.null :: st) h Q) ∧
  (∀ (l0 l1 l2 l4 : Option Value) (st : List Value) (h : pb_H) (Q : Option Value → pb_H → Prop) (x : Int32), pb_R 81 140 [l0, l1, l2, some (.int x), l4] [] st h Q ↔ pb_R 81 141 [l0, l1, l2, some (.int x), l4] [] (.int x :: st) h Q) ∧
  (∀ (L : pb_L) (J : pb_J) (st : List Value) (h : pb_H) (Q : Option Value → pb_H → Prop), pb_R 81 141 L J st h Q ↔ pb_R 81 142 L J (.int (1 : Int32) :: st) h Q) ∧
  (∀ (L : pb_L) (J : pb_J) (h : pb_H) (Q : Option Value → pb_H → Prop) (x0 : Int32) (x1 : Int32) (x2 : Nat), pb_R 81 142 L J [.int x0, .int x1, .ref x2] h Q ↔ pb_is0 (h.2 x2) 4 = true ∧ pb_call 54 [.ref x2, .int x1, .int x0] h (fun v t => pb_R 81 145 L J (v.toList ++ []) t Q)) ∧
  (∀ (l0 l1 l2 l4 : Option Value) (st : List Value) (h : pb_H) (Q : Option Value → pb_H → Prop) (x : Int32), pb_R 81 145 [l0, l1, l2, some (.int x), l4] [] st h Q ↔ pb_R 81 148 [l0, l1, l2, some (.int (x + (1 : Int32))), l4] [] st h Q) ∧
  (∀ (L : pb_L) (J : pb_J) (st : List Value) (h : pb_H) (Q : Option Value → pb_H → Prop), pb_R 81 148 L J st h Q ↔ pb_R 81 63 L J st h Q) ∧
  (∀ (l1 l2 l3 l4 : Option Value) (st : List Value) (h : pb_H) (Q : Option Value → pb_H → Prop) (x : Nat), pb_R 81 151 [some (.ref x), l1, l2, l3, l4] [] st h Q ↔ pb_R 81 152 [some (.ref x), l1, l2, l3, l4] [] (.ref x :: st) h Q) ∧
  (∀ (l1 l2 l3 l4 : Option Value) (st : List Value) (h : pb_H) (Q : Option Value → pb_H → Prop), pb_R 81 151 [some .null, l1, l2, l3, l4] [] st h Q ↔ pb_R 81 152 [some .null, l1, l2, l3, l4] [] (.null :: st) h Q) ∧
  (∀ (L : pb_L) (J : pb_J) (st : List Value) (h : pb_H) (Q : Option Value → pb_H → Prop) (a : Nat), pb_R 81 152 L J (.ref a :: st) h Q ↔ pb_o (pb_gf (h.2 a) 4 1) (fun v => pb_R 81 155 L J (v :: st) h Q)) ∧
  (∀ (L : pb_L) (J : pb_J) (st : List Value) (h : pb_H) (Q : Option Value → pb_H → Prop), pb_R 81 155 L J st h Q ↔ pb_R 81 157 L J (.int (7 : Int32) :: st) h Q) ∧
  (∀ (L : pb_L) (J : pb_J) (st : List Value) (h : pb_H) (Q : Option Value → pb_H → Prop) (a : Nat) (i : Int32), pb_R 81 157 L J (.int i :: .ref a :: st) h Q ↔ pb_o (pb_ai (h.2 a) i) (fun v => pb_R 81 158 L J (.int v :: st) h Q)) ∧
  (∀ (L : pb_L) (J : pb_J) (st : List Value) (h : pb_H) (Q : Option Value → pb_H → Prop) (x : Int32), pb_R 81 158 L J (.int x :: st) h Q ↔ if 0 ≤ x then pb_R 81 170 L J st h Q else pb_R 81 161 L J st h Q) ∧
  (∀ (l1 l2 l3 l4 : Option Value) (st : List Value) (h : pb_H) (Q : Option Value → pb_H → Prop) (x : Nat), pb_R 81 161 [some (.ref x), l1, l2, l3, l4] [] st h Q ↔ pb_R 81 162 [some (.ref x), l1, l2, l3, l4] [] (.ref x :: st) h Q) ∧
  (∀ (l1 l2 l3 l4 : Option Value) (st : List Value) (h : pb_H) (Q : Option Value → pb_H → Prop), pb_R 81 161 [some .null, l1, l2, l3, l4] [] st h Q ↔ pb_R 81 162 [some .null, l1, l2, l3, l4] [] (.null :: st) h Q) ∧
  (∀ (L : pb_L) (J : pb_J) (st : List Value) (h : pb_H) (Q : Option Value → pb_H → Prop) (a : Nat), pb_R 81 162 L J (.ref a :: st) h Q ↔ pb_o (pb_gf (h.2 a) 4 1) (fun v => pb_R 81 165 L J (v :: st) h Q)) ∧
  (∀ (L : pb_L) (J : pb_J) (st : List Value) (h : pb_H) (Q : Option Value → pb_H → Prop), pb_R 81 165 L J st h Q ↔ pb_R 81 166 L J (.int (0 : Int32) :: st) h Q) ∧
  (∀ (L : pb_L) (J : pb_J) (st : List Value) (h : pb_H) (Q : Option Value → pb_H → Prop), pb_R 81 166 L J st h Q ↔ pb_R 81 167 L J (.int (0 : Int32) :: st) h Q) ∧
  (∀ (L : pb_L) (J : pb_J) (h : pb_H) (Q : Option Value → pb_H → Prop) (x0 : Int32) (x1 : Int32) (x2 : Nat), pb_R 81 167 L J [.int x0, .int x1, .ref x2] h Q ↔ pb_call 52 [.ref x2, .int x1, .int x0] h (fun v t => pb_R 81 170 L J (v.toList ++ []) t Q)) ∧
  (∀ (l1 l2 l3 l4 : Option Value) (st : List Value) (h : pb_H) (Q : Option Value → pb_H → Prop) (x : Nat), pb_R 81 170 [some (.ref x), l1, l2, l3, l4] [] st h Q ↔ pb_R 81 171 [some (.ref x), l1, l2, l3, l4] [] (.ref x :: st) h Q) ∧
  (∀ (l1 l2 l3 l4 : Option Value) (st : List Value) (h : pb_H) (Q : Option Value → pb_H → Prop), pb_R 81 170 [some .null, l1, l2, l3, l4] [] st h Q ↔ pb_R 81 171 [some .null, l1, l2, l3, l4] [] (.null :: st) h Q) ∧
  (∀ (L : pb_L) (J : pb_J) (st : List Value) (h : pb_H) (Q : Option Value → pb_H → Prop), pb_R 81 171 L J st h Q ↔ pb_R 81 173 L J (.int (8 : Int32) :: st) h Q) ∧
  (∀ (L : pb_L) (J : pb_J) (h : pb_H) (Q : Option Value → pb_H → Prop) (x0 : Int32) (x1 : Nat), pb_R 81 173 L J [.int x0, .ref x1] h Q ↔ pb_is0 (h.2 x1) 4 = true ∧ pb_call 39 [.ref x1, .int x0] h (fun v t => pb_R 81 176 L J (v.toList ++ []) t Q)) ∧
  (∀ (L : pb_L) (J : pb_J) (h : pb_H) (Q : Option Value → pb_H → Prop), pb_R 81 176 L J [] h Q ↔ Q none h) := ⟨
  fun l0 l2 l3 l4 st h Q x => pf_S pb_u_81 rfl rfl,
  fun l0 l2 l3 l4 st h Q => pf_S pb_u_81 rfl rfl,
  fun L J st h Q => pf_S pb_u_81 rfl rfl,
  fun l1 l2 l3 l4 st h Q x => pf_S pb_u_81 rfl rfl,
  fun l1 l2 l3 l4 st h Q => pf_S pb_u_81 rfl rfl,
  fun L J st h Q a => pf_gf pb_u_81 rfl rfl,
  fun L J st h Q => pf_S pb_u_81 rfl rfl,
  fun l1 l2 l3 l4 st h Q x => pf_S pb_u_81 rfl rfl,
  fun l1 l2 l3 l4 st h Q => pf_S pb_u_81 rfl rfl,
  fun L J st h Q a => pf_gf pb_u_81 rfl rfl,
  fun L J st h Q a => pf_le pb_u_81 rfl rfl,
  fun l0 l2 l3 l4 st h Q x => pf_S pb_u_81 rfl rfl,
  fun l0 l2 l3 l4 st h Q => pf_S pb_u_81 rfl rfl,
  fun L J st h Q a => pf_le pb_u_81 rfl rfl,
  fun L J h Q x0 x1 x2 x3 x4 x5 => pf_S pb_u_81 rfl rfl,
  fun L J h Q x0 x1 x2 x3 x4 => pf_cp pb_u_81 rfl rfl,
  fun l1 l2 l3 l4 st h Q x => pf_S pb_u_81 rfl rfl,
  fun l1 l2 l3 l4 st h Q => pf_S pb_u_81 rfl rfl,
  fun L J st h Q => pf_S pb_u_81 rfl rfl,
  fun L J st h Q a x => pf_pf pb_u_81 rfl rfl,
  fun l1 l2 l3 l4 st h Q x => pf_S pb_u_81 rfl rfl,
  fun l1 l2 l3 l4 st h Q => pf_S pb_u_81 rfl rfl,
  fun L J st h Q => pf_S pb_u_81 rfl rfl,
  fun L J st h Q a x => pf_pf pb_u_81 rfl rfl,
  fun L J st h Q => pf_S pb_u_81 rfl rfl,
  fun l0 l1 l2 l3 l4 st h Q x => pf_S pb_u_81 rfl rfl,
  fun l1 l2 l3 l4 st h Q x => pf_S pb_u_81 rfl rfl,
  fun l1 l2 l3 l4 st h Q => pf_S pb_u_81 rfl rfl,
  fun L J st h Q a => pf_gf pb_u_81 rfl rfl,
  fun L J st h Q x y => pf_ic pb_u_81 rfl rfl rfl,
  fun l0 l1 l3 l4 st h Q x => pf_S pb_u_81 rfl rfl,
  fun L J st h Q x => pf_ii pb_u_81 rfl rfl rfl,
  fun l1 l2 l3 l4 st h Q x => pf_S pb_u_81 rfl rfl,
  fun l1 l2 l3 l4 st h Q => pf_S pb_u_81 rfl rfl,
  fun L J st h Q a => pf_gf pb_u_81 rfl rfl,
  fun l0 l1 l2 l4 st h Q x => pf_S pb_u_81 rfl rfl,
  fun L J st h Q => pf_S pb_u_81 rfl rfl,
  fun L J st x y h Q => pf_S pb_u_81 rfl rfl,
  fun L J h Q x0 x1 => pf_ks pb_u_81 rfl rfl rfl rfl,
  fun l0 l1 l2 l4 st h Q x => pf_S pb_u_81 rfl rfl,
  fun L J st h Q => pf_S pb_u_81 rfl rfl,
  fun L J st h Q => pf_S pb_u_81 rfl rfl,
  fun l0 l1 l2 l3 l4 st h Q x => pf_S pb_u_81 rfl rfl,
  fun l1 l2 l3 l4 st h Q x => pf_S pb_u_81 rfl rfl,
  fun l1 l2 l3 l4 st h Q => pf_S pb_u_81 rfl rfl,
  fun L J st h Q a => pf_gf pb_u_81 rfl rfl,
  fun L J st h Q x y => pf_ic pb_u_81 rfl rfl rfl,
  fun l0 l1 l2 l4 st h Q x => pf_S pb_u_81 rfl rfl,
  fun L J st h Q => pf_S pb_u_81 rfl rfl,
  fun L J st x y h Q => pf_S pb_u_81 rfl rfl,
  fun l0 l1 l2 l3 l4 st h Q x => pf_S pb_u_81 rfl rfl,
  fun l1 l2 l3 l4 st h Q x => pf_S pb_u_81 rfl rfl,
  fun l1 l2 l3 l4 st h Q => pf_S pb_u_81 rfl rfl,
  fun L J st h Q a => pf_gf pb_u_81 rfl rfl,
  fun l0 l1 l2 l3 st h Q x => pf_S pb_u_81 rfl rfl,
  fun L J st h Q => pf_S pb_u_81 rfl rfl,
  fun L J st x y h Q => pf_S pb_u_81 rfl rfl,
  fun L J st h Q => pf_S pb_u_81 rfl rfl,
  fun L J st x y h Q => pf_S pb_u_81 rfl rfl,
  fun L J st h Q a i => pf_ai pb_u_81 rfl rfl,
  fun L J st h Q x => pf_ii pb_u_81 rfl rfl rfl,
  fun l1 l2 l3 l4 st h Q x => pf_S pb_u_81 rfl rfl,
  fun l1 l2 l3 l4 st h Q => pf_S pb_u_81 rfl rfl,
  fun L J st h Q a => pf_gf pb_u_81 rfl rfl,
  fun l0 l1 l2 l3 st h Q x => pf_S pb_u_81 rfl rfl,
  fun L J h Q x0 x1 => pf_ks pb_u_81 rfl rfl rfl rfl,
  fun l1 l2 l3 l4 st h Q x => pf_S pb_u_81 rfl rfl,
  fun l1 l2 l3 l4 st h Q => pf_S pb_u_81 rfl rfl,
  fun L J st h Q a => pf_gf pb_u_81 rfl rfl,
  fun L J st h Q => pf_S pb_u_81 rfl rfl,
  fun l1 l2 l3 l4 st h Q x => pf_S pb_u_81 rfl rfl,
  fun l1 l2 l3 l4 st h Q => pf_S pb_u_81 rfl rfl,
  fun L J st h Q a => pf_gf pb_u_81 rfl rfl,
  fun l0 l1 l2 l3 st h Q x => pf_S pb_u_81 rfl rfl,
  fun L J st h Q => pf_S pb_u_81 rfl rfl,
  fun L J h Q x0 x1 x2 x3 x4 => pf_ks pb_u_81 rfl rfl rfl rfl,
  fun L J st x h Q => pf_S pb_u_81 rfl rfl,
  fun l1 l2 l3 l4 st h Q x => pf_S pb_u_81 rfl rfl,
  fun l1 l2 l3 l4 st h Q => pf_S pb_u_81 rfl rfl,
  fun l0 l1 l2 l4 st h Q x => pf_S pb_u_81 rfl rfl,
  fun L J st h Q => pf_S pb_u_81 rfl rfl,
  fun L J h Q x0 x1 x2 => pf_kv pb_u_81 rfl pb_ci_54 rfl ⟨Nat.le_of_ble_eq_true rfl, Nat.le_of_ble_eq_true rfl, Nat.le_of_ble_eq_true rfl, Nat.le_of_ble_eq_true rfl, rfl⟩ rfl rfl,
  fun L J st h Q => pf_S pb_u_81 rfl rfl,
  fun l1 l2 l3 l4 st h Q x => pf_S pb_u_81 rfl rfl,
  fun l1 l2 l3 l4 st h Q => pf_S pb_u_81 rfl rfl,
  fun L J st h Q a => pf_gf pb_u_81 rfl rfl,
  fun l0 l1 l2 l3 st h Q x => pf_S pb_u_81 rfl rfl,
  fun L J h Q x0 x1 => pf_ks pb_u_81 rfl rfl rfl rfl,
  fun L J st h Q x => pf_ii pb_u_81 rfl rfl rfl,
  fun l1 l2 l3 l4 st h Q x => pf_S pb_u_81 rfl rfl,
  fun l1 l2 l3 l4 st h Q => pf_S pb_u_81 rfl rfl,
  fun l0 l1 l2 l4 st h Q x => pf_S pb_u_81 rfl rfl,
  fun L J st h Q => pf_S pb_u_81 rfl rfl,
  fun L J h Q x0 x1 x2 => pf_kv pb_u_81 rfl pb_ci_54 rfl ⟨Nat.le_of_ble_eq_true rfl, Nat.le_of_ble_eq_true rfl, Nat.le_of_ble_eq_true rfl, Nat.le_of_ble_eq_true rfl, rfl⟩ rfl rfl,
  fun l0 l1 l2 l4 st h Q x => pf_S pb_u_81 rfl rfl,
  fun L J st h Q => pf_S pb_u_81 rfl rfl,
  fun l1 l2 l3 l4 st h Q x => pf_S pb_u_81 rfl rfl,
  fun l1 l2 l3 l4 st h Q => pf_S pb_u_81 rfl rfl,
  fun L J st h Q a => pf_gf pb_u_81 rfl rfl,
  fun L J st h Q => pf_S pb_u_81 rfl rfl,
  fun L J st h Q a i => pf_ai pb_u_81 rfl rfl,
  fun L J st h Q x => pf_ii pb_u_81 rfl rfl rfl,
  fun l1 l2 l3 l4 st h Q x => pf_S pb_u_81 rfl rfl,
  fun l1 l2 l3 l4 st h Q => pf_S pb_u_81 rfl rfl,
  fun L J st h Q a => pf_gf pb_u_81 rfl rfl,
  fun L J st h Q => pf_S pb_u_81 rfl rfl,
  fun L J st h Q => pf_S pb_u_81 rfl rfl,
  fun L J h Q x0 x1 x2 => pf_ks pb_u_81 rfl rfl rfl rfl,
  fun l1 l2 l3 l4 st h Q x => pf_S pb_u_81 rfl rfl,
  fun l1 l2 l3 l4 st h Q => pf_S pb_u_81 rfl rfl,
  fun L J st h Q => pf_S pb_u_81 rfl rfl,
  fun L J h Q x0 x1 => pf_kv pb_u_81 rfl pb_ci_39 rfl ⟨Nat.le_of_ble_eq_true rfl, Nat.le_of_ble_eq_true rfl, Nat.le_of_ble_eq_true rfl, Nat.le_of_ble_eq_true rfl, rfl⟩ rfl rfl,
  fun L J h Q => pf_rv pb_u_81 rfl rfl⟩
theorem pb_c81 (x0 : Nat) (x1 : Nat) (x2 : Int32) (h : pb_H) (Q : Option Value → pb_H → Prop) : pb_call 81 [.ref x0, .ref x1, .int x2] h Q ↔ pb_R 81 0 [some (.ref x0), some (.ref x1), some (.int x2), none, none] [] [] h Q := Iff.rfl
/-! 82: PlaneBench$Line.setOpposite(LPlaneBench$Line;)V -/
theorem pb_u_82 : pb_t 82 = pb_t82 := rfl
theorem pb_ci_82 : pb_ci 82 = 4 := by decide +kernel
set_option maxRecDepth 100000 in
theorem pb_q82_32 (l0 l1 : Option Value) (st : List Value) (h : pb_H) (Q : Option Value → pb_H → Prop) (x : Int32) : pb_R 82 32 [l0, l1, some (.int x)] [] st h Q ↔ pb_R 82 33 [l0, l1, some (.int x)] [] (.int x :: st) h Q := pf_S pb_u_82 rfl rfl
set_option maxRecDepth 100000 in
theorem pb_e82 : (∀ (l1 l2 : Option Value) (st : List Value) (h : pb_H) (Q : Option Value → pb_H → Prop) (x : Nat), pb_R 82 0 [some (.ref x), l1, l2] [] st h Q ↔ pb_R 82 1 [some (.ref x), l1, l2] [] (.ref x :: st) h Q) ∧
  (∀ (l1 l2 : Option Value) (st : List Value) (h : pb_H) (Q : Option Value → pb_H → Prop), pb_R 82 0 [some .null, l1, l2] [] st h Q ↔ pb_R 82 1 [some .null, l1, l2] [] (.null :: st) h Q) ∧
  (∀ (l0 l2 : Option Value) (st : List Value) (h : pb_H) (Q : Option Value → pb_H → Prop) (x : Nat), pb_R 82 1 [l0, some (.ref x), l2] [] st h Q ↔ pb_R 82 2 [l0, some (.ref x), l2] [] (.ref x :: st) h Q) ∧
  (∀ (l0 l2 : Option Value) (st : List Value) (h : pb_H) (Q : Option Value → pb_H → Prop), pb_R 82 1 [l0, some .null, l2] [] st h Q ↔ pb_R 82 2 [l0, some .null, l2] [] (.null :: st) h Q) ∧
  (∀ (L : pb_L) (J : pb_J) (h : pb_H) (Q : Option Value → pb_H → Prop) (x0 : Nat) (x1 : Nat), pb_R 82 2 L J [.ref x0, .ref x1] h Q ↔ pb_is0 (h.2 x1) 4 = true ∧ pb_call 48 [.ref x1, .ref x0] h (fun v t => pb_R 82 5 L J (v.toList ++ []) t Q)) ∧
  (∀ (l1 l2 : Option Value) (st : List Value) (h : pb_H) (Q : Option Value → pb_H → Prop) (x : Nat), pb_R 82 5 [some (.ref x), l1, l2] [] st h Q ↔ pb_R 82 6 [some (.ref x), l1, l2] [] (.ref x :: st) h Q) ∧
  (∀ (l1 l2 : Option Value) (st : List Value) (h : pb_H) (Q : Option Value → pb_H → Prop), pb_R 82 5 [some .null, l1, l2] [] st h Q ↔ pb_R 82 6 [some .null, l1, l2] [] (.null :: st) h Q) ∧
  (∀ (l0 l2 : Option Value) (st : List Value) (h : pb_H) (Q : Option Value → pb_H → Prop) (x : Nat), pb_R 82 6 [l0, some (.ref x), l2] [] st h Q ↔ pb_R 82 7 [l0, some (.ref x), l2] [] (.ref x :: st) h Q) ∧
  (∀ (l0 l2 : Option Value) (st : List Value) (h : pb_H) (Q : Option Value → pb_H → Prop), pb_R 82 6 [l0, some .null, l2] [] st h Q ↔ pb_R 82 7 [l0, some .null, l2] [] (.null :: st) h Q) ∧
  (∀ (L : pb_L) (J : pb_J) (st : List Value) (h : pb_H) (Q : Option Value → pb_H → Prop) (a : Nat), pb_R 82 7 L J (.ref a :: st) h Q ↔ pb_o (pb_gf (h.2 a) 4 3) (fun v => pb_R 82 10 L J (v :: st) h Q)) ∧
  (∀ (L : pb_L) (J : pb_J) (st : List Value) (h : pb_H) (Q : Option Value → pb_H → Prop) (a : Nat) (x : Int32), pb_R 82 10 L J (.int x :: .ref a :: st) h Q ↔ pb_o (pb_pf (h.2 a) 4 2 (.int x)) (fun c => pb_R 82 13 L J st (pb_set h a c) Q)) ∧
  (∀ (l1 l2 : Option Value) (st : List Value) (h : pb_H) (Q : Option Value → pb_H → Prop) (x : Nat), pb_R 82 13 [some (.ref x), l1, l2] [] st h Q ↔ pb_R 82 14 [some (.ref x), l1, l2] [] (.ref x :: st) h Q) ∧
  (∀ (l1 l2 : Option Value) (st : List Value) (h : pb_H) (Q : Option Value → pb_H → Prop), pb_R 82 13 [some .null, l1, l2] [] st h Q ↔ pb_R 82 14 [some .null, l1, l2] [] (.null :: st) h Q) ∧
  (∀ (l0 l2 : Option Value) (st : List Value) (h : pb_H) (Q : Option Value → pb_H → Prop) (x : Nat), pb_R 82 14 [l0, some (.ref x), l2] [] st h Q ↔ pb_R 82 15 [l0, some (.ref x), l2] [] (.ref x :: st) h Q) ∧
  (∀ (l0 l2 : Option Value) (st : List Value) (h : pb_H) (Q : Option Value → pb_H → Prop), pb_R 82 14 [l0, some .null, l2] [] st h Q ↔ pb_R 82 15 [l0, some .null, l2] [] (.null :: st) h Q) ∧
  (∀ (L : pb_L) (J : pb_J) (st : List Value) (h : pb_H) (Q : Option Value → pb_H → Prop) (a : Nat), pb_R 82 15 L J (.ref a :: st) h Q ↔ pb_o (pb_gf (h.2 a) 4 2) (fun v => pb_R 82 18 L J (v :: st) h Q)) ∧
  (∀ (L : pb_L) (J : pb_J) (st : List Value) (h : pb_H) (Q : Option Value → pb_H → Prop) (a : Nat) (x : Int32), pb_R 82 18 L J (.int x :: .ref a :: st) h Q ↔ pb_o (pb_pf (h.2 a) 4 3 (.int x)) (fun c => pb_R 82 21 L J st (pb_set h a c) Q)) ∧
  (∀ (l1 l2 : Option Value) (st : List Value) (h : pb_H) (Q : Option Value → pb_H → Prop) (x : Nat), pb_R 82 21 [some (.ref x), l1, l2] [] st h Q ↔ pb_R 82 22 [some (.ref x), l1, l2] [] (.ref x :: st) h Q) ∧
  (∀ (l1 l2 : Option Value) (st : List Value) (h : pb_H) (Q : Option Value → pb_H → Prop), pb_R 82 21 [some .null, l1, l2] [] st h Q ↔ pb_R 82 22 [some .null, l1, l2] [] (.null :: st) h Q) ∧
  (∀ (L : pb_L) (J : pb_J) (st : List Value) (h : pb_H) (Q : Option Value → pb_H → Prop) (a : Nat), pb_R 82 22 L J (.ref a :: st) h Q ↔ pb_o (pb_gf (h.2 a) 4 1) (fun v => pb_R 82 25 L J (v :: st) h Q)) ∧
  (∀ (L : pb_L) (J : pb_J) (st : List Value) (h : pb_H) (Q : Option Value → pb_H → Prop), pb_R 82 25 L J st h Q ↔ pb_R 82 26 L J (.int (0 : Int32) :: st) h Q) ∧
  (∀ (L : pb_L) (J : pb_J) (st : List Value) (h : pb_H) (Q : Option Value → pb_H → Prop), pb_R 82 26 L J st h Q ↔ pb_R 82 27 L J (.int (1 : Int32) :: st) h Q) ∧
  (∀ (L : pb_L) (J : pb_J) (h : pb_H) (Q : Option Value → pb_H → Prop) (x0 : Int32) (x1 : Int32) (x2 : Nat), pb_R 82 27 L J [.int x0, .int x1, .ref x2] h Q ↔ pb_call 52 [.ref x2, .int x1, .int x0] h (fun v t => pb_R 82 30 L J (v.toList ++ []) t Q)) ∧
  (∀ (L : pb_L) (J : pb_J) (st : List Value) (h : pb_H) (Q : Option Value → pb_H → Prop), pb_R 82 30 L J st h Q ↔ pb_R 82 31 L J (.int (1 : Int32) :: st) h Q) ∧
  (∀ (l0 l1 l2 : Option Value) (st : List Value) (h : pb_H) (Q : Option Value → pb_H → Prop) (x : Int32), pb_R 82 31 [l0, l1, l2] [] (.int x :: st) h Q ↔ pb_R 82 32 [l0, l1, some (.int x)] [] st h Q) ∧
  (∀ (l1 l2 : Option Value) (st : List Value) (h : pb_H) (Q : Option Value → pb_H → Prop) (x : Nat), pb_R 82 33 [some (.ref x), l1, l2] [] st h Q ↔ pb_R 82 34 [some (.ref x), l1, l2] [] (.ref x :: st) h Q) ∧
  (∀ (l1 l2 : Option Value) (st : List Value) (h : pb_H) (Q : Option Value → pb_H → Prop), pb_R 82 33 [some .null, l1, l2] [] st h Q ↔ pb_R 82 34 [some .null, l1, l2] [] (.null :: st) h Q) ∧
  (∀ (L : pb_L) (J : pb_J) (st : List Value) (h : pb_H) (Q : Option Value → pb_H → Prop) (a : Nat), pb_R 82 34 L J (.ref a :: st) h Q ↔ pb_o (pb_gf (h.2 a) 4 0) (fun v => pb_R 82 37 L J (v :: st) h Q)) ∧
  (∀ (L : pb_L) (J : pb_J) (st : List Value) (h : pb_H) (Q : Option Value → pb_H → Prop) (x y : Int32), pb_R 82 37 L J (.int y :: .int x :: st) h Q ↔ if y < x then pb_R 82 65 L J st h Q else pb_R 82 40 L J st h Q) ∧
  (∀ (l1 l2 : Option Value) (st : List Value) (h : pb_H) (Q : Option Value → pb_H → Prop) (x : Nat), pb_R 82 40 [some (.ref x), l1, l2] [] st h Q ↔ pb_R 82 41 [some (.ref x), l1, l2] [] (.ref x :: st) h Q) ∧
  (∀ (l1 l2 : Option Value) (st : List Value) (h : pb_H) (Q : Option Value → pb_H → Prop), pb_R 82 40 [some .null, l1, l2] [] st h Q ↔ pb_R 82 41 [some .null, l1, l2] [] (.null :: st) h Q) ∧
  (∀ (L : pb_L) (J : pb_J) (st : List Value) (h : pb_H) (Q : Option Value → pb_H → Prop) (a : Nat), pb_R 82 41 L J (.ref a :: st) h Q ↔ pb_o (pb_gf (h.2 a) 4 1) (fun v => pb_R 82 44 L J (v :: st) h Q)) ∧
  (∀ (L : pb_L) (J : pb_J) (st : List Value) (h : pb_H) (Q : Option Value → pb_H → Prop), pb_R 82 44 L J st h Q ↔ pb_R 82 45 L J (.int (0 : Int32) :: st) h Q) ∧
  (∀ (l1 l2 : Option Value) (st : List Value) (h : pb_H) (Q : Option Value → pb_H → Prop) (x : Nat), pb_R 82 45 [some (.ref x), l1, l2] [] st h Q ↔ pb_R 82 46 [some (.ref x), l1, l2] [] (.ref x :: st) h Q) ∧
  (∀ (l1 l2 : Option Value) (st : List Value) (h : pb_H) (Q : Option Value → pb_H → Prop), pb_R 82 45 [some .null, l1, l2] [] st h Q ↔ pb_R 82 46 [some .null, l1, l2] [] (.null :: st) h Q) ∧
  (∀ (L : pb_L) (J : pb_J) (st : List Value) (h : pb_H) (Q : Option Value → pb_H → Prop) (a : Nat), pb_R 82 46 L J (.ref a :: st) h Q ↔ pb_o (pb_gf (h.2 a) 4 1) (fun v => pb_R 82 49 L J (v :: st) h Q)) ∧
  (∀ (l0 l1 : Option Value) (st : List Value) (h : pb_H) (Q : Option Value → pb_H → Prop) (x : Int32), pb_R 82 49 [l0, l1, some (.int x)] [] st h Q ↔ pb_R 82 50 [l0, l1, some (.int x)] [] (.int x :: st) h Q) ∧
  (∀ (L : pb_L) (J : pb_J) (st : List Value) (h : pb_H) (Q : Option Value → pb_H → Prop), pb_R 82 50 L J st h Q ↔ pb_R 82 52 L J (.int (8 : Int32) :: st) h Q) ∧
  (∀ (L : pb_L) (J : pb_J) (st : List Value) (x y : Int32) (h : pb_H) (Q : Option Value → pb_H → Prop), pb_R 82 52 L J (.int y :: .int x :: st) h Q ↔ pb_R 82 53 L J (.int (x * y) :: st) h Q) ∧
  (∀ (L : pb_L) (J : pb_J) (st : List Value) (h : pb_H) (Q : Option Value → pb_H → Prop), pb_R 82 53 L J st h Q ↔ pb_R 82 55 L J (.int (8 : Int32) :: st) h Q) ∧
  (∀ (L : pb_L) (J : pb_J) (h : pb_H) (Q : Option Value → pb_H → Prop) (x0 : Int32) (x1 : Int32) (x2 : Nat) (x3 : Int32) (x4 : Nat), pb_R 82 55 L J [.int x0, .int x1, .ref x2, .int x3, .ref x4] h Q ↔ pb_call 59 [.ref x4, .int x3, .ref x2, .int x1, .int x0] h (fun v t => pb_R 82 58 L J (v.toList ++ []) t Q)) ∧
  (∀ (L : pb_L) (J : pb_J) (st : List Value) (x : Int32) (h : pb_H) (Q : Option Value → pb_H → Prop), pb_R 82 58 L J (.int x :: st) h Q ↔ pb_R 82 59 L J st h Q) ∧
  (∀ (l0 l1 : Option Value) (st : List Value) (h : pb_H) (Q : Option Value → pb_H → Prop) (x : Int32), pb_R 82 59 [l0, l1, some (.int x)] [] st h Q ↔ pb_R 82 62 [l0, l1, some (.int (x + (1 : Int32)))] [] st h Q) ∧
  (∀ (L : pb_L) (J : pb_J) (st : List Value) (h : pb_H) (Q : Option Value → pb_H → Prop), pb_R 82 62 L J st h Q ↔ pb_R 82 32 L J st h Q) ∧
  (∀ (l1 l2 : Option Value) (st : List Value) (h : pb_H) (Q : Option Value → pb_H → Prop) (x : Nat), pb_R 82 65 [some (.ref x), l1, l2] [] st h Q ↔ pb_R 82 66 [some (.ref x), l1, l2] [] (.ref x :: st) h Q) ∧
  (∀ (l1 l2 : Option Value) (st : List Value) (h : pb_H) (Q : Option Value → pb_H → Prop), pb_R 82 65 [some .null, l1, l2] [] st h Q ↔ pb_R 82 66 [some .null, l1, l2] [] (.null :: st) h Q) ∧
  (∀ (l0 l2 : Option Value) (st : List Value) (h : pb_H) (Q : Option Value → pb_H → Prop) (x : Nat), pb_R 82 66 [l0, some (.ref x), l2] [] st h Q ↔ pb_R 82 67 [l0, some (.ref x), l2] [] (.ref x :: st) h Q) ∧
  (∀ (l0 l2 : Option Value) (st : List Value) (h : pb_H) (Q : Option Value → pb_H → Prop), pb_R 82 66 [l0, some .null, l2] [] st h Q ↔ pb_R 82 67 [l0, some .null, l2] [] (.null :: st) h Q) ∧
  (∀ (L : pb_L) (J : pb_J) (st : List Value) (h : pb_H) (Q : Option Value → pb_H → Prop) (a : Nat), pb_R 82 67 L J (.ref a :: st) h Q ↔ pb_o (pb_gf (h.2 a) 4 1) (fun v => pb_R 82 70 L J (v :: st) h Q)) ∧
  (∀ (L : pb_L) (J : pb_J) (st : List Value) (h : pb_H) (Q : Option Value → pb_H → Prop), pb_R 82 70 L J st h Q ↔ pb_R 82 71 L J (.int (0 : Int32) :: st) h Q) ∧
  (∀ (L : pb_L) (J : pb_J) (st : List Value) (h : pb_H) (Q : Option Value → pb_H → Prop), pb_R 82 71 L J st h Q ↔ pb_R 82 72 L J (.int (0 : Int32) :: st) h Q) ∧
  (∀ (L : pb_L) (J : pb_J) (st : List Value) (h : pb_H) (Q : Option Value → pb_H → Prop), pb_R 82 72 L J st h Q ↔ pb_R 82 74 L J (.int (8 : Int32) :: st) h Q) ∧
  (∀ (L : pb_L) (J : pb_J) (h : pb_H) (Q : Option Value → pb_H → Prop) (x0 : Int32) (x1 : Int32) (x2 : Int32) (x3 : Nat) (x4 : Nat), pb_R 82 74 L J [.int x0, .int x1, .int x2, .ref x3, .ref x4] h Q ↔ pb_is0 (h.2 x4) 4 = true ∧ pb_call 53 [.ref x4, .ref x3, .int x2, .int x1, .int x0] h (fun v t => pb_R 82 77 L J (v.toList ++ []) t Q)) ∧
  (∀ (L : pb_L) (J : pb_J) (st : List Value) (x : Int32) (h : pb_H) (Q : Option Value → pb_H → Prop), pb_R 82 77 L J (.int x :: st) h Q ↔ pb_R 82 78 L J st h Q) ∧
  (∀ (l1 l2 : Option Value) (st : List Value) (h : pb_H) (Q : Option Value → pb_H → Prop) (x : Nat), pb_R 82 78 [some (.ref x), l1, l2] [] st h Q ↔ pb_R 82 79 [some (.ref x), l1, l2] [] (.ref x :: st) h Q) ∧
  (∀ (l1 l2 : Option Value) (st : List Value) (h : pb_H) (Q : Option Value → pb_H → Prop), pb_R 82 78 [some .null, l1, l2] [] st h Q ↔ pb_R 82 79 [some .null, l1, l2] [] (.null :: st) h Q) ∧
  (∀ (L : pb_L) (J : pb_J) (st : List Value) (h : pb_H) (Q : Option Value → pb_H → Prop), pb_R 82 79 L J st h Q ↔ pb_R 82 81 L J (.int (8 : Int32) :: st) h Q) ∧
  (∀ (L : pb_L) (J : pb_J) (h : pb_H) (Q : Option Value → pb_H → Prop) (x0 : Int32) (x1 : Nat), pb_R 82 81 L J [.int x0, .ref x1] h Q ↔ pb_is0 (h.2 x1) 4 = true ∧ pb_call 39 [.ref x1, .int x0] h (fun v t => pb_R 82 84 L J (v.toList ++ []) t Q)) ∧
  (∀ (L : pb_L) (J : pb_J) (h : pb_H) (Q : Option Value → pb_H → Prop), pb_R 82 84 L J [] h Q ↔ Q none h) := ⟨
  fun l1 l2 st h Q x => pf_S pb_u_82 rfl rfl,
  fun l1 l2 st h Q => pf_S pb_u_82 rfl rfl,
  fun l0 l2 st h Q x => pf_S pb_u_82 rfl rfl,
  fun l0 l2 st h Q => pf_S pb_u_82 rfl rfl,
  fun L J h Q x0 x1 => pf_kv pb_u_82 rfl pb_ci_48 rfl ⟨Nat.le_of_ble_eq_true rfl, Nat.le_of_ble_eq_true rfl, Nat.le_of_ble_eq_true rfl, Nat.le_of_ble_eq_true rfl, rfl⟩ rfl rfl,
  fun l1 l2 st h Q x => pf_S pb_u_82 rfl rfl,
  fun l1 l2 st h Q => pf_S pb_u_82 rfl rfl,
  fun l0 l2 st h Q x => pf_S pb_u_82 rfl rfl,
  fun l0 l2 st h Q => pf_S pb_u_82 rfl rfl,
  fun L J st h Q a => pf_gf pb_u_82 rfl rfl,
  fun L J st h Q a x => pf_pf pb_u_82 rfl rfl,
  fun l1 l2 st h Q x => pf_S pb_u_82 rfl rfl,
  fun l1 l2 st h Q => pf_S pb_u_82 rfl rfl,
  fun l0 l2 st h Q x => pf_S pb_u_82 rfl rfl,
  fun l0 l2 st h Q => pf_S pb_u_82 rfl rfl,
  fun L J st h Q a => pf_gf pb_u_82 rfl rfl,
  fun L J st h Q a x => pf_pf pb_u_82 rfl rfl,
  fun l1 l2 st h Q x => pf_S pb_u_82 rfl rfl,
  fun l1 l2 st h Q => pf_S pb_u_82 rfl rfl,
  fun L J st h Q a => pf_gf pb_u_82 rfl rfl,
  fun L J st h Q => pf_S pb_u_82 rfl rfl,
  fun L J st h Q => pf_S pb_u_82 rfl rfl,
  fun L J h Q x0 x1 x2 => pf_ks pb_u_82 rfl rfl rfl rfl,
  fun L J st h Q => pf_S pb_u_82 rfl rfl,
  fun l0 l1 l2 st h Q x => pf_S pb_u_82 rfl rfl,
  fun l1 l2 st h Q x => pf_S pb_u_82 rfl rfl,
  fun l1 l2 st h Q => pf_S pb_u_82 rfl rfl,
  fun L J st h Q a => pf_gf pb_u_82 rfl rfl,
  fun L J st h Q x y => pf_ic pb_u_82 rfl rfl rfl,
  fun l1 l2 st h Q x => pf_S pb_u_82 rfl rfl,
  fun l1 l2 st h Q => pf_S pb_u_82 rfl rfl,
  fun L J st h Q a => pf_gf pb_u_82 rfl rfl,
  fun L J st h Q => pf_S pb_u_82 rfl rfl,
  fun l1 l2 st h Q x => pf_S pb_u_82 rfl rfl,
  fun l1 l2 st h Q => pf_S pb_u_82 rfl rfl,
  fun L J st h Q a => pf_gf pb_u_82 rfl rfl,
  fun l0 l1 st h Q x => pf_S pb_u_82 rfl rfl,
  fun L J st h Q => pf_S pb_u_82 rfl rfl,
  fun L J st x y h Q => pf_S pb_u_82 rfl rfl,
  fun L J st h Q => pf_S pb_u_82 rfl rfl,
  fun L J h Q x0 x1 x2 x3 x4 => pf_ks pb_u_82 rfl rfl rfl rfl,
  fun L J st x h Q => pf_S pb_u_82 rfl rfl,
  fun l0 l1 st h Q x => pf_S pb_u_82 rfl rfl,
  fun L J st h Q => pf_S pb_u_82 rfl rfl,
  fun l1 l2 st h Q x => pf_S pb_u_82 rfl rfl,
  fun l1 l2 st h Q => pf_S pb_u_82 rfl rfl,
  fun l0 l2 st h Q x => pf_S pb_u_82 rfl rfl,
  fun l0 l2 st h Q => pf_S pb_u_82 rfl rfl,
  fun L J st h Q a => pf_gf pb_u_82 rfl rfl,
  fun L J st h Q => pf_S pb_u_82 rfl rfl,
  fun L J st h Q => pf_S pb_u_82 rfl rfl,
  fun L J st h Q => pf_S pb_u_82 rfl rfl,
  fun L J h Q x0 x1 x2 x3 x4 => pf_kv pb_u_82 rfl pb_ci_53 rfl ⟨Nat.le_of_ble_eq_true rfl, Nat.le_of_ble_eq_true rfl, Nat.le_of_ble_eq_true rfl, Nat.le_of_ble_eq_true rfl, rfl⟩ rfl rfl,
  fun L J st x h Q => pf_S pb_u_82 rfl rfl,
  fun l1 l2 st h Q x => pf_S pb_u_82 rfl rfl,
  fun l1 l2 st h Q => pf_S pb_u_82 rfl rfl,
  fun L J st h Q => pf_S pb_u_82 rfl rfl,
  fun L J h Q x0 x1 => pf_kv pb_u_82 rfl pb_ci_39 rfl ⟨Nat.le_of_ble_eq_true rfl, Nat.le_of_ble_eq_true rfl, Nat.le_of_ble_eq_true rfl, Nat.le_of_ble_eq_true rfl, rfl⟩ rfl rfl,
  fun L J h Q => pf_rv pb_u_82 rfl rfl⟩
theorem pb_c82 (x0 : Nat) (x1 : Nat) (h : pb_H) (Q : Option Value → pb_H → Prop) : pb_call 82 [.ref x0, .ref x1] h Q ↔ pb_R 82 0 [some (.ref x0), some (.ref x1), none] [] [] h Q := Iff.rfl
/-! 83: PlaneBench$Checker.follows(LPlaneBench$Line;)Z -/
theorem pb_u_83 : pb_t 83 = pb_t83 := rfl
theorem pb_ci_83 : pb_ci 83 = 1 := by decide +kernel
set_option maxRecDepth 100000 in
theorem pb_q83_15 (l0 l1 l2 l3 l5 l6 l7 l8 : Option Value) (st : List Value) (h : pb_H) (Q : Option Value → pb_H → Prop) (x : Int32) : pb_R 83 15 [l0, l1, l2, l3, some (.int x), l5, l6, l7, l8] [] st h Q ↔ pb_R 83 17 [l0, l1, l2, l3, some (.int x), l5, l6, l7, l8] [] (.int x :: st) h Q := pf_S pb_u_83 rfl rfl
set_option maxRecDepth 100000 in
theorem pb_q83_35 (l0 l1 l2 l3 l4 l5 l7 l8 : Option Value) (st : List Value) (h : pb_H) (Q : Option Value → pb_H → Prop) (x : Int32) : pb_R 83 35 [l0, l1, l2, l3, l4, l5, some (.int x), l7, l8] [] st h Q ↔ pb_R 83 37 [l0, l1, l2, l3, l4, l5, some (.int x), l7, l8] [] (.int x :: st) h Q := pf_S pb_u_83 rfl rfl
set_option maxRecDepth 100000 in
theorem pb_e83 : (∀ (l1 l2 l3 l4 l5 l6 l7 l8 : Option Value) (st : List Value) (h : pb_H) (Q : Option Value → pb_H → Prop) (x : Nat), pb_R 83 0 [some (.ref x), l1, l2, l3, l4, l5, l6, l7, l8] [] st h Q ↔ pb_R 83 1 [some (.ref x), l1, l2, l3, l4, l5, l6, l7, l8] [] (.ref x :: st) h Q) ∧
  (∀ (l1 l2 l3 l4 l5 l6 l7 l8 : Option Value) (st : List Value) (h : pb_H) (Q : Option Value → pb_H → Prop), pb_R 83 0 [some .null, l1, l2, l3, l4, l5, l6, l7, l8] [] st h Q ↔ pb_R 83 1 [some .null, l1, l2, l3, l4, l5, l6, l7, l8] [] (.null :: st) h Q) ∧
  (∀ (L : pb_L) (J : pb_J) (st : List Value) (h : pb_H) (Q : Option Value → pb_H → Prop) (a : Nat), pb_R 83 1 L J (.ref a :: st) h Q ↔ pb_o (pb_gf (h.2 a) 1 4) (fun v => pb_R 83 4 L J (v :: st) h Q)) ∧
  (∀ (l0 l2 l3 l4 l5 l6 l7 l8 : Option Value) (st : List Value) (h : pb_H) (Q : Option Value → pb_H → Prop) (x : Nat), pb_R 83 4 [l0, some (.ref x), l2, l3, l4, l5, l6, l7, l8] [] st h Q ↔ pb_R 83 5 [l0, some (.ref x), l2, l3, l4, l5, l6, l7, l8] [] (.ref x :: st) h Q) ∧
  (∀ (l0 l2 l3 l4 l5 l6 l7 l8 : Option Value) (st : List Value) (h : pb_H) (Q : Option Value → pb_H → Prop), pb_R 83 4 [l0, some .null, l2, l3, l4, l5, l6, l7, l8] [] st h Q ↔ pb_R 83 5 [l0, some .null, l2, l3, l4, l5, l6, l7, l8] [] (.null :: st) h Q) ∧
  (∀ (L : pb_L) (J : pb_J) (h : pb_H) (Q : Option Value → pb_H → Prop) (x0 : Nat) (x1 : Nat), pb_R 83 5 L J [.ref x0, .ref x1] h Q ↔ pb_is0 (h.2 x1) 4 = true ∧ pb_call 82 [.ref x1, .ref x0] h (fun v t => pb_R 83 8 L J (v.toList ++ []) t Q)) ∧
  (∀ (L : pb_L) (J : pb_J) (st : List Value) (h : pb_H) (Q : Option Value → pb_H → Prop), pb_R 83 8 L J st h Q ↔ pb_R 83 9 L J (.int (0 : Int32) :: st) h Q) ∧
  (∀ (l0 l1 l2 l3 l4 l5 l6 l7 l8 : Option Value) (st : List Value) (h : pb_H) (Q : Option Value → pb_H → Prop) (x : Int32), pb_R 83 9 [l0, l1, l2, l3, l4, l5, l6, l7, l8] [] (.int x :: st) h Q ↔ pb_R 83 10 [l0, l1, some (.int x), l3, l4, l5, l6, l7, l8] [] st h Q) ∧
  (∀ (L : pb_L) (J : pb_J) (st : List Value) (h : pb_H) (Q : Option Value → pb_H → Prop), pb_R 83 10 L J st h Q ↔ pb_R 83 11 L J (.int (0 : Int32) :: st) h Q) ∧
  (∀ (l0 l1 l2 l3 l4 l5 l6 l7 l8 : Option Value) (st : List Value) (h : pb_H) (Q : Option Value → pb_H → Prop) (x : Int32), pb_R 83 11 [l0, l1, l2, l3, l4, l5, l6, l7, l8] [] (.int x :: st) h Q ↔ pb_R 83 12 [l0, l1, l2, some (.int x), l4, l5, l6, l7, l8] [] st h Q) ∧
  (∀ (L : pb_L) (J : pb_J) (st : List Value) (h : pb_H) (Q : Option Value → pb_H → Prop), pb_R 83 12 L J st h Q ↔ pb_R 83 13 L J (.int (0 : Int32) :: st) h Q) ∧
  (∀ (l0 l1 l2 l3 l4 l5 l6 l7 l8 : Option Value) (st : List Value) (h : pb_H) (Q : Option Value → pb_H → Prop) (x : Int32), pb_R 83 13 [l0, l1, l2, l3, l4, l5, l6, l7, l8] [] (.int x :: st) h Q ↔ pb_R 83 15 [l0, l1, l2, l3, some (.int x), l5, l6, l7, l8] [] st h Q) ∧
  (∀ (l1 l2 l3 l4 l5 l6 l7 l8 : Option Value) (st : List Value) (h : pb_H) (Q : Option Value → pb_H → Prop) (x : Nat), pb_R 83 17 [some (.ref x), l1, l2, l3, l4, l5, l6, l7, l8] [] st h Q ↔ pb_R 83 18 [some (.ref x), l1, l2, l3, l4, l5, l6, l7, l8] [] (.ref x :: st) h Q) ∧
  (∀ (l1 l2 l3 l4 l5 l6 l7 l8 : Option Value) (st : List Value) (h : pb_H) (Q : Option Value → pb_H → Prop), pb_R 83 17 [some .null, l1, l2, l3, l4, l5, l6, l7, l8] [] st h Q ↔ pb_R 83 18 [some .null, l1, l2, l3, l4, l5, l6, l7, l8] [] (.null :: st) h Q) ∧
  (∀ (L : pb_L) (J : pb_J) (st : List Value) (h : pb_H) (Q : Option Value → pb_H → Prop) (a : Nat), pb_R 83 18 L J (.ref a :: st) h Q ↔ pb_o (pb_gf (h.2 a) 1 2) (fun v => pb_R 83 21 L J (v :: st) h Q)) ∧
  (∀ (L : pb_L) (J : pb_J) (st : List Value) (h : pb_H) (Q : Option Value → pb_H → Prop) (a : Nat), pb_R 83 21 L J (.ref a :: st) h Q ↔ pb_o (pb_gf (h.2 a) 7 0) (fun v => pb_R 83 24 L J (v :: st) h Q)) ∧
  (∀ (L : pb_L) (J : pb_J) (st : List Value) (h : pb_H) (Q : Option Value → pb_H → Prop) (x y : Int32), pb_R 83 24 L J (.int y :: .int x :: st) h Q ↔ if y < x then pb_R 83 152 L J st h Q else pb_R 83 27 L J st h Q) ∧
  (∀ (l0 l1 l3 l4 l5 l6 l7 l8 : Option Value) (st : List Value) (h : pb_H) (Q : Option Value → pb_H → Prop) (x : Int32), pb_R 83 27 [l0, l1, some (.int x), l3, l4, l5, l6, l7, l8] [] st h Q ↔ pb_R 83 28 [l0, l1, some (.int x), l3, l4, l5, l6, l7, l8] [] (.int x :: st) h Q) ∧
  (∀ (l0 l1 l2 l4 l5 l6 l7 l8 : Option Value) (st : List Value) (h : pb_H) (Q : Option Value → pb_H → Prop) (x : Int32), pb_R 83 28 [l0, l1, l2, some (.int x), l4, l5, l6, l7, l8] [] st h Q ↔ pb_R 83 29 [l0, l1, l2, some (.int x), l4, l5, l6, l7, l8] [] (.int x :: st) h Q) ∧
  (∀ (L : pb_L) (J : pb_J) (st : List Value) (x y : Int32) (h : pb_H) (Q : Option Value → pb_H → Prop), pb_R 83 29 L J (.int y :: .int x :: st) h Q ↔ pb_R 83 30 L J (.int (x ||| y) :: st) h Q) ∧
  (∀ (l0 l1 l2 l3 l4 l5 l6 l7 l8 : Option Value) (st : List Value) (h : pb_H) (Q : Option Value → pb_H → Prop) (x : Int32), pb_R 83 30 [l0, l1, l2, l3, l4, l5, l6, l7, l8] [] (.int x :: st) h Q ↔ pb_R 83 32 [l0, l1, l2, l3, l4, some (.int x), l6, l7, l8] [] st h Q) ∧
  (∀ (L : pb_L) (J : pb_J) (st : List Value) (h : pb_H) (Q : Option Value → pb_H → Prop), pb_R 83 32 L J st h Q ↔ pb_R 83 33 L J (.int (0 : Int32) :: st) h Q) ∧
  (∀ (l0 l1 l2 l3 l4 l5 l6 l7 l8 : Option Value) (st : List Value) (h : pb_H) (Q : Option Value → pb_H → Prop) (x : Int32), pb_R 83 33 [l0, l1, l2, l3, l4, l5, l6, l7, l8] [] (.int x :: st) h Q ↔ pb_R 83 35 [l0, l1, l2, l3, l4, l5, some (.int x), l7, l8] [] st h Q) ∧
  (∀ (l1 l2 l3 l4 l5 l6 l7 l8 : Option Value) (st : List Value) (h : pb_H) (Q : Option Value → pb_H → Prop) (x : Nat), pb_R 83 37 [some (.ref x), l1, l2, l3, l4, l5, l6, l7, l8] [] st h Q ↔ pb_R 83 38 [some (.ref x), l1, l2, l3, l4, l5, l6, l7, l8] [] (.ref x :: st) h Q) ∧
  (∀ (l1 l2 l3 l4 l5 l6 l7 l8 : Option Value) (st : List Value) (h : pb_H) (Q : Option Value → pb_H → Prop), pb_R 83 37 [some .null, l1, l2, l3, l4, l5, l6, l7, l8] [] st h Q ↔ pb_R 83 38 [some .null, l1, l2, l3, l4, l5, l6, l7, l8] [] (.null :: st) h Q) ∧
  (∀ (L : pb_L) (J : pb_J) (st : List Value) (h : pb_H) (Q : Option Value → pb_H → Prop) (a : Nat), pb_R 83 38 L J (.ref a :: st) h Q ↔ pb_o (pb_gf (h.2 a) 1 2) (fun v => pb_R 83 41 L J (v :: st) h Q)) ∧
  (∀ (L : pb_L) (J : pb_J) (st : List Value) (h : pb_H) (Q : Option Value → pb_H → Prop) (a : Nat), pb_R 83 41 L J (.ref a :: st) h Q ↔ pb_o (pb_gf (h.2 a) 7 2) (fun v => pb_R 83 44 L J (v :: st) h Q)) ∧
  (∀ (L : pb_L) (J : pb_J) (st : List Value) (h : pb_H) (Q : Option Value → pb_H → Prop) (x y : Int32), pb_R 83 44 L J (.int y :: .int x :: st) h Q ↔ if y < x then pb_R 83 136 L J st h Q else pb_R 83 47 L J st h Q) ∧
  (∀ (l0 l1 l2 l3 l4 l5 l7 l8 : Option Value) (st : List Value) (h : pb_H) (Q : Option Value → pb_H → Prop) (x : Int32), pb_R 83 47 [l0, l1, l2, l3, l4, l5, some (.int x), l7, l8] [] st h Q ↔ pb_R 83 49 [l0, l1, l2, l3, l4, l5, some (.int x), l7, l8] [] (.int x :: st) h Q) ∧
  (∀ (L : pb_L) (J : pb_J) (st : List Value) (h : pb_H) (Q : Option Value → pb_H → Prop) (x : Int32), pb_R 83 49 L J (.int x :: st) h Q ↔ if ¬ x = 0 then pb_R 83 59 L J st h Q else pb_R 83 52 L J st h Q) ∧
  (∀ (l1 l2 l3 l4 l5 l6 l7 l8 : Option Value) (st : List Value) (h : pb_H) (Q : Option Value → pb_H → Prop) (x : Nat), pb_R 83 52 [some (.ref x), l1, l2, l3, l4, l5, l6, l7, l8] [] st h Q ↔ pb_R 83 53 [some (.ref x), l1, l2, l3, l4, l5, l6, l7, l8] [] (.ref x :: st) h Q) ∧
  (∀ (l1 l2 l3 l4 l5 l6 l7 l8 : Option Value) (st : List Value) (h : pb_H) (Q : Option Value → pb_H → Prop), pb_R 83 52 [some .null, l1, l2, l3, l4, l5, l6, l7, l8] [] st h Q ↔ pb_R 83 53 [some .null, l1, l2, l3, l4, l5, l6, l7, l8] [] (.null :: st) h Q) ∧
  (∀ (L : pb_L) (J : pb_J) (st : List Value) (h : pb_H) (Q : Option Value → pb_H → Prop) (a : Nat), pb_R 83 53 L J (.ref a :: st) h Q ↔ pb_o (pb_gf (h.2 a) 1 4) (fun v => pb_R 83 56 L J (v :: st) h Q)) ∧
  (∀ (L : pb_L) (J : pb_J) (st : List Value) (h : pb_H) (Q : Option Value → pb_H → Prop), pb_R 83 56 L J st h Q ↔ pb_R 83 68 L J st h Q) ∧
  (∀ (l1 l2 l3 l4 l5 l6 l7 l8 : Option Value) (st : List Value) (h : pb_H) (Q : Option Value → pb_H → Prop) (x : Nat), pb_R 83 59 [some (.ref x), l1, l2, l3, l4, l5, l6, l7, l8] [] st h Q ↔ pb_R 83 60 [some (.ref x), l1, l2, l3, l4, l5, l6, l7, l8] [] (.ref x :: st) h Q) ∧
  (∀ (l1 l2 l3 l4 l5 l6 l7 l8 : Option Value) (st : List Value) (h : pb_H) (Q : Option Value → pb_H → Prop), pb_R 83 59 [some .null, l1, l2, l3, l4, l5, l6, l7, l8] [] st h Q ↔ pb_R 83 60 [some .null, l1, l2, l3, l4, l5, l6, l7, l8] [] (.null :: st) h Q) ∧
  (∀ (L : pb_L) (J : pb_J) (st : List Value) (h : pb_H) (Q : Option Value → pb_H → Prop) (a : Nat), pb_R 83 60 L J (.ref a :: st) h Q ↔ pb_o (pb_gf (h.2 a) 1 2) (fun v => pb_R 83 63 L J (v :: st) h Q)) ∧
  (∀ (l0 l1 l2 l3 l4 l5 l7 l8 : Option Value) (st : List Value) (h : pb_H) (Q : Option Value → pb_H → Prop) (x : Int32), pb_R 83 63 [l0, l1, l2, l3, l4, l5, some (.int x), l7, l8] [] st h Q ↔ pb_R 83 65 [l0, l1, l2, l3, l4, l5, some (.int x), l7, l8] [] (.int x :: st) h Q) ∧
  (∀ (L : pb_L) (J : pb_J) (h : pb_H) (Q : Option Value → pb_H → Prop) (x0 : Int32) (x1 : Nat), pb_R 83 65 L J [.int x0, .ref x1] h Q ↔ pb_is0 (h.2 x1) 7 = true ∧ pb_call 46 [.ref x1, .int x0] h (fun v t => pb_R 83 68 L J (v.toList ++ []) t Q)) ∧
  (∀ (l0 l1 l2 l3 l4 l5 l6 l7 l8 : Option Value) (st : List Value) (h : pb_H) (Q : Option Value → pb_H → Prop) (x : Nat), pb_R 83 68 [l0, l1, l2, l3, l4, l5, l6, l7, l8] [] (.ref x :: st) h Q ↔ pb_R 83 70 [l0, l1, l2, l3, l4, l5, l6, some (.ref x), l8] [] st h Q) ∧
  (∀ (l0 l1 l2 l3 l4 l5 l6 l7 l8 : Option Value) (st : List Value) (h : pb_H) (Q : Option Value → pb_H → Prop), pb_R 83 68 [l0, l1, l2, l3, l4, l5, l6, l7, l8] [] (.null :: st) h Q ↔ pb_R 83 70 [l0, l1, l2, l3, l4, l5, l6, some .null, l8] [] st h Q) ∧
  (∀ (l0 l1 l2 l3 l4 l5 l6 l8 : Option Value) (st : List Value) (h : pb_H) (Q : Option Value → pb_H → Prop) (x : Nat), pb_R 83 70 [l0, l1, l2, l3, l4, l5, l6, some (.ref x), l8] [] st h Q ↔ pb_R 83 72 [l0, l1, l2, l3, l4, l5, l6, some (.ref x), l8] [] (.ref x :: st) h Q) ∧
  (∀ (l0 l1 l2 l3 l4 l5 l6 l8 : Option Value) (st : List Value) (h : pb_H) (Q : Option Value → pb_H → Prop), pb_R 83 70 [l0, l1, l2, l3, l4, l5, l6, some .null, l8] [] st h Q ↔ pb_R 83 72 [l0, l1, l2, l3, l4, l5, l6, some .null, l8] [] (.null :: st) h Q) ∧
  (∀ (L : pb_L) (J : pb_J) (st : List Value) (h : pb_H) (Q : Option Value → pb_H → Prop), pb_R 83 72 L J (.null :: st) h Q ↔ pb_R 83 75 L J st h Q) ∧
  (∀ (L : pb_L) (J : pb_J) (st : List Value) (h : pb_H) (Q : Option Value → pb_H → Prop) (x : Nat), pb_R 83 72 L J (.ref x :: st) h Q ↔ pb_R 83 79 L J st h Q) ∧
  (∀ (L : pb_L) (J : pb_J) (st : List Value) (h : pb_H) (Q : Option Value → pb_H → Prop), pb_R 83 75 L J st h Q ↔ pb_R 83 76 L J (.int (0 : Int32) :: st) h Q) ∧
  (∀ (L : pb_L) (J : pb_J) (st : List Value) (h : pb_H) (Q : Option Value → pb_H → Prop), pb_R 83 76 L J st h Q ↔ pb_R 83 93 L J st h Q) ∧
  (∀ (l0 l1 l2 l3 l4 l5 l6 l8 : Option Value) (st : List Value) (h : pb_H) (Q : Option Value → pb_H → Prop) (x : Nat), pb_R 83 79 [l0, l1, l2, l3, l4, l5, l6, some (.ref x), l8] [] st h Q ↔ pb_R 83 81 [l0, l1, l2, l3, l4, l5, l6, some (.ref x), l8] [] (.ref x :: st) h Q) ∧
  (∀ (l0 l1 l2 l3 l4 l5 l6 l8 : Option Value) (st : List Value) (h : pb_H) (Q : Option Value → pb_H → Prop), pb_R 83 79 [l0, l1, l2, l3, l4, l5, l6, some .null, l8] [] st h Q ↔ pb_R 83 81 [l0, l1, l2, l3, l4, l5, l6, some .null, l8] [] (.null :: st) h Q) ∧
  (∀ (l0 l1 l3 l4 l5 l6 l7 l8 : Option Value) (st : List Value) (h : pb_H) (Q : Option Value → pb_H → Prop) (x : Int32), pb_R 83 81 [l0, l1, some (.int x), l3, l4, l5, l6, l7, l8] [] st h Q ↔ pb_R 83 82 [l0, l1, some (.int x), l3, l4, l5, l6, l7, l8] [] (.int x :: st) h Q) ∧
  (∀ (l0 l1 l2 l4 l5 l6 l7 l8 : Option Value) (st : List Value) (h : pb_H) (Q : Option Value → pb_H → Prop) (x : Int32), pb_R 83 82 [l0, l1, l2, some (.int x), l4, l5, l6, l7, l8] [] st h Q ↔ pb_R 83 83 [l0, l1, l2, some (.int x), l4, l5, l6, l7, l8] [] (.int x :: st) h Q) ∧
  (∀ (l1 l2 l3 l4 l5 l6 l7 l8 : Option Value) (st : List Value) (h : pb_H) (Q : Option Value → pb_H → Prop) (x : Nat), pb_R 83 83 [some (.ref x), l1, l2, l3, l4, l5, l6, l7, l8] [] st h Q ↔ pb_R 83 84 [some (.ref x), l1, l2, l3, l4, l5, l6, l7, l8] [] (.ref x :: st) h Q) ∧
  (∀ (l1 l2 l3 l4 l5 l6 l7 l8 : Option Value) (st : List Value) (h : pb_H) (Q : Option Value → pb_H → Prop), pb_R 83 83 [some .null, l1, l2, l3, l4, l5, l6, l7, l8] [] st h Q ↔ pb_R 83 84 [some .null, l1, l2, l3, l4, l5, l6, l7, l8] [] (.null :: st) h Q) ∧
  (∀ (L : pb_L) (J : pb_J) (st : List Value) (h : pb_H) (Q : Option Value → pb_H → Prop) (a : Nat), pb_R 83 84 L J (.ref a :: st) h Q ↔ pb_o (pb_gf (h.2 a) 1 2) (fun v => pb_R 83 87 L J (v :: st) h Q)) ∧
  (∀ (L : pb_L) (J : pb_J) (st : List Value) (h : pb_H) (Q : Option Value → pb_H → Prop) (a : Nat), pb_R 83 87 L J (.ref a :: st) h Q ↔ pb_o (pb_gf (h.2 a) 7 1) (fun v => pb_R 83 90 L J (v :: st) h Q)) ∧
  (∀ (L : pb_L) (J : pb_J) (h : pb_H) (Q : Option Value → pb_H → Prop) (x0 : Nat) (x1 : Int32) (x2 : Int32) (x3 : Nat), pb_R 83 90 L J [.ref x0, .int x1, .int x2, .ref x3] h Q ↔ pb_is0 (h.2 x3) 4 = true ∧ pb_call 71 [.ref x3, .int x2, .int x1, .ref x0] h (fun v t => pb_R 83 93 L J (v.toList ++ []) t Q)) ∧
  (∀ (l0 l1 l2 l3 l4 l5 l6 l7 l8 : Option Value) (st : List Value) (h : pb_H) (Q : Option Value → pb_H → Prop) (x : Int32), pb_R 83 93 [l0, l1, l2, l3, l4, l5, l6, l7, l8] [] (.int x :: st) h Q ↔ pb_R 83 95 [l0, l1, l2, l3, l4, l5, l6, l7, some (.int x)] [] st h Q) ∧
  (∀ (l0 l1 l2 l3 l4 l5 l6 l7 : Option Value) (st : List Value) (h : pb_H) (Q : Option Value → pb_H → Prop) (x : Int32), pb_R 83 95 [l0, l1, l2, l3, l4, l5, l6, l7, some (.int x)] [] st h Q ↔ pb_R 83 97 [l0, l1, l2, l3, l4, l5, l6, l7, some (.int x)] [] (.int x :: st) h Q) ∧
  (∀ (L : pb_L) (J : pb_J) (st : List Value) (h : pb_H) (Q : Option Value → pb_H → Prop), pb_R 83 97 L J st h Q ↔ pb_R 83 98 L J (.int (-1 : Int32) :: st) h Q) ∧
  (∀ (L : pb_L) (J : pb_J) (st : List Value) (h : pb_H) (Q : Option Value → pb_H → Prop) (x y : Int32), pb_R 83 98 L J (.int y :: .int x :: st) h Q ↔ if ¬ x = y then pb_R 83 103 L J st h Q else pb_R 83 101 L J st h Q) ∧
  (∀ (L : pb_L) (J : pb_J) (st : List Value) (h : pb_H) (Q : Option Value → pb_H → Prop), pb_R 83 101 L J st h Q ↔ pb_R 83 102 L J (.int (1 : Int32) :: st) h Q) ∧
  (∀ (L : pb_L) (J : pb_J) (h : pb_H) (Q : Option Value → pb_H → Prop) (x : Int32), pb_R 83 102 L J [.int x] h Q ↔ narrow .boolean (.int x) = .int x ∧ Q (some (.int x)) h) ∧
  (∀ (l0 l1 l2 l3 l4 l5 l6 l7 : Option Value) (st : List Value) (h : pb_H) (Q : Option Value → pb_H → Prop) (x : Int32), pb_R 83 103 [l0, l1, l2, l3, l4, l5, l6, l7, some (.int x)] [] st h Q ↔ pb_R 83 105 [l0, l1, l2, l3, l4, l5, l6, l7, some (.int x)] [] (.int x :: st) h Q) ∧
  (∀ (L : pb_L) (J : pb_J) (st : List Value) (h : pb_H) (Q : Option Value → pb_H → Prop) (x : Int32), pb_R 83 105 L J (.int x :: st) h Q ↔ if x = 0 then pb_R 83 130 L J st h Q else pb_R 83 108 L J st h Q) ∧
  (∀ (l0 l1 l3 l4 l5 l6 l7 l8 : Option Value) (st : List Value) (h : pb_H) (Q : Option Value → pb_H → Prop) (x : Int32), pb_R 83 108 [l0, l1, some (.int x), l3, l4, l5, l6, l7, l8] [] st h Q ↔ pb_R 83 109 [l0, l1, some (.int x), l3, l4, l5, l6, l7, l8] [] (.int x :: st) h Q) ∧
  (∀ (l0 l1 l2 l3 l4 l5 l6 l7 : Option Value) (st : List Value) (h : pb_H) (Q : Option Value → pb_H → Prop) (x : Int32), pb_R 83 109 [l0, l1, l2, l3, l4, l5, l6, l7, some (.int x)] [] st h Q ↔ pb_R 83 111 [l0, l1, l2, l3, l4, l5, l6, l7, some (.int x)] [] (.int x :: st) h Q) ∧
  (∀ (l0 l1 l2 l3 l4 l5 l6 l8 : Option Value) (st : List Value) (h : pb_H) (Q : Option Value → pb_H → Prop) (x : Nat), pb_R 83 111 [l0, l1, l2, l3, l4, l5, l6, some (.ref x), l8] [] st h Q ↔ pb_R 83 113 [l0, l1, l2, l3, l4, l5, l6, some (.ref x), l8] [] (.ref x :: st) h Q) ∧
  (∀ (l0 l1 l2 l3 l4 l5 l6 l8 : Option Value) (st : List Value) (h : pb_H) (Q : Option Value → pb_H → Prop), pb_R 83 111 [l0, l1, l2, l3, l4, l5, l6, some .null, l8] [] st h Q ↔ pb_R 83 113 [l0, l1, l2, l3, l4, l5, l6, some .null, l8] [] (.null :: st) h Q) ∧
  (∀ (L : pb_L) (J : pb_J) (st : List Value) (h : pb_H) (Q : Option Value → pb_H → Prop) (a : Nat), pb_R 83 113 L J (.ref a :: st) h Q ↔ pb_o (pb_gf (h.2 a) 4 2) (fun v => pb_R 83 116 L J (v :: st) h Q)) ∧
  (∀ (L : pb_L) (J : pb_J) (st : List Value) (x y : Int32) (h : pb_H) (Q : Option Value → pb_H → Prop), pb_R 83 116 L J (.int y :: .int x :: st) h Q ↔ pb_R 83 117 L J (.int (x &&& y) :: st) h Q) ∧
  (∀ (L : pb_L) (J : pb_J) (st : List Value) (x y : Int32) (h : pb_H) (Q : Option Value → pb_H → Prop), pb_R 83 117 L J (.int y :: .int x :: st) h Q ↔ pb_R 83 118 L J (.int (x ||| y) :: st) h Q) ∧
  (∀ (l0 l1 l2 l3 l4 l5 l6 l7 l8 : Option Value) (st : List Value) (h : pb_H) (Q : Option Value → pb_H → Prop) (x : Int32), pb_R 83 118 [l0, l1, l2, l3, l4, l5, l6, l7, l8] [] (.int x :: st) h Q ↔ pb_R 83 119 [l0, l1, some (.int x), l3, l4, l5, l6, l7, l8] [] st h Q) ∧
  (∀ (l0 l1 l2 l4 l5 l6 l7 l8 : Option Value) (st : List Value) (h : pb_H) (Q : Option Value → pb_H → Prop) (x : Int32), pb_R 83 119 [l0, l1, l2, some (.int x), l4, l5, l6, l7, l8] [] st h Q ↔ pb_R 83 120 [l0, l1, l2, some (.int x), l4, l5, l6, l7, l8] [] (.int x :: st) h Q) ∧
  (∀ (l0 l1 l2 l3 l4 l5 l6 l7 : Option Value) (st : List Value) (h : pb_H) (Q : Option Value → pb_H → Prop) (x : Int32), pb_R 83 120 [l0, l1, l2, l3, l4, l5, l6, l7, some (.int x)] [] st h Q ↔ pb_R 83 122 [l0, l1, l2, l3, l4, l5, l6, l7, some (.int x)] [] (.int x :: st) h Q) ∧
  (∀ (l0 l1 l2 l3 l4 l5 l6 l8 : Option Value) (st : List Value) (h : pb_H) (Q : Option Value → pb_H → Prop) (x : Nat), pb_R 83 122 [l0, l1, l2, l3, l4, l5, l6, some (.ref x), l8] [] st h Q ↔ pb_R 83 124 [l0, l1, l2, l3, l4, l5, l6, some (.ref x), l8] [] (.ref x :: st) h Q) ∧
  (∀ (l0 l1 l2 l3 l4 l5 l6 l8 : Option Value) (st : List Value) (h : pb_H) (Q : Option Value → pb_H → Prop), pb_R 83 122 [l0, l1, l2, l3, l4, l5, l6, some .null, l8] [] st h Q ↔ pb_R 83 124 [l0, l1, l2, l3, l4, l5, l6, some .null, l8] [] (.null :: st) h Q) ∧
  (∀ (L : pb_L) (J : pb_J) (st : List Value) (h : pb_H) (Q : Option Value → pb_H → Prop) (a : Nat), pb_R 83 124 L J (.ref a :: st) h Q ↔ pb_o (pb_gf (h.2 a) 4 3) (fun v => pb_R 83 127 L J (v :: st) h Q)) ∧
  (∀ (L : pb_L) (J : pb_J) (st : List Value) (x y : Int32) (h : pb_H) (Q : Option Value → pb_H → Prop), pb_R 83 127 L J (.int y :: .int x :: st) h Q ↔ pb_R 83 128 L J (.int (x &&& y) :: st) h Q) ∧
  (∀ (L : pb_L) (J : pb_J) (st : List Value) (x y : Int32) (h : pb_H) (Q : Option Value → pb_H → Prop), pb_R 83 128 L J (.int y :: .int x :: st) h Q ↔ pb_R 83 129 L J (.int (x ||| y) :: st) h Q) ∧
  (∀ (l0 l1 l2 l3 l4 l5 l6 l7 l8 : Option Value) (st : List Value) (h : pb_H) (Q : Option Value → pb_H → Prop) (x : Int32), pb_R 83 129 [l0, l1, l2, l3, l4, l5, l6, l7, l8] [] (.int x :: st) h Q ↔ pb_R 83 130 [l0, l1, l2, some (.int x), l4, l5, l6, l7, l8] [] st h Q) ∧
  (∀ (l0 l1 l2 l3 l4 l5 l7 l8 : Option Value) (st : List Value) (h : pb_H) (Q : Option Value → pb_H → Prop) (x : Int32), pb_R 83 130 [l0, l1, l2, l3, l4, l5, some (.int x), l7, l8] [] st h Q ↔ pb_R 83 133 [l0, l1, l2, l3, l4, l5, some (.int (x + (1 : Int32))), l7, l8] [] st h Q) ∧
  (∀ (L : pb_L) (J : pb_J) (st : List Value) (h : pb_H) (Q : Option Value → pb_H → Prop), pb_R 83 133 L J st h Q ↔ pb_R 83 35 L J st h Q) ∧
  (∀ (l0 l1 l3 l4 l5 l6 l7 l8 : Option Value) (st : List Value) (h : pb_H) (Q : Option Value → pb_H → Prop) (x : Int32), pb_R 83 136 [l0, l1, some (.int x), l3, l4, l5, l6, l7, l8] [] st h Q ↔ pb_R 83 137 [l0, l1, some (.int x), l3, l4, l5, l6, l7, l8] [] (.int x :: st) h Q) ∧
  (∀ (l0 l1 l2 l4 l5 l6 l7 l8 : Option Value) (st : List Value) (h : pb_H) (Q : Option Value → pb_H → Prop) (x : Int32), pb_R 83 137 [l0, l1, l2, some (.int x), l4, l5, l6, l7, l8] [] st h Q ↔ pb_R 83 138 [l0, l1, l2, some (.int x), l4, l5, l6, l7, l8] [] (.int x :: st) h Q) ∧
  (∀ (L : pb_L) (J : pb_J) (st : List Value) (x y : Int32) (h : pb_H) (Q : Option Value → pb_H → Prop), pb_R 83 138 L J (.int y :: .int x :: st) h Q ↔ pb_R 83 139 L J (.int (x ||| y) :: st) h Q) ∧
  (∀ (l0 l1 l2 l3 l4 l6 l7 l8 : Option Value) (st : List Value) (h : pb_H) (Q : Option Value → pb_H → Prop) (x : Int32), pb_R 83 139 [l0, l1, l2, l3, l4, some (.int x), l6, l7, l8] [] st h Q ↔ pb_R 83 141 [l0, l1, l2, l3, l4, some (.int x), l6, l7, l8] [] (.int x :: st) h Q) ∧
  (∀ (L : pb_L) (J : pb_J) (st : List Value) (h : pb_H) (Q : Option Value → pb_H → Prop) (x y : Int32), pb_R 83 141 L J (.int y :: .int x :: st) h Q ↔ if ¬ x = y then pb_R 83 146 L J st h Q else pb_R 83 144 L J st h Q) ∧
  (∀ (L : pb_L) (J : pb_J) (st : List Value) (h : pb_H) (Q : Option Value → pb_H → Prop), pb_R 83 144 L J st h Q ↔ pb_R 83 145 L J (.int (0 : Int32) :: st) h Q) ∧
  (∀ (L : pb_L) (J : pb_J) (h : pb_H) (Q : Option Value → pb_H → Prop) (x : Int32), pb_R 83 145 L J [.int x] h Q ↔ narrow .boolean (.int x) = .int x ∧ Q (some (.int x)) h) ∧
  (∀ (l0 l1 l2 l3 l5 l6 l7 l8 : Option Value) (st : List Value) (h : pb_H) (Q : Option Value → pb_H → Prop) (x : Int32), pb_R 83 146 [l0, l1, l2, l3, some (.int x), l5, l6, l7, l8] [] st h Q ↔ pb_R 83 149 [l0, l1, l2, l3, some (.int (x + (1 : Int32))), l5, l6, l7, l8] [] st h Q) ∧
  (∀ (L : pb_L) (J : pb_J) (st : List Value) (h : pb_H) (Q : Option Value → pb_H → Prop), pb_R 83 149 L J st h Q ↔ pb_R 83 15 L J st h Q) ∧
  (∀ (L : pb_L) (J : pb_J) (st : List Value) (h : pb_H) (Q : Option Value → pb_H → Prop), pb_R 83 152 L J st h Q ↔ pb_R 83 153 L J (.int (0 : Int32) :: st) h Q) ∧
  (∀ (L : pb_L) (J : pb_J) (h : pb_H) (Q : Option Value → pb_H → Prop) (x : Int32), pb_R 83 153 L J [.int x] h Q ↔ narrow .boolean (.int x) = .int x ∧ Q (some (.int x)) h) := ⟨
  fun l1 l2 l3 l4 l5 l6 l7 l8 st h Q x => pf_S pb_u_83 rfl rfl,
  fun l1 l2 l3 l4 l5 l6 l7 l8 st h Q => pf_S pb_u_83 rfl rfl,
  fun L J st h Q a => pf_gf pb_u_83 rfl rfl,
  fun l0 l2 l3 l4 l5 l6 l7 l8 st h Q x => pf_S pb_u_83 rfl rfl,
  fun l0 l2 l3 l4 l5 l6 l7 l8 st h Q => pf_S pb_u_83 rfl rfl,
  fun L J h Q x0 x1 => pf_kv pb_u_83 rfl pb_ci_82 rfl ⟨Nat.le_of_ble_eq_true rfl, Nat.le_of_ble_eq_true rfl, Nat.le_of_ble_eq_true rfl, Nat.le_of_ble_eq_true rfl, rfl⟩ rfl rfl,
  fun L J st h Q => pf_S pb_u_83 rfl rfl,
  fun l0 l1 l2 l3 l4 l5 l6 l7 l8 st h Q x => pf_S pb_u_83 rfl rfl,
  fun L J st h Q => pf_S pb_u_83 rfl rfl,
  fun l0 l1 l2 l3 l4 l5 l6 l7 l8 st h Q x => pf_S pb_u_83 rfl rfl,
  fun L J st h Q => pf_S pb_u_83 rfl rfl,
  fun l0 l1 l2 l3 l4 l5 l6 l7 l8 st h Q x => pf_S pb_u_83 rfl rfl,
  fun l1 l2 l3 l4 l5 l6 l7 l8 st h Q x => pf_S pb_u_83 rfl rfl,
  fun l1 l2 l3 l4 l5 l6 l7 l8 st h Q => pf_S pb_u_83 rfl rfl,
  fun L J st h Q a => pf_gf pb_u_83 rfl rfl,
  fun L J st h Q a => pf_gf pb_u_83 rfl rfl,
  fun L J st h Q x y => pf_ic pb_u_83 rfl rfl rfl,
  fun l0 l1 l3 l4 l5 l6 l7 l8 st h Q x => pf_S pb_u_83 rfl rfl,
  fun l0 l1 l2 l4 l5 l6 l7 l8 st h Q x => pf_S pb_u_83 rfl rfl,
  fun L J st x y h Q => pf_S pb_u_83 rfl rfl,
  fun l0 l1 l2 l3 l4 l5 l6 l7 l8 st h Q x => pf_S pb_u_83 rfl rfl,
  fun L J st h Q => pf_S pb_u_83 rfl rfl,
  fun l0 l1 l2 l3 l4 l5 l6 l7 l8 st h Q x => pf_S pb_u_83 rfl rfl,
  fun l1 l2 l3 l4 l5 l6 l7 l8 st h Q x => pf_S pb_u_83 rfl rfl,
  fun l1 l2 l3 l4 l5 l6 l7 l8 st h Q => pf_S pb_u_83 rfl rfl,
  fun L J st h Q a => pf_gf pb_u_83 rfl rfl,
  fun L J st h Q a => pf_gf pb_u_83 rfl rfl,
  fun L J st h Q x y => pf_ic pb_u_83 rfl rfl rfl,
  fun l0 l1 l2 l3 l4 l5 l7 l8 st h Q x => pf_S pb_u_83 rfl rfl,
  fun L J st h Q x => pf_ii pb_u_83 rfl rfl pf_ne,
  fun l1 l2 l3 l4 l5 l6 l7 l8 st h Q x => pf_S pb_u_83 rfl rfl,
  fun l1 l2 l3 l4 l5 l6 l7 l8 st h Q => pf_S pb_u_83 rfl rfl,
  fun L J st h Q a => pf_gf pb_u_83 rfl rfl,
  fun L J st h Q => pf_S pb_u_83 rfl rfl,
  fun l1 l2 l3 l4 l5 l6 l7 l8 st h Q x => pf_S pb_u_83 rfl rfl,
  fun l1 l2 l3 l4 l5 l6 l7 l8 st h Q => pf_S pb_u_83 rfl rfl,
  fun L J st h Q a => pf_gf pb_u_83 rfl rfl,
  fun l0 l1 l2 l3 l4 l5 l7 l8 st h Q x => pf_S pb_u_83 rfl rfl,
  fun L J h Q x0 x1 => pf_kv pb_u_83 rfl pb_ci_46 rfl ⟨Nat.le_of_ble_eq_true rfl, Nat.le_of_ble_eq_true rfl, Nat.le_of_ble_eq_true rfl, Nat.le_of_ble_eq_true rfl, rfl⟩ rfl rfl,
  fun l0 l1 l2 l3 l4 l5 l6 l7 l8 st h Q x => pf_S pb_u_83 rfl rfl,
  fun l0 l1 l2 l3 l4 l5 l6 l7 l8 st h Q => pf_S pb_u_83 rfl rfl,
  fun l0 l1 l2 l3 l4 l5 l6 l8 st h Q x => pf_S pb_u_83 rfl rfl,
  fun l0 l1 l2 l3 l4 l5 l6 l8 st h Q => pf_S pb_u_83 rfl rfl,
  fun L J st h Q => pf_S pb_u_83 rfl rfl,
  fun L J st h Q x => pf_S pb_u_83 rfl rfl,
  fun L J st h Q => pf_S pb_u_83 rfl rfl,
  fun L J st h Q => pf_S pb_u_83 rfl rfl,
  fun l0 l1 l2 l3 l4 l5 l6 l8 st h Q x => pf_S pb_u_83 rfl rfl,
  fun l0 l1 l2 l3 l4 l5 l6 l8 st h Q => pf_S pb_u_83 rfl rfl,
  fun l0 l1 l3 l4 l5 l6 l7 l8 st h Q x => pf_S pb_u_83 rfl rfl,
  fun l0 l1 l2 l4 l5 l6 l7 l8 st h Q x => pf_S pb_u_83 rfl rfl,
  fun l1 l2 l3 l4 l5 l6 l7 l8 st h Q x => pf_S pb_u_83 rfl rfl,
  fun l1 l2 l3 l4 l5 l6 l7 l8 st h Q => pf_S pb_u_83 rfl rfl,
  fun L J st h Q a => pf_gf pb_u_83 rfl rfl,
  fun L J st h Q a => pf_gf pb_u_83 rfl rfl,
  fun L J h Q x0 x1 x2 x3 => pf_kv pb_u_83 rfl pb_ci_71 rfl ⟨Nat.le_of_ble_eq_true rfl, Nat.le_of_ble_eq_true rfl, Nat.le_of_ble_eq_true rfl, Nat.le_of_ble_eq_true rfl, rfl⟩ rfl rfl,
  fun l0 l1 l2 l3 l4 l5 l6 l7 l8 st h Q x => pf_S pb_u_83 rfl rfl,
  fun l0 l1 l2 l3 l4 l5 l6 l7 st h Q x => pf_S pb_u_83 rfl rfl,
  fun L J st h Q => pf_S pb_u_83 rfl rfl,
  fun L J st h Q x y => pf_ic pb_u_83 rfl rfl pf_ne,
  fun L J st h Q => pf_S pb_u_83 rfl rfl,
  fun L J h Q x => pf_rz pb_u_83 rfl rfl,
  fun l0 l1 l2 l3 l4 l5 l6 l7 st h Q x => pf_S pb_u_83 rfl rfl,
  fun L J st h Q x => pf_ii pb_u_83 rfl rfl rfl,
  fun l0 l1 l3 l4 l5 l6 l7 l8 st h Q x => pf_S pb_u_83 rfl rfl,
  fun l0 l1 l2 l3 l4 l5 l6 l7 st h Q x => pf_S pb_u_83 rfl rfl,
  fun l0 l1 l2 l3 l4 l5 l6 l8 st h Q x => pf_S pb_u_83 rfl rfl,
  fun l0 l1 l2 l3 l4 l5 l6 l8 st h Q => pf_S pb_u_83 rfl rfl,
  fun L J st h Q a => pf_gf pb_u_83 rfl rfl,
  fun L J st x y h Q => pf_S pb_u_83 rfl rfl,
  fun L J st x y h Q => pf_S pb_u_83 rfl rfl,
  fun l0 l1 l2 l3 l4 l5 l6 l7 l8 st h Q x => pf_S pb_u_83 rfl rfl,
  fun l0 l1 l2 l4 l5 l6 l7 l8 st h Q x => pf_S pb_u_83 rfl rfl,
  fun l0 l1 l2 l3 l4 l5 l6 l7 st h Q x => pf_S pb_u_83 rfl rfl,
  fun l0 l1 l2 l3 l4 l5 l6 l8 st h Q x => pf_S pb_u_83 rfl rfl,
  fun l0 l1 l2 l3 l4 l5 l6 l8 st h Q => pf_S pb_u_83 rfl rfl,
  fun L J st h Q a => pf_gf pb_u_83 rfl rfl,
  fun L J st x y h Q => pf_S pb_u_83 rfl rfl,
  fun L J st x y h Q => pf_S pb_u_83 rfl rfl,
  fun l0 l1 l2 l3 l4 l5 l6 l7 l8 st h Q x => pf_S pb_u_83 rfl rfl,
  fun l0 l1 l2 l3 l4 l5 l7 l8 st h Q x => pf_S pb_u_83 rfl rfl,
  fun L J st h Q => pf_S pb_u_83 rfl rfl,
  fun l0 l1 l3 l4 l5 l6 l7 l8 st h Q x => pf_S pb_u_83 rfl rfl,
  fun l0 l1 l2 l4 l5 l6 l7 l8 st h Q x => pf_S pb_u_83 rfl rfl,
  fun L J st x y h Q => pf_S pb_u_83 rfl rfl,
  fun l0 l1 l2 l3 l4 l6 l7 l8 st h Q x => pf_S pb_u_83 rfl rfl,
  fun L J st h Q x y => pf_ic pb_u_83 rfl rfl pf_ne,
  fun L J st h Q => pf_S pb_u_83 rfl rfl,
  fun L J h Q x => pf_rz pb_u_83 rfl rfl,
  fun l0 l1 l2 l3 l5 l6 l7 l8 st h Q x => pf_S pb_u_83 rfl rfl,
  fun L J st h Q => pf_S pb_u_83 rfl rfl,
  fun L J st h Q => pf_S pb_u_83 rfl rfl,
  fun L J h Q x => pf_rz pb_u_83 rfl rfl⟩
theorem pb_c83 (x0 : Nat) (x1 : Nat) (h : pb_H) (Q : Option Value → pb_H → Prop) : pb_call 83 [.ref x0, .ref x1] h Q ↔ pb_R 83 0 [some (.ref x0), some (.ref x1), none, none, none, none, none, none, none] [] [] h Q := Iff.rfl
/-! 84: PlaneBench$Checker.takeForced()Z -/
theorem pb_u_84 : pb_t 84 = pb_t84 := rfl
theorem pb_ci_84 : pb_ci 84 = 1 := by decide +kernel
set_option maxRecDepth 100000 in
theorem pb_e84 : (∀ (st : List Value) (h : pb_H) (Q : Option Value → pb_H → Prop) (x : Nat), pb_R 84 0 [some (.ref x)] [] st h Q ↔ pb_R 84 1 [some (.ref x)] [] (.ref x :: st) h Q) ∧
  (∀ (st : List Value) (h : pb_H) (Q : Option Value → pb_H → Prop), pb_R 84 0 [some .null] [] st h Q ↔ pb_R 84 1 [some .null] [] (.null :: st) h Q) ∧
  (∀ (L : pb_L) (J : pb_J) (st : List Value) (h : pb_H) (Q : Option Value → pb_H → Prop) (a : Nat), pb_R 84 1 L J (.ref a :: st) h Q ↔ pb_o (pb_gf (h.2 a) 1 0) (fun v => pb_R 84 4 L J (v :: st) h Q)) ∧
  (∀ (L : pb_L) (J : pb_J) (h : pb_H) (Q : Option Value → pb_H → Prop) (x0 : Nat), pb_R 84 4 L J [.ref x0] h Q ↔ pb_is0 (h.2 x0) 8 = true ∧ pb_call 23 [.ref x0] h (fun v t => pb_R 84 7 L J (v.toList ++ []) t Q)) ∧
  (∀ (st : List Value) (h : pb_H) (Q : Option Value → pb_H → Prop) (x : Nat), pb_R 84 7 [some (.ref x)] [] st h Q ↔ pb_R 84 8 [some (.ref x)] [] (.ref x :: st) h Q) ∧
  (∀ (st : List Value) (h : pb_H) (Q : Option Value → pb_H → Prop), pb_R 84 7 [some .null] [] st h Q ↔ pb_R 84 8 [some .null] [] (.null :: st) h Q) ∧
  (∀ (L : pb_L) (J : pb_J) (st : List Value) (h : pb_H) (Q : Option Value → pb_H → Prop) (a : Nat), pb_R 84 8 L J (.ref a :: st) h Q ↔ pb_o (pb_gf (h.2 a) 1 1) (fun v => pb_R 84 11 L J (v :: st) h Q)) ∧
  (∀ (L : pb_L) (J : pb_J) (st : List Value) (h : pb_H) (Q : Option Value → pb_H → Prop), pb_R 84 11 L J st h Q ↔ pb_R 84 12 L J (.int (0 : Int32) :: st) h Q) ∧
  (∀ (L : pb_L) (J : pb_J) (h : pb_H) (Q : Option Value → pb_H → Prop) (x0 : Int32) (x1 : Nat), pb_R 84 12 L J [.int x0, .ref x1] h Q ↔ pb_is0 (h.2 x1) 2 = true ∧ pb_call 80 [.ref x1, .int x0] h (fun v t => pb_R 84 15 L J (v.toList ++ []) t Q)) ∧
  (∀ (L : pb_L) (J : pb_J) (st : List Value) (h : pb_H) (Q : Option Value → pb_H → Prop) (x : Int32), pb_R 84 15 L J (.int x :: st) h Q ↔ if ¬ x = 0 then pb_R 84 20 L J st h Q else pb_R 84 18 L J st h Q) ∧
  (∀ (L : pb_L) (J : pb_J) (st : List Value) (h : pb_H) (Q : Option Value → pb_H → Prop), pb_R 84 18 L J st h Q ↔ pb_R 84 19 L J (.int (0 : Int32) :: st) h Q) ∧
  (∀ (L : pb_L) (J : pb_J) (h : pb_H) (Q : Option Value → pb_H → Prop) (x : Int32), pb_R 84 19 L J [.int x] h Q ↔ narrow .boolean (.int x) = .int x ∧ Q (some (.int x)) h) ∧
  (∀ (st : List Value) (h : pb_H) (Q : Option Value → pb_H → Prop) (x : Nat), pb_R 84 20 [some (.ref x)] [] st h Q ↔ pb_R 84 21 [some (.ref x)] [] (.ref x :: st) h Q) ∧
  (∀ (st : List Value) (h : pb_H) (Q : Option Value → pb_H → Prop), pb_R 84 20 [some .null] [] st h Q ↔ pb_R 84 21 [some .null] [] (.null :: st) h Q) ∧
  (∀ (L : pb_L) (J : pb_J) (st : List Value) (h : pb_H) (Q : Option Value → pb_H → Prop) (a : Nat), pb_R 84 21 L J (.ref a :: st) h Q ↔ pb_o (pb_gf (h.2 a) 1 3) (fun v => pb_R 84 24 L J (v :: st) h Q)) ∧
  (∀ (L : pb_L) (J : pb_J) (st : List Value) (h : pb_H) (Q : Option Value → pb_H → Prop), pb_R 84 24 L J st h Q ↔ pb_R 84 25 L J (.int (0 : Int32) :: st) h Q) ∧
  (∀ (L : pb_L) (J : pb_J) (st : List Value) (h : pb_H) (Q : Option Value → pb_H → Prop) (a : Nat) (i : Int32), pb_R 84 25 L J (.int i :: .ref a :: st) h Q ↔ pb_o (pb_aa (h.2 a) i) (fun v => pb_R 84 26 L J (va_rf v :: st) h Q)) ∧
  (∀ (st : List Value) (h : pb_H) (Q : Option Value → pb_H → Prop) (x : Nat), pb_R 84 26 [some (.ref x)] [] st h Q ↔ pb_R 84 27 [some (.ref x)] [] (.ref x :: st) h Q) ∧
  (∀ (st : List Value) (h : pb_H) (Q : Option Value → pb_H → Prop), pb_R 84 26 [some .null] [] st h Q ↔ pb_R 84 27 [some .null] [] (.null :: st) h Q) ∧
  (∀ (L : pb_L) (J : pb_J) (st : List Value) (h : pb_H) (Q : Option Value → pb_H → Prop) (a : Nat), pb_R 84 27 L J (.ref a :: st) h Q ↔ pb_o (pb_gf (h.2 a) 1 1) (fun v => pb_R 84 30 L J (v :: st) h Q)) ∧
  (∀ (L : pb_L) (J : pb_J) (st : List Value) (h : pb_H) (Q : Option Value → pb_H → Prop) (a : Nat), pb_R 84 30 L J (.ref a :: st) h Q ↔ pb_o (pb_gf (h.2 a) 2 2) (fun v => pb_R 84 33 L J (v :: st) h Q)) ∧
  (∀ (L : pb_L) (J : pb_J) (st : List Value) (h : pb_H) (Q : Option Value → pb_H → Prop), pb_R 84 33 L J st h Q ↔ pb_R 84 34 L J (.int (0 : Int32) :: st) h Q) ∧
  (∀ (L : pb_L) (J : pb_J) (h : pb_H) (Q : Option Value → pb_H → Prop) (x0 : Int32) (x1 : Nat) (x2 : Nat), pb_R 84 34 L J [.int x0, .ref x1, .ref x2] h Q ↔ pb_is0 (h.2 x2) 4 = true ∧ pb_call 81 [.ref x2, .ref x1, .int x0] h (fun v t => pb_R 84 37 L J (v.toList ++ []) t Q)) ∧
  (∀ (st : List Value) (h : pb_H) (Q : Option Value → pb_H → Prop) (x : Nat), pb_R 84 37 [some (.ref x)] [] st h Q ↔ pb_R 84 38 [some (.ref x)] [] (.ref x :: st) h Q) ∧
  (∀ (st : List Value) (h : pb_H) (Q : Option Value → pb_H → Prop), pb_R 84 37 [some .null] [] st h Q ↔ pb_R 84 38 [some .null] [] (.null :: st) h Q) ∧
  (∀ (L : pb_L) (J : pb_J) (st : List Value) (h : pb_H) (Q : Option Value → pb_H → Prop) (a : Nat), pb_R 84 38 L J (.ref a :: st) h Q ↔ pb_o (pb_gf (h.2 a) 1 2) (fun v => pb_R 84 41 L J (v :: st) h Q)) ∧
  (∀ (L : pb_L) (J : pb_J) (h : pb_H) (Q : Option Value → pb_H → Prop) (x0 : Nat), pb_R 84 41 L J [.ref x0] h Q ↔ pb_is0 (h.2 x0) 7 = true ∧ pb_call 68 [.ref x0] h (fun v t => pb_R 84 44 L J (v.toList ++ []) t Q)) ∧
  (∀ (L : pb_L) (J : pb_J) (st : List Value) (h : pb_H) (Q : Option Value → pb_H → Prop) (x : Int32), pb_R 84 44 L J (.int x :: st) h Q ↔ if ¬ x = 0 then pb_R 84 70 L J st h Q else pb_R 84 47 L J st h Q) ∧
  (∀ (st : List Value) (h : pb_H) (Q : Option Value → pb_H → Prop) (x : Nat), pb_R 84 47 [some (.ref x)] [] st h Q ↔ pb_R 84 48 [some (.ref x)] [] (.ref x :: st) h Q) ∧
  (∀ (st : List Value) (h : pb_H) (Q : Option Value → pb_H → Prop), pb_R 84 47 [some .null] [] st h Q ↔ pb_R 84 48 [some .null] [] (.null :: st) h Q) ∧
  (∀ (st : List Value) (h : pb_H) (Q : Option Value → pb_H → Prop) (x : Nat), pb_R 84 48 [some (.ref x)] [] st h Q ↔ pb_R 84 49 [some (.ref x)] [] (.ref x :: st) h Q) ∧
  (∀ (st : List Value) (h : pb_H) (Q : Option Value → pb_H → Prop), pb_R 84 48 [some .null] [] st h Q ↔ pb_R 84 49 [some .null] [] (.null :: st) h Q) ∧
  (∀ (L : pb_L) (J : pb_J) (st : List Value) (h : pb_H) (Q : Option Value → pb_H → Prop) (a : Nat), pb_R 84 49 L J (.ref a :: st) h Q ↔ pb_o (pb_gf (h.2 a) 1 3) (fun v => pb_R 84 52 L J (v :: st) h Q)) ∧
  (∀ (L : pb_L) (J : pb_J) (st : List Value) (h : pb_H) (Q : Option Value → pb_H → Prop), pb_R 84 52 L J st h Q ↔ pb_R 84 53 L J (.int (0 : Int32) :: st) h Q) ∧
  (∀ (L : pb_L) (J : pb_J) (st : List Value) (h : pb_H) (Q : Option Value → pb_H → Prop) (a : Nat) (i : Int32), pb_R 84 53 L J (.int i :: .ref a :: st) h Q ↔ pb_o (pb_aa (h.2 a) i) (fun v => pb_R 84 54 L J (va_rf v :: st) h Q)) ∧
  (∀ (L : pb_L) (J : pb_J) (h : pb_H) (Q : Option Value → pb_H → Prop) (x0 : Nat) (x1 : Nat), pb_R 84 54 L J [.ref x0, .ref x1] h Q ↔ pb_is0 (h.2 x1) 1 = true ∧ pb_call 83 [.ref x1, .ref x0] h (fun v t => pb_R 84 57 L J (v.toList ++ []) t Q)) ∧
  (∀ (L : pb_L) (J : pb_J) (st : List Value) (h : pb_H) (Q : Option Value → pb_H → Prop) (x : Int32), pb_R 84 57 L J (.int x :: st) h Q ↔ if ¬ x = 0 then pb_R 84 70 L J st h Q else pb_R 84 60 L J st h Q) ∧
  (∀ (st : List Value) (h : pb_H) (Q : Option Value → pb_H → Prop) (x : Nat), pb_R 84 60 [some (.ref x)] [] st h Q ↔ pb_R 84 61 [some (.ref x)] [] (.ref x :: st) h Q) ∧
  (∀ (st : List Value) (h : pb_H) (Q : Option Value → pb_H → Prop), pb_R 84 60 [some .null] [] st h Q ↔ pb_R 84 61 [some .null] [] (.null :: st) h Q) ∧
  (∀ (L : pb_L) (J : pb_J) (st : List Value) (h : pb_H) (Q : Option Value → pb_H → Prop) (a : Nat), pb_R 84 61 L J (.ref a :: st) h Q ↔ pb_o (pb_gf (h.2 a) 1 0) (fun v => pb_R 84 64 L J (v :: st) h Q)) ∧
  (∀ (L : pb_L) (J : pb_J) (st : List Value) (h : pb_H) (Q : Option Value → pb_H → Prop), pb_R 84 64 L J st h Q ↔ pb_R 84 66 L J (.int (6 : Int32) :: st) h Q) ∧
  (∀ (L : pb_L) (J : pb_J) (h : pb_H) (Q : Option Value → pb_H → Prop) (x0 : Int32) (x1 : Nat), pb_R 84 66 L J [.int x0, .ref x1] h Q ↔ pb_is0 (h.2 x1) 8 = true ∧ pb_call 29 [.ref x1, .int x0] h (fun v t => pb_R 84 69 L J (v.toList ++ []) t Q)) ∧
  (∀ (L : pb_L) (J : pb_J) (h : pb_H) (Q : Option Value → pb_H → Prop) (x : Int32), pb_R 84 69 L J [.int x] h Q ↔ narrow .boolean (.int x) = .int x ∧ Q (some (.int x)) h) ∧
  (∀ (st : List Value) (h : pb_H) (Q : Option Value → pb_H → Prop) (x : Nat), pb_R 84 70 [some (.ref x)] [] st h Q ↔ pb_R 84 71 [some (.ref x)] [] (.ref x :: st) h Q) ∧
  (∀ (st : List Value) (h : pb_H) (Q : Option Value → pb_H → Prop), pb_R 84 70 [some .null] [] st h Q ↔ pb_R 84 71 [some .null] [] (.null :: st) h Q) ∧
  (∀ (L : pb_L) (J : pb_J) (st : List Value) (h : pb_H) (Q : Option Value → pb_H → Prop), pb_R 84 71 L J st h Q ↔ pb_R 84 72 L J (.int (3 : Int32) :: st) h Q) ∧
  (∀ (L : pb_L) (J : pb_J) (h : pb_H) (Q : Option Value → pb_H → Prop) (x0 : Int32) (x1 : Nat), pb_R 84 72 L J [.int x0, .ref x1] h Q ↔ pb_is0 (h.2 x1) 1 = true ∧ pb_call 73 [.ref x1, .int x0] h (fun v t => pb_R 84 75 L J (v.toList ++ []) t Q)) ∧
  (∀ (L : pb_L) (J : pb_J) (h : pb_H) (Q : Option Value → pb_H → Prop) (x : Int32), pb_R 84 75 L J [.int x] h Q ↔ narrow .boolean (.int x) = .int x ∧ Q (some (.int x)) h) := ⟨
  fun st h Q x => pf_S pb_u_84 rfl rfl,
  fun st h Q => pf_S pb_u_84 rfl rfl,
  fun L J st h Q a => pf_gf pb_u_84 rfl rfl,
  fun L J h Q x0 => pf_kv pb_u_84 rfl pb_ci_23 rfl ⟨Nat.le_of_ble_eq_true rfl, Nat.le_of_ble_eq_true rfl, Nat.le_of_ble_eq_true rfl, Nat.le_of_ble_eq_true rfl, rfl⟩ rfl rfl,
  fun st h Q x => pf_S pb_u_84 rfl rfl,
  fun st h Q => pf_S pb_u_84 rfl rfl,
  fun L J st h Q a => pf_gf pb_u_84 rfl rfl,
  fun L J st h Q => pf_S pb_u_84 rfl rfl,
  fun L J h Q x0 x1 => pf_kv pb_u_84 rfl pb_ci_80 rfl ⟨Nat.le_of_ble_eq_true rfl, Nat.le_of_ble_eq_true rfl, Nat.le_of_ble_eq_true rfl, Nat.le_of_ble_eq_true rfl, rfl⟩ rfl rfl,
  fun L J st h Q x => pf_ii pb_u_84 rfl rfl pf_ne,
  fun L J st h Q => pf_S pb_u_84 rfl rfl,
  fun L J h Q x => pf_rz pb_u_84 rfl rfl,
  fun st h Q x => pf_S pb_u_84 rfl rfl,
  fun st h Q => pf_S pb_u_84 rfl rfl,
  fun L J st h Q a => pf_gf pb_u_84 rfl rfl,
  fun L J st h Q => pf_S pb_u_84 rfl rfl,
  fun L J st h Q a i => pf_aa pb_u_84 rfl rfl,
  fun st h Q x => pf_S pb_u_84 rfl rfl,
  fun st h Q => pf_S pb_u_84 rfl rfl,
  fun L J st h Q a => pf_gf pb_u_84 rfl rfl,
  fun L J st h Q a => pf_gf pb_u_84 rfl rfl,
  fun L J st h Q => pf_S pb_u_84 rfl rfl,
  fun L J h Q x0 x1 x2 => pf_kv pb_u_84 rfl pb_ci_81 rfl ⟨Nat.le_of_ble_eq_true rfl, Nat.le_of_ble_eq_true rfl, Nat.le_of_ble_eq_true rfl, Nat.le_of_ble_eq_true rfl, rfl⟩ rfl rfl,
  fun st h Q x => pf_S pb_u_84 rfl rfl,
  fun st h Q => pf_S pb_u_84 rfl rfl,
  fun L J st h Q a => pf_gf pb_u_84 rfl rfl,
  fun L J h Q x0 => pf_kv pb_u_84 rfl pb_ci_68 rfl ⟨Nat.le_of_ble_eq_true rfl, Nat.le_of_ble_eq_true rfl, Nat.le_of_ble_eq_true rfl, Nat.le_of_ble_eq_true rfl, rfl⟩ rfl rfl,
  fun L J st h Q x => pf_ii pb_u_84 rfl rfl pf_ne,
  fun st h Q x => pf_S pb_u_84 rfl rfl,
  fun st h Q => pf_S pb_u_84 rfl rfl,
  fun st h Q x => pf_S pb_u_84 rfl rfl,
  fun st h Q => pf_S pb_u_84 rfl rfl,
  fun L J st h Q a => pf_gf pb_u_84 rfl rfl,
  fun L J st h Q => pf_S pb_u_84 rfl rfl,
  fun L J st h Q a i => pf_aa pb_u_84 rfl rfl,
  fun L J h Q x0 x1 => pf_kv pb_u_84 rfl pb_ci_83 rfl ⟨Nat.le_of_ble_eq_true rfl, Nat.le_of_ble_eq_true rfl, Nat.le_of_ble_eq_true rfl, Nat.le_of_ble_eq_true rfl, rfl⟩ rfl rfl,
  fun L J st h Q x => pf_ii pb_u_84 rfl rfl pf_ne,
  fun st h Q x => pf_S pb_u_84 rfl rfl,
  fun st h Q => pf_S pb_u_84 rfl rfl,
  fun L J st h Q a => pf_gf pb_u_84 rfl rfl,
  fun L J st h Q => pf_S pb_u_84 rfl rfl,
  fun L J h Q x0 x1 => pf_kv pb_u_84 rfl pb_ci_29 rfl ⟨Nat.le_of_ble_eq_true rfl, Nat.le_of_ble_eq_true rfl, Nat.le_of_ble_eq_true rfl, Nat.le_of_ble_eq_true rfl, rfl⟩ rfl rfl,
  fun L J h Q x => pf_rz pb_u_84 rfl rfl,
  fun st h Q x => pf_S pb_u_84 rfl rfl,
  fun st h Q => pf_S pb_u_84 rfl rfl,
  fun L J st h Q => pf_S pb_u_84 rfl rfl,
  fun L J h Q x0 x1 => pf_kv pb_u_84 rfl pb_ci_73 rfl ⟨Nat.le_of_ble_eq_true rfl, Nat.le_of_ble_eq_true rfl, Nat.le_of_ble_eq_true rfl, Nat.le_of_ble_eq_true rfl, rfl⟩ rfl rfl,
  fun L J h Q x => pf_rz pb_u_84 rfl rfl⟩
theorem pb_c84 (x0 : Nat) (h : pb_H) (Q : Option Value → pb_H → Prop) : pb_call 84 [.ref x0] h Q ↔ pb_R 84 0 [some (.ref x0)] [] [] h Q := Iff.rfl
/-! 85: PlaneBench$Line.isFalse([I)Z -/
theorem pb_u_85 : pb_t 85 = pb_t85 := rfl
theorem pb_ci_85 : pb_ci 85 = 4 := by decide +kernel
set_option maxRecDepth 100000 in
theorem pb_e85 : (∀ (l1 : Option Value) (st : List Value) (h : pb_H) (Q : Option Value → pb_H → Prop) (x : Nat), pb_R 85 0 [some (.ref x), l1] [] st h Q ↔ pb_R 85 1 [some (.ref x), l1] [] (.ref x :: st) h Q) ∧
  (∀ (l1 : Option Value) (st : List Value) (h : pb_H) (Q : Option Value → pb_H → Prop), pb_R 85 0 [some .null, l1] [] st h Q ↔ pb_R 85 1 [some .null, l1] [] (.null :: st) h Q) ∧
  (∀ (L : pb_L) (J : pb_J) (st : List Value) (h : pb_H) (Q : Option Value → pb_H → Prop), pb_R 85 1 L J st h Q ↔ pb_R 85 2 L J (.int (0 : Int32) :: st) h Q) ∧
  (∀ (L : pb_L) (J : pb_J) (st : List Value) (h : pb_H) (Q : Option Value → pb_H → Prop), pb_R 85 2 L J st h Q ↔ pb_R 85 3 L J (.int (0 : Int32) :: st) h Q) ∧
  (∀ (l0 : Option Value) (st : List Value) (h : pb_H) (Q : Option Value → pb_H → Prop) (x : Nat), pb_R 85 3 [l0, some (.ref x)] [] st h Q ↔ pb_R 85 4 [l0, some (.ref x)] [] (.ref x :: st) h Q) ∧
  (∀ (l0 : Option Value) (st : List Value) (h : pb_H) (Q : Option Value → pb_H → Prop), pb_R 85 3 [l0, some .null] [] st h Q ↔ pb_R 85 4 [l0, some .null] [] (.null :: st) h Q) ∧
  (∀ (L : pb_L) (J : pb_J) (h : pb_H) (Q : Option Value → pb_H → Prop) (x0 : Nat) (x1 : Int32) (x2 : Int32) (x3 : Nat), pb_R 85 4 L J [.ref x0, .int x1, .int x2, .ref x3] h Q ↔ pb_is0 (h.2 x3) 4 = true ∧ pb_call 71 [.ref x3, .int x2, .int x1, .ref x0] h (fun v t => pb_R 85 7 L J (v.toList ++ []) t Q)) ∧
  (∀ (L : pb_L) (J : pb_J) (st : List Value) (h : pb_H) (Q : Option Value → pb_H → Prop), pb_R 85 7 L J st h Q ↔ pb_R 85 8 L J (.int (-1 : Int32) :: st) h Q) ∧
  (∀ (L : pb_L) (J : pb_J) (st : List Value) (h : pb_H) (Q : Option Value → pb_H → Prop) (x y : Int32), pb_R 85 8 L J (.int y :: .int x :: st) h Q ↔ if ¬ x = y then pb_R 85 15 L J st h Q else pb_R 85 11 L J st h Q) ∧
  (∀ (L : pb_L) (J : pb_J) (st : List Value) (h : pb_H) (Q : Option Value → pb_H → Prop), pb_R 85 11 L J st h Q ↔ pb_R 85 12 L J (.int (1 : Int32) :: st) h Q) ∧
  (∀ (L : pb_L) (J : pb_J) (st : List Value) (h : pb_H) (Q : Option Value → pb_H → Prop), pb_R 85 12 L J st h Q ↔ pb_R 85 16 L J st h Q) ∧
  (∀ (L : pb_L) (J : pb_J) (st : List Value) (h : pb_H) (Q : Option Value → pb_H → Prop), pb_R 85 15 L J st h Q ↔ pb_R 85 16 L J (.int (0 : Int32) :: st) h Q) ∧
  (∀ (L : pb_L) (J : pb_J) (h : pb_H) (Q : Option Value → pb_H → Prop) (x : Int32), pb_R 85 16 L J [.int x] h Q ↔ narrow .boolean (.int x) = .int x ∧ Q (some (.int x)) h) := ⟨
  fun l1 st h Q x => pf_S pb_u_85 rfl rfl,
  fun l1 st h Q => pf_S pb_u_85 rfl rfl,
  fun L J st h Q => pf_S pb_u_85 rfl rfl,
  fun L J st h Q => pf_S pb_u_85 rfl rfl,
  fun l0 st h Q x => pf_S pb_u_85 rfl rfl,
  fun l0 st h Q => pf_S pb_u_85 rfl rfl,
  fun L J h Q x0 x1 x2 x3 => pf_kv pb_u_85 rfl pb_ci_71 rfl ⟨Nat.le_of_ble_eq_true rfl, Nat.le_of_ble_eq_true rfl, Nat.le_of_ble_eq_true rfl, Nat.le_of_ble_eq_true rfl, rfl⟩ rfl rfl,
  fun L J st h Q => pf_S pb_u_85 rfl rfl,
  fun L J st h Q x y => pf_ic pb_u_85 rfl rfl pf_ne,
  fun L J st h Q => pf_S pb_u_85 rfl rfl,
  fun L J st h Q => pf_S pb_u_85 rfl rfl,
  fun L J st h Q => pf_S pb_u_85 rfl rfl,
  fun L J h Q x => pf_rz pb_u_85 rfl rfl⟩
theorem pb_c85 (x0 : Nat) (x1 : Nat) (h : pb_H) (Q : Option Value → pb_H → Prop) : pb_call 85 [.ref x0, .ref x1] h Q ↔ pb_R 85 0 [some (.ref x0), some (.ref x1)] [] [] h Q := Iff.rfl
/-! 86: PlaneBench$Checker.takeClaim()Z -/
theorem pb_u_86 : pb_t 86 = pb_t86 := rfl
theorem pb_ci_86 : pb_ci 86 = 1 := by decide +kernel
set_option maxRecDepth 100000 in
theorem pb_e86 : (∀ (l1 : Option Value) (st : List Value) (h : pb_H) (Q : Option Value → pb_H → Prop) (x : Nat), pb_R 86 0 [some (.ref x), l1] [] st h Q ↔ pb_R 86 1 [some (.ref x), l1] [] (.ref x :: st) h Q) ∧
  (∀ (l1 : Option Value) (st : List Value) (h : pb_H) (Q : Option Value → pb_H → Prop), pb_R 86 0 [some .null, l1] [] st h Q ↔ pb_R 86 1 [some .null, l1] [] (.null :: st) h Q) ∧
  (∀ (L : pb_L) (J : pb_J) (st : List Value) (h : pb_H) (Q : Option Value → pb_H → Prop) (a : Nat), pb_R 86 1 L J (.ref a :: st) h Q ↔ pb_o (pb_gf (h.2 a) 1 0) (fun v => pb_R 86 4 L J (v :: st) h Q)) ∧
  (∀ (L : pb_L) (J : pb_J) (h : pb_H) (Q : Option Value → pb_H → Prop) (x0 : Nat), pb_R 86 4 L J [.ref x0] h Q ↔ pb_is0 (h.2 x0) 8 = true ∧ pb_call 23 [.ref x0] h (fun v t => pb_R 86 7 L J (v.toList ++ []) t Q)) ∧
  (∀ (l1 : Option Value) (st : List Value) (h : pb_H) (Q : Option Value → pb_H → Prop) (x : Nat), pb_R 86 7 [some (.ref x), l1] [] st h Q ↔ pb_R 86 8 [some (.ref x), l1] [] (.ref x :: st) h Q) ∧
  (∀ (l1 : Option Value) (st : List Value) (h : pb_H) (Q : Option Value → pb_H → Prop), pb_R 86 7 [some .null, l1] [] st h Q ↔ pb_R 86 8 [some .null, l1] [] (.null :: st) h Q) ∧
  (∀ (L : pb_L) (J : pb_J) (st : List Value) (h : pb_H) (Q : Option Value → pb_H → Prop) (a : Nat), pb_R 86 8 L J (.ref a :: st) h Q ↔ pb_o (pb_gf (h.2 a) 1 0) (fun v => pb_R 86 11 L J (v :: st) h Q)) ∧
  (∀ (L : pb_L) (J : pb_J) (st : List Value) (h : pb_H) (Q : Option Value → pb_H → Prop), pb_R 86 11 L J st h Q ↔ pb_R 86 13 L J (.int (48 : Int32) :: st) h Q) ∧
  (∀ (L : pb_L) (J : pb_J) (h : pb_H) (Q : Option Value → pb_H → Prop) (x0 : Int32) (x1 : Nat), pb_R 86 13 L J [.int x0, .ref x1] h Q ↔ pb_is0 (h.2 x1) 8 = true ∧ pb_call 76 [.ref x1, .int x0] h (fun v t => pb_R 86 16 L J (v.toList ++ []) t Q)) ∧
  (∀ (L : pb_L) (J : pb_J) (st : List Value) (h : pb_H) (Q : Option Value → pb_H → Prop) (x : Int32), pb_R 86 16 L J (.int x :: st) h Q ↔ if ¬ x = 0 then pb_R 86 21 L J st h Q else pb_R 86 19 L J st h Q) ∧
  (∀ (L : pb_L) (J : pb_J) (st : List Value) (h : pb_H) (Q : Option Value → pb_H → Prop), pb_R 86 19 L J st h Q ↔ pb_R 86 20 L J (.int (0 : Int32) :: st) h Q) ∧
  (∀ (L : pb_L) (J : pb_J) (h : pb_H) (Q : Option Value → pb_H → Prop) (x : Int32), pb_R 86 20 L J [.int x] h Q ↔ narrow .boolean (.int x) = .int x ∧ Q (some (.int x)) h) ∧
  (∀ (l1 : Option Value) (st : List Value) (h : pb_H) (Q : Option Value → pb_H → Prop) (x : Nat), pb_R 86 21 [some (.ref x), l1] [] st h Q ↔ pb_R 86 22 [some (.ref x), l1] [] (.ref x :: st) h Q) ∧
  (∀ (l1 : Option Value) (st : List Value) (h : pb_H) (Q : Option Value → pb_H → Prop), pb_R 86 21 [some .null, l1] [] st h Q ↔ pb_R 86 22 [some .null, l1] [] (.null :: st) h Q) ∧
  (∀ (L : pb_L) (J : pb_J) (st : List Value) (h : pb_H) (Q : Option Value → pb_H → Prop) (a : Nat), pb_R 86 22 L J (.ref a :: st) h Q ↔ pb_o (pb_gf (h.2 a) 1 0) (fun v => pb_R 86 25 L J (v :: st) h Q)) ∧
  (∀ (l1 : Option Value) (st : List Value) (h : pb_H) (Q : Option Value → pb_H → Prop) (x : Nat), pb_R 86 25 [some (.ref x), l1] [] st h Q ↔ pb_R 86 26 [some (.ref x), l1] [] (.ref x :: st) h Q) ∧
  (∀ (l1 : Option Value) (st : List Value) (h : pb_H) (Q : Option Value → pb_H → Prop), pb_R 86 25 [some .null, l1] [] st h Q ↔ pb_R 86 26 [some .null, l1] [] (.null :: st) h Q) ∧
  (∀ (L : pb_L) (J : pb_J) (st : List Value) (h : pb_H) (Q : Option Value → pb_H → Prop) (a : Nat), pb_R 86 26 L J (.ref a :: st) h Q ↔ pb_o (pb_gf (h.2 a) 1 6) (fun v => pb_R 86 29 L J (v :: st) h Q)) ∧
  (∀ (L : pb_L) (J : pb_J) (h : pb_H) (Q : Option Value → pb_H → Prop) (x0 : Nat) (x1 : Nat), pb_R 86 29 L J [.ref x0, .ref x1] h Q ↔ pb_is0 (h.2 x1) 8 = true ∧ pb_call 26 [.ref x1, .ref x0] h (fun v t => pb_R 86 32 L J (v.toList ++ []) t Q)) ∧
  (∀ (l1 : Option Value) (st : List Value) (h : pb_H) (Q : Option Value → pb_H → Prop) (x : Nat), pb_R 86 32 [some (.ref x), l1] [] st h Q ↔ pb_R 86 33 [some (.ref x), l1] [] (.ref x :: st) h Q) ∧
  (∀ (l1 : Option Value) (st : List Value) (h : pb_H) (Q : Option Value → pb_H → Prop), pb_R 86 32 [some .null, l1] [] st h Q ↔ pb_R 86 33 [some .null, l1] [] (.null :: st) h Q) ∧
  (∀ (L : pb_L) (J : pb_J) (st : List Value) (h : pb_H) (Q : Option Value → pb_H → Prop) (a : Nat), pb_R 86 33 L J (.ref a :: st) h Q ↔ pb_o (pb_gf (h.2 a) 1 2) (fun v => pb_R 86 36 L J (v :: st) h Q)) ∧
  (∀ (l1 : Option Value) (st : List Value) (h : pb_H) (Q : Option Value → pb_H → Prop) (x : Nat), pb_R 86 36 [some (.ref x), l1] [] st h Q ↔ pb_R 86 37 [some (.ref x), l1] [] (.ref x :: st) h Q) ∧
  (∀ (l1 : Option Value) (st : List Value) (h : pb_H) (Q : Option Value → pb_H → Prop), pb_R 86 36 [some .null, l1] [] st h Q ↔ pb_R 86 37 [some .null, l1] [] (.null :: st) h Q) ∧
  (∀ (L : pb_L) (J : pb_J) (st : List Value) (h : pb_H) (Q : Option Value → pb_H → Prop) (a : Nat), pb_R 86 37 L J (.ref a :: st) h Q ↔ pb_o (pb_gf (h.2 a) 1 6) (fun v => pb_R 86 40 L J (v :: st) h Q)) ∧
  (∀ (L : pb_L) (J : pb_J) (h : pb_H) (Q : Option Value → pb_H → Prop) (x0 : Nat) (x1 : Nat), pb_R 86 40 L J [.ref x0, .ref x1] h Q ↔ pb_call 45 [.ref x0] h (fun v t => pb_R 86 43 L J (v.toList ++ [.ref x1]) t Q)) ∧
  (∀ (L : pb_L) (J : pb_J) (h : pb_H) (Q : Option Value → pb_H → Prop) (x0 : Int32) (x1 : Nat), pb_R 86 43 L J [.int x0, .ref x1] h Q ↔ pb_is0 (h.2 x1) 7 = true ∧ pb_call 46 [.ref x1, .int x0] h (fun v t => pb_R 86 46 L J (v.toList ++ []) t Q)) ∧
  (∀ (l0 l1 : Option Value) (st : List Value) (h : pb_H) (Q : Option Value → pb_H → Prop) (x : Nat), pb_R 86 46 [l0, l1] [] (.ref x :: st) h Q ↔ pb_R 86 47 [l0, some (.ref x)] [] st h Q) ∧
  (∀ (l0 l1 : Option Value) (st : List Value) (h : pb_H) (Q : Option Value → pb_H → Prop), pb_R 86 46 [l0, l1] [] (.null :: st) h Q ↔ pb_R 86 47 [l0, some .null] [] st h Q) ∧
  (∀ (l0 : Option Value) (st : List Value) (h : pb_H) (Q : Option Value → pb_H → Prop) (x : Nat), pb_R 86 47 [l0, some (.ref x)] [] st h Q ↔ pb_R 86 48 [l0, some (.ref x)] [] (.ref x :: st) h Q) ∧
  (∀ (l0 : Option Value) (st : List Value) (h : pb_H) (Q : Option Value → pb_H → Prop), pb_R 86 47 [l0, some .null] [] st h Q ↔ pb_R 86 48 [l0, some .null] [] (.null :: st) h Q) ∧
  (∀ (L : pb_L) (J : pb_J) (st : List Value) (h : pb_H) (Q : Option Value → pb_H → Prop), pb_R 86 48 L J (.null :: st) h Q ↔ pb_R 86 51 L J st h Q) ∧
  (∀ (L : pb_L) (J : pb_J) (st : List Value) (h : pb_H) (Q : Option Value → pb_H → Prop) (x : Nat), pb_R 86 48 L J (.ref x :: st) h Q ↔ pb_R 86 60 L J st h Q) ∧
  (∀ (l1 : Option Value) (st : List Value) (h : pb_H) (Q : Option Value → pb_H → Prop) (x : Nat), pb_R 86 51 [some (.ref x), l1] [] st h Q ↔ pb_R 86 52 [some (.ref x), l1] [] (.ref x :: st) h Q) ∧
  (∀ (l1 : Option Value) (st : List Value) (h : pb_H) (Q : Option Value → pb_H → Prop), pb_R 86 51 [some .null, l1] [] st h Q ↔ pb_R 86 52 [some .null, l1] [] (.null :: st) h Q) ∧
  (∀ (L : pb_L) (J : pb_J) (st : List Value) (h : pb_H) (Q : Option Value → pb_H → Prop) (a : Nat), pb_R 86 52 L J (.ref a :: st) h Q ↔ pb_o (pb_gf (h.2 a) 1 0) (fun v => pb_R 86 55 L J (v :: st) h Q)) ∧
  (∀ (L : pb_L) (J : pb_J) (st : List Value) (h : pb_H) (Q : Option Value → pb_H → Prop), pb_R 86 55 L J st h Q ↔ pb_R 86 56 L J (.int (2 : Int32) :: st) h Q) ∧
  (∀ (L : pb_L) (J : pb_J) (h : pb_H) (Q : Option Value → pb_H → Prop) (x0 : Int32) (x1 : Nat), pb_R 86 56 L J [.int x0, .ref x1] h Q ↔ pb_is0 (h.2 x1) 8 = true ∧ pb_call 29 [.ref x1, .int x0] h (fun v t => pb_R 86 59 L J (v.toList ++ []) t Q)) ∧
  (∀ (L : pb_L) (J : pb_J) (h : pb_H) (Q : Option Value → pb_H → Prop) (x : Int32), pb_R 86 59 L J [.int x] h Q ↔ narrow .boolean (.int x) = .int x ∧ Q (some (.int x)) h) ∧
  (∀ (l1 : Option Value) (st : List Value) (h : pb_H) (Q : Option Value → pb_H → Prop) (x : Nat), pb_R 86 60 [some (.ref x), l1] [] st h Q ↔ pb_R 86 61 [some (.ref x), l1] [] (.ref x :: st) h Q) ∧
  (∀ (l1 : Option Value) (st : List Value) (h : pb_H) (Q : Option Value → pb_H → Prop), pb_R 86 60 [some .null, l1] [] st h Q ↔ pb_R 86 61 [some .null, l1] [] (.null :: st) h Q) ∧
  (∀ (L : pb_L) (J : pb_J) (st : List Value) (h : pb_H) (Q : Option Value → pb_H → Prop) (a : Nat), pb_R 86 61 L J (.ref a :: st) h Q ↔ pb_o (pb_gf (h.2 a) 1 0) (fun v => pb_R 86 64 L J (v :: st) h Q)) ∧
  (∀ (L : pb_L) (J : pb_J) (h : pb_H) (Q : Option Value → pb_H → Prop) (x0 : Nat), pb_R 86 64 L J [.ref x0] h Q ↔ pb_is0 (h.2 x0) 8 = true ∧ pb_call 23 [.ref x0] h (fun v t => pb_R 86 67 L J (v.toList ++ []) t Q)) ∧
  (∀ (l1 : Option Value) (st : List Value) (h : pb_H) (Q : Option Value → pb_H → Prop) (x : Nat), pb_R 86 67 [some (.ref x), l1] [] st h Q ↔ pb_R 86 68 [some (.ref x), l1] [] (.ref x :: st) h Q) ∧
  (∀ (l1 : Option Value) (st : List Value) (h : pb_H) (Q : Option Value → pb_H → Prop), pb_R 86 67 [some .null, l1] [] st h Q ↔ pb_R 86 68 [some .null, l1] [] (.null :: st) h Q) ∧
  (∀ (L : pb_L) (J : pb_J) (st : List Value) (h : pb_H) (Q : Option Value → pb_H → Prop) (a : Nat), pb_R 86 68 L J (.ref a :: st) h Q ↔ pb_o (pb_gf (h.2 a) 1 0) (fun v => pb_R 86 71 L J (v :: st) h Q)) ∧
  (∀ (L : pb_L) (J : pb_J) (st : List Value) (h : pb_H) (Q : Option Value → pb_H → Prop), pb_R 86 71 L J st h Q ↔ pb_R 86 73 L J (.int (59 : Int32) :: st) h Q) ∧
  (∀ (L : pb_L) (J : pb_J) (h : pb_H) (Q : Option Value → pb_H → Prop) (x0 : Int32) (x1 : Nat), pb_R 86 73 L J [.int x0, .ref x1] h Q ↔ pb_is0 (h.2 x1) 8 = true ∧ pb_call 76 [.ref x1, .int x0] h (fun v t => pb_R 86 76 L J (v.toList ++ []) t Q)) ∧
  (∀ (L : pb_L) (J : pb_J) (st : List Value) (h : pb_H) (Q : Option Value → pb_H → Prop) (x : Int32), pb_R 86 76 L J (.int x :: st) h Q ↔ if ¬ x = 0 then pb_R 86 81 L J st h Q else pb_R 86 79 L J st h Q) ∧
  (∀ (L : pb_L) (J : pb_J) (st : List Value) (h : pb_H) (Q : Option Value → pb_H → Prop), pb_R 86 79 L J st h Q ↔ pb_R 86 80 L J (.int (0 : Int32) :: st) h Q) ∧
  (∀ (L : pb_L) (J : pb_J) (h : pb_H) (Q : Option Value → pb_H → Prop) (x : Int32), pb_R 86 80 L J [.int x] h Q ↔ narrow .boolean (.int x) = .int x ∧ Q (some (.int x)) h) ∧
  (∀ (l0 : Option Value) (st : List Value) (h : pb_H) (Q : Option Value → pb_H → Prop) (x : Nat), pb_R 86 81 [l0, some (.ref x)] [] st h Q ↔ pb_R 86 82 [l0, some (.ref x)] [] (.ref x :: st) h Q) ∧
  (∀ (l0 : Option Value) (st : List Value) (h : pb_H) (Q : Option Value → pb_H → Prop), pb_R 86 81 [l0, some .null] [] st h Q ↔ pb_R 86 82 [l0, some .null] [] (.null :: st) h Q) ∧
  (∀ (l1 : Option Value) (st : List Value) (h : pb_H) (Q : Option Value → pb_H → Prop) (x : Nat), pb_R 86 82 [some (.ref x), l1] [] st h Q ↔ pb_R 86 83 [some (.ref x), l1] [] (.ref x :: st) h Q) ∧
  (∀ (l1 : Option Value) (st : List Value) (h : pb_H) (Q : Option Value → pb_H → Prop), pb_R 86 82 [some .null, l1] [] st h Q ↔ pb_R 86 83 [some .null, l1] [] (.null :: st) h Q) ∧
  (∀ (L : pb_L) (J : pb_J) (st : List Value) (h : pb_H) (Q : Option Value → pb_H → Prop) (a : Nat), pb_R 86 83 L J (.ref a :: st) h Q ↔ pb_o (pb_gf (h.2 a) 1 2) (fun v => pb_R 86 86 L J (v :: st) h Q)) ∧
  (∀ (L : pb_L) (J : pb_J) (st : List Value) (h : pb_H) (Q : Option Value → pb_H → Prop) (a : Nat), pb_R 86 86 L J (.ref a :: st) h Q ↔ pb_o (pb_gf (h.2 a) 7 1) (fun v => pb_R 86 89 L J (v :: st) h Q)) ∧
  (∀ (L : pb_L) (J : pb_J) (h : pb_H) (Q : Option Value → pb_H → Prop) (x0 : Nat) (x1 : Nat), pb_R 86 89 L J [.ref x0, .ref x1] h Q ↔ pb_is0 (h.2 x1) 4 = true ∧ pb_call 85 [.ref x1, .ref x0] h (fun v t => pb_R 86 92 L J (v.toList ++ []) t Q)) ∧
  (∀ (L : pb_L) (J : pb_J) (st : List Value) (h : pb_H) (Q : Option Value → pb_H → Prop) (x : Int32), pb_R 86 92 L J (.int x :: st) h Q ↔ if ¬ x = 0 then pb_R 86 107 L J st h Q else pb_R 86 95 L J st h Q) ∧
  (∀ (l1 : Option Value) (st : List Value) (h : pb_H) (Q : Option Value → pb_H → Prop) (x : Nat), pb_R 86 95 [some (.ref x), l1] [] st h Q ↔ pb_R 86 96 [some (.ref x), l1] [] (.ref x :: st) h Q) ∧
  (∀ (l1 : Option Value) (st : List Value) (h : pb_H) (Q : Option Value → pb_H → Prop), pb_R 86 95 [some .null, l1] [] st h Q ↔ pb_R 86 96 [some .null, l1] [] (.null :: st) h Q) ∧
  (∀ (L : pb_L) (J : pb_J) (st : List Value) (h : pb_H) (Q : Option Value → pb_H → Prop) (a : Nat), pb_R 86 96 L J (.ref a :: st) h Q ↔ pb_o (pb_gf (h.2 a) 1 0) (fun v => pb_R 86 99 L J (v :: st) h Q)) ∧
  (∀ (L : pb_L) (J : pb_J) (st : List Value) (h : pb_H) (Q : Option Value → pb_H → Prop), pb_R 86 99 L J st h Q ↔ pb_R 86 101 L J (.int (6 : Int32) :: st) h Q) ∧
  (∀ (L : pb_L) (J : pb_J) (h : pb_H) (Q : Option Value → pb_H → Prop) (x0 : Int32) (x1 : Nat), pb_R 86 101 L J [.int x0, .ref x1] h Q ↔ pb_is0 (h.2 x1) 8 = true ∧ pb_call 29 [.ref x1, .int x0] h (fun v t => pb_R 86 104 L J (v.toList ++ []) t Q)) ∧
  (∀ (L : pb_L) (J : pb_J) (st : List Value) (h : pb_H) (Q : Option Value → pb_H → Prop) (x : Int32), pb_R 86 104 L J (.int x :: st) h Q ↔ if x = 0 then pb_R 86 111 L J st h Q else pb_R 86 107 L J st h Q) ∧
  (∀ (L : pb_L) (J : pb_J) (st : List Value) (h : pb_H) (Q : Option Value → pb_H → Prop), pb_R 86 107 L J st h Q ↔ pb_R 86 108 L J (.int (1 : Int32) :: st) h Q) ∧
  (∀ (L : pb_L) (J : pb_J) (st : List Value) (h : pb_H) (Q : Option Value → pb_H → Prop), pb_R 86 108 L J st h Q ↔ pb_R 86 112 L J st h Q) ∧
  (∀ (L : pb_L) (J : pb_J) (st : List Value) (h : pb_H) (Q : Option Value → pb_H → Prop), pb_R 86 111 L J st h Q ↔ pb_R 86 112 L J (.int (0 : Int32) :: st) h Q) ∧
  (∀ (L : pb_L) (J : pb_J) (h : pb_H) (Q : Option Value → pb_H → Prop) (x : Int32), pb_R 86 112 L J [.int x] h Q ↔ narrow .boolean (.int x) = .int x ∧ Q (some (.int x)) h) := ⟨
  fun l1 st h Q x => pf_S pb_u_86 rfl rfl,
  fun l1 st h Q => pf_S pb_u_86 rfl rfl,
  fun L J st h Q a => pf_gf pb_u_86 rfl rfl,
  fun L J h Q x0 => pf_kv pb_u_86 rfl pb_ci_23 rfl ⟨Nat.le_of_ble_eq_true rfl, Nat.le_of_ble_eq_true rfl, Nat.le_of_ble_eq_true rfl, Nat.le_of_ble_eq_true rfl, rfl⟩ rfl rfl,
  fun l1 st h Q x => pf_S pb_u_86 rfl rfl,
  fun l1 st h Q => pf_S pb_u_86 rfl rfl,
  fun L J st h Q a => pf_gf pb_u_86 rfl rfl,
  fun L J st h Q => pf_S pb_u_86 rfl rfl,
  fun L J h Q x0 x1 => pf_kv pb_u_86 rfl pb_ci_76 rfl ⟨Nat.le_of_ble_eq_true rfl, Nat.le_of_ble_eq_true rfl, Nat.le_of_ble_eq_true rfl, Nat.le_of_ble_eq_true rfl, rfl⟩ rfl rfl,
  fun L J st h Q x => pf_ii pb_u_86 rfl rfl pf_ne,
  fun L J st h Q => pf_S pb_u_86 rfl rfl,
  fun L J h Q x => pf_rz pb_u_86 rfl rfl,
  fun l1 st h Q x => pf_S pb_u_86 rfl rfl,
  fun l1 st h Q => pf_S pb_u_86 rfl rfl,
  fun L J st h Q a => pf_gf pb_u_86 rfl rfl,
  fun l1 st h Q x => pf_S pb_u_86 rfl rfl,
  fun l1 st h Q => pf_S pb_u_86 rfl rfl,
  fun L J st h Q a => pf_gf pb_u_86 rfl rfl,
  fun L J h Q x0 x1 => pf_kv pb_u_86 rfl pb_ci_26 rfl ⟨Nat.le_of_ble_eq_true rfl, Nat.le_of_ble_eq_true rfl, Nat.le_of_ble_eq_true rfl, Nat.le_of_ble_eq_true rfl, rfl⟩ rfl rfl,
  fun l1 st h Q x => pf_S pb_u_86 rfl rfl,
  fun l1 st h Q => pf_S pb_u_86 rfl rfl,
  fun L J st h Q a => pf_gf pb_u_86 rfl rfl,
  fun l1 st h Q x => pf_S pb_u_86 rfl rfl,
  fun l1 st h Q => pf_S pb_u_86 rfl rfl,
  fun L J st h Q a => pf_gf pb_u_86 rfl rfl,
  fun L J h Q x0 x1 => pf_ks pb_u_86 rfl rfl rfl rfl,
  fun L J h Q x0 x1 => pf_kv pb_u_86 rfl pb_ci_46 rfl ⟨Nat.le_of_ble_eq_true rfl, Nat.le_of_ble_eq_true rfl, Nat.le_of_ble_eq_true rfl, Nat.le_of_ble_eq_true rfl, rfl⟩ rfl rfl,
  fun l0 l1 st h Q x => pf_S pb_u_86 rfl rfl,
  fun l0 l1 st h Q => pf_S pb_u_86 rfl rfl,
  fun l0 st h Q x => pf_S pb_u_86 rfl rfl,
  fun l0 st h Q => pf_S pb_u_86 rfl rfl,
  fun L J st h Q => pf_S pb_u_86 rfl rfl,
  fun L J st h Q x => pf_S pb_u_86 rfl rfl,
  fun l1 st h Q x => pf_S pb_u_86 rfl rfl,
  fun l1 st h Q => pf_S pb_u_86 rfl rfl,
  fun L J st h Q a => pf_gf pb_u_86 rfl rfl,
  fun L J st h Q => pf_S pb_u_86 rfl rfl,
  fun L J h Q x0 x1 => pf_kv pb_u_86 rfl pb_ci_29 rfl ⟨Nat.le_of_ble_eq_true rfl, Nat.le_of_ble_eq_true rfl, Nat.le_of_ble_eq_true rfl, Nat.le_of_ble_eq_true rfl, rfl⟩ rfl rfl,
  fun L J h Q x => pf_rz pb_u_86 rfl rfl,
  fun l1 st h Q x => pf_S pb_u_86 rfl rfl,
  fun l1 st h Q => pf_S pb_u_86 rfl rfl,
  fun L J st h Q a => pf_gf pb_u_86 rfl rfl,
  fun L J h Q x0 => pf_kv pb_u_86 rfl pb_ci_23 rfl ⟨Nat.le_of_ble_eq_true rfl, Nat.le_of_ble_eq_true rfl, Nat.le_of_ble_eq_true rfl, Nat.le_of_ble_eq_true rfl, rfl⟩ rfl rfl,
  fun l1 st h Q x => pf_S pb_u_86 rfl rfl,
  fun l1 st h Q => pf_S pb_u_86 rfl rfl,
  fun L J st h Q a => pf_gf pb_u_86 rfl rfl,
  fun L J st h Q => pf_S pb_u_86 rfl rfl,
  fun L J h Q x0 x1 => pf_kv pb_u_86 rfl pb_ci_76 rfl ⟨Nat.le_of_ble_eq_true rfl, Nat.le_of_ble_eq_true rfl, Nat.le_of_ble_eq_true rfl, Nat.le_of_ble_eq_true rfl, rfl⟩ rfl rfl,
  fun L J st h Q x => pf_ii pb_u_86 rfl rfl pf_ne,
  fun L J st h Q => pf_S pb_u_86 rfl rfl,
  fun L J h Q x => pf_rz pb_u_86 rfl rfl,
  fun l0 st h Q x => pf_S pb_u_86 rfl rfl,
  fun l0 st h Q => pf_S pb_u_86 rfl rfl,
  fun l1 st h Q x => pf_S pb_u_86 rfl rfl,
  fun l1 st h Q => pf_S pb_u_86 rfl rfl,
  fun L J st h Q a => pf_gf pb_u_86 rfl rfl,
  fun L J st h Q a => pf_gf pb_u_86 rfl rfl,
  fun L J h Q x0 x1 => pf_kv pb_u_86 rfl pb_ci_85 rfl ⟨Nat.le_of_ble_eq_true rfl, Nat.le_of_ble_eq_true rfl, Nat.le_of_ble_eq_true rfl, Nat.le_of_ble_eq_true rfl, rfl⟩ rfl rfl,
  fun L J st h Q x => pf_ii pb_u_86 rfl rfl pf_ne,
  fun l1 st h Q x => pf_S pb_u_86 rfl rfl,
  fun l1 st h Q => pf_S pb_u_86 rfl rfl,
  fun L J st h Q a => pf_gf pb_u_86 rfl rfl,
  fun L J st h Q => pf_S pb_u_86 rfl rfl,
  fun L J h Q x0 x1 => pf_kv pb_u_86 rfl pb_ci_29 rfl ⟨Nat.le_of_ble_eq_true rfl, Nat.le_of_ble_eq_true rfl, Nat.le_of_ble_eq_true rfl, Nat.le_of_ble_eq_true rfl, rfl⟩ rfl rfl,
  fun L J st h Q x => pf_ii pb_u_86 rfl rfl rfl,
  fun L J st h Q => pf_S pb_u_86 rfl rfl,
  fun L J st h Q => pf_S pb_u_86 rfl rfl,
  fun L J st h Q => pf_S pb_u_86 rfl rfl,
  fun L J h Q x => pf_rz pb_u_86 rfl rfl⟩
theorem pb_c86 (x0 : Nat) (h : pb_H) (Q : Option Value → pb_H → Prop) : pb_call 86 [.ref x0] h Q ↔ pb_R 86 0 [some (.ref x0), none] [] [] h Q := Iff.rfl
/-! 87: PlaneBench$Checker.takeSteps()I -/
theorem pb_u_87 : pb_t 87 = pb_t87 := rfl
theorem pb_ci_87 : pb_ci 87 = 1 := by decide +kernel
set_option maxRecDepth 100000 in
theorem pb_q87_2 (l0 l2 : Option Value) (st : List Value) (h : pb_H) (Q : Option Value → pb_H → Prop) (x : Int32) : pb_R 87 2 [l0, some (.int x), l2] [] st h Q ↔ pb_R 87 3 [l0, some (.int x), l2] [] (.int x :: st) h Q := pf_S pb_u_87 rfl rfl
set_option maxRecDepth 100000 in
theorem pb_q87_30 (L : pb_L) (J : pb_J) (st : List Value) (h : pb_H) (Q : Option Value → pb_H → Prop) (x : Int32) : pb_R 87 30 L J (.int x :: st) h Q ↔ if x = 99 then pb_R 87 80 L J st h Q else (if x = 112 then pb_R 87 64 L J st h Q else (if x = 117 then pb_R 87 72 L J st h Q else (pb_R 87 88 L J st h Q))) := by
  by_cases c99 : x = 99
  · subst c99
    rw [if_pos rfl]
    exact pf_S pb_u_87 rfl rfl
  rw [if_neg c99]
  by_cases c112 : x = 112
  · subst c112
    rw [if_pos rfl]
    exact pf_S pb_u_87 rfl rfl
  rw [if_neg c112]
  by_cases c117 : x = 117
  · subst c117
    rw [if_pos rfl]
    exact pf_S pb_u_87 rfl rfl
  rw [if_neg c117]
  have ic99 : ¬ x.toInt = 99 := pf_ni (k := 99) (fun e => c99 (e.trans rfl))
  have ic112 : ¬ x.toInt = 112 := pf_ni (k := 112) (fun e => c112 (e.trans rfl))
  have ic117 : ¬ x.toInt = 117 := pf_ni (k := 117) (fun e => c117 (e.trans rfl))
  have hoff : Op.lookupswitch.offset [(99, 50), (112, 34), (117, 42)] 58 x.toInt = 58 := by simp [Op.lookupswitch.offset_cons, Op.lookupswitch.offset_nil, Ne.symm ic99, Ne.symm ic112, Ne.symm ic117]
  exact pf_ls pb_u_87 rfl (by decide) hoff rfl
set_option maxRecDepth 100000 in
theorem pb_e87 : (∀ (L : pb_L) (J : pb_J) (st : List Value) (h : pb_H) (Q : Option Value → pb_H → Prop), pb_R 87 0 L J st h Q ↔ pb_R 87 1 L J (.int (0 : Int32) :: st) h Q) ∧
  (∀ (l0 l1 l2 : Option Value) (st : List Value) (h : pb_H) (Q : Option Value → pb_H → Prop) (x : Int32), pb_R 87 1 [l0, l1, l2] [] (.int x :: st) h Q ↔ pb_R 87 2 [l0, some (.int x), l2] [] st h Q) ∧
  (∀ (l1 l2 : Option Value) (st : List Value) (h : pb_H) (Q : Option Value → pb_H → Prop) (x : Nat), pb_R 87 3 [some (.ref x), l1, l2] [] st h Q ↔ pb_R 87 4 [some (.ref x), l1, l2] [] (.ref x :: st) h Q) ∧
  (∀ (l1 l2 : Option Value) (st : List Value) (h : pb_H) (Q : Option Value → pb_H → Prop), pb_R 87 3 [some .null, l1, l2] [] st h Q ↔ pb_R 87 4 [some .null, l1, l2] [] (.null :: st) h Q) ∧
  (∀ (L : pb_L) (J : pb_J) (st : List Value) (h : pb_H) (Q : Option Value → pb_H → Prop) (a : Nat), pb_R 87 4 L J (.ref a :: st) h Q ↔ pb_o (pb_gf (h.2 a) 1 0) (fun v => pb_R 87 7 L J (v :: st) h Q)) ∧
  (∀ (L : pb_L) (J : pb_J) (st : List Value) (h : pb_H) (Q : Option Value → pb_H → Prop) (a : Nat), pb_R 87 7 L J (.ref a :: st) h Q ↔ pb_o (pb_gf (h.2 a) 8 1) (fun v => pb_R 87 10 L J (v :: st) h Q)) ∧
  (∀ (L : pb_L) (J : pb_J) (st : List Value) (h : pb_H) (Q : Option Value → pb_H → Prop) (x y : Int32), pb_R 87 10 L J (.int y :: .int x :: st) h Q ↔ if y < x then pb_R 87 116 L J st h Q else pb_R 87 13 L J st h Q) ∧
  (∀ (l1 l2 : Option Value) (st : List Value) (h : pb_H) (Q : Option Value → pb_H → Prop) (x : Nat), pb_R 87 13 [some (.ref x), l1, l2] [] st h Q ↔ pb_R 87 14 [some (.ref x), l1, l2] [] (.ref x :: st) h Q) ∧
  (∀ (l1 l2 : Option Value) (st : List Value) (h : pb_H) (Q : Option Value → pb_H → Prop), pb_R 87 13 [some .null, l1, l2] [] st h Q ↔ pb_R 87 14 [some .null, l1, l2] [] (.null :: st) h Q) ∧
  (∀ (L : pb_L) (J : pb_J) (st : List Value) (h : pb_H) (Q : Option Value → pb_H → Prop) (a : Nat), pb_R 87 14 L J (.ref a :: st) h Q ↔ pb_o (pb_gf (h.2 a) 1 0) (fun v => pb_R 87 17 L J (v :: st) h Q)) ∧
  (∀ (L : pb_L) (J : pb_J) (st : List Value) (h : pb_H) (Q : Option Value → pb_H → Prop) (a : Nat), pb_R 87 17 L J (.ref a :: st) h Q ↔ pb_o (pb_gf (h.2 a) 8 2) (fun v => pb_R 87 20 L J (v :: st) h Q)) ∧
  (∀ (L : pb_L) (J : pb_J) (st : List Value) (h : pb_H) (Q : Option Value → pb_H → Prop) (x : Int32), pb_R 87 20 L J (.int x :: st) h Q ↔ if x = 0 then pb_R 87 116 L J st h Q else pb_R 87 23 L J st h Q) ∧
  (∀ (l1 l2 : Option Value) (st : List Value) (h : pb_H) (Q : Option Value → pb_H → Prop) (x : Nat), pb_R 87 23 [some (.ref x), l1, l2] [] st h Q ↔ pb_R 87 24 [some (.ref x), l1, l2] [] (.ref x :: st) h Q) ∧
  (∀ (l1 l2 : Option Value) (st : List Value) (h : pb_H) (Q : Option Value → pb_H → Prop), pb_R 87 23 [some .null, l1, l2] [] st h Q ↔ pb_R 87 24 [some .null, l1, l2] [] (.null :: st) h Q) ∧
  (∀ (L : pb_L) (J : pb_J) (st : List Value) (h : pb_H) (Q : Option Value → pb_H → Prop) (a : Nat), pb_R 87 24 L J (.ref a :: st) h Q ↔ pb_o (pb_gf (h.2 a) 1 0) (fun v => pb_R 87 27 L J (v :: st) h Q)) ∧
  (∀ (L : pb_L) (J : pb_J) (st : List Value) (h : pb_H) (Q : Option Value → pb_H → Prop) (a : Nat), pb_R 87 27 L J (.ref a :: st) h Q ↔ pb_o (pb_gf (h.2 a) 8 2) (fun v => pb_R 87 30 L J (v :: st) h Q)) ∧
  (∀ (L : pb_L) (J : pb_J) (st : List Value) (h : pb_H) (Q : Option Value → pb_H → Prop) (x : Int32), pb_R 87 30 L J (.int x :: st) h Q ↔ if x = 99 then pb_R 87 80 L J st h Q else (if x = 112 then pb_R 87 64 L J st h Q else (if x = 117 then pb_R 87 72 L J st h Q else (pb_R 87 88 L J st h Q)))) ∧
  (∀ (l1 l2 : Option Value) (st : List Value) (h : pb_H) (Q : Option Value → pb_H → Prop) (x : Nat), pb_R 87 64 [some (.ref x), l1, l2] [] st h Q ↔ pb_R 87 65 [some (.ref x), l1, l2] [] (.ref x :: st) h Q) ∧
  (∀ (l1 l2 : Option Value) (st : List Value) (h : pb_H) (Q : Option Value → pb_H → Prop), pb_R 87 64 [some .null, l1, l2] [] st h Q ↔ pb_R 87 65 [some .null, l1, l2] [] (.null :: st) h Q) ∧
  (∀ (L : pb_L) (J : pb_J) (h : pb_H) (Q : Option Value → pb_H → Prop) (x0 : Nat), pb_R 87 65 L J [.ref x0] h Q ↔ pb_is0 (h.2 x0) 1 = true ∧ pb_call 74 [.ref x0] h (fun v t => pb_R 87 68 L J (v.toList ++ []) t Q)) ∧
  (∀ (l0 l1 l2 : Option Value) (st : List Value) (h : pb_H) (Q : Option Value → pb_H → Prop) (x : Int32), pb_R 87 68 [l0, l1, l2] [] (.int x :: st) h Q ↔ pb_R 87 69 [l0, l1, some (.int x)] [] st h Q) ∧
  (∀ (L : pb_L) (J : pb_J) (st : List Value) (h : pb_H) (Q : Option Value → pb_H → Prop), pb_R 87 69 L J st h Q ↔ pb_R 87 97 L J st h Q) ∧
  (∀ (l1 l2 : Option Value) (st : List Value) (h : pb_H) (Q : Option Value → pb_H → Prop) (x : Nat), pb_R 87 72 [some (.ref x), l1, l2] [] st h Q ↔ pb_R 87 73 [some (.ref x), l1, l2] [] (.ref x :: st) h Q) ∧
  (∀ (l1 l2 : Option Value) (st : List Value) (h : pb_H) (Q : Option Value → pb_H → Prop), pb_R 87 72 [some .null, l1, l2] [] st h Q ↔ pb_R 87 73 [some .null, l1, l2] [] (.null :: st) h Q) ∧
  (∀ (L : pb_L) (J : pb_J) (h : pb_H) (Q : Option Value → pb_H → Prop) (x0 : Nat), pb_R 87 73 L J [.ref x0] h Q ↔ pb_is0 (h.2 x0) 1 = true ∧ pb_call 84 [.ref x0] h (fun v t => pb_R 87 76 L J (v.toList ++ []) t Q)) ∧
  (∀ (l0 l1 l2 : Option Value) (st : List Value) (h : pb_H) (Q : Option Value → pb_H → Prop) (x : Int32), pb_R 87 76 [l0, l1, l2] [] (.int x :: st) h Q ↔ pb_R 87 77 [l0, l1, some (.int x)] [] st h Q) ∧
  (∀ (L : pb_L) (J : pb_J) (st : List Value) (h : pb_H) (Q : Option Value → pb_H → Prop), pb_R 87 77 L J st h Q ↔ pb_R 87 97 L J st h Q) ∧
  (∀ (l1 l2 : Option Value) (st : List Value) (h : pb_H) (Q : Option Value → pb_H → Prop) (x : Nat), pb_R 87 80 [some (.ref x), l1, l2] [] st h Q ↔ pb_R 87 81 [some (.ref x), l1, l2] [] (.ref x :: st) h Q) ∧
  (∀ (l1 l2 : Option Value) (st : List Value) (h : pb_H) (Q : Option Value → pb_H → Prop), pb_R 87 80 [some .null, l1, l2] [] st h Q ↔ pb_R 87 81 [some .null, l1, l2] [] (.null :: st) h Q) ∧
  (∀ (L : pb_L) (J : pb_J) (h : pb_H) (Q : Option Value → pb_H → Prop) (x0 : Nat), pb_R 87 81 L J [.ref x0] h Q ↔ pb_is0 (h.2 x0) 1 = true ∧ pb_call 86 [.ref x0] h (fun v t => pb_R 87 84 L J (v.toList ++ []) t Q)) ∧
  (∀ (l0 l1 l2 : Option Value) (st : List Value) (h : pb_H) (Q : Option Value → pb_H → Prop) (x : Int32), pb_R 87 84 [l0, l1, l2] [] (.int x :: st) h Q ↔ pb_R 87 85 [l0, l1, some (.int x)] [] st h Q) ∧
  (∀ (L : pb_L) (J : pb_J) (st : List Value) (h : pb_H) (Q : Option Value → pb_H → Prop), pb_R 87 85 L J st h Q ↔ pb_R 87 97 L J st h Q) ∧
  (∀ (l1 l2 : Option Value) (st : List Value) (h : pb_H) (Q : Option Value → pb_H → Prop) (x : Nat), pb_R 87 88 [some (.ref x), l1, l2] [] st h Q ↔ pb_R 87 89 [some (.ref x), l1, l2] [] (.ref x :: st) h Q) ∧
  (∀ (l1 l2 : Option Value) (st : List Value) (h : pb_H) (Q : Option Value → pb_H → Prop), pb_R 87 88 [some .null, l1, l2] [] st h Q ↔ pb_R 87 89 [some .null, l1, l2] [] (.null :: st) h Q) ∧
  (∀ (L : pb_L) (J : pb_J) (st : List Value) (h : pb_H) (Q : Option Value → pb_H → Prop) (a : Nat), pb_R 87 89 L J (.ref a :: st) h Q ↔ pb_o (pb_gf (h.2 a) 1 0) (fun v => pb_R 87 92 L J (v :: st) h Q)) ∧
  (∀ (L : pb_L) (J : pb_J) (st : List Value) (h : pb_H) (Q : Option Value → pb_H → Prop), pb_R 87 92 L J st h Q ↔ pb_R 87 93 L J (.int (1 : Int32) :: st) h Q) ∧
  (∀ (L : pb_L) (J : pb_J) (h : pb_H) (Q : Option Value → pb_H → Prop) (x0 : Int32) (x1 : Nat), pb_R 87 93 L J [.int x0, .ref x1] h Q ↔ pb_is0 (h.2 x1) 8 = true ∧ pb_call 29 [.ref x1, .int x0] h (fun v t => pb_R 87 96 L J (v.toList ++ []) t Q)) ∧
  (∀ (l0 l1 l2 : Option Value) (st : List Value) (h : pb_H) (Q : Option Value → pb_H → Prop) (x : Int32), pb_R 87 96 [l0, l1, l2] [] (.int x :: st) h Q ↔ pb_R 87 97 [l0, l1, some (.int x)] [] st h Q) ∧
  (∀ (l0 l1 : Option Value) (st : List Value) (h : pb_H) (Q : Option Value → pb_H → Prop) (x : Int32), pb_R 87 97 [l0, l1, some (.int x)] [] st h Q ↔ pb_R 87 98 [l0, l1, some (.int x)] [] (.int x :: st) h Q) ∧
  (∀ (L : pb_L) (J : pb_J) (st : List Value) (h : pb_H) (Q : Option Value → pb_H → Prop) (x : Int32), pb_R 87 98 L J (.int x :: st) h Q ↔ if ¬ x = 0 then pb_R 87 103 L J st h Q else pb_R 87 101 L J st h Q) ∧
  (∀ (l0 l2 : Option Value) (st : List Value) (h : pb_H) (Q : Option Value → pb_H → Prop) (x : Int32), pb_R 87 101 [l0, some (.int x), l2] [] st h Q ↔ pb_R 87 102 [l0, some (.int x), l2] [] (.int x :: st) h Q) ∧
  (∀ (L : pb_L) (J : pb_J) (h : pb_H) (Q : Option Value → pb_H → Prop) (x : Int32), pb_R 87 102 L J [.int x] h Q ↔ Q (some (.int x)) h) ∧
  (∀ (l0 l2 : Option Value) (st : List Value) (h : pb_H) (Q : Option Value → pb_H → Prop) (x : Int32), pb_R 87 103 [l0, some (.int x), l2] [] st h Q ↔ pb_R 87 106 [l0, some (.int (x + (1 : Int32))), l2] [] st h Q) ∧
  (∀ (l1 l2 : Option Value) (st : List Value) (h : pb_H) (Q : Option Value → pb_H → Prop) (x : Nat), pb_R 87 106 [some (.ref x), l1, l2] [] st h Q ↔ pb_R 87 107 [some (.ref x), l1, l2] [] (.ref x :: st) h Q) ∧
  (∀ (l1 l2 : Option Value) (st : List Value) (h : pb_H) (Q : Option Value → pb_H → Prop), pb_R 87 106 [some .null, l1, l2] [] st h Q ↔ pb_R 87 107 [some .null, l1, l2] [] (.null :: st) h Q) ∧
  (∀ (L : pb_L) (J : pb_J) (st : List Value) (h : pb_H) (Q : Option Value → pb_H → Prop) (a : Nat), pb_R 87 107 L J (.ref a :: st) h Q ↔ pb_o (pb_gf (h.2 a) 1 0) (fun v => pb_R 87 110 L J (v :: st) h Q)) ∧
  (∀ (L : pb_L) (J : pb_J) (h : pb_H) (Q : Option Value → pb_H → Prop) (x0 : Nat), pb_R 87 110 L J [.ref x0] h Q ↔ pb_is0 (h.2 x0) 8 = true ∧ pb_call 23 [.ref x0] h (fun v t => pb_R 87 113 L J (v.toList ++ []) t Q)) ∧
  (∀ (L : pb_L) (J : pb_J) (st : List Value) (h : pb_H) (Q : Option Value → pb_H → Prop), pb_R 87 113 L J st h Q ↔ pb_R 87 2 L J st h Q) ∧
  (∀ (l0 l2 : Option Value) (st : List Value) (h : pb_H) (Q : Option Value → pb_H → Prop) (x : Int32), pb_R 87 116 [l0, some (.int x), l2] [] st h Q ↔ pb_R 87 117 [l0, some (.int x), l2] [] (.int x :: st) h Q) ∧
  (∀ (L : pb_L) (J : pb_J) (h : pb_H) (Q : Option Value → pb_H → Prop) (x : Int32), pb_R 87 117 L J [.int x] h Q ↔ Q (some (.int x)) h) := ⟨
  fun L J st h Q => pf_S pb_u_87 rfl rfl,
  fun l0 l1 l2 st h Q x => pf_S pb_u_87 rfl rfl,
  fun l1 l2 st h Q x => pf_S pb_u_87 rfl rfl,
  fun l1 l2 st h Q => pf_S pb_u_87 rfl rfl,
  fun L J st h Q a => pf_gf pb_u_87 rfl rfl,
  fun L J st h Q a => pf_gf pb_u_87 rfl rfl,
  fun L J st h Q x y => pf_ic pb_u_87 rfl rfl rfl,
  fun l1 l2 st h Q x => pf_S pb_u_87 rfl rfl,
  fun l1 l2 st h Q => pf_S pb_u_87 rfl rfl,
  fun L J st h Q a => pf_gf pb_u_87 rfl rfl,
  fun L J st h Q a => pf_gf pb_u_87 rfl rfl,
  fun L J st h Q x => pf_ii pb_u_87 rfl rfl rfl,
  fun l1 l2 st h Q x => pf_S pb_u_87 rfl rfl,
  fun l1 l2 st h Q => pf_S pb_u_87 rfl rfl,
  fun L J st h Q a => pf_gf pb_u_87 rfl rfl,
  fun L J st h Q a => pf_gf pb_u_87 rfl rfl,
  fun L J st h Q x => pb_q87_30 L J st h Q x,
  fun l1 l2 st h Q x => pf_S pb_u_87 rfl rfl,
  fun l1 l2 st h Q => pf_S pb_u_87 rfl rfl,
  fun L J h Q x0 => pf_kv pb_u_87 rfl pb_ci_74 rfl ⟨Nat.le_of_ble_eq_true rfl, Nat.le_of_ble_eq_true rfl, Nat.le_of_ble_eq_true rfl, Nat.le_of_ble_eq_true rfl, rfl⟩ rfl rfl,
  fun l0 l1 l2 st h Q x => pf_S pb_u_87 rfl rfl,
  fun L J st h Q => pf_S pb_u_87 rfl rfl,
  fun l1 l2 st h Q x => pf_S pb_u_87 rfl rfl,
  fun l1 l2 st h Q => pf_S pb_u_87 rfl rfl,
  fun L J h Q x0 => pf_kv pb_u_87 rfl pb_ci_84 rfl ⟨Nat.le_of_ble_eq_true rfl, Nat.le_of_ble_eq_true rfl, Nat.le_of_ble_eq_true rfl, Nat.le_of_ble_eq_true rfl, rfl⟩ rfl rfl,
  fun l0 l1 l2 st h Q x => pf_S pb_u_87 rfl rfl,
  fun L J st h Q => pf_S pb_u_87 rfl rfl,
  fun l1 l2 st h Q x => pf_S pb_u_87 rfl rfl,
  fun l1 l2 st h Q => pf_S pb_u_87 rfl rfl,
  fun L J h Q x0 => pf_kv pb_u_87 rfl pb_ci_86 rfl ⟨Nat.le_of_ble_eq_true rfl, Nat.le_of_ble_eq_true rfl, Nat.le_of_ble_eq_true rfl, Nat.le_of_ble_eq_true rfl, rfl⟩ rfl rfl,
  fun l0 l1 l2 st h Q x => pf_S pb_u_87 rfl rfl,
  fun L J st h Q => pf_S pb_u_87 rfl rfl,
  fun l1 l2 st h Q x => pf_S pb_u_87 rfl rfl,
  fun l1 l2 st h Q => pf_S pb_u_87 rfl rfl,
  fun L J st h Q a => pf_gf pb_u_87 rfl rfl,
  fun L J st h Q => pf_S pb_u_87 rfl rfl,
  fun L J h Q x0 x1 => pf_kv pb_u_87 rfl pb_ci_29 rfl ⟨Nat.le_of_ble_eq_true rfl, Nat.le_of_ble_eq_true rfl, Nat.le_of_ble_eq_true rfl, Nat.le_of_ble_eq_true rfl, rfl⟩ rfl rfl,
  fun l0 l1 l2 st h Q x => pf_S pb_u_87 rfl rfl,
  fun l0 l1 st h Q x => pf_S pb_u_87 rfl rfl,
  fun L J st h Q x => pf_ii pb_u_87 rfl rfl pf_ne,
  fun l0 l2 st h Q x => pf_S pb_u_87 rfl rfl,
  fun L J h Q x => pf_ri pb_u_87 rfl rfl,
  fun l0 l2 st h Q x => pf_S pb_u_87 rfl rfl,
  fun l1 l2 st h Q x => pf_S pb_u_87 rfl rfl,
  fun l1 l2 st h Q => pf_S pb_u_87 rfl rfl,
  fun L J st h Q a => pf_gf pb_u_87 rfl rfl,
  fun L J h Q x0 => pf_kv pb_u_87 rfl pb_ci_23 rfl ⟨Nat.le_of_ble_eq_true rfl, Nat.le_of_ble_eq_true rfl, Nat.le_of_ble_eq_true rfl, Nat.le_of_ble_eq_true rfl, rfl⟩ rfl rfl,
  fun L J st h Q => pf_S pb_u_87 rfl rfl,
  fun l0 l2 st h Q x => pf_S pb_u_87 rfl rfl,
  fun L J h Q x => pf_ri pb_u_87 rfl rfl⟩
theorem pb_c87 (x0 : Nat) (h : pb_H) (Q : Option Value → pb_H → Prop) : pb_call 87 [.ref x0] h Q ↔ pb_R 87 0 [some (.ref x0), none, none] [] [] h Q := Iff.rfl
/-! 88: PlaneBench$Condition.<init>(LPlaneBench$TextReader;I)V -/
theorem pb_u_88 : pb_t 88 = pb_t88 := rfl
set_option maxRecDepth 100000 in
theorem pb_e88 : (∀ (l1 l2 : Option Value) (st : List Value) (h : pb_H) (Q : Option Value → pb_H → Prop) (x : Nat), pb_R 88 0 [some (.ref x), l1, l2] [] st h Q ↔ pb_R 88 1 [some (.ref x), l1, l2] [] (.ref x :: st) h Q) ∧
  (∀ (l1 l2 : Option Value) (st : List Value) (h : pb_H) (Q : Option Value → pb_H → Prop), pb_R 88 0 [some .null, l1, l2] [] st h Q ↔ pb_R 88 1 [some .null, l1, l2] [] (.null :: st) h Q) ∧
  (∀ (L : pb_L) (J : pb_J) (h : pb_H) (Q : Option Value → pb_H → Prop) (a : Nat), pb_R 88 1 L J [.ref a] h Q ↔ pb_R 88 4 L J [] h Q) ∧
  (∀ (l1 l2 : Option Value) (st : List Value) (h : pb_H) (Q : Option Value → pb_H → Prop) (x : Nat), pb_R 88 4 [some (.ref x), l1, l2] [] st h Q ↔ pb_R 88 5 [some (.ref x), l1, l2] [] (.ref x :: st) h Q) ∧
  (∀ (l1 l2 : Option Value) (st : List Value) (h : pb_H) (Q : Option Value → pb_H → Prop), pb_R 88 4 [some .null, l1, l2] [] st h Q ↔ pb_R 88 5 [some .null, l1, l2] [] (.null :: st) h Q) ∧
  (∀ (L : pb_L) (J : pb_J) (st : List Value) (h : pb_H) (Q : Option Value → pb_H → Prop), pb_R 88 5 L J st h Q ↔ pb_R 88 7 L J (.int (8 : Int32) :: st) h Q) ∧
  (∀ (L : pb_L) (J : pb_J) (st : List Value) (h : pb_H) (Q : Option Value → pb_H → Prop) (n : Int32), pb_R 88 7 L J (.int n :: st) h Q ↔ (¬ n < 0 ∧ n.toNatClampNeg ≤ 1000000) ∧ pb_R 88 9 L J (.ref h.1 :: st) (pb_new h (.inl (0, n.toNatClampNeg, .inl (fun _ => 0)))) Q) ∧
  (∀ (L : pb_L) (J : pb_J) (st : List Value) (h : pb_H) (Q : Option Value → pb_H → Prop) (a : Nat) (x : Nat), pb_R 88 9 L J (.ref x :: .ref a :: st) h Q ↔ pb_o (pb_pf (h.2 a) 2 3 (.ref x)) (fun c => pb_R 88 12 L J st (pb_set h a c) Q)) ∧
  (∀ (l1 l2 : Option Value) (st : List Value) (h : pb_H) (Q : Option Value → pb_H → Prop) (x : Nat), pb_R 88 12 [some (.ref x), l1, l2] [] st h Q ↔ pb_R 88 13 [some (.ref x), l1, l2] [] (.ref x :: st) h Q) ∧
  (∀ (l1 l2 : Option Value) (st : List Value) (h : pb_H) (Q : Option Value → pb_H → Prop), pb_R 88 12 [some .null, l1, l2] [] st h Q ↔ pb_R 88 13 [some .null, l1, l2] [] (.null :: st) h Q) ∧
  (∀ (l0 l2 : Option Value) (st : List Value) (h : pb_H) (Q : Option Value → pb_H → Prop) (x : Nat), pb_R 88 13 [l0, some (.ref x), l2] [] st h Q ↔ pb_R 88 14 [l0, some (.ref x), l2] [] (.ref x :: st) h Q) ∧
  (∀ (l0 l2 : Option Value) (st : List Value) (h : pb_H) (Q : Option Value → pb_H → Prop), pb_R 88 13 [l0, some .null, l2] [] st h Q ↔ pb_R 88 14 [l0, some .null, l2] [] (.null :: st) h Q) ∧
  (∀ (L : pb_L) (J : pb_J) (st : List Value) (h : pb_H) (Q : Option Value → pb_H → Prop) (a : Nat) (x : Nat), pb_R 88 14 L J (.ref x :: .ref a :: st) h Q ↔ pb_o (pb_pf (h.2 a) 2 0 (.ref x)) (fun c => pb_R 88 17 L J st (pb_set h a c) Q)) ∧
  (∀ (l1 l2 : Option Value) (st : List Value) (h : pb_H) (Q : Option Value → pb_H → Prop) (x : Nat), pb_R 88 17 [some (.ref x), l1, l2] [] st h Q ↔ pb_R 88 18 [some (.ref x), l1, l2] [] (.ref x :: st) h Q) ∧
  (∀ (l1 l2 : Option Value) (st : List Value) (h : pb_H) (Q : Option Value → pb_H → Prop), pb_R 88 17 [some .null, l1, l2] [] st h Q ↔ pb_R 88 18 [some .null, l1, l2] [] (.null :: st) h Q) ∧
  (∀ (l0 l1 : Option Value) (st : List Value) (h : pb_H) (Q : Option Value → pb_H → Prop) (x : Int32), pb_R 88 18 [l0, l1, some (.int x)] [] st h Q ↔ pb_R 88 19 [l0, l1, some (.int x)] [] (.int x :: st) h Q) ∧
  (∀ (L : pb_L) (J : pb_J) (st : List Value) (h : pb_H) (Q : Option Value → pb_H → Prop) (a : Nat) (x : Int32), pb_R 88 19 L J (.int x :: .ref a :: st) h Q ↔ pb_o (pb_pf (h.2 a) 2 1 (.int x)) (fun c => pb_R 88 22 L J st (pb_set h a c) Q)) ∧
  (∀ (l1 l2 : Option Value) (st : List Value) (h : pb_H) (Q : Option Value → pb_H → Prop) (x : Nat), pb_R 88 22 [some (.ref x), l1, l2] [] st h Q ↔ pb_R 88 23 [some (.ref x), l1, l2] [] (.ref x :: st) h Q) ∧
  (∀ (l1 l2 : Option Value) (st : List Value) (h : pb_H) (Q : Option Value → pb_H → Prop), pb_R 88 22 [some .null, l1, l2] [] st h Q ↔ pb_R 88 23 [some .null, l1, l2] [] (.null :: st) h Q) ∧
  (∀ (l0 l1 : Option Value) (st : List Value) (h : pb_H) (Q : Option Value → pb_H → Prop) (x : Int32), pb_R 88 23 [l0, l1, some (.int x)] [] st h Q ↔ pb_R 88 24 [l0, l1, some (.int x)] [] (.int x :: st) h Q) ∧
  (∀ (L : pb_L) (J : pb_J) (st : List Value) (h : pb_H) (Q : Option Value → pb_H → Prop), pb_R 88 24 L J st h Q ↔ pb_R 88 25 L J (.int (1 : Int32) :: st) h Q) ∧
  (∀ (L : pb_L) (J : pb_J) (st : List Value) (x y : Int32) (h : pb_H) (Q : Option Value → pb_H → Prop), pb_R 88 25 L J (.int y :: .int x :: st) h Q ↔ pb_R 88 26 L J (.int (x + y) :: st) h Q) ∧
  (∀ (L : pb_L) (J : pb_J) (st : List Value) (h : pb_H) (Q : Option Value → pb_H → Prop), pb_R 88 26 L J st h Q ↔ pb_R 88 28 L J (.int (8 : Int32) :: st) h Q) ∧
  (∀ (L : pb_L) (J : pb_J) (st : List Value) (x y : Int32) (h : pb_H) (Q : Option Value → pb_H → Prop), pb_R 88 28 L J (.int y :: .int x :: st) h Q ↔ pb_R 88 29 L J (.int (x * y) :: st) h Q) ∧
  (∀ (L : pb_L) (J : pb_J) (st : List Value) (h : pb_H) (Q : Option Value → pb_H → Prop) (n : Int32), pb_R 88 29 L J (.int n :: st) h Q ↔ (¬ n < 0 ∧ n.toNatClampNeg ≤ 1000000) ∧ pb_R 88 31 L J (.ref h.1 :: st) (pb_new h (.inl (0, n.toNatClampNeg, .inl (fun _ => 0)))) Q) ∧
  (∀ (L : pb_L) (J : pb_J) (st : List Value) (h : pb_H) (Q : Option Value → pb_H → Prop) (a : Nat) (x : Nat), pb_R 88 31 L J (.ref x :: .ref a :: st) h Q ↔ pb_o (pb_pf (h.2 a) 2 2 (.ref x)) (fun c => pb_R 88 34 L J st (pb_set h a c) Q)) ∧
  (∀ (L : pb_L) (J : pb_J) (h : pb_H) (Q : Option Value → pb_H → Prop), pb_R 88 34 L J [] h Q ↔ Q none h) := ⟨
  fun l1 l2 st h Q x => pf_S pb_u_88 rfl rfl,
  fun l1 l2 st h Q => pf_S pb_u_88 rfl rfl,
  fun L J h Q a => pf_S pb_u_88 rfl rfl,
  fun l1 l2 st h Q x => pf_S pb_u_88 rfl rfl,
  fun l1 l2 st h Q => pf_S pb_u_88 rfl rfl,
  fun L J st h Q => pf_S pb_u_88 rfl rfl,
  fun L J st h Q n => pf_nI pb_u_88 rfl rfl,
  fun L J st h Q a x => pf_pf pb_u_88 rfl rfl,
  fun l1 l2 st h Q x => pf_S pb_u_88 rfl rfl,
  fun l1 l2 st h Q => pf_S pb_u_88 rfl rfl,
  fun l0 l2 st h Q x => pf_S pb_u_88 rfl rfl,
  fun l0 l2 st h Q => pf_S pb_u_88 rfl rfl,
  fun L J st h Q a x => pf_pf pb_u_88 rfl rfl,
  fun l1 l2 st h Q x => pf_S pb_u_88 rfl rfl,
  fun l1 l2 st h Q => pf_S pb_u_88 rfl rfl,
  fun l0 l1 st h Q x => pf_S pb_u_88 rfl rfl,
  fun L J st h Q a x => pf_pf pb_u_88 rfl rfl,
  fun l1 l2 st h Q x => pf_S pb_u_88 rfl rfl,
  fun l1 l2 st h Q => pf_S pb_u_88 rfl rfl,
  fun l0 l1 st h Q x => pf_S pb_u_88 rfl rfl,
  fun L J st h Q => pf_S pb_u_88 rfl rfl,
  fun L J st x y h Q => pf_S pb_u_88 rfl rfl,
  fun L J st h Q => pf_S pb_u_88 rfl rfl,
  fun L J st x y h Q => pf_S pb_u_88 rfl rfl,
  fun L J st h Q n => pf_nI pb_u_88 rfl rfl,
  fun L J st h Q a x => pf_pf pb_u_88 rfl rfl,
  fun L J h Q => pf_rv pb_u_88 rfl rfl⟩
theorem pb_c88 (x0 : Nat) (x1 : Nat) (x2 : Int32) (h : pb_H) (Q : Option Value → pb_H → Prop) : pb_call 88 [.ref x0, .ref x1, .int x2] h Q ↔ pb_R 88 0 [some (.ref x0), some (.ref x1), some (.int x2)] [] [] h Q := Iff.rfl
/-! 89: PlaneBench$Problem.<init>(LPlaneBench$TextReader;LPlaneBench$Condition;I)V -/
theorem pb_u_89 : pb_t 89 = pb_t89 := rfl
set_option maxRecDepth 100000 in
theorem pb_e89 : (∀ (l1 l2 l3 : Option Value) (st : List Value) (h : pb_H) (Q : Option Value → pb_H → Prop) (x : Nat), pb_R 89 0 [some (.ref x), l1, l2, l3] [] st h Q ↔ pb_R 89 1 [some (.ref x), l1, l2, l3] [] (.ref x :: st) h Q) ∧
  (∀ (l1 l2 l3 : Option Value) (st : List Value) (h : pb_H) (Q : Option Value → pb_H → Prop), pb_R 89 0 [some .null, l1, l2, l3] [] st h Q ↔ pb_R 89 1 [some .null, l1, l2, l3] [] (.null :: st) h Q) ∧
  (∀ (L : pb_L) (J : pb_J) (h : pb_H) (Q : Option Value → pb_H → Prop) (a : Nat), pb_R 89 1 L J [.ref a] h Q ↔ pb_R 89 4 L J [] h Q) ∧
  (∀ (l1 l2 l3 : Option Value) (st : List Value) (h : pb_H) (Q : Option Value → pb_H → Prop) (x : Nat), pb_R 89 4 [some (.ref x), l1, l2, l3] [] st h Q ↔ pb_R 89 5 [some (.ref x), l1, l2, l3] [] (.ref x :: st) h Q) ∧
  (∀ (l1 l2 l3 : Option Value) (st : List Value) (h : pb_H) (Q : Option Value → pb_H → Prop), pb_R 89 4 [some .null, l1, l2, l3] [] st h Q ↔ pb_R 89 5 [some .null, l1, l2, l3] [] (.null :: st) h Q) ∧
  (∀ (L : pb_L) (J : pb_J) (st : List Value) (h : pb_H) (Q : Option Value → pb_H → Prop), pb_R 89 5 L J st h Q ↔ pb_R 89 7 L J (.int (40 : Int32) :: st) h Q) ∧
  (∀ (L : pb_L) (J : pb_J) (st : List Value) (h : pb_H) (Q : Option Value → pb_H → Prop) (n : Int32), pb_R 89 7 L J (.int n :: st) h Q ↔ (¬ n < 0 ∧ n.toNatClampNeg ≤ 1000000) ∧ pb_R 89 10 L J (.ref h.1 :: st) (pb_new h (.inl (2, n.toNatClampNeg, .inr (.inr (.inr (.inr (fun _ => none))))))) Q) ∧
  (∀ (L : pb_L) (J : pb_J) (st : List Value) (h : pb_H) (Q : Option Value → pb_H → Prop) (a : Nat) (x : Nat), pb_R 89 10 L J (.ref x :: .ref a :: st) h Q ↔ pb_o (pb_pf (h.2 a) 5 3 (.ref x)) (fun c => pb_R 89 13 L J st (pb_set h a c) Q)) ∧
  (∀ (l1 l2 l3 : Option Value) (st : List Value) (h : pb_H) (Q : Option Value → pb_H → Prop) (x : Nat), pb_R 89 13 [some (.ref x), l1, l2, l3] [] st h Q ↔ pb_R 89 14 [some (.ref x), l1, l2, l3] [] (.ref x :: st) h Q) ∧
  (∀ (l1 l2 l3 : Option Value) (st : List Value) (h : pb_H) (Q : Option Value → pb_H → Prop), pb_R 89 13 [some .null, l1, l2, l3] [] st h Q ↔ pb_R 89 14 [some .null, l1, l2, l3] [] (.null :: st) h Q) ∧
  (∀ (l0 l2 l3 : Option Value) (st : List Value) (h : pb_H) (Q : Option Value → pb_H → Prop) (x : Nat), pb_R 89 14 [l0, some (.ref x), l2, l3] [] st h Q ↔ pb_R 89 15 [l0, some (.ref x), l2, l3] [] (.ref x :: st) h Q) ∧
  (∀ (l0 l2 l3 : Option Value) (st : List Value) (h : pb_H) (Q : Option Value → pb_H → Prop), pb_R 89 14 [l0, some .null, l2, l3] [] st h Q ↔ pb_R 89 15 [l0, some .null, l2, l3] [] (.null :: st) h Q) ∧
  (∀ (L : pb_L) (J : pb_J) (st : List Value) (h : pb_H) (Q : Option Value → pb_H → Prop) (a : Nat) (x : Nat), pb_R 89 15 L J (.ref x :: .ref a :: st) h Q ↔ pb_o (pb_pf (h.2 a) 5 0 (.ref x)) (fun c => pb_R 89 18 L J st (pb_set h a c) Q)) ∧
  (∀ (l1 l2 l3 : Option Value) (st : List Value) (h : pb_H) (Q : Option Value → pb_H → Prop) (x : Nat), pb_R 89 18 [some (.ref x), l1, l2, l3] [] st h Q ↔ pb_R 89 19 [some (.ref x), l1, l2, l3] [] (.ref x :: st) h Q) ∧
  (∀ (l1 l2 l3 : Option Value) (st : List Value) (h : pb_H) (Q : Option Value → pb_H → Prop), pb_R 89 18 [some .null, l1, l2, l3] [] st h Q ↔ pb_R 89 19 [some .null, l1, l2, l3] [] (.null :: st) h Q) ∧
  (∀ (l0 l1 l3 : Option Value) (st : List Value) (h : pb_H) (Q : Option Value → pb_H → Prop) (x : Nat), pb_R 89 19 [l0, l1, some (.ref x), l3] [] st h Q ↔ pb_R 89 20 [l0, l1, some (.ref x), l3] [] (.ref x :: st) h Q) ∧
  (∀ (l0 l1 l3 : Option Value) (st : List Value) (h : pb_H) (Q : Option Value → pb_H → Prop), pb_R 89 19 [l0, l1, some .null, l3] [] st h Q ↔ pb_R 89 20 [l0, l1, some .null, l3] [] (.null :: st) h Q) ∧
  (∀ (L : pb_L) (J : pb_J) (st : List Value) (h : pb_H) (Q : Option Value → pb_H → Prop) (a : Nat) (x : Nat), pb_R 89 20 L J (.ref x :: .ref a :: st) h Q ↔ pb_o (pb_pf (h.2 a) 5 1 (.ref x)) (fun c => pb_R 89 23 L J st (pb_set h a c) Q)) ∧
  (∀ (l1 l2 l3 : Option Value) (st : List Value) (h : pb_H) (Q : Option Value → pb_H → Prop) (x : Nat), pb_R 89 23 [some (.ref x), l1, l2, l3] [] st h Q ↔ pb_R 89 24 [some (.ref x), l1, l2, l3] [] (.ref x :: st) h Q) ∧
  (∀ (l1 l2 l3 : Option Value) (st : List Value) (h : pb_H) (Q : Option Value → pb_H → Prop), pb_R 89 23 [some .null, l1, l2, l3] [] st h Q ↔ pb_R 89 24 [some .null, l1, l2, l3] [] (.null :: st) h Q) ∧
  (∀ (l0 l1 l2 : Option Value) (st : List Value) (h : pb_H) (Q : Option Value → pb_H → Prop) (x : Int32), pb_R 89 24 [l0, l1, l2, some (.int x)] [] st h Q ↔ pb_R 89 25 [l0, l1, l2, some (.int x)] [] (.int x :: st) h Q) ∧
  (∀ (L : pb_L) (J : pb_J) (st : List Value) (h : pb_H) (Q : Option Value → pb_H → Prop) (a : Nat) (x : Int32), pb_R 89 25 L J (.int x :: .ref a :: st) h Q ↔ pb_o (pb_pf (h.2 a) 5 2 (.int x)) (fun c => pb_R 89 28 L J st (pb_set h a c) Q)) ∧
  (∀ (L : pb_L) (J : pb_J) (h : pb_H) (Q : Option Value → pb_H → Prop), pb_R 89 28 L J [] h Q ↔ Q none h) := ⟨
  fun l1 l2 l3 st h Q x => pf_S pb_u_89 rfl rfl,
  fun l1 l2 l3 st h Q => pf_S pb_u_89 rfl rfl,
  fun L J h Q a => pf_S pb_u_89 rfl rfl,
  fun l1 l2 l3 st h Q x => pf_S pb_u_89 rfl rfl,
  fun l1 l2 l3 st h Q => pf_S pb_u_89 rfl rfl,
  fun L J st h Q => pf_S pb_u_89 rfl rfl,
  fun L J st h Q n => pf_nL pb_u_89 rfl rfl,
  fun L J st h Q a x => pf_pf pb_u_89 rfl rfl,
  fun l1 l2 l3 st h Q x => pf_S pb_u_89 rfl rfl,
  fun l1 l2 l3 st h Q => pf_S pb_u_89 rfl rfl,
  fun l0 l2 l3 st h Q x => pf_S pb_u_89 rfl rfl,
  fun l0 l2 l3 st h Q => pf_S pb_u_89 rfl rfl,
  fun L J st h Q a x => pf_pf pb_u_89 rfl rfl,
  fun l1 l2 l3 st h Q x => pf_S pb_u_89 rfl rfl,
  fun l1 l2 l3 st h Q => pf_S pb_u_89 rfl rfl,
  fun l0 l1 l3 st h Q x => pf_S pb_u_89 rfl rfl,
  fun l0 l1 l3 st h Q => pf_S pb_u_89 rfl rfl,
  fun L J st h Q a x => pf_pf pb_u_89 rfl rfl,
  fun l1 l2 l3 st h Q x => pf_S pb_u_89 rfl rfl,
  fun l1 l2 l3 st h Q => pf_S pb_u_89 rfl rfl,
  fun l0 l1 l2 st h Q x => pf_S pb_u_89 rfl rfl,
  fun L J st h Q a x => pf_pf pb_u_89 rfl rfl,
  fun L J h Q => pf_rv pb_u_89 rfl rfl⟩
theorem pb_c89 (x0 : Nat) (x1 : Nat) (x2 : Nat) (x3 : Int32) (h : pb_H) (Q : Option Value → pb_H → Prop) : pb_call 89 [.ref x0, .ref x1, .ref x2, .int x3] h Q ↔ pb_R 89 0 [some (.ref x0), some (.ref x1), some (.ref x2), some (.int x3)] [] [] h Q := Iff.rfl
/-! 90: PlaneBench$Problem.makeLine(Z)Z -/
theorem pb_u_90 : pb_t 90 = pb_t90 := rfl
theorem pb_ci_90 : pb_ci 90 = 5 := by decide +kernel
set_option maxRecDepth 100000 in
theorem pb_e90 : (∀ (l1 : Option Value) (st : List Value) (h : pb_H) (Q : Option Value → pb_H → Prop) (x : Nat), pb_R 90 0 [some (.ref x), l1] [] st h Q ↔ pb_R 90 1 [some (.ref x), l1] [] (.ref x :: st) h Q) ∧
  (∀ (l1 : Option Value) (st : List Value) (h : pb_H) (Q : Option Value → pb_H → Prop), pb_R 90 0 [some .null, l1] [] st h Q ↔ pb_R 90 1 [some .null, l1] [] (.null :: st) h Q) ∧
  (∀ (L : pb_L) (J : pb_J) (st : List Value) (h : pb_H) (Q : Option Value → pb_H → Prop) (a : Nat), pb_R 90 1 L J (.ref a :: st) h Q ↔ pb_o (pb_gf (h.2 a) 5 4) (fun v => pb_R 90 4 L J (v :: st) h Q)) ∧
  (∀ (l1 : Option Value) (st : List Value) (h : pb_H) (Q : Option Value → pb_H → Prop) (x : Nat), pb_R 90 4 [some (.ref x), l1] [] st h Q ↔ pb_R 90 5 [some (.ref x), l1] [] (.ref x :: st) h Q) ∧
  (∀ (l1 : Option Value) (st : List Value) (h : pb_H) (Q : Option Value → pb_H → Prop), pb_R 90 4 [some .null, l1] [] st h Q ↔ pb_R 90 5 [some .null, l1] [] (.null :: st) h Q) ∧
  (∀ (L : pb_L) (J : pb_J) (st : List Value) (h : pb_H) (Q : Option Value → pb_H → Prop) (a : Nat), pb_R 90 5 L J (.ref a :: st) h Q ↔ pb_o (pb_gf (h.2 a) 5 3) (fun v => pb_R 90 8 L J (v :: st) h Q)) ∧
  (∀ (L : pb_L) (J : pb_J) (st : List Value) (h : pb_H) (Q : Option Value → pb_H → Prop) (a : Nat), pb_R 90 8 L J (.ref a :: st) h Q ↔ pb_o (pb_al2 (h.2 a)) (fun n => pb_R 90 9 L J (.int (Int32.ofNat n) :: st) h Q)) ∧
  (∀ (L : pb_L) (J : pb_J) (st : List Value) (h : pb_H) (Q : Option Value → pb_H → Prop) (x y : Int32), pb_R 90 9 L J (.int y :: .int x :: st) h Q ↔ if x < y then pb_R 90 21 L J st h Q else pb_R 90 12 L J st h Q) ∧
  (∀ (l1 : Option Value) (st : List Value) (h : pb_H) (Q : Option Value → pb_H → Prop) (x : Nat), pb_R 90 12 [some (.ref x), l1] [] st h Q ↔ pb_R 90 13 [some (.ref x), l1] [] (.ref x :: st) h Q) ∧
  (∀ (l1 : Option Value) (st : List Value) (h : pb_H) (Q : Option Value → pb_H → Prop), pb_R 90 12 [some .null, l1] [] st h Q ↔ pb_R 90 13 [some .null, l1] [] (.null :: st) h Q) ∧
  (∀ (L : pb_L) (J : pb_J) (st : List Value) (h : pb_H) (Q : Option Value → pb_H → Prop) (a : Nat), pb_R 90 13 L J (.ref a :: st) h Q ↔ pb_o (pb_gf (h.2 a) 5 0) (fun v => pb_R 90 16 L J (v :: st) h Q)) ∧
  (∀ (L : pb_L) (J : pb_J) (st : List Value) (h : pb_H) (Q : Option Value → pb_H → Prop), pb_R 90 16 L J st h Q ↔ pb_R 90 17 L J (.int (5 : Int32) :: st) h Q) ∧
  (∀ (L : pb_L) (J : pb_J) (h : pb_H) (Q : Option Value → pb_H → Prop) (x0 : Int32) (x1 : Nat), pb_R 90 17 L J [.int x0, .ref x1] h Q ↔ pb_is0 (h.2 x1) 8 = true ∧ pb_call 29 [.ref x1, .int x0] h (fun v t => pb_R 90 20 L J (v.toList ++ []) t Q)) ∧
  (∀ (L : pb_L) (J : pb_J) (h : pb_H) (Q : Option Value → pb_H → Prop) (x : Int32), pb_R 90 20 L J [.int x] h Q ↔ narrow .boolean (.int x) = .int x ∧ Q (some (.int x)) h) ∧
  (∀ (l1 : Option Value) (st : List Value) (h : pb_H) (Q : Option Value → pb_H → Prop) (x : Nat), pb_R 90 21 [some (.ref x), l1] [] st h Q ↔ pb_R 90 22 [some (.ref x), l1] [] (.ref x :: st) h Q) ∧
  (∀ (l1 : Option Value) (st : List Value) (h : pb_H) (Q : Option Value → pb_H → Prop), pb_R 90 21 [some .null, l1] [] st h Q ↔ pb_R 90 22 [some .null, l1] [] (.null :: st) h Q) ∧
  (∀ (L : pb_L) (J : pb_J) (st : List Value) (h : pb_H) (Q : Option Value → pb_H → Prop) (a : Nat), pb_R 90 22 L J (.ref a :: st) h Q ↔ pb_o (pb_gf (h.2 a) 5 3) (fun v => pb_R 90 25 L J (v :: st) h Q)) ∧
  (∀ (l1 : Option Value) (st : List Value) (h : pb_H) (Q : Option Value → pb_H → Prop) (x : Nat), pb_R 90 25 [some (.ref x), l1] [] st h Q ↔ pb_R 90 26 [some (.ref x), l1] [] (.ref x :: st) h Q) ∧
  (∀ (l1 : Option Value) (st : List Value) (h : pb_H) (Q : Option Value → pb_H → Prop), pb_R 90 25 [some .null, l1] [] st h Q ↔ pb_R 90 26 [some .null, l1] [] (.null :: st) h Q) ∧
  (∀ (L : pb_L) (J : pb_J) (st : List Value) (h : pb_H) (Q : Option Value → pb_H → Prop) (a : Nat), pb_R 90 26 L J (.ref a :: st) h Q ↔ pb_o (pb_gf (h.2 a) 5 4) (fun v => pb_R 90 29 L J (v :: st) h Q)) ∧
  (∀ (L : pb_L) (J : pb_J) (st : List Value) (h : pb_H) (Q : Option Value → pb_H → Prop) (a : Nat) (i : Int32), pb_R 90 29 L J (.int i :: .ref a :: st) h Q ↔ pb_o (pb_aa (h.2 a) i) (fun v => pb_R 90 30 L J (va_rf v :: st) h Q)) ∧
  (∀ (L : pb_L) (J : pb_J) (st : List Value) (h : pb_H) (Q : Option Value → pb_H → Prop), pb_R 90 30 L J (.null :: st) h Q ↔ pb_R 90 33 L J st h Q) ∧
  (∀ (L : pb_L) (J : pb_J) (st : List Value) (h : pb_H) (Q : Option Value → pb_H → Prop) (x : Nat), pb_R 90 30 L J (.ref x :: st) h Q ↔ pb_R 90 53 L J st h Q) ∧
  (∀ (l1 : Option Value) (st : List Value) (h : pb_H) (Q : Option Value → pb_H → Prop) (x : Nat), pb_R 90 33 [some (.ref x), l1] [] st h Q ↔ pb_R 90 34 [some (.ref x), l1] [] (.ref x :: st) h Q) ∧
  (∀ (l1 : Option Value) (st : List Value) (h : pb_H) (Q : Option Value → pb_H → Prop), pb_R 90 33 [some .null, l1] [] st h Q ↔ pb_R 90 34 [some .null, l1] [] (.null :: st) h Q) ∧
  (∀ (L : pb_L) (J : pb_J) (st : List Value) (h : pb_H) (Q : Option Value → pb_H → Prop) (a : Nat), pb_R 90 34 L J (.ref a :: st) h Q ↔ pb_o (pb_gf (h.2 a) 5 3) (fun v => pb_R 90 37 L J (v :: st) h Q)) ∧
  (∀ (l1 : Option Value) (st : List Value) (h : pb_H) (Q : Option Value → pb_H → Prop) (x : Nat), pb_R 90 37 [some (.ref x), l1] [] st h Q ↔ pb_R 90 38 [some (.ref x), l1] [] (.ref x :: st) h Q) ∧
  (∀ (l1 : Option Value) (st : List Value) (h : pb_H) (Q : Option Value → pb_H → Prop), pb_R 90 37 [some .null, l1] [] st h Q ↔ pb_R 90 38 [some .null, l1] [] (.null :: st) h Q) ∧
  (∀ (L : pb_L) (J : pb_J) (st : List Value) (h : pb_H) (Q : Option Value → pb_H → Prop) (a : Nat), pb_R 90 38 L J (.ref a :: st) h Q ↔ pb_o (pb_gf (h.2 a) 5 4) (fun v => pb_R 90 41 L J (v :: st) h Q)) ∧
  (∀ (L : pb_L) (J : pb_J) (st : List Value) (h : pb_H) (Q : Option Value → pb_H → Prop), pb_R 90 41 L J st h Q ↔ pb_R 90 44 L J (.ref h.1 :: st) (pb_new h (.inr (4, pb_df 4))) Q) ∧
  (∀ (L : pb_L) (J : pb_J) (st : List Value) (x : Nat) (h : pb_H) (Q : Option Value → pb_H → Prop), pb_R 90 44 L J (.ref x :: st) h Q ↔ pb_R 90 45 L J (.ref x :: .ref x :: st) h Q) ∧
  (∀ (l1 : Option Value) (st : List Value) (h : pb_H) (Q : Option Value → pb_H → Prop) (x : Nat), pb_R 90 45 [some (.ref x), l1] [] st h Q ↔ pb_R 90 46 [some (.ref x), l1] [] (.ref x :: st) h Q) ∧
  (∀ (l1 : Option Value) (st : List Value) (h : pb_H) (Q : Option Value → pb_H → Prop), pb_R 90 45 [some .null, l1] [] st h Q ↔ pb_R 90 46 [some .null, l1] [] (.null :: st) h Q) ∧
  (∀ (L : pb_L) (J : pb_J) (st : List Value) (h : pb_H) (Q : Option Value → pb_H → Prop) (a : Nat), pb_R 90 46 L J (.ref a :: st) h Q ↔ pb_o (pb_gf (h.2 a) 5 2) (fun v => pb_R 90 49 L J (v :: st) h Q)) ∧
  (∀ (L : pb_L) (J : pb_J) (h : pb_H) (Q : Option Value → pb_H → Prop) (x0 : Int32) (x1 : Nat) (x2 : Nat) (x3 : Int32) (x4 : Nat), pb_R 90 49 L J [.int x0, .ref x1, .ref x2, .int x3, .ref x4] h Q ↔ pb_call 13 [.ref x1, .int x0] h (fun v t => pb_R 90 52 L J (v.toList ++ [.ref x2, .int x3, .ref x4]) t Q)) ∧
  (∀ (L : pb_L) (J : pb_J) (st : List Value) (h : pb_H) (Q : Option Value → pb_H → Prop) (a : Nat) (i : Int32), pb_R 90 52 L J (.null :: .int i :: .ref a :: st) h Q ↔ (∀ v, (none : Option Nat) = some v → pb_is0 (h.2 v) 4 = true) ∧ pb_o (pb_sa (h.2 a) i none) (fun c => pb_R 90 53 L J st (pb_set h a c) Q)) ∧
  (∀ (L : pb_L) (J : pb_J) (st : List Value) (h : pb_H) (Q : Option Value → pb_H → Prop) (a x : Nat) (i : Int32), pb_R 90 52 L J (.ref x :: .int i :: .ref a :: st) h Q ↔ (∀ v, some x = some v → pb_is0 (h.2 v) 4 = true) ∧ pb_o (pb_sa (h.2 a) i (some x)) (fun c => pb_R 90 53 L J st (pb_set h a c) Q)) ∧
  (∀ (l1 : Option Value) (st : List Value) (h : pb_H) (Q : Option Value → pb_H → Prop) (x : Nat), pb_R 90 53 [some (.ref x), l1] [] st h Q ↔ pb_R 90 54 [some (.ref x), l1] [] (.ref x :: st) h Q) ∧
  (∀ (l1 : Option Value) (st : List Value) (h : pb_H) (Q : Option Value → pb_H → Prop), pb_R 90 53 [some .null, l1] [] st h Q ↔ pb_R 90 54 [some .null, l1] [] (.null :: st) h Q) ∧
  (∀ (L : pb_L) (J : pb_J) (st : List Value) (h : pb_H) (Q : Option Value → pb_H → Prop) (a : Nat), pb_R 90 54 L J (.ref a :: st) h Q ↔ pb_o (pb_gf (h.2 a) 5 3) (fun v => pb_R 90 57 L J (v :: st) h Q)) ∧
  (∀ (l1 : Option Value) (st : List Value) (h : pb_H) (Q : Option Value → pb_H → Prop) (x : Nat), pb_R 90 57 [some (.ref x), l1] [] st h Q ↔ pb_R 90 58 [some (.ref x), l1] [] (.ref x :: st) h Q) ∧
  (∀ (l1 : Option Value) (st : List Value) (h : pb_H) (Q : Option Value → pb_H → Prop), pb_R 90 57 [some .null, l1] [] st h Q ↔ pb_R 90 58 [some .null, l1] [] (.null :: st) h Q) ∧
  (∀ (L : pb_L) (J : pb_J) (st : List Value) (h : pb_H) (Q : Option Value → pb_H → Prop) (a : Nat), pb_R 90 58 L J (.ref a :: st) h Q ↔ pb_o (pb_gf (h.2 a) 5 4) (fun v => pb_R 90 61 L J (v :: st) h Q)) ∧
  (∀ (L : pb_L) (J : pb_J) (st : List Value) (h : pb_H) (Q : Option Value → pb_H → Prop) (a : Nat) (i : Int32), pb_R 90 61 L J (.int i :: .ref a :: st) h Q ↔ pb_o (pb_aa (h.2 a) i) (fun v => pb_R 90 62 L J (va_rf v :: st) h Q)) ∧
  (∀ (l1 : Option Value) (st : List Value) (h : pb_H) (Q : Option Value → pb_H → Prop) (x : Nat), pb_R 90 62 [some (.ref x), l1] [] st h Q ↔ pb_R 90 63 [some (.ref x), l1] [] (.ref x :: st) h Q) ∧
  (∀ (l1 : Option Value) (st : List Value) (h : pb_H) (Q : Option Value → pb_H → Prop), pb_R 90 62 [some .null, l1] [] st h Q ↔ pb_R 90 63 [some .null, l1] [] (.null :: st) h Q) ∧
  (∀ (L : pb_L) (J : pb_J) (st : List Value) (h : pb_H) (Q : Option Value → pb_H → Prop) (a : Nat), pb_R 90 63 L J (.ref a :: st) h Q ↔ pb_o (pb_gf (h.2 a) 5 1) (fun v => pb_R 90 66 L J (v :: st) h Q)) ∧
  (∀ (L : pb_L) (J : pb_J) (st : List Value) (h : pb_H) (Q : Option Value → pb_H → Prop) (a : Nat), pb_R 90 66 L J (.ref a :: st) h Q ↔ pb_o (pb_gf (h.2 a) 2 2) (fun v => pb_R 90 69 L J (v :: st) h Q)) ∧
  (∀ (l0 : Option Value) (st : List Value) (h : pb_H) (Q : Option Value → pb_H → Prop) (x : Int32), pb_R 90 69 [l0, some (.int x)] [] st h Q ↔ pb_R 90 70 [l0, some (.int x)] [] (.int x :: st) h Q) ∧
  (∀ (L : pb_L) (J : pb_J) (h : pb_H) (Q : Option Value → pb_H → Prop) (x0 : Int32) (x1 : Nat) (x2 : Nat), pb_R 90 70 L J [.int x0, .ref x1, .ref x2] h Q ↔ pb_is0 (h.2 x2) 4 = true ∧ pb_call 81 [.ref x2, .ref x1, .int x0] h (fun v t => pb_R 90 73 L J (v.toList ++ []) t Q)) ∧
  (∀ (l1 : Option Value) (st : List Value) (h : pb_H) (Q : Option Value → pb_H → Prop) (x : Nat), pb_R 90 73 [some (.ref x), l1] [] st h Q ↔ pb_R 90 74 [some (.ref x), l1] [] (.ref x :: st) h Q) ∧
  (∀ (l1 : Option Value) (st : List Value) (h : pb_H) (Q : Option Value → pb_H → Prop), pb_R 90 73 [some .null, l1] [] st h Q ↔ pb_R 90 74 [some .null, l1] [] (.null :: st) h Q) ∧
  (∀ (L : pb_L) (J : pb_J) (st : List Value) (x : Nat) (h : pb_H) (Q : Option Value → pb_H → Prop), pb_R 90 74 L J (.ref x :: st) h Q ↔ pb_R 90 75 L J (.ref x :: .ref x :: st) h Q) ∧
  (∀ (L : pb_L) (J : pb_J) (st : List Value) (h : pb_H) (Q : Option Value → pb_H → Prop) (a : Nat), pb_R 90 75 L J (.ref a :: st) h Q ↔ pb_o (pb_gf (h.2 a) 5 4) (fun v => pb_R 90 78 L J (v :: st) h Q)) ∧
  (∀ (L : pb_L) (J : pb_J) (st : List Value) (h : pb_H) (Q : Option Value → pb_H → Prop), pb_R 90 78 L J st h Q ↔ pb_R 90 79 L J (.int (1 : Int32) :: st) h Q) ∧
  (∀ (L : pb_L) (J : pb_J) (st : List Value) (x y : Int32) (h : pb_H) (Q : Option Value → pb_H → Prop), pb_R 90 79 L J (.int y :: .int x :: st) h Q ↔ pb_R 90 80 L J (.int (x + y) :: st) h Q) ∧
  (∀ (L : pb_L) (J : pb_J) (st : List Value) (h : pb_H) (Q : Option Value → pb_H → Prop) (a : Nat) (x : Int32), pb_R 90 80 L J (.int x :: .ref a :: st) h Q ↔ pb_o (pb_pf (h.2 a) 5 4 (.int x)) (fun c => pb_R 90 83 L J st (pb_set h a c) Q)) ∧
  (∀ (L : pb_L) (J : pb_J) (st : List Value) (h : pb_H) (Q : Option Value → pb_H → Prop), pb_R 90 83 L J st h Q ↔ pb_R 90 84 L J (.int (1 : Int32) :: st) h Q) ∧
  (∀ (L : pb_L) (J : pb_J) (h : pb_H) (Q : Option Value → pb_H → Prop) (x : Int32), pb_R 90 84 L J [.int x] h Q ↔ narrow .boolean (.int x) = .int x ∧ Q (some (.int x)) h) := ⟨
  fun l1 st h Q x => pf_S pb_u_90 rfl rfl,
  fun l1 st h Q => pf_S pb_u_90 rfl rfl,
  fun L J st h Q a => pf_gf pb_u_90 rfl rfl,
  fun l1 st h Q x => pf_S pb_u_90 rfl rfl,
  fun l1 st h Q => pf_S pb_u_90 rfl rfl,
  fun L J st h Q a => pf_gf pb_u_90 rfl rfl,
  fun L J st h Q a => pf_le pb_u_90 rfl rfl,
  fun L J st h Q x y => pf_ic pb_u_90 rfl rfl rfl,
  fun l1 st h Q x => pf_S pb_u_90 rfl rfl,
  fun l1 st h Q => pf_S pb_u_90 rfl rfl,
  fun L J st h Q a => pf_gf pb_u_90 rfl rfl,
  fun L J st h Q => pf_S pb_u_90 rfl rfl,
  fun L J h Q x0 x1 => pf_kv pb_u_90 rfl pb_ci_29 rfl ⟨Nat.le_of_ble_eq_true rfl, Nat.le_of_ble_eq_true rfl, Nat.le_of_ble_eq_true rfl, Nat.le_of_ble_eq_true rfl, rfl⟩ rfl rfl,
  fun L J h Q x => pf_rz pb_u_90 rfl rfl,
  fun l1 st h Q x => pf_S pb_u_90 rfl rfl,
  fun l1 st h Q => pf_S pb_u_90 rfl rfl,
  fun L J st h Q a => pf_gf pb_u_90 rfl rfl,
  fun l1 st h Q x => pf_S pb_u_90 rfl rfl,
  fun l1 st h Q => pf_S pb_u_90 rfl rfl,
  fun L J st h Q a => pf_gf pb_u_90 rfl rfl,
  fun L J st h Q a i => pf_aa pb_u_90 rfl rfl,
  fun L J st h Q => pf_S pb_u_90 rfl rfl,
  fun L J st h Q x => pf_S pb_u_90 rfl rfl,
  fun l1 st h Q x => pf_S pb_u_90 rfl rfl,
  fun l1 st h Q => pf_S pb_u_90 rfl rfl,
  fun L J st h Q a => pf_gf pb_u_90 rfl rfl,
  fun l1 st h Q x => pf_S pb_u_90 rfl rfl,
  fun l1 st h Q => pf_S pb_u_90 rfl rfl,
  fun L J st h Q a => pf_gf pb_u_90 rfl rfl,
  fun L J st h Q => pf_S pb_u_90 rfl rfl,
  fun L J st x h Q => pf_S pb_u_90 rfl rfl,
  fun l1 st h Q x => pf_S pb_u_90 rfl rfl,
  fun l1 st h Q => pf_S pb_u_90 rfl rfl,
  fun L J st h Q a => pf_gf pb_u_90 rfl rfl,
  fun L J h Q x0 x1 x2 x3 x4 => pf_kp pb_u_90 rfl rfl rfl rfl,
  fun L J st h Q a i => pf_sa (r := none) pb_u_90 rfl rfl,
  fun L J st h Q a x i => pf_sa (r := some x) pb_u_90 rfl rfl,
  fun l1 st h Q x => pf_S pb_u_90 rfl rfl,
  fun l1 st h Q => pf_S pb_u_90 rfl rfl,
  fun L J st h Q a => pf_gf pb_u_90 rfl rfl,
  fun l1 st h Q x => pf_S pb_u_90 rfl rfl,
  fun l1 st h Q => pf_S pb_u_90 rfl rfl,
  fun L J st h Q a => pf_gf pb_u_90 rfl rfl,
  fun L J st h Q a i => pf_aa pb_u_90 rfl rfl,
  fun l1 st h Q x => pf_S pb_u_90 rfl rfl,
  fun l1 st h Q => pf_S pb_u_90 rfl rfl,
  fun L J st h Q a => pf_gf pb_u_90 rfl rfl,
  fun L J st h Q a => pf_gf pb_u_90 rfl rfl,
  fun l0 st h Q x => pf_S pb_u_90 rfl rfl,
  fun L J h Q x0 x1 x2 => pf_kv pb_u_90 rfl pb_ci_81 rfl ⟨Nat.le_of_ble_eq_true rfl, Nat.le_of_ble_eq_true rfl, Nat.le_of_ble_eq_true rfl, Nat.le_of_ble_eq_true rfl, rfl⟩ rfl rfl,
  fun l1 st h Q x => pf_S pb_u_90 rfl rfl,
  fun l1 st h Q => pf_S pb_u_90 rfl rfl,
  fun L J st x h Q => pf_S pb_u_90 rfl rfl,
  fun L J st h Q a => pf_gf pb_u_90 rfl rfl,
  fun L J st h Q => pf_S pb_u_90 rfl rfl,
  fun L J st x y h Q => pf_S pb_u_90 rfl rfl,
  fun L J st h Q a x => pf_pf pb_u_90 rfl rfl,
  fun L J st h Q => pf_S pb_u_90 rfl rfl,
  fun L J h Q x => pf_rz pb_u_90 rfl rfl⟩
theorem pb_c90 (x0 : Nat) (x1 : Int32) (h : pb_H) (Q : Option Value → pb_H → Prop) : pb_call 90 [.ref x0, .int x1] h Q ↔ pb_R 90 0 [some (.ref x0), some (.int x1)] [] [] h Q := Iff.rfl
/-! 91: PlaneBench$Problem.makeLines()Z -/
theorem pb_u_91 : pb_t 91 = pb_t91 := rfl
theorem pb_ci_91 : pb_ci 91 = 5 := by decide +kernel
set_option maxRecDepth 100000 in
theorem pb_e91 : (∀ (l1 : Option Value) (st : List Value) (h : pb_H) (Q : Option Value → pb_H → Prop) (x : Nat), pb_R 91 0 [some (.ref x), l1] [] st h Q ↔ pb_R 91 1 [some (.ref x), l1] [] (.ref x :: st) h Q) ∧
  (∀ (l1 : Option Value) (st : List Value) (h : pb_H) (Q : Option Value → pb_H → Prop), pb_R 91 0 [some .null, l1] [] st h Q ↔ pb_R 91 1 [some .null, l1] [] (.null :: st) h Q) ∧
  (∀ (L : pb_L) (J : pb_J) (st : List Value) (h : pb_H) (Q : Option Value → pb_H → Prop) (a : Nat), pb_R 91 1 L J (.ref a :: st) h Q ↔ pb_o (pb_gf (h.2 a) 5 1) (fun v => pb_R 91 4 L J (v :: st) h Q)) ∧
  (∀ (L : pb_L) (J : pb_J) (st : List Value) (h : pb_H) (Q : Option Value → pb_H → Prop) (a : Nat), pb_R 91 4 L J (.ref a :: st) h Q ↔ pb_o (pb_gf (h.2 a) 2 4) (fun v => pb_R 91 7 L J (v :: st) h Q)) ∧
  (∀ (l0 l1 : Option Value) (st : List Value) (h : pb_H) (Q : Option Value → pb_H → Prop) (x : Int32), pb_R 91 7 [l0, l1] [] (.int x :: st) h Q ↔ pb_R 91 8 [l0, some (.int x)] [] st h Q) ∧
  (∀ (l0 : Option Value) (st : List Value) (h : pb_H) (Q : Option Value → pb_H → Prop) (x : Int32), pb_R 91 8 [l0, some (.int x)] [] st h Q ↔ pb_R 91 9 [l0, some (.int x)] [] (.int x :: st) h Q) ∧
  (∀ (L : pb_L) (J : pb_J) (st : List Value) (h : pb_H) (Q : Option Value → pb_H → Prop), pb_R 91 9 L J st h Q ↔ pb_R 91 11 L J (.int (60 : Int32) :: st) h Q) ∧
  (∀ (L : pb_L) (J : pb_J) (st : List Value) (h : pb_H) (Q : Option Value → pb_H → Prop) (x y : Int32), pb_R 91 11 L J (.int y :: .int x :: st) h Q ↔ if x = y then pb_R 91 24 L J st h Q else pb_R 91 14 L J st h Q) ∧
  (∀ (l1 : Option Value) (st : List Value) (h : pb_H) (Q : Option Value → pb_H → Prop) (x : Nat), pb_R 91 14 [some (.ref x), l1] [] st h Q ↔ pb_R 91 15 [some (.ref x), l1] [] (.ref x :: st) h Q) ∧
  (∀ (l1 : Option Value) (st : List Value) (h : pb_H) (Q : Option Value → pb_H → Prop), pb_R 91 14 [some .null, l1] [] st h Q ↔ pb_R 91 15 [some .null, l1] [] (.null :: st) h Q) ∧
  (∀ (L : pb_L) (J : pb_J) (st : List Value) (h : pb_H) (Q : Option Value → pb_H → Prop), pb_R 91 15 L J st h Q ↔ pb_R 91 16 L J (.int (0 : Int32) :: st) h Q) ∧
  (∀ (L : pb_L) (J : pb_J) (h : pb_H) (Q : Option Value → pb_H → Prop) (x0 : Int32) (x1 : Nat), pb_R 91 16 L J [.int x0, .ref x1] h Q ↔ pb_is0 (h.2 x1) 5 = true ∧ pb_call 90 [.ref x1, .int x0] h (fun v t => pb_R 91 19 L J (v.toList ++ []) t Q)) ∧
  (∀ (L : pb_L) (J : pb_J) (st : List Value) (h : pb_H) (Q : Option Value → pb_H → Prop) (x : Int32), pb_R 91 19 L J (.int x :: st) h Q ↔ if ¬ x = 0 then pb_R 91 24 L J st h Q else pb_R 91 22 L J st h Q) ∧
  (∀ (L : pb_L) (J : pb_J) (st : List Value) (h : pb_H) (Q : Option Value → pb_H → Prop), pb_R 91 22 L J st h Q ↔ pb_R 91 23 L J (.int (0 : Int32) :: st) h Q) ∧
  (∀ (L : pb_L) (J : pb_J) (h : pb_H) (Q : Option Value → pb_H → Prop) (x : Int32), pb_R 91 23 L J [.int x] h Q ↔ narrow .boolean (.int x) = .int x ∧ Q (some (.int x)) h) ∧
  (∀ (l0 : Option Value) (st : List Value) (h : pb_H) (Q : Option Value → pb_H → Prop) (x : Int32), pb_R 91 24 [l0, some (.int x)] [] st h Q ↔ pb_R 91 25 [l0, some (.int x)] [] (.int x :: st) h Q) ∧
  (∀ (L : pb_L) (J : pb_J) (st : List Value) (h : pb_H) (Q : Option Value → pb_H → Prop), pb_R 91 25 L J st h Q ↔ pb_R 91 27 L J (.int (62 : Int32) :: st) h Q) ∧
  (∀ (L : pb_L) (J : pb_J) (st : List Value) (h : pb_H) (Q : Option Value → pb_H → Prop) (x y : Int32), pb_R 91 27 L J (.int y :: .int x :: st) h Q ↔ if x = y then pb_R 91 38 L J st h Q else pb_R 91 30 L J st h Q) ∧
  (∀ (l1 : Option Value) (st : List Value) (h : pb_H) (Q : Option Value → pb_H → Prop) (x : Nat), pb_R 91 30 [some (.ref x), l1] [] st h Q ↔ pb_R 91 31 [some (.ref x), l1] [] (.ref x :: st) h Q) ∧
  (∀ (l1 : Option Value) (st : List Value) (h : pb_H) (Q : Option Value → pb_H → Prop), pb_R 91 30 [some .null, l1] [] st h Q ↔ pb_R 91 31 [some .null, l1] [] (.null :: st) h Q) ∧
  (∀ (L : pb_L) (J : pb_J) (st : List Value) (h : pb_H) (Q : Option Value → pb_H → Prop), pb_R 91 31 L J st h Q ↔ pb_R 91 32 L J (.int (1 : Int32) :: st) h Q) ∧
  (∀ (L : pb_L) (J : pb_J) (h : pb_H) (Q : Option Value → pb_H → Prop) (x0 : Int32) (x1 : Nat), pb_R 91 32 L J [.int x0, .ref x1] h Q ↔ pb_is0 (h.2 x1) 5 = true ∧ pb_call 90 [.ref x1, .int x0] h (fun v t => pb_R 91 35 L J (v.toList ++ []) t Q)) ∧
  (∀ (L : pb_L) (J : pb_J) (st : List Value) (h : pb_H) (Q : Option Value → pb_H → Prop) (x : Int32), pb_R 91 35 L J (.int x :: st) h Q ↔ if x = 0 then pb_R 91 42 L J st h Q else pb_R 91 38 L J st h Q) ∧
  (∀ (L : pb_L) (J : pb_J) (st : List Value) (h : pb_H) (Q : Option Value → pb_H → Prop), pb_R 91 38 L J st h Q ↔ pb_R 91 39 L J (.int (1 : Int32) :: st) h Q) ∧
  (∀ (L : pb_L) (J : pb_J) (st : List Value) (h : pb_H) (Q : Option Value → pb_H → Prop), pb_R 91 39 L J st h Q ↔ pb_R 91 43 L J st h Q) ∧
  (∀ (L : pb_L) (J : pb_J) (st : List Value) (h : pb_H) (Q : Option Value → pb_H → Prop), pb_R 91 42 L J st h Q ↔ pb_R 91 43 L J (.int (0 : Int32) :: st) h Q) ∧
  (∀ (L : pb_L) (J : pb_J) (h : pb_H) (Q : Option Value → pb_H → Prop) (x : Int32), pb_R 91 43 L J [.int x] h Q ↔ narrow .boolean (.int x) = .int x ∧ Q (some (.int x)) h) := ⟨
  fun l1 st h Q x => pf_S pb_u_91 rfl rfl,
  fun l1 st h Q => pf_S pb_u_91 rfl rfl,
  fun L J st h Q a => pf_gf pb_u_91 rfl rfl,
  fun L J st h Q a => pf_gf pb_u_91 rfl rfl,
  fun l0 l1 st h Q x => pf_S pb_u_91 rfl rfl,
  fun l0 st h Q x => pf_S pb_u_91 rfl rfl,
  fun L J st h Q => pf_S pb_u_91 rfl rfl,
  fun L J st h Q x y => pf_ic pb_u_91 rfl rfl rfl,
  fun l1 st h Q x => pf_S pb_u_91 rfl rfl,
  fun l1 st h Q => pf_S pb_u_91 rfl rfl,
  fun L J st h Q => pf_S pb_u_91 rfl rfl,
  fun L J h Q x0 x1 => pf_kv pb_u_91 rfl pb_ci_90 rfl ⟨Nat.le_of_ble_eq_true rfl, Nat.le_of_ble_eq_true rfl, Nat.le_of_ble_eq_true rfl, Nat.le_of_ble_eq_true rfl, rfl⟩ rfl rfl,
  fun L J st h Q x => pf_ii pb_u_91 rfl rfl pf_ne,
  fun L J st h Q => pf_S pb_u_91 rfl rfl,
  fun L J h Q x => pf_rz pb_u_91 rfl rfl,
  fun l0 st h Q x => pf_S pb_u_91 rfl rfl,
  fun L J st h Q => pf_S pb_u_91 rfl rfl,
  fun L J st h Q x y => pf_ic pb_u_91 rfl rfl rfl,
  fun l1 st h Q x => pf_S pb_u_91 rfl rfl,
  fun l1 st h Q => pf_S pb_u_91 rfl rfl,
  fun L J st h Q => pf_S pb_u_91 rfl rfl,
  fun L J h Q x0 x1 => pf_kv pb_u_91 rfl pb_ci_90 rfl ⟨Nat.le_of_ble_eq_true rfl, Nat.le_of_ble_eq_true rfl, Nat.le_of_ble_eq_true rfl, Nat.le_of_ble_eq_true rfl, rfl⟩ rfl rfl,
  fun L J st h Q x => pf_ii pb_u_91 rfl rfl rfl,
  fun L J st h Q => pf_S pb_u_91 rfl rfl,
  fun L J st h Q => pf_S pb_u_91 rfl rfl,
  fun L J st h Q => pf_S pb_u_91 rfl rfl,
  fun L J h Q x => pf_rz pb_u_91 rfl rfl⟩
theorem pb_c91 (x0 : Nat) (h : pb_H) (Q : Option Value → pb_H → Prop) : pb_call 91 [.ref x0] h Q ↔ pb_R 91 0 [some (.ref x0), none] [] [] h Q := Iff.rfl
/-! 92: PlaneBench$Problem.read()Z -/
theorem pb_u_92 : pb_t 92 = pb_t92 := rfl
theorem pb_ci_92 : pb_ci 92 = 5 := by decide +kernel
set_option maxRecDepth 100000 in
theorem pb_q92_7 (l0 : Option Value) (st : List Value) (h : pb_H) (Q : Option Value → pb_H → Prop) (x : Int32) : pb_R 92 7 [l0, some (.int x)] [] st h Q ↔ pb_R 92 8 [l0, some (.int x)] [] (.int x :: st) h Q := pf_S pb_u_92 rfl rfl
set_option maxRecDepth 100000 in
theorem pb_e92 : (∀ (l1 : Option Value) (st : List Value) (h : pb_H) (Q : Option Value → pb_H → Prop) (x : Nat), pb_R 92 0 [some (.ref x), l1] [] st h Q ↔ pb_R 92 1 [some (.ref x), l1] [] (.ref x :: st) h Q) ∧
  (∀ (l1 : Option Value) (st : List Value) (h : pb_H) (Q : Option Value → pb_H → Prop), pb_R 92 0 [some .null, l1] [] st h Q ↔ pb_R 92 1 [some .null, l1] [] (.null :: st) h Q) ∧
  (∀ (L : pb_L) (J : pb_J) (st : List Value) (h : pb_H) (Q : Option Value → pb_H → Prop), pb_R 92 1 L J st h Q ↔ pb_R 92 2 L J (.int (0 : Int32) :: st) h Q) ∧
  (∀ (L : pb_L) (J : pb_J) (st : List Value) (h : pb_H) (Q : Option Value → pb_H → Prop) (a : Nat) (x : Int32), pb_R 92 2 L J (.int x :: .ref a :: st) h Q ↔ pb_o (pb_pf (h.2 a) 5 4 (.int x)) (fun c => pb_R 92 5 L J st (pb_set h a c) Q)) ∧
  (∀ (L : pb_L) (J : pb_J) (st : List Value) (h : pb_H) (Q : Option Value → pb_H → Prop), pb_R 92 5 L J st h Q ↔ pb_R 92 6 L J (.int (0 : Int32) :: st) h Q) ∧
  (∀ (l0 l1 : Option Value) (st : List Value) (h : pb_H) (Q : Option Value → pb_H → Prop) (x : Int32), pb_R 92 6 [l0, l1] [] (.int x :: st) h Q ↔ pb_R 92 7 [l0, some (.int x)] [] st h Q) ∧
  (∀ (l1 : Option Value) (st : List Value) (h : pb_H) (Q : Option Value → pb_H → Prop) (x : Nat), pb_R 92 8 [some (.ref x), l1] [] st h Q ↔ pb_R 92 9 [some (.ref x), l1] [] (.ref x :: st) h Q) ∧
  (∀ (l1 : Option Value) (st : List Value) (h : pb_H) (Q : Option Value → pb_H → Prop), pb_R 92 8 [some .null, l1] [] st h Q ↔ pb_R 92 9 [some .null, l1] [] (.null :: st) h Q) ∧
  (∀ (L : pb_L) (J : pb_J) (st : List Value) (h : pb_H) (Q : Option Value → pb_H → Prop) (a : Nat), pb_R 92 9 L J (.ref a :: st) h Q ↔ pb_o (pb_gf (h.2 a) 5 0) (fun v => pb_R 92 12 L J (v :: st) h Q)) ∧
  (∀ (L : pb_L) (J : pb_J) (st : List Value) (h : pb_H) (Q : Option Value → pb_H → Prop) (a : Nat), pb_R 92 12 L J (.ref a :: st) h Q ↔ pb_o (pb_gf (h.2 a) 8 1) (fun v => pb_R 92 15 L J (v :: st) h Q)) ∧
  (∀ (L : pb_L) (J : pb_J) (st : List Value) (h : pb_H) (Q : Option Value → pb_H → Prop) (x y : Int32), pb_R 92 15 L J (.int y :: .int x :: st) h Q ↔ if y < x then pb_R 92 61 L J st h Q else pb_R 92 18 L J st h Q) ∧
  (∀ (l1 : Option Value) (st : List Value) (h : pb_H) (Q : Option Value → pb_H → Prop) (x : Nat), pb_R 92 18 [some (.ref x), l1] [] st h Q ↔ pb_R 92 19 [some (.ref x), l1] [] (.ref x :: st) h Q) ∧
  (∀ (l1 : Option Value) (st : List Value) (h : pb_H) (Q : Option Value → pb_H → Prop), pb_R 92 18 [some .null, l1] [] st h Q ↔ pb_R 92 19 [some .null, l1] [] (.null :: st) h Q) ∧
  (∀ (L : pb_L) (J : pb_J) (st : List Value) (h : pb_H) (Q : Option Value → pb_H → Prop) (a : Nat), pb_R 92 19 L J (.ref a :: st) h Q ↔ pb_o (pb_gf (h.2 a) 5 0) (fun v => pb_R 92 22 L J (v :: st) h Q)) ∧
  (∀ (L : pb_L) (J : pb_J) (st : List Value) (h : pb_H) (Q : Option Value → pb_H → Prop) (a : Nat), pb_R 92 22 L J (.ref a :: st) h Q ↔ pb_o (pb_gf (h.2 a) 8 2) (fun v => pb_R 92 25 L J (v :: st) h Q)) ∧
  (∀ (L : pb_L) (J : pb_J) (st : List Value) (h : pb_H) (Q : Option Value → pb_H → Prop) (x : Int32), pb_R 92 25 L J (.int x :: st) h Q ↔ if x = 0 then pb_R 92 61 L J st h Q else pb_R 92 28 L J st h Q) ∧
  (∀ (l1 : Option Value) (st : List Value) (h : pb_H) (Q : Option Value → pb_H → Prop) (x : Nat), pb_R 92 28 [some (.ref x), l1] [] st h Q ↔ pb_R 92 29 [some (.ref x), l1] [] (.ref x :: st) h Q) ∧
  (∀ (l1 : Option Value) (st : List Value) (h : pb_H) (Q : Option Value → pb_H → Prop), pb_R 92 28 [some .null, l1] [] st h Q ↔ pb_R 92 29 [some .null, l1] [] (.null :: st) h Q) ∧
  (∀ (L : pb_L) (J : pb_J) (st : List Value) (h : pb_H) (Q : Option Value → pb_H → Prop) (a : Nat), pb_R 92 29 L J (.ref a :: st) h Q ↔ pb_o (pb_gf (h.2 a) 5 1) (fun v => pb_R 92 32 L J (v :: st) h Q)) ∧
  (∀ (L : pb_L) (J : pb_J) (st : List Value) (h : pb_H) (Q : Option Value → pb_H → Prop), pb_R 92 32 L J st h Q ↔ pb_R 92 33 L J (.int (1 : Int32) :: st) h Q) ∧
  (∀ (L : pb_L) (J : pb_J) (h : pb_H) (Q : Option Value → pb_H → Prop) (x0 : Int32) (x1 : Nat), pb_R 92 33 L J [.int x0, .ref x1] h Q ↔ pb_is0 (h.2 x1) 2 = true ∧ pb_call 80 [.ref x1, .int x0] h (fun v t => pb_R 92 36 L J (v.toList ++ []) t Q)) ∧
  (∀ (L : pb_L) (J : pb_J) (st : List Value) (h : pb_H) (Q : Option Value → pb_H → Prop) (x : Int32), pb_R 92 36 L J (.int x :: st) h Q ↔ if x = 0 then pb_R 92 46 L J st h Q else pb_R 92 39 L J st h Q) ∧
  (∀ (l1 : Option Value) (st : List Value) (h : pb_H) (Q : Option Value → pb_H → Prop) (x : Nat), pb_R 92 39 [some (.ref x), l1] [] st h Q ↔ pb_R 92 40 [some (.ref x), l1] [] (.ref x :: st) h Q) ∧
  (∀ (l1 : Option Value) (st : List Value) (h : pb_H) (Q : Option Value → pb_H → Prop), pb_R 92 39 [some .null, l1] [] st h Q ↔ pb_R 92 40 [some .null, l1] [] (.null :: st) h Q) ∧
  (∀ (L : pb_L) (J : pb_J) (h : pb_H) (Q : Option Value → pb_H → Prop) (x0 : Nat), pb_R 92 40 L J [.ref x0] h Q ↔ pb_is0 (h.2 x0) 5 = true ∧ pb_call 91 [.ref x0] h (fun v t => pb_R 92 43 L J (v.toList ++ []) t Q)) ∧
  (∀ (L : pb_L) (J : pb_J) (st : List Value) (h : pb_H) (Q : Option Value → pb_H → Prop) (x : Int32), pb_R 92 43 L J (.int x :: st) h Q ↔ if ¬ x = 0 then pb_R 92 48 L J st h Q else pb_R 92 46 L J st h Q) ∧
  (∀ (L : pb_L) (J : pb_J) (st : List Value) (h : pb_H) (Q : Option Value → pb_H → Prop), pb_R 92 46 L J st h Q ↔ pb_R 92 47 L J (.int (0 : Int32) :: st) h Q) ∧
  (∀ (L : pb_L) (J : pb_J) (h : pb_H) (Q : Option Value → pb_H → Prop) (x : Int32), pb_R 92 47 L J [.int x] h Q ↔ narrow .boolean (.int x) = .int x ∧ Q (some (.int x)) h) ∧
  (∀ (l1 : Option Value) (st : List Value) (h : pb_H) (Q : Option Value → pb_H → Prop) (x : Nat), pb_R 92 48 [some (.ref x), l1] [] st h Q ↔ pb_R 92 49 [some (.ref x), l1] [] (.ref x :: st) h Q) ∧
  (∀ (l1 : Option Value) (st : List Value) (h : pb_H) (Q : Option Value → pb_H → Prop), pb_R 92 48 [some .null, l1] [] st h Q ↔ pb_R 92 49 [some .null, l1] [] (.null :: st) h Q) ∧
  (∀ (L : pb_L) (J : pb_J) (st : List Value) (h : pb_H) (Q : Option Value → pb_H → Prop) (a : Nat), pb_R 92 49 L J (.ref a :: st) h Q ↔ pb_o (pb_gf (h.2 a) 5 0) (fun v => pb_R 92 52 L J (v :: st) h Q)) ∧
  (∀ (L : pb_L) (J : pb_J) (h : pb_H) (Q : Option Value → pb_H → Prop) (x0 : Nat), pb_R 92 52 L J [.ref x0] h Q ↔ pb_is0 (h.2 x0) 8 = true ∧ pb_call 23 [.ref x0] h (fun v t => pb_R 92 55 L J (v.toList ++ []) t Q)) ∧
  (∀ (l0 : Option Value) (st : List Value) (h : pb_H) (Q : Option Value → pb_H → Prop) (x : Int32), pb_R 92 55 [l0, some (.int x)] [] st h Q ↔ pb_R 92 58 [l0, some (.int (x + (1 : Int32)))] [] st h Q) ∧
  (∀ (L : pb_L) (J : pb_J) (st : List Value) (h : pb_H) (Q : Option Value → pb_H → Prop), pb_R 92 58 L J st h Q ↔ pb_R 92 7 L J st h Q) ∧
  (∀ (L : pb_L) (J : pb_J) (st : List Value) (h : pb_H) (Q : Option Value → pb_H → Prop), pb_R 92 61 L J st h Q ↔ pb_R 92 62 L J (.int (1 : Int32) :: st) h Q) ∧
  (∀ (L : pb_L) (J : pb_J) (h : pb_H) (Q : Option Value → pb_H → Prop) (x : Int32), pb_R 92 62 L J [.int x] h Q ↔ narrow .boolean (.int x) = .int x ∧ Q (some (.int x)) h) := ⟨
  fun l1 st h Q x => pf_S pb_u_92 rfl rfl,
  fun l1 st h Q => pf_S pb_u_92 rfl rfl,
  fun L J st h Q => pf_S pb_u_92 rfl rfl,
  fun L J st h Q a x => pf_pf pb_u_92 rfl rfl,
  fun L J st h Q => pf_S pb_u_92 rfl rfl,
  fun l0 l1 st h Q x => pf_S pb_u_92 rfl rfl,
  fun l1 st h Q x => pf_S pb_u_92 rfl rfl,
  fun l1 st h Q => pf_S pb_u_92 rfl rfl,
  fun L J st h Q a => pf_gf pb_u_92 rfl rfl,
  fun L J st h Q a => pf_gf pb_u_92 rfl rfl,
  fun L J st h Q x y => pf_ic pb_u_92 rfl rfl rfl,
  fun l1 st h Q x => pf_S pb_u_92 rfl rfl,
  fun l1 st h Q => pf_S pb_u_92 rfl rfl,
  fun L J st h Q a => pf_gf pb_u_92 rfl rfl,
  fun L J st h Q a => pf_gf pb_u_92 rfl rfl,
  fun L J st h Q x => pf_ii pb_u_92 rfl rfl rfl,
  fun l1 st h Q x => pf_S pb_u_92 rfl rfl,
  fun l1 st h Q => pf_S pb_u_92 rfl rfl,
  fun L J st h Q a => pf_gf pb_u_92 rfl rfl,
  fun L J st h Q => pf_S pb_u_92 rfl rfl,
  fun L J h Q x0 x1 => pf_kv pb_u_92 rfl pb_ci_80 rfl ⟨Nat.le_of_ble_eq_true rfl, Nat.le_of_ble_eq_true rfl, Nat.le_of_ble_eq_true rfl, Nat.le_of_ble_eq_true rfl, rfl⟩ rfl rfl,
  fun L J st h Q x => pf_ii pb_u_92 rfl rfl rfl,
  fun l1 st h Q x => pf_S pb_u_92 rfl rfl,
  fun l1 st h Q => pf_S pb_u_92 rfl rfl,
  fun L J h Q x0 => pf_kv pb_u_92 rfl pb_ci_91 rfl ⟨Nat.le_of_ble_eq_true rfl, Nat.le_of_ble_eq_true rfl, Nat.le_of_ble_eq_true rfl, Nat.le_of_ble_eq_true rfl, rfl⟩ rfl rfl,
  fun L J st h Q x => pf_ii pb_u_92 rfl rfl pf_ne,
  fun L J st h Q => pf_S pb_u_92 rfl rfl,
  fun L J h Q x => pf_rz pb_u_92 rfl rfl,
  fun l1 st h Q x => pf_S pb_u_92 rfl rfl,
  fun l1 st h Q => pf_S pb_u_92 rfl rfl,
  fun L J st h Q a => pf_gf pb_u_92 rfl rfl,
  fun L J h Q x0 => pf_kv pb_u_92 rfl pb_ci_23 rfl ⟨Nat.le_of_ble_eq_true rfl, Nat.le_of_ble_eq_true rfl, Nat.le_of_ble_eq_true rfl, Nat.le_of_ble_eq_true rfl, rfl⟩ rfl rfl,
  fun l0 st h Q x => pf_S pb_u_92 rfl rfl,
  fun L J st h Q => pf_S pb_u_92 rfl rfl,
  fun L J st h Q => pf_S pb_u_92 rfl rfl,
  fun L J h Q x => pf_rz pb_u_92 rfl rfl⟩
theorem pb_c92 (x0 : Nat) (h : pb_H) (Q : Option Value → pb_H → Prop) : pb_call 92 [.ref x0] h Q ↔ pb_R 92 0 [some (.ref x0), none] [] [] h Q := Iff.rfl
/-! 93: PlaneBench$Trail.<init>(I)V -/
theorem pb_u_93 : pb_t 93 = pb_t93 := rfl
set_option maxRecDepth 100000 in
theorem pb_e93 : (∀ (l1 : Option Value) (st : List Value) (h : pb_H) (Q : Option Value → pb_H → Prop) (x : Nat), pb_R 93 0 [some (.ref x), l1] [] st h Q ↔ pb_R 93 1 [some (.ref x), l1] [] (.ref x :: st) h Q) ∧
  (∀ (l1 : Option Value) (st : List Value) (h : pb_H) (Q : Option Value → pb_H → Prop), pb_R 93 0 [some .null, l1] [] st h Q ↔ pb_R 93 1 [some .null, l1] [] (.null :: st) h Q) ∧
  (∀ (L : pb_L) (J : pb_J) (h : pb_H) (Q : Option Value → pb_H → Prop) (a : Nat), pb_R 93 1 L J [.ref a] h Q ↔ pb_R 93 4 L J [] h Q) ∧
  (∀ (l1 : Option Value) (st : List Value) (h : pb_H) (Q : Option Value → pb_H → Prop) (x : Nat), pb_R 93 4 [some (.ref x), l1] [] st h Q ↔ pb_R 93 5 [some (.ref x), l1] [] (.ref x :: st) h Q) ∧
  (∀ (l1 : Option Value) (st : List Value) (h : pb_H) (Q : Option Value → pb_H → Prop), pb_R 93 4 [some .null, l1] [] st h Q ↔ pb_R 93 5 [some .null, l1] [] (.null :: st) h Q) ∧
  (∀ (l0 : Option Value) (st : List Value) (h : pb_H) (Q : Option Value → pb_H → Prop) (x : Int32), pb_R 93 5 [l0, some (.int x)] [] st h Q ↔ pb_R 93 6 [l0, some (.int x)] [] (.int x :: st) h Q) ∧
  (∀ (L : pb_L) (J : pb_J) (st : List Value) (h : pb_H) (Q : Option Value → pb_H → Prop) (a : Nat) (x : Int32), pb_R 93 6 L J (.int x :: .ref a :: st) h Q ↔ pb_o (pb_pf (h.2 a) 9 0 (.int x)) (fun c => pb_R 93 9 L J st (pb_set h a c) Q)) ∧
  (∀ (l1 : Option Value) (st : List Value) (h : pb_H) (Q : Option Value → pb_H → Prop) (x : Nat), pb_R 93 9 [some (.ref x), l1] [] st h Q ↔ pb_R 93 10 [some (.ref x), l1] [] (.ref x :: st) h Q) ∧
  (∀ (l1 : Option Value) (st : List Value) (h : pb_H) (Q : Option Value → pb_H → Prop), pb_R 93 9 [some .null, l1] [] st h Q ↔ pb_R 93 10 [some .null, l1] [] (.null :: st) h Q) ∧
  (∀ (l0 : Option Value) (st : List Value) (h : pb_H) (Q : Option Value → pb_H → Prop) (x : Int32), pb_R 93 10 [l0, some (.int x)] [] st h Q ↔ pb_R 93 11 [l0, some (.int x)] [] (.int x :: st) h Q) ∧
  (∀ (L : pb_L) (J : pb_J) (st : List Value) (h : pb_H) (Q : Option Value → pb_H → Prop) (n : Int32), pb_R 93 11 L J (.int n :: st) h Q ↔ (¬ n < 0 ∧ n.toNatClampNeg ≤ 1000000) ∧ pb_R 93 13 L J (.ref h.1 :: st) (pb_new h (.inl (0, n.toNatClampNeg, .inl (fun _ => 0)))) Q) ∧
  (∀ (L : pb_L) (J : pb_J) (st : List Value) (h : pb_H) (Q : Option Value → pb_H → Prop) (a : Nat) (x : Nat), pb_R 93 13 L J (.ref x :: .ref a :: st) h Q ↔ pb_o (pb_pf (h.2 a) 9 1 (.ref x)) (fun c => pb_R 93 16 L J st (pb_set h a c) Q)) ∧
  (∀ (l1 : Option Value) (st : List Value) (h : pb_H) (Q : Option Value → pb_H → Prop) (x : Nat), pb_R 93 16 [some (.ref x), l1] [] st h Q ↔ pb_R 93 17 [some (.ref x), l1] [] (.ref x :: st) h Q) ∧
  (∀ (l1 : Option Value) (st : List Value) (h : pb_H) (Q : Option Value → pb_H → Prop), pb_R 93 16 [some .null, l1] [] st h Q ↔ pb_R 93 17 [some .null, l1] [] (.null :: st) h Q) ∧
  (∀ (l0 : Option Value) (st : List Value) (h : pb_H) (Q : Option Value → pb_H → Prop) (x : Int32), pb_R 93 17 [l0, some (.int x)] [] st h Q ↔ pb_R 93 18 [l0, some (.int x)] [] (.int x :: st) h Q) ∧
  (∀ (L : pb_L) (J : pb_J) (st : List Value) (h : pb_H) (Q : Option Value → pb_H → Prop) (n : Int32), pb_R 93 18 L J (.int n :: st) h Q ↔ (¬ n < 0 ∧ n.toNatClampNeg ≤ 1000000) ∧ pb_R 93 20 L J (.ref h.1 :: st) (pb_new h (.inl (0, n.toNatClampNeg, .inl (fun _ => 0)))) Q) ∧
  (∀ (L : pb_L) (J : pb_J) (st : List Value) (h : pb_H) (Q : Option Value → pb_H → Prop) (a : Nat) (x : Nat), pb_R 93 20 L J (.ref x :: .ref a :: st) h Q ↔ pb_o (pb_pf (h.2 a) 9 2 (.ref x)) (fun c => pb_R 93 23 L J st (pb_set h a c) Q)) ∧
  (∀ (l1 : Option Value) (st : List Value) (h : pb_H) (Q : Option Value → pb_H → Prop) (x : Nat), pb_R 93 23 [some (.ref x), l1] [] st h Q ↔ pb_R 93 24 [some (.ref x), l1] [] (.ref x :: st) h Q) ∧
  (∀ (l1 : Option Value) (st : List Value) (h : pb_H) (Q : Option Value → pb_H → Prop), pb_R 93 23 [some .null, l1] [] st h Q ↔ pb_R 93 24 [some .null, l1] [] (.null :: st) h Q) ∧
  (∀ (l0 : Option Value) (st : List Value) (h : pb_H) (Q : Option Value → pb_H → Prop) (x : Int32), pb_R 93 24 [l0, some (.int x)] [] st h Q ↔ pb_R 93 25 [l0, some (.int x)] [] (.int x :: st) h Q) ∧
  (∀ (L : pb_L) (J : pb_J) (st : List Value) (h : pb_H) (Q : Option Value → pb_H → Prop) (n : Int32), pb_R 93 25 L J (.int n :: st) h Q ↔ (¬ n < 0 ∧ n.toNatClampNeg ≤ 1000000) ∧ pb_R 93 27 L J (.ref h.1 :: st) (pb_new h (.inl (0, n.toNatClampNeg, .inl (fun _ => 0)))) Q) ∧
  (∀ (L : pb_L) (J : pb_J) (st : List Value) (h : pb_H) (Q : Option Value → pb_H → Prop) (a : Nat) (x : Nat), pb_R 93 27 L J (.ref x :: .ref a :: st) h Q ↔ pb_o (pb_pf (h.2 a) 9 3 (.ref x)) (fun c => pb_R 93 30 L J st (pb_set h a c) Q)) ∧
  (∀ (L : pb_L) (J : pb_J) (h : pb_H) (Q : Option Value → pb_H → Prop), pb_R 93 30 L J [] h Q ↔ Q none h) := ⟨
  fun l1 st h Q x => pf_S pb_u_93 rfl rfl,
  fun l1 st h Q => pf_S pb_u_93 rfl rfl,
  fun L J h Q a => pf_S pb_u_93 rfl rfl,
  fun l1 st h Q x => pf_S pb_u_93 rfl rfl,
  fun l1 st h Q => pf_S pb_u_93 rfl rfl,
  fun l0 st h Q x => pf_S pb_u_93 rfl rfl,
  fun L J st h Q a x => pf_pf pb_u_93 rfl rfl,
  fun l1 st h Q x => pf_S pb_u_93 rfl rfl,
  fun l1 st h Q => pf_S pb_u_93 rfl rfl,
  fun l0 st h Q x => pf_S pb_u_93 rfl rfl,
  fun L J st h Q n => pf_nI pb_u_93 rfl rfl,
  fun L J st h Q a x => pf_pf pb_u_93 rfl rfl,
  fun l1 st h Q x => pf_S pb_u_93 rfl rfl,
  fun l1 st h Q => pf_S pb_u_93 rfl rfl,
  fun l0 st h Q x => pf_S pb_u_93 rfl rfl,
  fun L J st h Q n => pf_nI pb_u_93 rfl rfl,
  fun L J st h Q a x => pf_pf pb_u_93 rfl rfl,
  fun l1 st h Q x => pf_S pb_u_93 rfl rfl,
  fun l1 st h Q => pf_S pb_u_93 rfl rfl,
  fun l0 st h Q x => pf_S pb_u_93 rfl rfl,
  fun L J st h Q n => pf_nI pb_u_93 rfl rfl,
  fun L J st h Q a x => pf_pf pb_u_93 rfl rfl,
  fun L J h Q => pf_rv pb_u_93 rfl rfl⟩
theorem pb_c93 (x0 : Nat) (x1 : Int32) (h : pb_H) (Q : Option Value → pb_H → Prop) : pb_call 93 [.ref x0, .int x1] h Q ↔ pb_R 93 0 [some (.ref x0), some (.int x1)] [] [] h Q := Iff.rfl
/-! 94: PlaneBench$Search.<init>(LPlaneBench$Shelf;)V -/
theorem pb_u_94 : pb_t 94 = pb_t94 := rfl
set_option maxRecDepth 100000 in
theorem pb_e94 : (∀ (l1 : Option Value) (st : List Value) (h : pb_H) (Q : Option Value → pb_H → Prop) (x : Nat), pb_R 94 0 [some (.ref x), l1] [] st h Q ↔ pb_R 94 1 [some (.ref x), l1] [] (.ref x :: st) h Q) ∧
  (∀ (l1 : Option Value) (st : List Value) (h : pb_H) (Q : Option Value → pb_H → Prop), pb_R 94 0 [some .null, l1] [] st h Q ↔ pb_R 94 1 [some .null, l1] [] (.null :: st) h Q) ∧
  (∀ (L : pb_L) (J : pb_J) (h : pb_H) (Q : Option Value → pb_H → Prop) (a : Nat), pb_R 94 1 L J [.ref a] h Q ↔ pb_R 94 4 L J [] h Q) ∧
  (∀ (l1 : Option Value) (st : List Value) (h : pb_H) (Q : Option Value → pb_H → Prop) (x : Nat), pb_R 94 4 [some (.ref x), l1] [] st h Q ↔ pb_R 94 5 [some (.ref x), l1] [] (.ref x :: st) h Q) ∧
  (∀ (l1 : Option Value) (st : List Value) (h : pb_H) (Q : Option Value → pb_H → Prop), pb_R 94 4 [some .null, l1] [] st h Q ↔ pb_R 94 5 [some .null, l1] [] (.null :: st) h Q) ∧
  (∀ (L : pb_L) (J : pb_J) (st : List Value) (h : pb_H) (Q : Option Value → pb_H → Prop), pb_R 94 5 L J st h Q ↔ pb_R 94 8 L J (.ref h.1 :: st) (pb_new h (.inr (0, pb_df 0))) Q) ∧
  (∀ (L : pb_L) (J : pb_J) (st : List Value) (x : Nat) (h : pb_H) (Q : Option Value → pb_H → Prop), pb_R 94 8 L J (.ref x :: st) h Q ↔ pb_R 94 9 L J (.ref x :: .ref x :: st) h Q) ∧
  (∀ (L : pb_L) (J : pb_J) (st : List Value) (h : pb_H) (Q : Option Value → pb_H → Prop), pb_R 94 9 L J st h Q ↔ pb_R 94 12 L J (.int (20000 : Int32) :: st) h Q) ∧
  (∀ (L : pb_L) (J : pb_J) (h : pb_H) (Q : Option Value → pb_H → Prop) (x0 : Int32) (x1 : Nat) (x2 : Nat) (x3 : Nat), pb_R 94 12 L J [.int x0, .ref x1, .ref x2, .ref x3] h Q ↔ pb_call 0 [.ref x1, .int x0] h (fun v t => pb_R 94 15 L J (v.toList ++ [.ref x2, .ref x3]) t Q)) ∧
  (∀ (L : pb_L) (J : pb_J) (st : List Value) (h : pb_H) (Q : Option Value → pb_H → Prop) (a : Nat) (x : Nat), pb_R 94 15 L J (.ref x :: .ref a :: st) h Q ↔ pb_o (pb_pf (h.2 a) 6 2 (.ref x)) (fun c => pb_R 94 18 L J st (pb_set h a c) Q)) ∧
  (∀ (l1 : Option Value) (st : List Value) (h : pb_H) (Q : Option Value → pb_H → Prop) (x : Nat), pb_R 94 18 [some (.ref x), l1] [] st h Q ↔ pb_R 94 19 [some (.ref x), l1] [] (.ref x :: st) h Q) ∧
  (∀ (l1 : Option Value) (st : List Value) (h : pb_H) (Q : Option Value → pb_H → Prop), pb_R 94 18 [some .null, l1] [] st h Q ↔ pb_R 94 19 [some .null, l1] [] (.null :: st) h Q) ∧
  (∀ (L : pb_L) (J : pb_J) (st : List Value) (h : pb_H) (Q : Option Value → pb_H → Prop), pb_R 94 19 L J st h Q ↔ pb_R 94 22 L J (.ref h.1 :: st) (pb_new h (.inr (3, pb_df 3))) Q) ∧
  (∀ (L : pb_L) (J : pb_J) (st : List Value) (x : Nat) (h : pb_H) (Q : Option Value → pb_H → Prop), pb_R 94 22 L J (.ref x :: st) h Q ↔ pb_R 94 23 L J (.ref x :: .ref x :: st) h Q) ∧
  (∀ (L : pb_L) (J : pb_J) (h : pb_H) (Q : Option Value → pb_H → Prop) (x0 : Nat) (x1 : Nat) (x2 : Nat), pb_R 94 23 L J [.ref x0, .ref x1, .ref x2] h Q ↔ pb_call 12 [.ref x0] h (fun v t => pb_R 94 26 L J (v.toList ++ [.ref x1, .ref x2]) t Q)) ∧
  (∀ (L : pb_L) (J : pb_J) (st : List Value) (h : pb_H) (Q : Option Value → pb_H → Prop) (a : Nat) (x : Nat), pb_R 94 26 L J (.ref x :: .ref a :: st) h Q ↔ pb_o (pb_pf (h.2 a) 6 11 (.ref x)) (fun c => pb_R 94 29 L J st (pb_set h a c) Q)) ∧
  (∀ (l1 : Option Value) (st : List Value) (h : pb_H) (Q : Option Value → pb_H → Prop) (x : Nat), pb_R 94 29 [some (.ref x), l1] [] st h Q ↔ pb_R 94 30 [some (.ref x), l1] [] (.ref x :: st) h Q) ∧
  (∀ (l1 : Option Value) (st : List Value) (h : pb_H) (Q : Option Value → pb_H → Prop), pb_R 94 29 [some .null, l1] [] st h Q ↔ pb_R 94 30 [some .null, l1] [] (.null :: st) h Q) ∧
  (∀ (L : pb_L) (J : pb_J) (st : List Value) (h : pb_H) (Q : Option Value → pb_H → Prop), pb_R 94 30 L J st h Q ↔ pb_R 94 32 L J (.int (8 : Int32) :: st) h Q) ∧
  (∀ (L : pb_L) (J : pb_J) (st : List Value) (h : pb_H) (Q : Option Value → pb_H → Prop) (n : Int32), pb_R 94 32 L J (.int n :: st) h Q ↔ (¬ n < 0 ∧ n.toNatClampNeg ≤ 1000000) ∧ pb_R 94 34 L J (.ref h.1 :: st) (pb_new h (.inl (0, n.toNatClampNeg, .inl (fun _ => 0)))) Q) ∧
  (∀ (L : pb_L) (J : pb_J) (st : List Value) (h : pb_H) (Q : Option Value → pb_H → Prop) (a : Nat) (x : Nat), pb_R 94 34 L J (.ref x :: .ref a :: st) h Q ↔ pb_o (pb_pf (h.2 a) 6 12 (.ref x)) (fun c => pb_R 94 37 L J st (pb_set h a c) Q)) ∧
  (∀ (l1 : Option Value) (st : List Value) (h : pb_H) (Q : Option Value → pb_H → Prop) (x : Nat), pb_R 94 37 [some (.ref x), l1] [] st h Q ↔ pb_R 94 38 [some (.ref x), l1] [] (.ref x :: st) h Q) ∧
  (∀ (l1 : Option Value) (st : List Value) (h : pb_H) (Q : Option Value → pb_H → Prop), pb_R 94 37 [some .null, l1] [] st h Q ↔ pb_R 94 38 [some .null, l1] [] (.null :: st) h Q) ∧
  (∀ (L : pb_L) (J : pb_J) (st : List Value) (h : pb_H) (Q : Option Value → pb_H → Prop), pb_R 94 38 L J st h Q ↔ pb_R 94 40 L J (.int (8 : Int32) :: st) h Q) ∧
  (∀ (L : pb_L) (J : pb_J) (st : List Value) (h : pb_H) (Q : Option Value → pb_H → Prop) (n : Int32), pb_R 94 40 L J (.int n :: st) h Q ↔ (¬ n < 0 ∧ n.toNatClampNeg ≤ 1000000) ∧ pb_R 94 42 L J (.ref h.1 :: st) (pb_new h (.inl (0, n.toNatClampNeg, .inl (fun _ => 0)))) Q) ∧
  (∀ (L : pb_L) (J : pb_J) (st : List Value) (h : pb_H) (Q : Option Value → pb_H → Prop) (a : Nat) (x : Nat), pb_R 94 42 L J (.ref x :: .ref a :: st) h Q ↔ pb_o (pb_pf (h.2 a) 6 13 (.ref x)) (fun c => pb_R 94 45 L J st (pb_set h a c) Q)) ∧
  (∀ (l1 : Option Value) (st : List Value) (h : pb_H) (Q : Option Value → pb_H → Prop) (x : Nat), pb_R 94 45 [some (.ref x), l1] [] st h Q ↔ pb_R 94 46 [some (.ref x), l1] [] (.ref x :: st) h Q) ∧
  (∀ (l1 : Option Value) (st : List Value) (h : pb_H) (Q : Option Value → pb_H → Prop), pb_R 94 45 [some .null, l1] [] st h Q ↔ pb_R 94 46 [some .null, l1] [] (.null :: st) h Q) ∧
  (∀ (L : pb_L) (J : pb_J) (st : List Value) (h : pb_H) (Q : Option Value → pb_H → Prop), pb_R 94 46 L J st h Q ↔ pb_R 94 48 L J (.int (16 : Int32) :: st) h Q) ∧
  (∀ (L : pb_L) (J : pb_J) (st : List Value) (h : pb_H) (Q : Option Value → pb_H → Prop) (n : Int32), pb_R 94 48 L J (.int n :: st) h Q ↔ (¬ n < 0 ∧ n.toNatClampNeg ≤ 1000000) ∧ pb_R 94 50 L J (.ref h.1 :: st) (pb_new h (.inl (0, n.toNatClampNeg, .inl (fun _ => 0)))) Q) ∧
  (∀ (L : pb_L) (J : pb_J) (st : List Value) (h : pb_H) (Q : Option Value → pb_H → Prop) (a : Nat) (x : Nat), pb_R 94 50 L J (.ref x :: .ref a :: st) h Q ↔ pb_o (pb_pf (h.2 a) 6 14 (.ref x)) (fun c => pb_R 94 53 L J st (pb_set h a c) Q)) ∧
  (∀ (l1 : Option Value) (st : List Value) (h : pb_H) (Q : Option Value → pb_H → Prop) (x : Nat), pb_R 94 53 [some (.ref x), l1] [] st h Q ↔ pb_R 94 54 [some (.ref x), l1] [] (.ref x :: st) h Q) ∧
  (∀ (l1 : Option Value) (st : List Value) (h : pb_H) (Q : Option Value → pb_H → Prop), pb_R 94 53 [some .null, l1] [] st h Q ↔ pb_R 94 54 [some .null, l1] [] (.null :: st) h Q) ∧
  (∀ (l0 : Option Value) (st : List Value) (h : pb_H) (Q : Option Value → pb_H → Prop) (x : Nat), pb_R 94 54 [l0, some (.ref x)] [] st h Q ↔ pb_R 94 55 [l0, some (.ref x)] [] (.ref x :: st) h Q) ∧
  (∀ (l0 : Option Value) (st : List Value) (h : pb_H) (Q : Option Value → pb_H → Prop), pb_R 94 54 [l0, some .null] [] st h Q ↔ pb_R 94 55 [l0, some .null] [] (.null :: st) h Q) ∧
  (∀ (L : pb_L) (J : pb_J) (st : List Value) (h : pb_H) (Q : Option Value → pb_H → Prop) (a : Nat) (x : Nat), pb_R 94 55 L J (.ref x :: .ref a :: st) h Q ↔ pb_o (pb_pf (h.2 a) 6 0 (.ref x)) (fun c => pb_R 94 58 L J st (pb_set h a c) Q)) ∧
  (∀ (l1 : Option Value) (st : List Value) (h : pb_H) (Q : Option Value → pb_H → Prop) (x : Nat), pb_R 94 58 [some (.ref x), l1] [] st h Q ↔ pb_R 94 59 [some (.ref x), l1] [] (.ref x :: st) h Q) ∧
  (∀ (l1 : Option Value) (st : List Value) (h : pb_H) (Q : Option Value → pb_H → Prop), pb_R 94 58 [some .null, l1] [] st h Q ↔ pb_R 94 59 [some .null, l1] [] (.null :: st) h Q) ∧
  (∀ (L : pb_L) (J : pb_J) (st : List Value) (h : pb_H) (Q : Option Value → pb_H → Prop), pb_R 94 59 L J st h Q ↔ pb_R 94 62 L J (.ref h.1 :: st) (pb_new h (.inr (9, pb_df 9))) Q) ∧
  (∀ (L : pb_L) (J : pb_J) (st : List Value) (x : Nat) (h : pb_H) (Q : Option Value → pb_H → Prop), pb_R 94 62 L J (.ref x :: st) h Q ↔ pb_R 94 63 L J (.ref x :: .ref x :: st) h Q) ∧
  (∀ (l0 : Option Value) (st : List Value) (h : pb_H) (Q : Option Value → pb_H → Prop) (x : Nat), pb_R 94 63 [l0, some (.ref x)] [] st h Q ↔ pb_R 94 64 [l0, some (.ref x)] [] (.ref x :: st) h Q) ∧
  (∀ (l0 : Option Value) (st : List Value) (h : pb_H) (Q : Option Value → pb_H → Prop), pb_R 94 63 [l0, some .null] [] st h Q ↔ pb_R 94 64 [l0, some .null] [] (.null :: st) h Q) ∧
  (∀ (L : pb_L) (J : pb_J) (st : List Value) (h : pb_H) (Q : Option Value → pb_H → Prop) (a : Nat), pb_R 94 64 L J (.ref a :: st) h Q ↔ pb_o (pb_gf (h.2 a) 7 0) (fun v => pb_R 94 67 L J (v :: st) h Q)) ∧
  (∀ (L : pb_L) (J : pb_J) (h : pb_H) (Q : Option Value → pb_H → Prop) (x0 : Int32) (x1 : Nat) (x2 : Nat) (x3 : Nat), pb_R 94 67 L J [.int x0, .ref x1, .ref x2, .ref x3] h Q ↔ pb_call 93 [.ref x1, .int x0] h (fun v t => pb_R 94 70 L J (v.toList ++ [.ref x2, .ref x3]) t Q)) ∧
  (∀ (L : pb_L) (J : pb_J) (st : List Value) (h : pb_H) (Q : Option Value → pb_H → Prop) (a : Nat) (x : Nat), pb_R 94 70 L J (.ref x :: .ref a :: st) h Q ↔ pb_o (pb_pf (h.2 a) 6 1 (.ref x)) (fun c => pb_R 94 73 L J st (pb_set h a c) Q)) ∧
  (∀ (l1 : Option Value) (st : List Value) (h : pb_H) (Q : Option Value → pb_H → Prop) (x : Nat), pb_R 94 73 [some (.ref x), l1] [] st h Q ↔ pb_R 94 74 [some (.ref x), l1] [] (.ref x :: st) h Q) ∧
  (∀ (l1 : Option Value) (st : List Value) (h : pb_H) (Q : Option Value → pb_H → Prop), pb_R 94 73 [some .null, l1] [] st h Q ↔ pb_R 94 74 [some .null, l1] [] (.null :: st) h Q) ∧
  (∀ (L : pb_L) (J : pb_J) (st : List Value) (h : pb_H) (Q : Option Value → pb_H → Prop), pb_R 94 74 L J st h Q ↔ pb_R 94 77 L J (.ref h.1 :: st) (pb_new h (.inr (4, pb_df 4))) Q) ∧
  (∀ (L : pb_L) (J : pb_J) (st : List Value) (x : Nat) (h : pb_H) (Q : Option Value → pb_H → Prop), pb_R 94 77 L J (.ref x :: st) h Q ↔ pb_R 94 78 L J (.ref x :: .ref x :: st) h Q) ∧
  (∀ (l0 : Option Value) (st : List Value) (h : pb_H) (Q : Option Value → pb_H → Prop) (x : Nat), pb_R 94 78 [l0, some (.ref x)] [] st h Q ↔ pb_R 94 79 [l0, some (.ref x)] [] (.ref x :: st) h Q) ∧
  (∀ (l0 : Option Value) (st : List Value) (h : pb_H) (Q : Option Value → pb_H → Prop), pb_R 94 78 [l0, some .null] [] st h Q ↔ pb_R 94 79 [l0, some .null] [] (.null :: st) h Q) ∧
  (∀ (L : pb_L) (J : pb_J) (st : List Value) (h : pb_H) (Q : Option Value → pb_H → Prop) (a : Nat), pb_R 94 79 L J (.ref a :: st) h Q ↔ pb_o (pb_gf (h.2 a) 7 0) (fun v => pb_R 94 82 L J (v :: st) h Q)) ∧
  (∀ (L : pb_L) (J : pb_J) (h : pb_H) (Q : Option Value → pb_H → Prop) (x0 : Int32) (x1 : Nat) (x2 : Nat) (x3 : Nat), pb_R 94 82 L J [.int x0, .ref x1, .ref x2, .ref x3] h Q ↔ pb_call 13 [.ref x1, .int x0] h (fun v t => pb_R 94 85 L J (v.toList ++ [.ref x2, .ref x3]) t Q)) ∧
  (∀ (L : pb_L) (J : pb_J) (st : List Value) (h : pb_H) (Q : Option Value → pb_H → Prop) (a : Nat) (x : Nat), pb_R 94 85 L J (.ref x :: .ref a :: st) h Q ↔ pb_o (pb_pf (h.2 a) 6 9 (.ref x)) (fun c => pb_R 94 88 L J st (pb_set h a c) Q)) ∧
  (∀ (l1 : Option Value) (st : List Value) (h : pb_H) (Q : Option Value → pb_H → Prop) (x : Nat), pb_R 94 88 [some (.ref x), l1] [] st h Q ↔ pb_R 94 89 [some (.ref x), l1] [] (.ref x :: st) h Q) ∧
  (∀ (l1 : Option Value) (st : List Value) (h : pb_H) (Q : Option Value → pb_H → Prop), pb_R 94 88 [some .null, l1] [] st h Q ↔ pb_R 94 89 [some .null, l1] [] (.null :: st) h Q) ∧
  (∀ (L : pb_L) (J : pb_J) (st : List Value) (h : pb_H) (Q : Option Value → pb_H → Prop), pb_R 94 89 L J st h Q ↔ pb_R 94 92 L J (.ref h.1 :: st) (pb_new h (.inr (4, pb_df 4))) Q) ∧
  (∀ (L : pb_L) (J : pb_J) (st : List Value) (x : Nat) (h : pb_H) (Q : Option Value → pb_H → Prop), pb_R 94 92 L J (.ref x :: st) h Q ↔ pb_R 94 93 L J (.ref x :: .ref x :: st) h Q) ∧
  (∀ (l0 : Option Value) (st : List Value) (h : pb_H) (Q : Option Value → pb_H → Prop) (x : Nat), pb_R 94 93 [l0, some (.ref x)] [] st h Q ↔ pb_R 94 94 [l0, some (.ref x)] [] (.ref x :: st) h Q) ∧
  (∀ (l0 : Option Value) (st : List Value) (h : pb_H) (Q : Option Value → pb_H → Prop), pb_R 94 93 [l0, some .null] [] st h Q ↔ pb_R 94 94 [l0, some .null] [] (.null :: st) h Q) ∧
  (∀ (L : pb_L) (J : pb_J) (st : List Value) (h : pb_H) (Q : Option Value → pb_H → Prop) (a : Nat), pb_R 94 94 L J (.ref a :: st) h Q ↔ pb_o (pb_gf (h.2 a) 7 0) (fun v => pb_R 94 97 L J (v :: st) h Q)) ∧
  (∀ (L : pb_L) (J : pb_J) (h : pb_H) (Q : Option Value → pb_H → Prop) (x0 : Int32) (x1 : Nat) (x2 : Nat) (x3 : Nat), pb_R 94 97 L J [.int x0, .ref x1, .ref x2, .ref x3] h Q ↔ pb_call 13 [.ref x1, .int x0] h (fun v t => pb_R 94 100 L J (v.toList ++ [.ref x2, .ref x3]) t Q)) ∧
  (∀ (L : pb_L) (J : pb_J) (st : List Value) (h : pb_H) (Q : Option Value → pb_H → Prop) (a : Nat) (x : Nat), pb_R 94 100 L J (.ref x :: .ref a :: st) h Q ↔ pb_o (pb_pf (h.2 a) 6 10 (.ref x)) (fun c => pb_R 94 103 L J st (pb_set h a c) Q)) ∧
  (∀ (L : pb_L) (J : pb_J) (h : pb_H) (Q : Option Value → pb_H → Prop), pb_R 94 103 L J [] h Q ↔ Q none h) := ⟨
  fun l1 st h Q x => pf_S pb_u_94 rfl rfl,
  fun l1 st h Q => pf_S pb_u_94 rfl rfl,
  fun L J h Q a => pf_S pb_u_94 rfl rfl,
  fun l1 st h Q x => pf_S pb_u_94 rfl rfl,
  fun l1 st h Q => pf_S pb_u_94 rfl rfl,
  fun L J st h Q => pf_S pb_u_94 rfl rfl,
  fun L J st x h Q => pf_S pb_u_94 rfl rfl,
  fun L J st h Q => pf_S pb_u_94 rfl rfl,
  fun L J h Q x0 x1 x2 x3 => pf_kp pb_u_94 rfl rfl rfl rfl,
  fun L J st h Q a x => pf_pf pb_u_94 rfl rfl,
  fun l1 st h Q x => pf_S pb_u_94 rfl rfl,
  fun l1 st h Q => pf_S pb_u_94 rfl rfl,
  fun L J st h Q => pf_S pb_u_94 rfl rfl,
  fun L J st x h Q => pf_S pb_u_94 rfl rfl,
  fun L J h Q x0 x1 x2 => pf_kp pb_u_94 rfl rfl rfl rfl,
  fun L J st h Q a x => pf_pf pb_u_94 rfl rfl,
  fun l1 st h Q x => pf_S pb_u_94 rfl rfl,
  fun l1 st h Q => pf_S pb_u_94 rfl rfl,
  fun L J st h Q => pf_S pb_u_94 rfl rfl,
  fun L J st h Q n => pf_nI pb_u_94 rfl rfl,
  fun L J st h Q a x => pf_pf pb_u_94 rfl rfl,
  fun l1 st h Q x => pf_S pb_u_94 rfl rfl,
  fun l1 st h Q => pf_S pb_u_94 rfl rfl,
  fun L J st h Q => pf_S pb_u_94 rfl rfl,
  fun L J st h Q n => pf_nI pb_u_94 rfl rfl,
  fun L J st h Q a x => pf_pf pb_u_94 rfl rfl,
  fun l1 st h Q x => pf_S pb_u_94 rfl rfl,
  fun l1 st h Q => pf_S pb_u_94 rfl rfl,
  fun L J st h Q => pf_S pb_u_94 rfl rfl,
  fun L J st h Q n => pf_nI pb_u_94 rfl rfl,
  fun L J st h Q a x => pf_pf pb_u_94 rfl rfl,
  fun l1 st h Q x => pf_S pb_u_94 rfl rfl,
  fun l1 st h Q => pf_S pb_u_94 rfl rfl,
  fun l0 st h Q x => pf_S pb_u_94 rfl rfl,
  fun l0 st h Q => pf_S pb_u_94 rfl rfl,
  fun L J st h Q a x => pf_pf pb_u_94 rfl rfl,
  fun l1 st h Q x => pf_S pb_u_94 rfl rfl,
  fun l1 st h Q => pf_S pb_u_94 rfl rfl,
  fun L J st h Q => pf_S pb_u_94 rfl rfl,
  fun L J st x h Q => pf_S pb_u_94 rfl rfl,
  fun l0 st h Q x => pf_S pb_u_94 rfl rfl,
  fun l0 st h Q => pf_S pb_u_94 rfl rfl,
  fun L J st h Q a => pf_gf pb_u_94 rfl rfl,
  fun L J h Q x0 x1 x2 x3 => pf_kp pb_u_94 rfl rfl rfl rfl,
  fun L J st h Q a x => pf_pf pb_u_94 rfl rfl,
  fun l1 st h Q x => pf_S pb_u_94 rfl rfl,
  fun l1 st h Q => pf_S pb_u_94 rfl rfl,
  fun L J st h Q => pf_S pb_u_94 rfl rfl,
  fun L J st x h Q => pf_S pb_u_94 rfl rfl,
  fun l0 st h Q x => pf_S pb_u_94 rfl rfl,
  fun l0 st h Q => pf_S pb_u_94 rfl rfl,
  fun L J st h Q a => pf_gf pb_u_94 rfl rfl,
  fun L J h Q x0 x1 x2 x3 => pf_kp pb_u_94 rfl rfl rfl rfl,
  fun L J st h Q a x => pf_pf pb_u_94 rfl rfl,
  fun l1 st h Q x => pf_S pb_u_94 rfl rfl,
  fun l1 st h Q => pf_S pb_u_94 rfl rfl,
  fun L J st h Q => pf_S pb_u_94 rfl rfl,
  fun L J st x h Q => pf_S pb_u_94 rfl rfl,
  fun l0 st h Q x => pf_S pb_u_94 rfl rfl,
  fun l0 st h Q => pf_S pb_u_94 rfl rfl,
  fun L J st h Q a => pf_gf pb_u_94 rfl rfl,
  fun L J h Q x0 x1 x2 x3 => pf_kp pb_u_94 rfl rfl rfl rfl,
  fun L J st h Q a x => pf_pf pb_u_94 rfl rfl,
  fun L J h Q => pf_rv pb_u_94 rfl rfl⟩
theorem pb_c94 (x0 : Nat) (x1 : Nat) (h : pb_H) (Q : Option Value → pb_H → Prop) : pb_call 94 [.ref x0, .ref x1] h Q ↔ pb_R 94 0 [some (.ref x0), some (.ref x1)] [] [] h Q := Iff.rfl
/-! 95: PlaneBench$Trail.clear()V -/
theorem pb_u_95 : pb_t 95 = pb_t95 := rfl
theorem pb_ci_95 : pb_ci 95 = 9 := by decide +kernel
set_option maxRecDepth 100000 in
theorem pb_e95 : (∀ (st : List Value) (h : pb_H) (Q : Option Value → pb_H → Prop) (x : Nat), pb_R 95 0 [some (.ref x)] [] st h Q ↔ pb_R 95 1 [some (.ref x)] [] (.ref x :: st) h Q) ∧
  (∀ (st : List Value) (h : pb_H) (Q : Option Value → pb_H → Prop), pb_R 95 0 [some .null] [] st h Q ↔ pb_R 95 1 [some .null] [] (.null :: st) h Q) ∧
  (∀ (L : pb_L) (J : pb_J) (st : List Value) (h : pb_H) (Q : Option Value → pb_H → Prop), pb_R 95 1 L J st h Q ↔ pb_R 95 2 L J (.int (0 : Int32) :: st) h Q) ∧
  (∀ (L : pb_L) (J : pb_J) (st : List Value) (h : pb_H) (Q : Option Value → pb_H → Prop) (a : Nat) (x : Int32), pb_R 95 2 L J (.int x :: .ref a :: st) h Q ↔ pb_o (pb_pf (h.2 a) 9 4 (.int x)) (fun c => pb_R 95 5 L J st (pb_set h a c) Q)) ∧
  (∀ (st : List Value) (h : pb_H) (Q : Option Value → pb_H → Prop) (x : Nat), pb_R 95 5 [some (.ref x)] [] st h Q ↔ pb_R 95 6 [some (.ref x)] [] (.ref x :: st) h Q) ∧
  (∀ (st : List Value) (h : pb_H) (Q : Option Value → pb_H → Prop), pb_R 95 5 [some .null] [] st h Q ↔ pb_R 95 6 [some .null] [] (.null :: st) h Q) ∧
  (∀ (L : pb_L) (J : pb_J) (st : List Value) (h : pb_H) (Q : Option Value → pb_H → Prop), pb_R 95 6 L J st h Q ↔ pb_R 95 7 L J (.int (0 : Int32) :: st) h Q) ∧
  (∀ (L : pb_L) (J : pb_J) (st : List Value) (h : pb_H) (Q : Option Value → pb_H → Prop) (a : Nat) (x : Int32), pb_R 95 7 L J (.int x :: .ref a :: st) h Q ↔ pb_o (pb_pf (h.2 a) 9 5 (.int x)) (fun c => pb_R 95 10 L J st (pb_set h a c) Q)) ∧
  (∀ (st : List Value) (h : pb_H) (Q : Option Value → pb_H → Prop) (x : Nat), pb_R 95 10 [some (.ref x)] [] st h Q ↔ pb_R 95 11 [some (.ref x)] [] (.ref x :: st) h Q) ∧
  (∀ (st : List Value) (h : pb_H) (Q : Option Value → pb_H → Prop), pb_R 95 10 [some .null] [] st h Q ↔ pb_R 95 11 [some .null] [] (.null :: st) h Q) ∧
  (∀ (L : pb_L) (J : pb_J) (st : List Value) (h : pb_H) (Q : Option Value → pb_H → Prop), pb_R 95 11 L J st h Q ↔ pb_R 95 12 L J (.int (0 : Int32) :: st) h Q) ∧
  (∀ (L : pb_L) (J : pb_J) (st : List Value) (h : pb_H) (Q : Option Value → pb_H → Prop) (a : Nat) (x : Int32), pb_R 95 12 L J (.int x :: .ref a :: st) h Q ↔ pb_o (pb_pf (h.2 a) 9 6 (.int x)) (fun c => pb_R 95 15 L J st (pb_set h a c) Q)) ∧
  (∀ (st : List Value) (h : pb_H) (Q : Option Value → pb_H → Prop) (x : Nat), pb_R 95 15 [some (.ref x)] [] st h Q ↔ pb_R 95 16 [some (.ref x)] [] (.ref x :: st) h Q) ∧
  (∀ (st : List Value) (h : pb_H) (Q : Option Value → pb_H → Prop), pb_R 95 15 [some .null] [] st h Q ↔ pb_R 95 16 [some .null] [] (.null :: st) h Q) ∧
  (∀ (L : pb_L) (J : pb_J) (st : List Value) (h : pb_H) (Q : Option Value → pb_H → Prop), pb_R 95 16 L J st h Q ↔ pb_R 95 17 L J (.int (0 : Int32) :: st) h Q) ∧
  (∀ (L : pb_L) (J : pb_J) (st : List Value) (h : pb_H) (Q : Option Value → pb_H → Prop) (a : Nat) (x : Int32), pb_R 95 17 L J (.int x :: .ref a :: st) h Q ↔ pb_o (pb_pf (h.2 a) 9 7 (.int x)) (fun c => pb_R 95 20 L J st (pb_set h a c) Q)) ∧
  (∀ (L : pb_L) (J : pb_J) (h : pb_H) (Q : Option Value → pb_H → Prop), pb_R 95 20 L J [] h Q ↔ Q none h) := ⟨
  fun st h Q x => pf_S pb_u_95 rfl rfl,
  fun st h Q => pf_S pb_u_95 rfl rfl,
  fun L J st h Q => pf_S pb_u_95 rfl rfl,
  fun L J st h Q a x => pf_pf pb_u_95 rfl rfl,
  fun st h Q x => pf_S pb_u_95 rfl rfl,
  fun st h Q => pf_S pb_u_95 rfl rfl,
  fun L J st h Q => pf_S pb_u_95 rfl rfl,
  fun L J st h Q a x => pf_pf pb_u_95 rfl rfl,
  fun st h Q x => pf_S pb_u_95 rfl rfl,
  fun st h Q => pf_S pb_u_95 rfl rfl,
  fun L J st h Q => pf_S pb_u_95 rfl rfl,
  fun L J st h Q a x => pf_pf pb_u_95 rfl rfl,
  fun st h Q x => pf_S pb_u_95 rfl rfl,
  fun st h Q => pf_S pb_u_95 rfl rfl,
  fun L J st h Q => pf_S pb_u_95 rfl rfl,
  fun L J st h Q a x => pf_pf pb_u_95 rfl rfl,
  fun L J h Q => pf_rv pb_u_95 rfl rfl⟩
theorem pb_c95 (x0 : Nat) (h : pb_H) (Q : Option Value → pb_H → Prop) : pb_call 95 [.ref x0] h Q ↔ pb_R 95 0 [some (.ref x0)] [] [] h Q := Iff.rfl
/-! 96: PlaneBench$Search.forget()V -/
theorem pb_u_96 : pb_t 96 = pb_t96 := rfl
theorem pb_ci_96 : pb_ci 96 = 6 := by decide +kernel
set_option maxRecDepth 100000 in
theorem pb_e96 : (∀ (st : List Value) (h : pb_H) (Q : Option Value → pb_H → Prop) (x : Nat), pb_R 96 0 [some (.ref x)] [] st h Q ↔ pb_R 96 1 [some (.ref x)] [] (.ref x :: st) h Q) ∧
  (∀ (st : List Value) (h : pb_H) (Q : Option Value → pb_H → Prop), pb_R 96 0 [some .null] [] st h Q ↔ pb_R 96 1 [some .null] [] (.null :: st) h Q) ∧
  (∀ (L : pb_L) (J : pb_J) (st : List Value) (h : pb_H) (Q : Option Value → pb_H → Prop), pb_R 96 1 L J st h Q ↔ pb_R 96 2 L J (.int (0 : Int32) :: st) h Q) ∧
  (∀ (L : pb_L) (J : pb_J) (st : List Value) (h : pb_H) (Q : Option Value → pb_H → Prop) (a : Nat) (x : Int32), pb_R 96 2 L J (.int x :: .ref a :: st) h Q ↔ pb_o (pb_pf (h.2 a) 6 3 (.int x)) (fun c => pb_R 96 5 L J st (pb_set h a c) Q)) ∧
  (∀ (st : List Value) (h : pb_H) (Q : Option Value → pb_H → Prop) (x : Nat), pb_R 96 5 [some (.ref x)] [] st h Q ↔ pb_R 96 6 [some (.ref x)] [] (.ref x :: st) h Q) ∧
  (∀ (st : List Value) (h : pb_H) (Q : Option Value → pb_H → Prop), pb_R 96 5 [some .null] [] st h Q ↔ pb_R 96 6 [some .null] [] (.null :: st) h Q) ∧
  (∀ (L : pb_L) (J : pb_J) (st : List Value) (h : pb_H) (Q : Option Value → pb_H → Prop), pb_R 96 6 L J st h Q ↔ pb_R 96 7 L J (.int (0 : Int32) :: st) h Q) ∧
  (∀ (L : pb_L) (J : pb_J) (st : List Value) (h : pb_H) (Q : Option Value → pb_H → Prop) (a : Nat) (x : Int32), pb_R 96 7 L J (.int x :: .ref a :: st) h Q ↔ pb_o (pb_pf (h.2 a) 6 4 (.int x)) (fun c => pb_R 96 10 L J st (pb_set h a c) Q)) ∧
  (∀ (st : List Value) (h : pb_H) (Q : Option Value → pb_H → Prop) (x : Nat), pb_R 96 10 [some (.ref x)] [] st h Q ↔ pb_R 96 11 [some (.ref x)] [] (.ref x :: st) h Q) ∧
  (∀ (st : List Value) (h : pb_H) (Q : Option Value → pb_H → Prop), pb_R 96 10 [some .null] [] st h Q ↔ pb_R 96 11 [some .null] [] (.null :: st) h Q) ∧
  (∀ (L : pb_L) (J : pb_J) (st : List Value) (h : pb_H) (Q : Option Value → pb_H → Prop), pb_R 96 11 L J st h Q ↔ pb_R 96 12 L J (.int (0 : Int32) :: st) h Q) ∧
  (∀ (L : pb_L) (J : pb_J) (st : List Value) (h : pb_H) (Q : Option Value → pb_H → Prop) (a : Nat) (x : Int32), pb_R 96 12 L J (.int x :: .ref a :: st) h Q ↔ pb_o (pb_pf (h.2 a) 6 5 (.int x)) (fun c => pb_R 96 15 L J st (pb_set h a c) Q)) ∧
  (∀ (st : List Value) (h : pb_H) (Q : Option Value → pb_H → Prop) (x : Nat), pb_R 96 15 [some (.ref x)] [] st h Q ↔ pb_R 96 16 [some (.ref x)] [] (.ref x :: st) h Q) ∧
  (∀ (st : List Value) (h : pb_H) (Q : Option Value → pb_H → Prop), pb_R 96 15 [some .null] [] st h Q ↔ pb_R 96 16 [some .null] [] (.null :: st) h Q) ∧
  (∀ (L : pb_L) (J : pb_J) (st : List Value) (h : pb_H) (Q : Option Value → pb_H → Prop), pb_R 96 16 L J st h Q ↔ pb_R 96 17 L J (.int (0 : Int32) :: st) h Q) ∧
  (∀ (L : pb_L) (J : pb_J) (st : List Value) (h : pb_H) (Q : Option Value → pb_H → Prop) (a : Nat) (x : Int32), pb_R 96 17 L J (.int x :: .ref a :: st) h Q ↔ pb_o (pb_pf (h.2 a) 6 6 (.int x)) (fun c => pb_R 96 20 L J st (pb_set h a c) Q)) ∧
  (∀ (st : List Value) (h : pb_H) (Q : Option Value → pb_H → Prop) (x : Nat), pb_R 96 20 [some (.ref x)] [] st h Q ↔ pb_R 96 21 [some (.ref x)] [] (.ref x :: st) h Q) ∧
  (∀ (st : List Value) (h : pb_H) (Q : Option Value → pb_H → Prop), pb_R 96 20 [some .null] [] st h Q ↔ pb_R 96 21 [some .null] [] (.null :: st) h Q) ∧
  (∀ (L : pb_L) (J : pb_J) (st : List Value) (h : pb_H) (Q : Option Value → pb_H → Prop), pb_R 96 21 L J st h Q ↔ pb_R 96 22 L J (.int (0 : Int32) :: st) h Q) ∧
  (∀ (L : pb_L) (J : pb_J) (st : List Value) (h : pb_H) (Q : Option Value → pb_H → Prop) (a : Nat) (x : Int32), pb_R 96 22 L J (.int x :: .ref a :: st) h Q ↔ pb_o (pb_pf (h.2 a) 6 7 (.int x)) (fun c => pb_R 96 25 L J st (pb_set h a c) Q)) ∧
  (∀ (st : List Value) (h : pb_H) (Q : Option Value → pb_H → Prop) (x : Nat), pb_R 96 25 [some (.ref x)] [] st h Q ↔ pb_R 96 26 [some (.ref x)] [] (.ref x :: st) h Q) ∧
  (∀ (st : List Value) (h : pb_H) (Q : Option Value → pb_H → Prop), pb_R 96 25 [some .null] [] st h Q ↔ pb_R 96 26 [some .null] [] (.null :: st) h Q) ∧
  (∀ (L : pb_L) (J : pb_J) (st : List Value) (h : pb_H) (Q : Option Value → pb_H → Prop) (a : Nat), pb_R 96 26 L J (.ref a :: st) h Q ↔ pb_o (pb_gf (h.2 a) 6 1) (fun v => pb_R 96 29 L J (v :: st) h Q)) ∧
  (∀ (L : pb_L) (J : pb_J) (h : pb_H) (Q : Option Value → pb_H → Prop) (x0 : Nat), pb_R 96 29 L J [.ref x0] h Q ↔ pb_is0 (h.2 x0) 9 = true ∧ pb_call 95 [.ref x0] h (fun v t => pb_R 96 32 L J (v.toList ++ []) t Q)) ∧
  (∀ (st : List Value) (h : pb_H) (Q : Option Value → pb_H → Prop) (x : Nat), pb_R 96 32 [some (.ref x)] [] st h Q ↔ pb_R 96 33 [some (.ref x)] [] (.ref x :: st) h Q) ∧
  (∀ (st : List Value) (h : pb_H) (Q : Option Value → pb_H → Prop), pb_R 96 32 [some .null] [] st h Q ↔ pb_R 96 33 [some .null] [] (.null :: st) h Q) ∧
  (∀ (L : pb_L) (J : pb_J) (st : List Value) (h : pb_H) (Q : Option Value → pb_H → Prop) (a : Nat), pb_R 96 33 L J (.ref a :: st) h Q ↔ pb_o (pb_gf (h.2 a) 6 2) (fun v => pb_R 96 36 L J (v :: st) h Q)) ∧
  (∀ (L : pb_L) (J : pb_J) (st : List Value) (h : pb_H) (Q : Option Value → pb_H → Prop), pb_R 96 36 L J st h Q ↔ pb_R 96 37 L J (.int (0 : Int32) :: st) h Q) ∧
  (∀ (L : pb_L) (J : pb_J) (h : pb_H) (Q : Option Value → pb_H → Prop) (x0 : Int32) (x1 : Nat), pb_R 96 37 L J [.int x0, .ref x1] h Q ↔ pb_is0 (h.2 x1) 0 = true ∧ pb_call 10 [.ref x1, .int x0] h (fun v t => pb_R 96 40 L J (v.toList ++ []) t Q)) ∧
  (∀ (L : pb_L) (J : pb_J) (h : pb_H) (Q : Option Value → pb_H → Prop), pb_R 96 40 L J [] h Q ↔ Q none h) := ⟨
  fun st h Q x => pf_S pb_u_96 rfl rfl,
  fun st h Q => pf_S pb_u_96 rfl rfl,
  fun L J st h Q => pf_S pb_u_96 rfl rfl,
  fun L J st h Q a x => pf_pf pb_u_96 rfl rfl,
  fun st h Q x => pf_S pb_u_96 rfl rfl,
  fun st h Q => pf_S pb_u_96 rfl rfl,
  fun L J st h Q => pf_S pb_u_96 rfl rfl,
  fun L J st h Q a x => pf_pf pb_u_96 rfl rfl,
  fun st h Q x => pf_S pb_u_96 rfl rfl,
  fun st h Q => pf_S pb_u_96 rfl rfl,
  fun L J st h Q => pf_S pb_u_96 rfl rfl,
  fun L J st h Q a x => pf_pf pb_u_96 rfl rfl,
  fun st h Q x => pf_S pb_u_96 rfl rfl,
  fun st h Q => pf_S pb_u_96 rfl rfl,
  fun L J st h Q => pf_S pb_u_96 rfl rfl,
  fun L J st h Q a x => pf_pf pb_u_96 rfl rfl,
  fun st h Q x => pf_S pb_u_96 rfl rfl,
  fun st h Q => pf_S pb_u_96 rfl rfl,
  fun L J st h Q => pf_S pb_u_96 rfl rfl,
  fun L J st h Q a x => pf_pf pb_u_96 rfl rfl,
  fun st h Q x => pf_S pb_u_96 rfl rfl,
  fun st h Q => pf_S pb_u_96 rfl rfl,
  fun L J st h Q a => pf_gf pb_u_96 rfl rfl,
  fun L J h Q x0 => pf_kv pb_u_96 rfl pb_ci_95 rfl ⟨Nat.le_of_ble_eq_true rfl, Nat.le_of_ble_eq_true rfl, Nat.le_of_ble_eq_true rfl, Nat.le_of_ble_eq_true rfl, rfl⟩ rfl rfl,
  fun st h Q x => pf_S pb_u_96 rfl rfl,
  fun st h Q => pf_S pb_u_96 rfl rfl,
  fun L J st h Q a => pf_gf pb_u_96 rfl rfl,
  fun L J st h Q => pf_S pb_u_96 rfl rfl,
  fun L J h Q x0 x1 => pf_kv pb_u_96 rfl pb_ci_10 rfl ⟨Nat.le_of_ble_eq_true rfl, Nat.le_of_ble_eq_true rfl, Nat.le_of_ble_eq_true rfl, Nat.le_of_ble_eq_true rfl, rfl⟩ rfl rfl,
  fun L J h Q => pf_rv pb_u_96 rfl rfl⟩
theorem pb_c96 (x0 : Nat) (h : pb_H) (Q : Option Value → pb_H → Prop) : pb_call 96 [.ref x0] h Q ↔ pb_R 96 0 [some (.ref x0)] [] [] h Q := Iff.rfl
/-! 97: PlaneBench$Search.start()V -/
theorem pb_u_97 : pb_t 97 = pb_t97 := rfl
theorem pb_ci_97 : pb_ci 97 = 6 := by decide +kernel
set_option maxRecDepth 100000 in
theorem pb_e97 : (∀ (st : List Value) (h : pb_H) (Q : Option Value → pb_H → Prop) (x : Nat), pb_R 97 0 [some (.ref x)] [] st h Q ↔ pb_R 97 1 [some (.ref x)] [] (.ref x :: st) h Q) ∧
  (∀ (st : List Value) (h : pb_H) (Q : Option Value → pb_H → Prop), pb_R 97 0 [some .null] [] st h Q ↔ pb_R 97 1 [some .null] [] (.null :: st) h Q) ∧
  (∀ (L : pb_L) (J : pb_J) (h : pb_H) (Q : Option Value → pb_H → Prop) (x0 : Nat), pb_R 97 1 L J [.ref x0] h Q ↔ pb_is0 (h.2 x0) 6 = true ∧ pb_call 96 [.ref x0] h (fun v t => pb_R 97 4 L J (v.toList ++ []) t Q)) ∧
  (∀ (st : List Value) (h : pb_H) (Q : Option Value → pb_H → Prop) (x : Nat), pb_R 97 4 [some (.ref x)] [] st h Q ↔ pb_R 97 5 [some (.ref x)] [] (.ref x :: st) h Q) ∧
  (∀ (st : List Value) (h : pb_H) (Q : Option Value → pb_H → Prop), pb_R 97 4 [some .null] [] st h Q ↔ pb_R 97 5 [some .null] [] (.null :: st) h Q) ∧
  (∀ (L : pb_L) (J : pb_J) (st : List Value) (h : pb_H) (Q : Option Value → pb_H → Prop), pb_R 97 5 L J st h Q ↔ pb_R 97 6 L J (.int (1 : Int32) :: st) h Q) ∧
  (∀ (L : pb_L) (J : pb_J) (st : List Value) (h : pb_H) (Q : Option Value → pb_H → Prop) (a : Nat) (x : Int32), pb_R 97 6 L J (.int x :: .ref a :: st) h Q ↔ pb_o (pb_pf (h.2 a) 6 3 (.int x)) (fun c => pb_R 97 9 L J st (pb_set h a c) Q)) ∧
  (∀ (L : pb_L) (J : pb_J) (h : pb_H) (Q : Option Value → pb_H → Prop), pb_R 97 9 L J [] h Q ↔ Q none h) := ⟨
  fun st h Q x => pf_S pb_u_97 rfl rfl,
  fun st h Q => pf_S pb_u_97 rfl rfl,
  fun L J h Q x0 => pf_kv pb_u_97 rfl pb_ci_96 rfl ⟨Nat.le_of_ble_eq_true rfl, Nat.le_of_ble_eq_true rfl, Nat.le_of_ble_eq_true rfl, Nat.le_of_ble_eq_true rfl, rfl⟩ rfl rfl,
  fun st h Q x => pf_S pb_u_97 rfl rfl,
  fun st h Q => pf_S pb_u_97 rfl rfl,
  fun L J st h Q => pf_S pb_u_97 rfl rfl,
  fun L J st h Q a x => pf_pf pb_u_97 rfl rfl,
  fun L J h Q => pf_rv pb_u_97 rfl rfl⟩
theorem pb_c97 (x0 : Nat) (h : pb_H) (Q : Option Value → pb_H → Prop) : pb_call 97 [.ref x0] h Q ↔ pb_R 97 0 [some (.ref x0)] [] [] h Q := Iff.rfl
/-! 98: PlaneBench$Trail.sizeAt(I)I -/
theorem pb_u_98 : pb_t 98 = pb_t98 := rfl
theorem pb_ci_98 : pb_ci 98 = 9 := by decide +kernel
set_option maxRecDepth 100000 in
theorem pb_q98_5 (l0 l1 : Option Value) (st : List Value) (h : pb_H) (Q : Option Value → pb_H → Prop) (x : Int32) : pb_R 98 5 [l0, l1, some (.int x)] [] st h Q ↔ pb_R 98 6 [l0, l1, some (.int x)] [] (.int x :: st) h Q := pf_S pb_u_98 rfl rfl
set_option maxRecDepth 100000 in
theorem pb_e98 : (∀ (l1 l2 : Option Value) (st : List Value) (h : pb_H) (Q : Option Value → pb_H → Prop) (x : Nat), pb_R 98 0 [some (.ref x), l1, l2] [] st h Q ↔ pb_R 98 1 [some (.ref x), l1, l2] [] (.ref x :: st) h Q) ∧
  (∀ (l1 l2 : Option Value) (st : List Value) (h : pb_H) (Q : Option Value → pb_H → Prop), pb_R 98 0 [some .null, l1, l2] [] st h Q ↔ pb_R 98 1 [some .null, l1, l2] [] (.null :: st) h Q) ∧
  (∀ (L : pb_L) (J : pb_J) (st : List Value) (h : pb_H) (Q : Option Value → pb_H → Prop) (a : Nat), pb_R 98 1 L J (.ref a :: st) h Q ↔ pb_o (pb_gf (h.2 a) 9 4) (fun v => pb_R 98 4 L J (v :: st) h Q)) ∧
  (∀ (l0 l1 l2 : Option Value) (st : List Value) (h : pb_H) (Q : Option Value → pb_H → Prop) (x : Int32), pb_R 98 4 [l0, l1, l2] [] (.int x :: st) h Q ↔ pb_R 98 5 [l0, l1, some (.int x)] [] st h Q) ∧
  (∀ (L : pb_L) (J : pb_J) (st : List Value) (h : pb_H) (Q : Option Value → pb_H → Prop) (x : Int32), pb_R 98 6 L J (.int x :: st) h Q ↔ if x ≤ 0 then pb_R 98 27 L J st h Q else pb_R 98 9 L J st h Q) ∧
  (∀ (l1 l2 : Option Value) (st : List Value) (h : pb_H) (Q : Option Value → pb_H → Prop) (x : Nat), pb_R 98 9 [some (.ref x), l1, l2] [] st h Q ↔ pb_R 98 10 [some (.ref x), l1, l2] [] (.ref x :: st) h Q) ∧
  (∀ (l1 l2 : Option Value) (st : List Value) (h : pb_H) (Q : Option Value → pb_H → Prop), pb_R 98 9 [some .null, l1, l2] [] st h Q ↔ pb_R 98 10 [some .null, l1, l2] [] (.null :: st) h Q) ∧
  (∀ (L : pb_L) (J : pb_J) (st : List Value) (h : pb_H) (Q : Option Value → pb_H → Prop) (a : Nat), pb_R 98 10 L J (.ref a :: st) h Q ↔ pb_o (pb_gf (h.2 a) 9 2) (fun v => pb_R 98 13 L J (v :: st) h Q)) ∧
  (∀ (l0 l1 : Option Value) (st : List Value) (h : pb_H) (Q : Option Value → pb_H → Prop) (x : Int32), pb_R 98 13 [l0, l1, some (.int x)] [] st h Q ↔ pb_R 98 14 [l0, l1, some (.int x)] [] (.int x :: st) h Q) ∧
  (∀ (L : pb_L) (J : pb_J) (st : List Value) (h : pb_H) (Q : Option Value → pb_H → Prop), pb_R 98 14 L J st h Q ↔ pb_R 98 15 L J (.int (1 : Int32) :: st) h Q) ∧
  (∀ (L : pb_L) (J : pb_J) (st : List Value) (x y : Int32) (h : pb_H) (Q : Option Value → pb_H → Prop), pb_R 98 15 L J (.int y :: .int x :: st) h Q ↔ pb_R 98 16 L J (.int (x - y) :: st) h Q) ∧
  (∀ (L : pb_L) (J : pb_J) (st : List Value) (h : pb_H) (Q : Option Value → pb_H → Prop) (a : Nat) (i : Int32), pb_R 98 16 L J (.int i :: .ref a :: st) h Q ↔ pb_o (pb_ai (h.2 a) i) (fun v => pb_R 98 17 L J (.int v :: st) h Q)) ∧
  (∀ (l0 l2 : Option Value) (st : List Value) (h : pb_H) (Q : Option Value → pb_H → Prop) (x : Int32), pb_R 98 17 [l0, some (.int x), l2] [] st h Q ↔ pb_R 98 18 [l0, some (.int x), l2] [] (.int x :: st) h Q) ∧
  (∀ (L : pb_L) (J : pb_J) (st : List Value) (h : pb_H) (Q : Option Value → pb_H → Prop) (x y : Int32), pb_R 98 18 L J (.int y :: .int x :: st) h Q ↔ if x ≤ y then pb_R 98 27 L J st h Q else pb_R 98 21 L J st h Q) ∧
  (∀ (l0 l1 : Option Value) (st : List Value) (h : pb_H) (Q : Option Value → pb_H → Prop) (x : Int32), pb_R 98 21 [l0, l1, some (.int x)] [] st h Q ↔ pb_R 98 24 [l0, l1, some (.int (x + (-1 : Int32)))] [] st h Q) ∧
  (∀ (L : pb_L) (J : pb_J) (st : List Value) (h : pb_H) (Q : Option Value → pb_H → Prop), pb_R 98 24 L J st h Q ↔ pb_R 98 5 L J st h Q) ∧
  (∀ (l0 l1 : Option Value) (st : List Value) (h : pb_H) (Q : Option Value → pb_H → Prop) (x : Int32), pb_R 98 27 [l0, l1, some (.int x)] [] st h Q ↔ pb_R 98 28 [l0, l1, some (.int x)] [] (.int x :: st) h Q) ∧
  (∀ (L : pb_L) (J : pb_J) (h : pb_H) (Q : Option Value → pb_H → Prop) (x : Int32), pb_R 98 28 L J [.int x] h Q ↔ Q (some (.int x)) h) := ⟨
  fun l1 l2 st h Q x => pf_S pb_u_98 rfl rfl,
  fun l1 l2 st h Q => pf_S pb_u_98 rfl rfl,
  fun L J st h Q a => pf_gf pb_u_98 rfl rfl,
  fun l0 l1 l2 st h Q x => pf_S pb_u_98 rfl rfl,
  fun L J st h Q x => pf_ii pb_u_98 rfl rfl rfl,
  fun l1 l2 st h Q x => pf_S pb_u_98 rfl rfl,
  fun l1 l2 st h Q => pf_S pb_u_98 rfl rfl,
  fun L J st h Q a => pf_gf pb_u_98 rfl rfl,
  fun l0 l1 st h Q x => pf_S pb_u_98 rfl rfl,
  fun L J st h Q => pf_S pb_u_98 rfl rfl,
  fun L J st x y h Q => pf_S pb_u_98 rfl rfl,
  fun L J st h Q a i => pf_ai pb_u_98 rfl rfl,
  fun l0 l2 st h Q x => pf_S pb_u_98 rfl rfl,
  fun L J st h Q x y => pf_ic pb_u_98 rfl rfl rfl,
  fun l0 l1 st h Q x => pf_S pb_u_98 rfl rfl,
  fun L J st h Q => pf_S pb_u_98 rfl rfl,
  fun l0 l1 st h Q x => pf_S pb_u_98 rfl rfl,
  fun L J h Q x => pf_ri pb_u_98 rfl rfl⟩
theorem pb_c98 (x0 : Nat) (x1 : Int32) (h : pb_H) (Q : Option Value → pb_H → Prop) : pb_call 98 [.ref x0, .int x1] h Q ↔ pb_R 98 0 [some (.ref x0), some (.int x1), none] [] [] h Q := Iff.rfl
/-! 99: PlaneBench$Trail.bitOf(I)I -/
theorem pb_u_99 : pb_t 99 = pb_t99 := rfl
set_option maxRecDepth 100000 in
theorem pb_e99 : (∀ (L : pb_L) (J : pb_J) (st : List Value) (h : pb_H) (Q : Option Value → pb_H → Prop), pb_R 99 0 L J st h Q ↔ pb_R 99 1 L J (.int (1 : Int32) :: st) h Q) ∧
  (∀ (st : List Value) (h : pb_H) (Q : Option Value → pb_H → Prop) (x : Int32), pb_R 99 1 [some (.int x)] [] st h Q ↔ pb_R 99 2 [some (.int x)] [] (.int x :: st) h Q) ∧
  (∀ (L : pb_L) (J : pb_J) (h : pb_H) (Q : Option Value → pb_H → Prop) (x0 : Int32) (x1 : Int32), pb_R 99 2 L J [.int x0, .int x1] h Q ↔ pb_R 99 5 L J [.int (if 0 ≤ x0 then x0 else 0 - x0), .int x1] h Q) ∧
  (∀ (L : pb_L) (J : pb_J) (st : List Value) (h : pb_H) (Q : Option Value → pb_H → Prop), pb_R 99 5 L J st h Q ↔ pb_R 99 6 L J (.int (1 : Int32) :: st) h Q) ∧
  (∀ (L : pb_L) (J : pb_J) (st : List Value) (x y : Int32) (h : pb_H) (Q : Option Value → pb_H → Prop), pb_R 99 6 L J (.int y :: .int x :: st) h Q ↔ pb_R 99 7 L J (.int (x - y) :: st) h Q) ∧
  (∀ (L : pb_L) (J : pb_J) (st : List Value) (x y : Int32) (h : pb_H) (Q : Option Value → pb_H → Prop), pb_R 99 7 L J (.int y :: .int x :: st) h Q ↔ pb_R 99 8 L J (.int (x <<< (y &&& 31)) :: st) h Q) ∧
  (∀ (L : pb_L) (J : pb_J) (h : pb_H) (Q : Option Value → pb_H → Prop) (x : Int32), pb_R 99 8 L J [.int x] h Q ↔ Q (some (.int x)) h) := ⟨
  fun L J st h Q => pf_S pb_u_99 rfl rfl,
  fun st h Q x => pf_S pb_u_99 rfl rfl,
  fun L J h Q x0 x1 => pf_S pb_u_99 rfl rfl,
  fun L J st h Q => pf_S pb_u_99 rfl rfl,
  fun L J st x y h Q => pf_S pb_u_99 rfl rfl,
  fun L J st x y h Q => pf_S pb_u_99 rfl rfl,
  fun L J h Q x => pf_ri pb_u_99 rfl rfl⟩
theorem pb_c99 (x0 : Int32) (h : pb_H) (Q : Option Value → pb_H → Prop) : pb_call 99 [.int x0] h Q ↔ pb_R 99 0 [some (.int x0)] [] [] h Q := Iff.rfl
