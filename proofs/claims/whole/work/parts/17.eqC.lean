/-! 100: PlaneBench$Trail.trueBitsOf(I)I -/
theorem pb_u_100 : pb_t 100 = pb_t100 := rfl
theorem pb_ci_100 : pb_ci 100 = 9 := by decide +kernel
set_option maxRecDepth 100000 in
theorem pb_q100_4 (l0 l1 l2 : Option Value) (st : List Value) (h : pb_H) (Q : Option Value → pb_H → Prop) (x : Int32) : pb_R 100 4 [l0, l1, l2, some (.int x)] [] st h Q ↔ pb_R 100 5 [l0, l1, l2, some (.int x)] [] (.int x :: st) h Q := pf_S pb_u_100 rfl rfl
set_option maxRecDepth 100000 in
theorem pb_e100 : (∀ (L : pb_L) (J : pb_J) (st : List Value) (h : pb_H) (Q : Option Value → pb_H → Prop), pb_R 100 0 L J st h Q ↔ pb_R 100 1 L J (.int (0 : Int32) :: st) h Q) ∧
  (∀ (l0 l1 l2 l3 : Option Value) (st : List Value) (h : pb_H) (Q : Option Value → pb_H → Prop) (x : Int32), pb_R 100 1 [l0, l1, l2, l3] [] (.int x :: st) h Q ↔ pb_R 100 2 [l0, l1, some (.int x), l3] [] st h Q) ∧
  (∀ (L : pb_L) (J : pb_J) (st : List Value) (h : pb_H) (Q : Option Value → pb_H → Prop), pb_R 100 2 L J st h Q ↔ pb_R 100 3 L J (.int (0 : Int32) :: st) h Q) ∧
  (∀ (l0 l1 l2 l3 : Option Value) (st : List Value) (h : pb_H) (Q : Option Value → pb_H → Prop) (x : Int32), pb_R 100 3 [l0, l1, l2, l3] [] (.int x :: st) h Q ↔ pb_R 100 4 [l0, l1, l2, some (.int x)] [] st h Q) ∧
  (∀ (l0 l2 l3 : Option Value) (st : List Value) (h : pb_H) (Q : Option Value → pb_H → Prop) (x : Int32), pb_R 100 5 [l0, some (.int x), l2, l3] [] st h Q ↔ pb_R 100 6 [l0, some (.int x), l2, l3] [] (.int x :: st) h Q) ∧
  (∀ (L : pb_L) (J : pb_J) (st : List Value) (h : pb_H) (Q : Option Value → pb_H → Prop) (x y : Int32), pb_R 100 6 L J (.int y :: .int x :: st) h Q ↔ if y ≤ x then pb_R 100 48 L J st h Q else pb_R 100 9 L J st h Q) ∧
  (∀ (l0 l1 l2 : Option Value) (st : List Value) (h : pb_H) (Q : Option Value → pb_H → Prop) (x : Int32), pb_R 100 9 [l0, l1, l2, some (.int x)] [] st h Q ↔ pb_R 100 10 [l0, l1, l2, some (.int x)] [] (.int x :: st) h Q) ∧
  (∀ (l1 l2 l3 : Option Value) (st : List Value) (h : pb_H) (Q : Option Value → pb_H → Prop) (x : Nat), pb_R 100 10 [some (.ref x), l1, l2, l3] [] st h Q ↔ pb_R 100 11 [some (.ref x), l1, l2, l3] [] (.ref x :: st) h Q) ∧
  (∀ (l1 l2 l3 : Option Value) (st : List Value) (h : pb_H) (Q : Option Value → pb_H → Prop), pb_R 100 10 [some .null, l1, l2, l3] [] st h Q ↔ pb_R 100 11 [some .null, l1, l2, l3] [] (.null :: st) h Q) ∧
  (∀ (L : pb_L) (J : pb_J) (st : List Value) (h : pb_H) (Q : Option Value → pb_H → Prop) (a : Nat), pb_R 100 11 L J (.ref a :: st) h Q ↔ pb_o (pb_gf (h.2 a) 9 4) (fun v => pb_R 100 14 L J (v :: st) h Q)) ∧
  (∀ (L : pb_L) (J : pb_J) (st : List Value) (h : pb_H) (Q : Option Value → pb_H → Prop) (x y : Int32), pb_R 100 14 L J (.int y :: .int x :: st) h Q ↔ if y ≤ x then pb_R 100 48 L J st h Q else pb_R 100 17 L J st h Q) ∧
  (∀ (l0 l1 l3 : Option Value) (st : List Value) (h : pb_H) (Q : Option Value → pb_H → Prop) (x : Int32), pb_R 100 17 [l0, l1, some (.int x), l3] [] st h Q ↔ pb_R 100 18 [l0, l1, some (.int x), l3] [] (.int x :: st) h Q) ∧
  (∀ (l1 l2 l3 : Option Value) (st : List Value) (h : pb_H) (Q : Option Value → pb_H → Prop) (x : Nat), pb_R 100 18 [some (.ref x), l1, l2, l3] [] st h Q ↔ pb_R 100 19 [some (.ref x), l1, l2, l3] [] (.ref x :: st) h Q) ∧
  (∀ (l1 l2 l3 : Option Value) (st : List Value) (h : pb_H) (Q : Option Value → pb_H → Prop), pb_R 100 18 [some .null, l1, l2, l3] [] st h Q ↔ pb_R 100 19 [some .null, l1, l2, l3] [] (.null :: st) h Q) ∧
  (∀ (L : pb_L) (J : pb_J) (st : List Value) (h : pb_H) (Q : Option Value → pb_H → Prop) (a : Nat), pb_R 100 19 L J (.ref a :: st) h Q ↔ pb_o (pb_gf (h.2 a) 9 1) (fun v => pb_R 100 22 L J (v :: st) h Q)) ∧
  (∀ (l0 l1 l2 : Option Value) (st : List Value) (h : pb_H) (Q : Option Value → pb_H → Prop) (x : Int32), pb_R 100 22 [l0, l1, l2, some (.int x)] [] st h Q ↔ pb_R 100 23 [l0, l1, l2, some (.int x)] [] (.int x :: st) h Q) ∧
  (∀ (L : pb_L) (J : pb_J) (st : List Value) (h : pb_H) (Q : Option Value → pb_H → Prop) (a : Nat) (i : Int32), pb_R 100 23 L J (.int i :: .ref a :: st) h Q ↔ pb_o (pb_ai (h.2 a) i) (fun v => pb_R 100 24 L J (.int v :: st) h Q)) ∧
  (∀ (L : pb_L) (J : pb_J) (st : List Value) (h : pb_H) (Q : Option Value → pb_H → Prop) (x : Int32), pb_R 100 24 L J (.int x :: st) h Q ↔ if x ≤ 0 then pb_R 100 39 L J st h Q else pb_R 100 27 L J st h Q) ∧
  (∀ (l1 l2 l3 : Option Value) (st : List Value) (h : pb_H) (Q : Option Value → pb_H → Prop) (x : Nat), pb_R 100 27 [some (.ref x), l1, l2, l3] [] st h Q ↔ pb_R 100 28 [some (.ref x), l1, l2, l3] [] (.ref x :: st) h Q) ∧
  (∀ (l1 l2 l3 : Option Value) (st : List Value) (h : pb_H) (Q : Option Value → pb_H → Prop), pb_R 100 27 [some .null, l1, l2, l3] [] st h Q ↔ pb_R 100 28 [some .null, l1, l2, l3] [] (.null :: st) h Q) ∧
  (∀ (L : pb_L) (J : pb_J) (st : List Value) (h : pb_H) (Q : Option Value → pb_H → Prop) (a : Nat), pb_R 100 28 L J (.ref a :: st) h Q ↔ pb_o (pb_gf (h.2 a) 9 1) (fun v => pb_R 100 31 L J (v :: st) h Q)) ∧
  (∀ (l0 l1 l2 : Option Value) (st : List Value) (h : pb_H) (Q : Option Value → pb_H → Prop) (x : Int32), pb_R 100 31 [l0, l1, l2, some (.int x)] [] st h Q ↔ pb_R 100 32 [l0, l1, l2, some (.int x)] [] (.int x :: st) h Q) ∧
  (∀ (L : pb_L) (J : pb_J) (st : List Value) (h : pb_H) (Q : Option Value → pb_H → Prop) (a : Nat) (i : Int32), pb_R 100 32 L J (.int i :: .ref a :: st) h Q ↔ pb_o (pb_ai (h.2 a) i) (fun v => pb_R 100 33 L J (.int v :: st) h Q)) ∧
  (∀ (L : pb_L) (J : pb_J) (h : pb_H) (Q : Option Value → pb_H → Prop) (x0 : Int32) (x1 : Int32), pb_R 100 33 L J [.int x0, .int x1] h Q ↔ pb_call 99 [.int x0] h (fun v t => pb_R 100 36 L J (v.toList ++ [.int x1]) t Q)) ∧
  (∀ (L : pb_L) (J : pb_J) (st : List Value) (h : pb_H) (Q : Option Value → pb_H → Prop), pb_R 100 36 L J st h Q ↔ pb_R 100 40 L J st h Q) ∧
  (∀ (L : pb_L) (J : pb_J) (st : List Value) (h : pb_H) (Q : Option Value → pb_H → Prop), pb_R 100 39 L J st h Q ↔ pb_R 100 40 L J (.int (0 : Int32) :: st) h Q) ∧
  (∀ (L : pb_L) (J : pb_J) (st : List Value) (x y : Int32) (h : pb_H) (Q : Option Value → pb_H → Prop), pb_R 100 40 L J (.int y :: .int x :: st) h Q ↔ pb_R 100 41 L J (.int (x ||| y) :: st) h Q) ∧
  (∀ (l0 l1 l2 l3 : Option Value) (st : List Value) (h : pb_H) (Q : Option Value → pb_H → Prop) (x : Int32), pb_R 100 41 [l0, l1, l2, l3] [] (.int x :: st) h Q ↔ pb_R 100 42 [l0, l1, some (.int x), l3] [] st h Q) ∧
  (∀ (l0 l1 l2 : Option Value) (st : List Value) (h : pb_H) (Q : Option Value → pb_H → Prop) (x : Int32), pb_R 100 42 [l0, l1, l2, some (.int x)] [] st h Q ↔ pb_R 100 45 [l0, l1, l2, some (.int (x + (1 : Int32)))] [] st h Q) ∧
  (∀ (L : pb_L) (J : pb_J) (st : List Value) (h : pb_H) (Q : Option Value → pb_H → Prop), pb_R 100 45 L J st h Q ↔ pb_R 100 4 L J st h Q) ∧
  (∀ (l0 l1 l3 : Option Value) (st : List Value) (h : pb_H) (Q : Option Value → pb_H → Prop) (x : Int32), pb_R 100 48 [l0, l1, some (.int x), l3] [] st h Q ↔ pb_R 100 49 [l0, l1, some (.int x), l3] [] (.int x :: st) h Q) ∧
  (∀ (L : pb_L) (J : pb_J) (h : pb_H) (Q : Option Value → pb_H → Prop) (x : Int32), pb_R 100 49 L J [.int x] h Q ↔ Q (some (.int x)) h) := ⟨
  fun L J st h Q => pf_S pb_u_100 rfl rfl,
  fun l0 l1 l2 l3 st h Q x => pf_S pb_u_100 rfl rfl,
  fun L J st h Q => pf_S pb_u_100 rfl rfl,
  fun l0 l1 l2 l3 st h Q x => pf_S pb_u_100 rfl rfl,
  fun l0 l2 l3 st h Q x => pf_S pb_u_100 rfl rfl,
  fun L J st h Q x y => pf_ic pb_u_100 rfl rfl rfl,
  fun l0 l1 l2 st h Q x => pf_S pb_u_100 rfl rfl,
  fun l1 l2 l3 st h Q x => pf_S pb_u_100 rfl rfl,
  fun l1 l2 l3 st h Q => pf_S pb_u_100 rfl rfl,
  fun L J st h Q a => pf_gf pb_u_100 rfl rfl,
  fun L J st h Q x y => pf_ic pb_u_100 rfl rfl rfl,
  fun l0 l1 l3 st h Q x => pf_S pb_u_100 rfl rfl,
  fun l1 l2 l3 st h Q x => pf_S pb_u_100 rfl rfl,
  fun l1 l2 l3 st h Q => pf_S pb_u_100 rfl rfl,
  fun L J st h Q a => pf_gf pb_u_100 rfl rfl,
  fun l0 l1 l2 st h Q x => pf_S pb_u_100 rfl rfl,
  fun L J st h Q a i => pf_ai pb_u_100 rfl rfl,
  fun L J st h Q x => pf_ii pb_u_100 rfl rfl rfl,
  fun l1 l2 l3 st h Q x => pf_S pb_u_100 rfl rfl,
  fun l1 l2 l3 st h Q => pf_S pb_u_100 rfl rfl,
  fun L J st h Q a => pf_gf pb_u_100 rfl rfl,
  fun l0 l1 l2 st h Q x => pf_S pb_u_100 rfl rfl,
  fun L J st h Q a i => pf_ai pb_u_100 rfl rfl,
  fun L J h Q x0 x1 => pf_ks pb_u_100 rfl rfl rfl rfl,
  fun L J st h Q => pf_S pb_u_100 rfl rfl,
  fun L J st h Q => pf_S pb_u_100 rfl rfl,
  fun L J st x y h Q => pf_S pb_u_100 rfl rfl,
  fun l0 l1 l2 l3 st h Q x => pf_S pb_u_100 rfl rfl,
  fun l0 l1 l2 st h Q x => pf_S pb_u_100 rfl rfl,
  fun L J st h Q => pf_S pb_u_100 rfl rfl,
  fun l0 l1 l3 st h Q x => pf_S pb_u_100 rfl rfl,
  fun L J h Q x => pf_ri pb_u_100 rfl rfl⟩
theorem pb_c100 (x0 : Nat) (x1 : Int32) (h : pb_H) (Q : Option Value → pb_H → Prop) : pb_call 100 [.ref x0, .int x1] h Q ↔ pb_R 100 0 [some (.ref x0), some (.int x1), none, none] [] [] h Q := Iff.rfl
/-! 101: PlaneBench$Trail.falseBitsOf(I)I -/
theorem pb_u_101 : pb_t 101 = pb_t101 := rfl
theorem pb_ci_101 : pb_ci 101 = 9 := by decide +kernel
set_option maxRecDepth 100000 in
theorem pb_q101_4 (l0 l1 l2 : Option Value) (st : List Value) (h : pb_H) (Q : Option Value → pb_H → Prop) (x : Int32) : pb_R 101 4 [l0, l1, l2, some (.int x)] [] st h Q ↔ pb_R 101 5 [l0, l1, l2, some (.int x)] [] (.int x :: st) h Q := pf_S pb_u_101 rfl rfl
set_option maxRecDepth 100000 in
theorem pb_e101 : (∀ (L : pb_L) (J : pb_J) (st : List Value) (h : pb_H) (Q : Option Value → pb_H → Prop), pb_R 101 0 L J st h Q ↔ pb_R 101 1 L J (.int (0 : Int32) :: st) h Q) ∧
  (∀ (l0 l1 l2 l3 : Option Value) (st : List Value) (h : pb_H) (Q : Option Value → pb_H → Prop) (x : Int32), pb_R 101 1 [l0, l1, l2, l3] [] (.int x :: st) h Q ↔ pb_R 101 2 [l0, l1, some (.int x), l3] [] st h Q) ∧
  (∀ (L : pb_L) (J : pb_J) (st : List Value) (h : pb_H) (Q : Option Value → pb_H → Prop), pb_R 101 2 L J st h Q ↔ pb_R 101 3 L J (.int (0 : Int32) :: st) h Q) ∧
  (∀ (l0 l1 l2 l3 : Option Value) (st : List Value) (h : pb_H) (Q : Option Value → pb_H → Prop) (x : Int32), pb_R 101 3 [l0, l1, l2, l3] [] (.int x :: st) h Q ↔ pb_R 101 4 [l0, l1, l2, some (.int x)] [] st h Q) ∧
  (∀ (l0 l2 l3 : Option Value) (st : List Value) (h : pb_H) (Q : Option Value → pb_H → Prop) (x : Int32), pb_R 101 5 [l0, some (.int x), l2, l3] [] st h Q ↔ pb_R 101 6 [l0, some (.int x), l2, l3] [] (.int x :: st) h Q) ∧
  (∀ (L : pb_L) (J : pb_J) (st : List Value) (h : pb_H) (Q : Option Value → pb_H → Prop) (x y : Int32), pb_R 101 6 L J (.int y :: .int x :: st) h Q ↔ if y ≤ x then pb_R 101 48 L J st h Q else pb_R 101 9 L J st h Q) ∧
  (∀ (l0 l1 l2 : Option Value) (st : List Value) (h : pb_H) (Q : Option Value → pb_H → Prop) (x : Int32), pb_R 101 9 [l0, l1, l2, some (.int x)] [] st h Q ↔ pb_R 101 10 [l0, l1, l2, some (.int x)] [] (.int x :: st) h Q) ∧
  (∀ (l1 l2 l3 : Option Value) (st : List Value) (h : pb_H) (Q : Option Value → pb_H → Prop) (x : Nat), pb_R 101 10 [some (.ref x), l1, l2, l3] [] st h Q ↔ pb_R 101 11 [some (.ref x), l1, l2, l3] [] (.ref x :: st) h Q) ∧
  (∀ (l1 l2 l3 : Option Value) (st : List Value) (h : pb_H) (Q : Option Value → pb_H → Prop), pb_R 101 10 [some .null, l1, l2, l3] [] st h Q ↔ pb_R 101 11 [some .null, l1, l2, l3] [] (.null :: st) h Q) ∧
  (∀ (L : pb_L) (J : pb_J) (st : List Value) (h : pb_H) (Q : Option Value → pb_H → Prop) (a : Nat), pb_R 101 11 L J (.ref a :: st) h Q ↔ pb_o (pb_gf (h.2 a) 9 4) (fun v => pb_R 101 14 L J (v :: st) h Q)) ∧
  (∀ (L : pb_L) (J : pb_J) (st : List Value) (h : pb_H) (Q : Option Value → pb_H → Prop) (x y : Int32), pb_R 101 14 L J (.int y :: .int x :: st) h Q ↔ if y ≤ x then pb_R 101 48 L J st h Q else pb_R 101 17 L J st h Q) ∧
  (∀ (l0 l1 l3 : Option Value) (st : List Value) (h : pb_H) (Q : Option Value → pb_H → Prop) (x : Int32), pb_R 101 17 [l0, l1, some (.int x), l3] [] st h Q ↔ pb_R 101 18 [l0, l1, some (.int x), l3] [] (.int x :: st) h Q) ∧
  (∀ (l1 l2 l3 : Option Value) (st : List Value) (h : pb_H) (Q : Option Value → pb_H → Prop) (x : Nat), pb_R 101 18 [some (.ref x), l1, l2, l3] [] st h Q ↔ pb_R 101 19 [some (.ref x), l1, l2, l3] [] (.ref x :: st) h Q) ∧
  (∀ (l1 l2 l3 : Option Value) (st : List Value) (h : pb_H) (Q : Option Value → pb_H → Prop), pb_R 101 18 [some .null, l1, l2, l3] [] st h Q ↔ pb_R 101 19 [some .null, l1, l2, l3] [] (.null :: st) h Q) ∧
  (∀ (L : pb_L) (J : pb_J) (st : List Value) (h : pb_H) (Q : Option Value → pb_H → Prop) (a : Nat), pb_R 101 19 L J (.ref a :: st) h Q ↔ pb_o (pb_gf (h.2 a) 9 1) (fun v => pb_R 101 22 L J (v :: st) h Q)) ∧
  (∀ (l0 l1 l2 : Option Value) (st : List Value) (h : pb_H) (Q : Option Value → pb_H → Prop) (x : Int32), pb_R 101 22 [l0, l1, l2, some (.int x)] [] st h Q ↔ pb_R 101 23 [l0, l1, l2, some (.int x)] [] (.int x :: st) h Q) ∧
  (∀ (L : pb_L) (J : pb_J) (st : List Value) (h : pb_H) (Q : Option Value → pb_H → Prop) (a : Nat) (i : Int32), pb_R 101 23 L J (.int i :: .ref a :: st) h Q ↔ pb_o (pb_ai (h.2 a) i) (fun v => pb_R 101 24 L J (.int v :: st) h Q)) ∧
  (∀ (L : pb_L) (J : pb_J) (st : List Value) (h : pb_H) (Q : Option Value → pb_H → Prop) (x : Int32), pb_R 101 24 L J (.int x :: st) h Q ↔ if 0 ≤ x then pb_R 101 39 L J st h Q else pb_R 101 27 L J st h Q) ∧
  (∀ (l1 l2 l3 : Option Value) (st : List Value) (h : pb_H) (Q : Option Value → pb_H → Prop) (x : Nat), pb_R 101 27 [some (.ref x), l1, l2, l3] [] st h Q ↔ pb_R 101 28 [some (.ref x), l1, l2, l3] [] (.ref x :: st) h Q) ∧
  (∀ (l1 l2 l3 : Option Value) (st : List Value) (h : pb_H) (Q : Option Value → pb_H → Prop), pb_R 101 27 [some .null, l1, l2, l3] [] st h Q ↔ pb_R 101 28 [some .null, l1, l2, l3] [] (.null :: st) h Q) ∧
  (∀ (L : pb_L) (J : pb_J) (st : List Value) (h : pb_H) (Q : Option Value → pb_H → Prop) (a : Nat), pb_R 101 28 L J (.ref a :: st) h Q ↔ pb_o (pb_gf (h.2 a) 9 1) (fun v => pb_R 101 31 L J (v :: st) h Q)) ∧
  (∀ (l0 l1 l2 : Option Value) (st : List Value) (h : pb_H) (Q : Option Value → pb_H → Prop) (x : Int32), pb_R 101 31 [l0, l1, l2, some (.int x)] [] st h Q ↔ pb_R 101 32 [l0, l1, l2, some (.int x)] [] (.int x :: st) h Q) ∧
  (∀ (L : pb_L) (J : pb_J) (st : List Value) (h : pb_H) (Q : Option Value → pb_H → Prop) (a : Nat) (i : Int32), pb_R 101 32 L J (.int i :: .ref a :: st) h Q ↔ pb_o (pb_ai (h.2 a) i) (fun v => pb_R 101 33 L J (.int v :: st) h Q)) ∧
  (∀ (L : pb_L) (J : pb_J) (h : pb_H) (Q : Option Value → pb_H → Prop) (x0 : Int32) (x1 : Int32), pb_R 101 33 L J [.int x0, .int x1] h Q ↔ pb_call 99 [.int x0] h (fun v t => pb_R 101 36 L J (v.toList ++ [.int x1]) t Q)) ∧
  (∀ (L : pb_L) (J : pb_J) (st : List Value) (h : pb_H) (Q : Option Value → pb_H → Prop), pb_R 101 36 L J st h Q ↔ pb_R 101 40 L J st h Q) ∧
  (∀ (L : pb_L) (J : pb_J) (st : List Value) (h : pb_H) (Q : Option Value → pb_H → Prop), pb_R 101 39 L J st h Q ↔ pb_R 101 40 L J (.int (0 : Int32) :: st) h Q) ∧
  (∀ (L : pb_L) (J : pb_J) (st : List Value) (x y : Int32) (h : pb_H) (Q : Option Value → pb_H → Prop), pb_R 101 40 L J (.int y :: .int x :: st) h Q ↔ pb_R 101 41 L J (.int (x ||| y) :: st) h Q) ∧
  (∀ (l0 l1 l2 l3 : Option Value) (st : List Value) (h : pb_H) (Q : Option Value → pb_H → Prop) (x : Int32), pb_R 101 41 [l0, l1, l2, l3] [] (.int x :: st) h Q ↔ pb_R 101 42 [l0, l1, some (.int x), l3] [] st h Q) ∧
  (∀ (l0 l1 l2 : Option Value) (st : List Value) (h : pb_H) (Q : Option Value → pb_H → Prop) (x : Int32), pb_R 101 42 [l0, l1, l2, some (.int x)] [] st h Q ↔ pb_R 101 45 [l0, l1, l2, some (.int (x + (1 : Int32)))] [] st h Q) ∧
  (∀ (L : pb_L) (J : pb_J) (st : List Value) (h : pb_H) (Q : Option Value → pb_H → Prop), pb_R 101 45 L J st h Q ↔ pb_R 101 4 L J st h Q) ∧
  (∀ (l0 l1 l3 : Option Value) (st : List Value) (h : pb_H) (Q : Option Value → pb_H → Prop) (x : Int32), pb_R 101 48 [l0, l1, some (.int x), l3] [] st h Q ↔ pb_R 101 49 [l0, l1, some (.int x), l3] [] (.int x :: st) h Q) ∧
  (∀ (L : pb_L) (J : pb_J) (h : pb_H) (Q : Option Value → pb_H → Prop) (x : Int32), pb_R 101 49 L J [.int x] h Q ↔ Q (some (.int x)) h) := ⟨
  fun L J st h Q => pf_S pb_u_101 rfl rfl,
  fun l0 l1 l2 l3 st h Q x => pf_S pb_u_101 rfl rfl,
  fun L J st h Q => pf_S pb_u_101 rfl rfl,
  fun l0 l1 l2 l3 st h Q x => pf_S pb_u_101 rfl rfl,
  fun l0 l2 l3 st h Q x => pf_S pb_u_101 rfl rfl,
  fun L J st h Q x y => pf_ic pb_u_101 rfl rfl rfl,
  fun l0 l1 l2 st h Q x => pf_S pb_u_101 rfl rfl,
  fun l1 l2 l3 st h Q x => pf_S pb_u_101 rfl rfl,
  fun l1 l2 l3 st h Q => pf_S pb_u_101 rfl rfl,
  fun L J st h Q a => pf_gf pb_u_101 rfl rfl,
  fun L J st h Q x y => pf_ic pb_u_101 rfl rfl rfl,
  fun l0 l1 l3 st h Q x => pf_S pb_u_101 rfl rfl,
  fun l1 l2 l3 st h Q x => pf_S pb_u_101 rfl rfl,
  fun l1 l2 l3 st h Q => pf_S pb_u_101 rfl rfl,
  fun L J st h Q a => pf_gf pb_u_101 rfl rfl,
  fun l0 l1 l2 st h Q x => pf_S pb_u_101 rfl rfl,
  fun L J st h Q a i => pf_ai pb_u_101 rfl rfl,
  fun L J st h Q x => pf_ii pb_u_101 rfl rfl rfl,
  fun l1 l2 l3 st h Q x => pf_S pb_u_101 rfl rfl,
  fun l1 l2 l3 st h Q => pf_S pb_u_101 rfl rfl,
  fun L J st h Q a => pf_gf pb_u_101 rfl rfl,
  fun l0 l1 l2 st h Q x => pf_S pb_u_101 rfl rfl,
  fun L J st h Q a i => pf_ai pb_u_101 rfl rfl,
  fun L J h Q x0 x1 => pf_ks pb_u_101 rfl rfl rfl rfl,
  fun L J st h Q => pf_S pb_u_101 rfl rfl,
  fun L J st h Q => pf_S pb_u_101 rfl rfl,
  fun L J st x y h Q => pf_S pb_u_101 rfl rfl,
  fun l0 l1 l2 l3 st h Q x => pf_S pb_u_101 rfl rfl,
  fun l0 l1 l2 st h Q x => pf_S pb_u_101 rfl rfl,
  fun L J st h Q => pf_S pb_u_101 rfl rfl,
  fun l0 l1 l3 st h Q x => pf_S pb_u_101 rfl rfl,
  fun L J h Q x => pf_ri pb_u_101 rfl rfl⟩
theorem pb_c101 (x0 : Nat) (x1 : Int32) (h : pb_H) (Q : Option Value → pb_H → Prop) : pb_call 101 [.ref x0, .int x1] h Q ↔ pb_R 101 0 [some (.ref x0), some (.int x1), none, none] [] [] h Q := Iff.rfl
/-! 102: PlaneBench$Search.readyLevel()I -/
theorem pb_u_102 : pb_t 102 = pb_t102 := rfl
theorem pb_ci_102 : pb_ci 102 = 6 := by decide +kernel
set_option maxRecDepth 100000 in
theorem pb_q102_2 (l0 l2 : Option Value) (st : List Value) (h : pb_H) (Q : Option Value → pb_H → Prop) (x : Int32) : pb_R 102 2 [l0, some (.int x), l2] [] st h Q ↔ pb_R 102 3 [l0, some (.int x), l2] [] (.int x :: st) h Q := pf_S pb_u_102 rfl rfl
set_option maxRecDepth 100000 in
theorem pb_e102 : (∀ (L : pb_L) (J : pb_J) (st : List Value) (h : pb_H) (Q : Option Value → pb_H → Prop), pb_R 102 0 L J st h Q ↔ pb_R 102 1 L J (.int (0 : Int32) :: st) h Q) ∧
  (∀ (l0 l1 l2 : Option Value) (st : List Value) (h : pb_H) (Q : Option Value → pb_H → Prop) (x : Int32), pb_R 102 1 [l0, l1, l2] [] (.int x :: st) h Q ↔ pb_R 102 2 [l0, some (.int x), l2] [] st h Q) ∧
  (∀ (l1 l2 : Option Value) (st : List Value) (h : pb_H) (Q : Option Value → pb_H → Prop) (x : Nat), pb_R 102 3 [some (.ref x), l1, l2] [] st h Q ↔ pb_R 102 4 [some (.ref x), l1, l2] [] (.ref x :: st) h Q) ∧
  (∀ (l1 l2 : Option Value) (st : List Value) (h : pb_H) (Q : Option Value → pb_H → Prop), pb_R 102 3 [some .null, l1, l2] [] st h Q ↔ pb_R 102 4 [some .null, l1, l2] [] (.null :: st) h Q) ∧
  (∀ (L : pb_L) (J : pb_J) (st : List Value) (h : pb_H) (Q : Option Value → pb_H → Prop) (a : Nat), pb_R 102 4 L J (.ref a :: st) h Q ↔ pb_o (pb_gf (h.2 a) 6 4) (fun v => pb_R 102 7 L J (v :: st) h Q)) ∧
  (∀ (L : pb_L) (J : pb_J) (st : List Value) (h : pb_H) (Q : Option Value → pb_H → Prop) (x y : Int32), pb_R 102 7 L J (.int y :: .int x :: st) h Q ↔ if y ≤ x then pb_R 102 60 L J st h Q else pb_R 102 10 L J st h Q) ∧
  (∀ (l1 l2 : Option Value) (st : List Value) (h : pb_H) (Q : Option Value → pb_H → Prop) (x : Nat), pb_R 102 10 [some (.ref x), l1, l2] [] st h Q ↔ pb_R 102 11 [some (.ref x), l1, l2] [] (.ref x :: st) h Q) ∧
  (∀ (l1 l2 : Option Value) (st : List Value) (h : pb_H) (Q : Option Value → pb_H → Prop), pb_R 102 10 [some .null, l1, l2] [] st h Q ↔ pb_R 102 11 [some .null, l1, l2] [] (.null :: st) h Q) ∧
  (∀ (L : pb_L) (J : pb_J) (st : List Value) (h : pb_H) (Q : Option Value → pb_H → Prop) (a : Nat), pb_R 102 11 L J (.ref a :: st) h Q ↔ pb_o (pb_gf (h.2 a) 6 1) (fun v => pb_R 102 14 L J (v :: st) h Q)) ∧
  (∀ (l0 l2 : Option Value) (st : List Value) (h : pb_H) (Q : Option Value → pb_H → Prop) (x : Int32), pb_R 102 14 [l0, some (.int x), l2] [] st h Q ↔ pb_R 102 15 [l0, some (.int x), l2] [] (.int x :: st) h Q) ∧
  (∀ (L : pb_L) (J : pb_J) (h : pb_H) (Q : Option Value → pb_H → Prop) (x0 : Int32) (x1 : Nat), pb_R 102 15 L J [.int x0, .ref x1] h Q ↔ pb_is0 (h.2 x1) 9 = true ∧ pb_call 98 [.ref x1, .int x0] h (fun v t => pb_R 102 18 L J (v.toList ++ []) t Q)) ∧
  (∀ (l0 l1 l2 : Option Value) (st : List Value) (h : pb_H) (Q : Option Value → pb_H → Prop) (x : Int32), pb_R 102 18 [l0, l1, l2] [] (.int x :: st) h Q ↔ pb_R 102 19 [l0, l1, some (.int x)] [] st h Q) ∧
  (∀ (l1 l2 : Option Value) (st : List Value) (h : pb_H) (Q : Option Value → pb_H → Prop) (x : Nat), pb_R 102 19 [some (.ref x), l1, l2] [] st h Q ↔ pb_R 102 20 [some (.ref x), l1, l2] [] (.ref x :: st) h Q) ∧
  (∀ (l1 l2 : Option Value) (st : List Value) (h : pb_H) (Q : Option Value → pb_H → Prop), pb_R 102 19 [some .null, l1, l2] [] st h Q ↔ pb_R 102 20 [some .null, l1, l2] [] (.null :: st) h Q) ∧
  (∀ (L : pb_L) (J : pb_J) (st : List Value) (h : pb_H) (Q : Option Value → pb_H → Prop) (a : Nat), pb_R 102 20 L J (.ref a :: st) h Q ↔ pb_o (pb_gf (h.2 a) 6 9) (fun v => pb_R 102 23 L J (v :: st) h Q)) ∧
  (∀ (l1 l2 : Option Value) (st : List Value) (h : pb_H) (Q : Option Value → pb_H → Prop) (x : Nat), pb_R 102 23 [some (.ref x), l1, l2] [] st h Q ↔ pb_R 102 24 [some (.ref x), l1, l2] [] (.ref x :: st) h Q) ∧
  (∀ (l1 l2 : Option Value) (st : List Value) (h : pb_H) (Q : Option Value → pb_H → Prop), pb_R 102 23 [some .null, l1, l2] [] st h Q ↔ pb_R 102 24 [some .null, l1, l2] [] (.null :: st) h Q) ∧
  (∀ (L : pb_L) (J : pb_J) (st : List Value) (h : pb_H) (Q : Option Value → pb_H → Prop) (a : Nat), pb_R 102 24 L J (.ref a :: st) h Q ↔ pb_o (pb_gf (h.2 a) 6 1) (fun v => pb_R 102 27 L J (v :: st) h Q)) ∧
  (∀ (l0 l1 : Option Value) (st : List Value) (h : pb_H) (Q : Option Value → pb_H → Prop) (x : Int32), pb_R 102 27 [l0, l1, some (.int x)] [] st h Q ↔ pb_R 102 28 [l0, l1, some (.int x)] [] (.int x :: st) h Q) ∧
  (∀ (L : pb_L) (J : pb_J) (h : pb_H) (Q : Option Value → pb_H → Prop) (x0 : Int32) (x1 : Nat) (x2 : Nat), pb_R 102 28 L J [.int x0, .ref x1, .ref x2] h Q ↔ pb_is0 (h.2 x1) 9 = true ∧ pb_call 100 [.ref x1, .int x0] h (fun v t => pb_R 102 31 L J (v.toList ++ [.ref x2]) t Q)) ∧
  (∀ (l1 l2 : Option Value) (st : List Value) (h : pb_H) (Q : Option Value → pb_H → Prop) (x : Nat), pb_R 102 31 [some (.ref x), l1, l2] [] st h Q ↔ pb_R 102 32 [some (.ref x), l1, l2] [] (.ref x :: st) h Q) ∧
  (∀ (l1 l2 : Option Value) (st : List Value) (h : pb_H) (Q : Option Value → pb_H → Prop), pb_R 102 31 [some .null, l1, l2] [] st h Q ↔ pb_R 102 32 [some .null, l1, l2] [] (.null :: st) h Q) ∧
  (∀ (L : pb_L) (J : pb_J) (st : List Value) (h : pb_H) (Q : Option Value → pb_H → Prop) (a : Nat), pb_R 102 32 L J (.ref a :: st) h Q ↔ pb_o (pb_gf (h.2 a) 6 1) (fun v => pb_R 102 35 L J (v :: st) h Q)) ∧
  (∀ (l0 l1 : Option Value) (st : List Value) (h : pb_H) (Q : Option Value → pb_H → Prop) (x : Int32), pb_R 102 35 [l0, l1, some (.int x)] [] st h Q ↔ pb_R 102 36 [l0, l1, some (.int x)] [] (.int x :: st) h Q) ∧
  (∀ (L : pb_L) (J : pb_J) (h : pb_H) (Q : Option Value → pb_H → Prop) (x0 : Int32) (x1 : Nat) (x2 : Int32) (x3 : Nat), pb_R 102 36 L J [.int x0, .ref x1, .int x2, .ref x3] h Q ↔ pb_is0 (h.2 x1) 9 = true ∧ pb_call 101 [.ref x1, .int x0] h (fun v t => pb_R 102 39 L J (v.toList ++ [.int x2, .ref x3]) t Q)) ∧
  (∀ (l1 l2 : Option Value) (st : List Value) (h : pb_H) (Q : Option Value → pb_H → Prop) (x : Nat), pb_R 102 39 [some (.ref x), l1, l2] [] st h Q ↔ pb_R 102 40 [some (.ref x), l1, l2] [] (.ref x :: st) h Q) ∧
  (∀ (l1 l2 : Option Value) (st : List Value) (h : pb_H) (Q : Option Value → pb_H → Prop), pb_R 102 39 [some .null, l1, l2] [] st h Q ↔ pb_R 102 40 [some .null, l1, l2] [] (.null :: st) h Q) ∧
  (∀ (L : pb_L) (J : pb_J) (st : List Value) (h : pb_H) (Q : Option Value → pb_H → Prop) (a : Nat), pb_R 102 40 L J (.ref a :: st) h Q ↔ pb_o (pb_gf (h.2 a) 6 0) (fun v => pb_R 102 43 L J (v :: st) h Q)) ∧
  (∀ (L : pb_L) (J : pb_J) (st : List Value) (h : pb_H) (Q : Option Value → pb_H → Prop) (a : Nat), pb_R 102 43 L J (.ref a :: st) h Q ↔ pb_o (pb_gf (h.2 a) 7 1) (fun v => pb_R 102 46 L J (v :: st) h Q)) ∧
  (∀ (L : pb_L) (J : pb_J) (h : pb_H) (Q : Option Value → pb_H → Prop) (x0 : Nat) (x1 : Int32) (x2 : Int32) (x3 : Nat), pb_R 102 46 L J [.ref x0, .int x1, .int x2, .ref x3] h Q ↔ pb_is0 (h.2 x3) 4 = true ∧ pb_call 71 [.ref x3, .int x2, .int x1, .ref x0] h (fun v t => pb_R 102 49 L J (v.toList ++ []) t Q)) ∧
  (∀ (L : pb_L) (J : pb_J) (st : List Value) (h : pb_H) (Q : Option Value → pb_H → Prop) (x : Int32), pb_R 102 49 L J (.int x :: st) h Q ↔ if x = 0 then pb_R 102 54 L J st h Q else pb_R 102 52 L J st h Q) ∧
  (∀ (l0 l2 : Option Value) (st : List Value) (h : pb_H) (Q : Option Value → pb_H → Prop) (x : Int32), pb_R 102 52 [l0, some (.int x), l2] [] st h Q ↔ pb_R 102 53 [l0, some (.int x), l2] [] (.int x :: st) h Q) ∧
  (∀ (L : pb_L) (J : pb_J) (h : pb_H) (Q : Option Value → pb_H → Prop) (x : Int32), pb_R 102 53 L J [.int x] h Q ↔ Q (some (.int x)) h) ∧
  (∀ (l0 l2 : Option Value) (st : List Value) (h : pb_H) (Q : Option Value → pb_H → Prop) (x : Int32), pb_R 102 54 [l0, some (.int x), l2] [] st h Q ↔ pb_R 102 57 [l0, some (.int (x + (1 : Int32))), l2] [] st h Q) ∧
  (∀ (L : pb_L) (J : pb_J) (st : List Value) (h : pb_H) (Q : Option Value → pb_H → Prop), pb_R 102 57 L J st h Q ↔ pb_R 102 2 L J st h Q) ∧
  (∀ (L : pb_L) (J : pb_J) (st : List Value) (h : pb_H) (Q : Option Value → pb_H → Prop), pb_R 102 60 L J st h Q ↔ pb_R 102 61 L J (.int (-1 : Int32) :: st) h Q) ∧
  (∀ (L : pb_L) (J : pb_J) (h : pb_H) (Q : Option Value → pb_H → Prop) (x : Int32), pb_R 102 61 L J [.int x] h Q ↔ Q (some (.int x)) h) := ⟨
  fun L J st h Q => pf_S pb_u_102 rfl rfl,
  fun l0 l1 l2 st h Q x => pf_S pb_u_102 rfl rfl,
  fun l1 l2 st h Q x => pf_S pb_u_102 rfl rfl,
  fun l1 l2 st h Q => pf_S pb_u_102 rfl rfl,
  fun L J st h Q a => pf_gf pb_u_102 rfl rfl,
  fun L J st h Q x y => pf_ic pb_u_102 rfl rfl rfl,
  fun l1 l2 st h Q x => pf_S pb_u_102 rfl rfl,
  fun l1 l2 st h Q => pf_S pb_u_102 rfl rfl,
  fun L J st h Q a => pf_gf pb_u_102 rfl rfl,
  fun l0 l2 st h Q x => pf_S pb_u_102 rfl rfl,
  fun L J h Q x0 x1 => pf_kv pb_u_102 rfl pb_ci_98 rfl ⟨Nat.le_of_ble_eq_true rfl, Nat.le_of_ble_eq_true rfl, Nat.le_of_ble_eq_true rfl, Nat.le_of_ble_eq_true rfl, rfl⟩ rfl rfl,
  fun l0 l1 l2 st h Q x => pf_S pb_u_102 rfl rfl,
  fun l1 l2 st h Q x => pf_S pb_u_102 rfl rfl,
  fun l1 l2 st h Q => pf_S pb_u_102 rfl rfl,
  fun L J st h Q a => pf_gf pb_u_102 rfl rfl,
  fun l1 l2 st h Q x => pf_S pb_u_102 rfl rfl,
  fun l1 l2 st h Q => pf_S pb_u_102 rfl rfl,
  fun L J st h Q a => pf_gf pb_u_102 rfl rfl,
  fun l0 l1 st h Q x => pf_S pb_u_102 rfl rfl,
  fun L J h Q x0 x1 x2 => pf_kv pb_u_102 rfl pb_ci_100 rfl ⟨Nat.le_of_ble_eq_true rfl, Nat.le_of_ble_eq_true rfl, Nat.le_of_ble_eq_true rfl, Nat.le_of_ble_eq_true rfl, rfl⟩ rfl rfl,
  fun l1 l2 st h Q x => pf_S pb_u_102 rfl rfl,
  fun l1 l2 st h Q => pf_S pb_u_102 rfl rfl,
  fun L J st h Q a => pf_gf pb_u_102 rfl rfl,
  fun l0 l1 st h Q x => pf_S pb_u_102 rfl rfl,
  fun L J h Q x0 x1 x2 x3 => pf_kv pb_u_102 rfl pb_ci_101 rfl ⟨Nat.le_of_ble_eq_true rfl, Nat.le_of_ble_eq_true rfl, Nat.le_of_ble_eq_true rfl, Nat.le_of_ble_eq_true rfl, rfl⟩ rfl rfl,
  fun l1 l2 st h Q x => pf_S pb_u_102 rfl rfl,
  fun l1 l2 st h Q => pf_S pb_u_102 rfl rfl,
  fun L J st h Q a => pf_gf pb_u_102 rfl rfl,
  fun L J st h Q a => pf_gf pb_u_102 rfl rfl,
  fun L J h Q x0 x1 x2 x3 => pf_kv pb_u_102 rfl pb_ci_71 rfl ⟨Nat.le_of_ble_eq_true rfl, Nat.le_of_ble_eq_true rfl, Nat.le_of_ble_eq_true rfl, Nat.le_of_ble_eq_true rfl, rfl⟩ rfl rfl,
  fun L J st h Q x => pf_ii pb_u_102 rfl rfl rfl,
  fun l0 l2 st h Q x => pf_S pb_u_102 rfl rfl,
  fun L J h Q x => pf_ri pb_u_102 rfl rfl,
  fun l0 l2 st h Q x => pf_S pb_u_102 rfl rfl,
  fun L J st h Q => pf_S pb_u_102 rfl rfl,
  fun L J st h Q => pf_S pb_u_102 rfl rfl,
  fun L J h Q x => pf_ri pb_u_102 rfl rfl⟩
theorem pb_c102 (x0 : Nat) (h : pb_H) (Q : Option Value → pb_H → Prop) : pb_call 102 [.ref x0] h Q ↔ pb_R 102 0 [some (.ref x0), none, none] [] [] h Q := Iff.rfl
/-! 103: PlaneBench$Search.weakenReason(II)V -/
theorem pb_u_103 : pb_t 103 = pb_t103 := rfl
theorem pb_ci_103 : pb_ci 103 = 6 := by decide +kernel
set_option maxRecDepth 100000 in
theorem pb_q103_48 (l0 l1 l2 l3 l4 l5 : Option Value) (st : List Value) (h : pb_H) (Q : Option Value → pb_H → Prop) (x : Int32) : pb_R 103 48 [l0, l1, l2, l3, l4, l5, some (.int x)] [] st h Q ↔ pb_R 103 50 [l0, l1, l2, l3, l4, l5, some (.int x)] [] (.int x :: st) h Q := pf_S pb_u_103 rfl rfl
set_option maxRecDepth 100000 in
theorem pb_e103 : (∀ (l1 l2 l3 l4 l5 l6 : Option Value) (st : List Value) (h : pb_H) (Q : Option Value → pb_H → Prop) (x : Nat), pb_R 103 0 [some (.ref x), l1, l2, l3, l4, l5, l6] [] st h Q ↔ pb_R 103 1 [some (.ref x), l1, l2, l3, l4, l5, l6] [] (.ref x :: st) h Q) ∧
  (∀ (l1 l2 l3 l4 l5 l6 : Option Value) (st : List Value) (h : pb_H) (Q : Option Value → pb_H → Prop), pb_R 103 0 [some .null, l1, l2, l3, l4, l5, l6] [] st h Q ↔ pb_R 103 1 [some .null, l1, l2, l3, l4, l5, l6] [] (.null :: st) h Q) ∧
  (∀ (L : pb_L) (J : pb_J) (st : List Value) (h : pb_H) (Q : Option Value → pb_H → Prop) (a : Nat), pb_R 103 1 L J (.ref a :: st) h Q ↔ pb_o (pb_gf (h.2 a) 6 1) (fun v => pb_R 103 4 L J (v :: st) h Q)) ∧
  (∀ (l0 l2 l3 l4 l5 l6 : Option Value) (st : List Value) (h : pb_H) (Q : Option Value → pb_H → Prop) (x : Int32), pb_R 103 4 [l0, some (.int x), l2, l3, l4, l5, l6] [] st h Q ↔ pb_R 103 5 [l0, some (.int x), l2, l3, l4, l5, l6] [] (.int x :: st) h Q) ∧
  (∀ (L : pb_L) (J : pb_J) (h : pb_H) (Q : Option Value → pb_H → Prop) (x0 : Int32) (x1 : Nat), pb_R 103 5 L J [.int x0, .ref x1] h Q ↔ pb_is0 (h.2 x1) 9 = true ∧ pb_call 100 [.ref x1, .int x0] h (fun v t => pb_R 103 8 L J (v.toList ++ []) t Q)) ∧
  (∀ (l0 l1 l2 l3 l4 l5 l6 : Option Value) (st : List Value) (h : pb_H) (Q : Option Value → pb_H → Prop) (x : Int32), pb_R 103 8 [l0, l1, l2, l3, l4, l5, l6] [] (.int x :: st) h Q ↔ pb_R 103 9 [l0, l1, l2, some (.int x), l4, l5, l6] [] st h Q) ∧
  (∀ (l1 l2 l3 l4 l5 l6 : Option Value) (st : List Value) (h : pb_H) (Q : Option Value → pb_H → Prop) (x : Nat), pb_R 103 9 [some (.ref x), l1, l2, l3, l4, l5, l6] [] st h Q ↔ pb_R 103 10 [some (.ref x), l1, l2, l3, l4, l5, l6] [] (.ref x :: st) h Q) ∧
  (∀ (l1 l2 l3 l4 l5 l6 : Option Value) (st : List Value) (h : pb_H) (Q : Option Value → pb_H → Prop), pb_R 103 9 [some .null, l1, l2, l3, l4, l5, l6] [] st h Q ↔ pb_R 103 10 [some .null, l1, l2, l3, l4, l5, l6] [] (.null :: st) h Q) ∧
  (∀ (L : pb_L) (J : pb_J) (st : List Value) (h : pb_H) (Q : Option Value → pb_H → Prop) (a : Nat), pb_R 103 10 L J (.ref a :: st) h Q ↔ pb_o (pb_gf (h.2 a) 6 1) (fun v => pb_R 103 13 L J (v :: st) h Q)) ∧
  (∀ (l0 l2 l3 l4 l5 l6 : Option Value) (st : List Value) (h : pb_H) (Q : Option Value → pb_H → Prop) (x : Int32), pb_R 103 13 [l0, some (.int x), l2, l3, l4, l5, l6] [] st h Q ↔ pb_R 103 14 [l0, some (.int x), l2, l3, l4, l5, l6] [] (.int x :: st) h Q) ∧
  (∀ (L : pb_L) (J : pb_J) (h : pb_H) (Q : Option Value → pb_H → Prop) (x0 : Int32) (x1 : Nat), pb_R 103 14 L J [.int x0, .ref x1] h Q ↔ pb_is0 (h.2 x1) 9 = true ∧ pb_call 101 [.ref x1, .int x0] h (fun v t => pb_R 103 17 L J (v.toList ++ []) t Q)) ∧
  (∀ (l0 l1 l2 l3 l4 l5 l6 : Option Value) (st : List Value) (h : pb_H) (Q : Option Value → pb_H → Prop) (x : Int32), pb_R 103 17 [l0, l1, l2, l3, l4, l5, l6] [] (.int x :: st) h Q ↔ pb_R 103 19 [l0, l1, l2, l3, some (.int x), l5, l6] [] st h Q) ∧
  (∀ (l1 l2 l3 l4 l5 l6 : Option Value) (st : List Value) (h : pb_H) (Q : Option Value → pb_H → Prop) (x : Nat), pb_R 103 19 [some (.ref x), l1, l2, l3, l4, l5, l6] [] st h Q ↔ pb_R 103 20 [some (.ref x), l1, l2, l3, l4, l5, l6] [] (.ref x :: st) h Q) ∧
  (∀ (l1 l2 l3 l4 l5 l6 : Option Value) (st : List Value) (h : pb_H) (Q : Option Value → pb_H → Prop), pb_R 103 19 [some .null, l1, l2, l3, l4, l5, l6] [] st h Q ↔ pb_R 103 20 [some .null, l1, l2, l3, l4, l5, l6] [] (.null :: st) h Q) ∧
  (∀ (L : pb_L) (J : pb_J) (st : List Value) (h : pb_H) (Q : Option Value → pb_H → Prop) (a : Nat), pb_R 103 20 L J (.ref a :: st) h Q ↔ pb_o (pb_gf (h.2 a) 6 10) (fun v => pb_R 103 23 L J (v :: st) h Q)) ∧
  (∀ (L : pb_L) (J : pb_J) (st : List Value) (h : pb_H) (Q : Option Value → pb_H → Prop) (a : Nat), pb_R 103 23 L J (.ref a :: st) h Q ↔ pb_o (pb_gf (h.2 a) 4 2) (fun v => pb_R 103 26 L J (v :: st) h Q)) ∧
  (∀ (l0 l1 l2 l3 l5 l6 : Option Value) (st : List Value) (h : pb_H) (Q : Option Value → pb_H → Prop) (x : Int32), pb_R 103 26 [l0, l1, l2, l3, some (.int x), l5, l6] [] st h Q ↔ pb_R 103 28 [l0, l1, l2, l3, some (.int x), l5, l6] [] (.int x :: st) h Q) ∧
  (∀ (L : pb_L) (J : pb_J) (st : List Value) (h : pb_H) (Q : Option Value → pb_H → Prop), pb_R 103 28 L J st h Q ↔ pb_R 103 29 L J (.int (-1 : Int32) :: st) h Q) ∧
  (∀ (L : pb_L) (J : pb_J) (st : List Value) (x y : Int32) (h : pb_H) (Q : Option Value → pb_H → Prop), pb_R 103 29 L J (.int y :: .int x :: st) h Q ↔ pb_R 103 30 L J (.int (x ^^^ y) :: st) h Q) ∧
  (∀ (L : pb_L) (J : pb_J) (st : List Value) (x y : Int32) (h : pb_H) (Q : Option Value → pb_H → Prop), pb_R 103 30 L J (.int y :: .int x :: st) h Q ↔ pb_R 103 31 L J (.int (x &&& y) :: st) h Q) ∧
  (∀ (l1 l2 l3 l4 l5 l6 : Option Value) (st : List Value) (h : pb_H) (Q : Option Value → pb_H → Prop) (x : Nat), pb_R 103 31 [some (.ref x), l1, l2, l3, l4, l5, l6] [] st h Q ↔ pb_R 103 32 [some (.ref x), l1, l2, l3, l4, l5, l6] [] (.ref x :: st) h Q) ∧
  (∀ (l1 l2 l3 l4 l5 l6 : Option Value) (st : List Value) (h : pb_H) (Q : Option Value → pb_H → Prop), pb_R 103 31 [some .null, l1, l2, l3, l4, l5, l6] [] st h Q ↔ pb_R 103 32 [some .null, l1, l2, l3, l4, l5, l6] [] (.null :: st) h Q) ∧
  (∀ (L : pb_L) (J : pb_J) (st : List Value) (h : pb_H) (Q : Option Value → pb_H → Prop) (a : Nat), pb_R 103 32 L J (.ref a :: st) h Q ↔ pb_o (pb_gf (h.2 a) 6 10) (fun v => pb_R 103 35 L J (v :: st) h Q)) ∧
  (∀ (L : pb_L) (J : pb_J) (st : List Value) (h : pb_H) (Q : Option Value → pb_H → Prop) (a : Nat), pb_R 103 35 L J (.ref a :: st) h Q ↔ pb_o (pb_gf (h.2 a) 4 3) (fun v => pb_R 103 38 L J (v :: st) h Q)) ∧
  (∀ (l0 l1 l2 l4 l5 l6 : Option Value) (st : List Value) (h : pb_H) (Q : Option Value → pb_H → Prop) (x : Int32), pb_R 103 38 [l0, l1, l2, some (.int x), l4, l5, l6] [] st h Q ↔ pb_R 103 39 [l0, l1, l2, some (.int x), l4, l5, l6] [] (.int x :: st) h Q) ∧
  (∀ (L : pb_L) (J : pb_J) (st : List Value) (h : pb_H) (Q : Option Value → pb_H → Prop), pb_R 103 39 L J st h Q ↔ pb_R 103 40 L J (.int (-1 : Int32) :: st) h Q) ∧
  (∀ (L : pb_L) (J : pb_J) (st : List Value) (x y : Int32) (h : pb_H) (Q : Option Value → pb_H → Prop), pb_R 103 40 L J (.int y :: .int x :: st) h Q ↔ pb_R 103 41 L J (.int (x ^^^ y) :: st) h Q) ∧
  (∀ (L : pb_L) (J : pb_J) (st : List Value) (x y : Int32) (h : pb_H) (Q : Option Value → pb_H → Prop), pb_R 103 41 L J (.int y :: .int x :: st) h Q ↔ pb_R 103 42 L J (.int (x &&& y) :: st) h Q) ∧
  (∀ (L : pb_L) (J : pb_J) (st : List Value) (x y : Int32) (h : pb_H) (Q : Option Value → pb_H → Prop), pb_R 103 42 L J (.int y :: .int x :: st) h Q ↔ pb_R 103 43 L J (.int (x ||| y) :: st) h Q) ∧
  (∀ (l0 l1 l2 l3 l4 l5 l6 : Option Value) (st : List Value) (h : pb_H) (Q : Option Value → pb_H → Prop) (x : Int32), pb_R 103 43 [l0, l1, l2, l3, l4, l5, l6] [] (.int x :: st) h Q ↔ pb_R 103 45 [l0, l1, l2, l3, l4, some (.int x), l6] [] st h Q) ∧
  (∀ (L : pb_L) (J : pb_J) (st : List Value) (h : pb_H) (Q : Option Value → pb_H → Prop), pb_R 103 45 L J st h Q ↔ pb_R 103 46 L J (.int (1 : Int32) :: st) h Q) ∧
  (∀ (l0 l1 l2 l3 l4 l5 l6 : Option Value) (st : List Value) (h : pb_H) (Q : Option Value → pb_H → Prop) (x : Int32), pb_R 103 46 [l0, l1, l2, l3, l4, l5, l6] [] (.int x :: st) h Q ↔ pb_R 103 48 [l0, l1, l2, l3, l4, l5, some (.int x)] [] st h Q) ∧
  (∀ (l1 l2 l3 l4 l5 l6 : Option Value) (st : List Value) (h : pb_H) (Q : Option Value → pb_H → Prop) (x : Nat), pb_R 103 50 [some (.ref x), l1, l2, l3, l4, l5, l6] [] st h Q ↔ pb_R 103 51 [some (.ref x), l1, l2, l3, l4, l5, l6] [] (.ref x :: st) h Q) ∧
  (∀ (l1 l2 l3 l4 l5 l6 : Option Value) (st : List Value) (h : pb_H) (Q : Option Value → pb_H → Prop), pb_R 103 50 [some .null, l1, l2, l3, l4, l5, l6] [] st h Q ↔ pb_R 103 51 [some .null, l1, l2, l3, l4, l5, l6] [] (.null :: st) h Q) ∧
  (∀ (L : pb_L) (J : pb_J) (st : List Value) (h : pb_H) (Q : Option Value → pb_H → Prop) (a : Nat), pb_R 103 51 L J (.ref a :: st) h Q ↔ pb_o (pb_gf (h.2 a) 6 0) (fun v => pb_R 103 54 L J (v :: st) h Q)) ∧
  (∀ (L : pb_L) (J : pb_J) (st : List Value) (h : pb_H) (Q : Option Value → pb_H → Prop) (a : Nat), pb_R 103 54 L J (.ref a :: st) h Q ↔ pb_o (pb_gf (h.2 a) 7 0) (fun v => pb_R 103 57 L J (v :: st) h Q)) ∧
  (∀ (L : pb_L) (J : pb_J) (st : List Value) (h : pb_H) (Q : Option Value → pb_H → Prop) (x y : Int32), pb_R 103 57 L J (.int y :: .int x :: st) h Q ↔ if y < x then pb_R 103 145 L J st h Q else pb_R 103 60 L J st h Q) ∧
  (∀ (l0 l1 l2 l3 l4 l5 : Option Value) (st : List Value) (h : pb_H) (Q : Option Value → pb_H → Prop) (x : Int32), pb_R 103 60 [l0, l1, l2, l3, l4, l5, some (.int x)] [] st h Q ↔ pb_R 103 62 [l0, l1, l2, l3, l4, l5, some (.int x)] [] (.int x :: st) h Q) ∧
  (∀ (l0 l1 l3 l4 l5 l6 : Option Value) (st : List Value) (h : pb_H) (Q : Option Value → pb_H → Prop) (x : Int32), pb_R 103 62 [l0, l1, some (.int x), l3, l4, l5, l6] [] st h Q ↔ pb_R 103 63 [l0, l1, some (.int x), l3, l4, l5, l6] [] (.int x :: st) h Q) ∧
  (∀ (L : pb_L) (J : pb_J) (st : List Value) (h : pb_H) (Q : Option Value → pb_H → Prop) (x y : Int32), pb_R 103 63 L J (.int y :: .int x :: st) h Q ↔ if x = y then pb_R 103 139 L J st h Q else pb_R 103 66 L J st h Q) ∧
  (∀ (l0 l1 l2 l3 l4 l6 : Option Value) (st : List Value) (h : pb_H) (Q : Option Value → pb_H → Prop) (x : Int32), pb_R 103 66 [l0, l1, l2, l3, l4, some (.int x), l6] [] st h Q ↔ pb_R 103 68 [l0, l1, l2, l3, l4, some (.int x), l6] [] (.int x :: st) h Q) ∧
  (∀ (L : pb_L) (J : pb_J) (st : List Value) (h : pb_H) (Q : Option Value → pb_H → Prop), pb_R 103 68 L J st h Q ↔ pb_R 103 69 L J (.int (1 : Int32) :: st) h Q) ∧
  (∀ (l0 l1 l2 l3 l4 l5 : Option Value) (st : List Value) (h : pb_H) (Q : Option Value → pb_H → Prop) (x : Int32), pb_R 103 69 [l0, l1, l2, l3, l4, l5, some (.int x)] [] st h Q ↔ pb_R 103 71 [l0, l1, l2, l3, l4, l5, some (.int x)] [] (.int x :: st) h Q) ∧
  (∀ (L : pb_L) (J : pb_J) (st : List Value) (h : pb_H) (Q : Option Value → pb_H → Prop), pb_R 103 71 L J st h Q ↔ pb_R 103 72 L J (.int (1 : Int32) :: st) h Q) ∧
  (∀ (L : pb_L) (J : pb_J) (st : List Value) (x y : Int32) (h : pb_H) (Q : Option Value → pb_H → Prop), pb_R 103 72 L J (.int y :: .int x :: st) h Q ↔ pb_R 103 73 L J (.int (x - y) :: st) h Q) ∧
  (∀ (L : pb_L) (J : pb_J) (st : List Value) (x y : Int32) (h : pb_H) (Q : Option Value → pb_H → Prop), pb_R 103 73 L J (.int y :: .int x :: st) h Q ↔ pb_R 103 74 L J (.int (x <<< (y &&& 31)) :: st) h Q) ∧
  (∀ (L : pb_L) (J : pb_J) (st : List Value) (x y : Int32) (h : pb_H) (Q : Option Value → pb_H → Prop), pb_R 103 74 L J (.int y :: .int x :: st) h Q ↔ pb_R 103 75 L J (.int (x &&& y) :: st) h Q) ∧
  (∀ (L : pb_L) (J : pb_J) (st : List Value) (h : pb_H) (Q : Option Value → pb_H → Prop) (x : Int32), pb_R 103 75 L J (.int x :: st) h Q ↔ if ¬ x = 0 then pb_R 103 81 L J st h Q else pb_R 103 78 L J st h Q) ∧
  (∀ (L : pb_L) (J : pb_J) (st : List Value) (h : pb_H) (Q : Option Value → pb_H → Prop), pb_R 103 78 L J st h Q ↔ pb_R 103 139 L J st h Q) ∧
  (∀ (l1 l2 l3 l4 l5 l6 : Option Value) (st : List Value) (h : pb_H) (Q : Option Value → pb_H → Prop) (x : Nat), pb_R 103 81 [some (.ref x), l1, l2, l3, l4, l5, l6] [] st h Q ↔ pb_R 103 82 [some (.ref x), l1, l2, l3, l4, l5, l6] [] (.ref x :: st) h Q) ∧
  (∀ (l1 l2 l3 l4 l5 l6 : Option Value) (st : List Value) (h : pb_H) (Q : Option Value → pb_H → Prop), pb_R 103 81 [some .null, l1, l2, l3, l4, l5, l6] [] st h Q ↔ pb_R 103 82 [some .null, l1, l2, l3, l4, l5, l6] [] (.null :: st) h Q) ∧
  (∀ (L : pb_L) (J : pb_J) (st : List Value) (h : pb_H) (Q : Option Value → pb_H → Prop) (a : Nat), pb_R 103 82 L J (.ref a :: st) h Q ↔ pb_o (pb_gf (h.2 a) 6 11) (fun v => pb_R 103 85 L J (v :: st) h Q)) ∧
  (∀ (l1 l2 l3 l4 l5 l6 : Option Value) (st : List Value) (h : pb_H) (Q : Option Value → pb_H → Prop) (x : Nat), pb_R 103 85 [some (.ref x), l1, l2, l3, l4, l5, l6] [] st h Q ↔ pb_R 103 86 [some (.ref x), l1, l2, l3, l4, l5, l6] [] (.ref x :: st) h Q) ∧
  (∀ (l1 l2 l3 l4 l5 l6 : Option Value) (st : List Value) (h : pb_H) (Q : Option Value → pb_H → Prop), pb_R 103 85 [some .null, l1, l2, l3, l4, l5, l6] [] st h Q ↔ pb_R 103 86 [some .null, l1, l2, l3, l4, l5, l6] [] (.null :: st) h Q) ∧
  (∀ (L : pb_L) (J : pb_J) (st : List Value) (h : pb_H) (Q : Option Value → pb_H → Prop) (a : Nat), pb_R 103 86 L J (.ref a :: st) h Q ↔ pb_o (pb_gf (h.2 a) 6 10) (fun v => pb_R 103 89 L J (v :: st) h Q)) ∧
  (∀ (L : pb_L) (J : pb_J) (st : List Value) (h : pb_H) (Q : Option Value → pb_H → Prop) (a : Nat), pb_R 103 89 L J (.ref a :: st) h Q ↔ pb_o (pb_gf (h.2 a) 4 1) (fun v => pb_R 103 92 L J (v :: st) h Q)) ∧
  (∀ (l0 l1 l2 l3 l4 l5 : Option Value) (st : List Value) (h : pb_H) (Q : Option Value → pb_H → Prop) (x : Int32), pb_R 103 92 [l0, l1, l2, l3, l4, l5, some (.int x)] [] st h Q ↔ pb_R 103 94 [l0, l1, l2, l3, l4, l5, some (.int x)] [] (.int x :: st) h Q) ∧
  (∀ (L : pb_L) (J : pb_J) (st : List Value) (h : pb_H) (Q : Option Value → pb_H → Prop), pb_R 103 94 L J st h Q ↔ pb_R 103 96 L J (.int (8 : Int32) :: st) h Q) ∧
  (∀ (L : pb_L) (J : pb_J) (st : List Value) (x y : Int32) (h : pb_H) (Q : Option Value → pb_H → Prop), pb_R 103 96 L J (.int y :: .int x :: st) h Q ↔ pb_R 103 97 L J (.int (x * y) :: st) h Q) ∧
  (∀ (L : pb_L) (J : pb_J) (h : pb_H) (Q : Option Value → pb_H → Prop) (x0 : Int32) (x1 : Nat) (x2 : Nat), pb_R 103 97 L J [.int x0, .ref x1, .ref x2] h Q ↔ pb_is0 (h.2 x2) 3 = true ∧ pb_call 36 [.ref x2, .ref x1, .int x0] h (fun v t => pb_R 103 100 L J (v.toList ++ []) t Q)) ∧
  (∀ (L : pb_L) (J : pb_J) (st : List Value) (h : pb_H) (Q : Option Value → pb_H → Prop) (x : Int32), pb_R 103 100 L J (.int x :: st) h Q ↔ if x = 0 then pb_R 103 139 L J st h Q else pb_R 103 103 L J st h Q) ∧
  (∀ (l1 l2 l3 l4 l5 l6 : Option Value) (st : List Value) (h : pb_H) (Q : Option Value → pb_H → Prop) (x : Nat), pb_R 103 103 [some (.ref x), l1, l2, l3, l4, l5, l6] [] st h Q ↔ pb_R 103 104 [some (.ref x), l1, l2, l3, l4, l5, l6] [] (.ref x :: st) h Q) ∧
  (∀ (l1 l2 l3 l4 l5 l6 : Option Value) (st : List Value) (h : pb_H) (Q : Option Value → pb_H → Prop), pb_R 103 103 [some .null, l1, l2, l3, l4, l5, l6] [] st h Q ↔ pb_R 103 104 [some .null, l1, l2, l3, l4, l5, l6] [] (.null :: st) h Q) ∧
  (∀ (L : pb_L) (J : pb_J) (st : List Value) (h : pb_H) (Q : Option Value → pb_H → Prop) (a : Nat), pb_R 103 104 L J (.ref a :: st) h Q ↔ pb_o (pb_gf (h.2 a) 6 10) (fun v => pb_R 103 107 L J (v :: st) h Q)) ∧
  (∀ (l0 l1 l2 l3 l4 l5 : Option Value) (st : List Value) (h : pb_H) (Q : Option Value → pb_H → Prop) (x : Int32), pb_R 103 107 [l0, l1, l2, l3, l4, l5, some (.int x)] [] st h Q ↔ pb_R 103 109 [l0, l1, l2, l3, l4, l5, some (.int x)] [] (.int x :: st) h Q) ∧
  (∀ (L : pb_L) (J : pb_J) (h : pb_H) (Q : Option Value → pb_H → Prop) (x0 : Int32) (x1 : Nat), pb_R 103 109 L J [.int x0, .ref x1] h Q ↔ pb_is0 (h.2 x1) 4 = true ∧ pb_call 55 [.ref x1, .int x0] h (fun v t => pb_R 103 112 L J (v.toList ++ []) t Q)) ∧
  (∀ (l1 l2 l3 l4 l5 l6 : Option Value) (st : List Value) (h : pb_H) (Q : Option Value → pb_H → Prop) (x : Nat), pb_R 103 112 [some (.ref x), l1, l2, l3, l4, l5, l6] [] st h Q ↔ pb_R 103 113 [some (.ref x), l1, l2, l3, l4, l5, l6] [] (.ref x :: st) h Q) ∧
  (∀ (l1 l2 l3 l4 l5 l6 : Option Value) (st : List Value) (h : pb_H) (Q : Option Value → pb_H → Prop), pb_R 103 112 [some .null, l1, l2, l3, l4, l5, l6] [] st h Q ↔ pb_R 103 113 [some .null, l1, l2, l3, l4, l5, l6] [] (.null :: st) h Q) ∧
  (∀ (L : pb_L) (J : pb_J) (st : List Value) (h : pb_H) (Q : Option Value → pb_H → Prop) (a : Nat), pb_R 103 113 L J (.ref a :: st) h Q ↔ pb_o (pb_gf (h.2 a) 6 2) (fun v => pb_R 103 116 L J (v :: st) h Q)) ∧
  (∀ (L : pb_L) (J : pb_J) (st : List Value) (h : pb_H) (Q : Option Value → pb_H → Prop), pb_R 103 116 L J st h Q ↔ pb_R 103 118 L J (.int (120 : Int32) :: st) h Q) ∧
  (∀ (L : pb_L) (J : pb_J) (h : pb_H) (Q : Option Value → pb_H → Prop) (x0 : Int32) (x1 : Nat), pb_R 103 118 L J [.int x0, .ref x1] h Q ↔ pb_is0 (h.2 x1) 0 = true ∧ pb_call 9 [.ref x1, .int x0] h (fun v t => pb_R 103 121 L J (v.toList ++ []) t Q)) ∧
  (∀ (l1 l2 l3 l4 l5 l6 : Option Value) (st : List Value) (h : pb_H) (Q : Option Value → pb_H → Prop) (x : Nat), pb_R 103 121 [some (.ref x), l1, l2, l3, l4, l5, l6] [] st h Q ↔ pb_R 103 122 [some (.ref x), l1, l2, l3, l4, l5, l6] [] (.ref x :: st) h Q) ∧
  (∀ (l1 l2 l3 l4 l5 l6 : Option Value) (st : List Value) (h : pb_H) (Q : Option Value → pb_H → Prop), pb_R 103 121 [some .null, l1, l2, l3, l4, l5, l6] [] st h Q ↔ pb_R 103 122 [some .null, l1, l2, l3, l4, l5, l6] [] (.null :: st) h Q) ∧
  (∀ (L : pb_L) (J : pb_J) (st : List Value) (h : pb_H) (Q : Option Value → pb_H → Prop) (a : Nat), pb_R 103 122 L J (.ref a :: st) h Q ↔ pb_o (pb_gf (h.2 a) 6 2) (fun v => pb_R 103 125 L J (v :: st) h Q)) ∧
  (∀ (l0 l1 l2 l3 l4 l5 : Option Value) (st : List Value) (h : pb_H) (Q : Option Value → pb_H → Prop) (x : Int32), pb_R 103 125 [l0, l1, l2, l3, l4, l5, some (.int x)] [] st h Q ↔ pb_R 103 127 [l0, l1, l2, l3, l4, l5, some (.int x)] [] (.int x :: st) h Q) ∧
  (∀ (L : pb_L) (J : pb_J) (h : pb_H) (Q : Option Value → pb_H → Prop) (x0 : Int32) (x1 : Nat), pb_R 103 127 L J [.int x0, .ref x1] h Q ↔ pb_is0 (h.2 x1) 0 = true ∧ pb_call 8 [.ref x1, .int x0] h (fun v t => pb_R 103 130 L J (v.toList ++ []) t Q)) ∧
  (∀ (l1 l2 l3 l4 l5 l6 : Option Value) (st : List Value) (h : pb_H) (Q : Option Value → pb_H → Prop) (x : Nat), pb_R 103 130 [some (.ref x), l1, l2, l3, l4, l5, l6] [] st h Q ↔ pb_R 103 131 [some (.ref x), l1, l2, l3, l4, l5, l6] [] (.ref x :: st) h Q) ∧
  (∀ (l1 l2 l3 l4 l5 l6 : Option Value) (st : List Value) (h : pb_H) (Q : Option Value → pb_H → Prop), pb_R 103 130 [some .null, l1, l2, l3, l4, l5, l6] [] st h Q ↔ pb_R 103 131 [some .null, l1, l2, l3, l4, l5, l6] [] (.null :: st) h Q) ∧
  (∀ (L : pb_L) (J : pb_J) (st : List Value) (h : pb_H) (Q : Option Value → pb_H → Prop) (a : Nat), pb_R 103 131 L J (.ref a :: st) h Q ↔ pb_o (pb_gf (h.2 a) 6 2) (fun v => pb_R 103 134 L J (v :: st) h Q)) ∧
  (∀ (L : pb_L) (J : pb_J) (st : List Value) (h : pb_H) (Q : Option Value → pb_H → Prop), pb_R 103 134 L J st h Q ↔ pb_R 103 136 L J (.int (119 : Int32) :: st) h Q) ∧
  (∀ (L : pb_L) (J : pb_J) (h : pb_H) (Q : Option Value → pb_H → Prop) (x0 : Int32) (x1 : Nat), pb_R 103 136 L J [.int x0, .ref x1] h Q ↔ pb_is0 (h.2 x1) 0 = true ∧ pb_call 9 [.ref x1, .int x0] h (fun v t => pb_R 103 139 L J (v.toList ++ []) t Q)) ∧
  (∀ (l0 l1 l2 l3 l4 l5 : Option Value) (st : List Value) (h : pb_H) (Q : Option Value → pb_H → Prop) (x : Int32), pb_R 103 139 [l0, l1, l2, l3, l4, l5, some (.int x)] [] st h Q ↔ pb_R 103 142 [l0, l1, l2, l3, l4, l5, some (.int (x + (1 : Int32)))] [] st h Q) ∧
  (∀ (L : pb_L) (J : pb_J) (st : List Value) (h : pb_H) (Q : Option Value → pb_H → Prop), pb_R 103 142 L J st h Q ↔ pb_R 103 48 L J st h Q) ∧
  (∀ (L : pb_L) (J : pb_J) (h : pb_H) (Q : Option Value → pb_H → Prop), pb_R 103 145 L J [] h Q ↔ Q none h) := ⟨
  fun l1 l2 l3 l4 l5 l6 st h Q x => pf_S pb_u_103 rfl rfl,
  fun l1 l2 l3 l4 l5 l6 st h Q => pf_S pb_u_103 rfl rfl,
  fun L J st h Q a => pf_gf pb_u_103 rfl rfl,
  fun l0 l2 l3 l4 l5 l6 st h Q x => pf_S pb_u_103 rfl rfl,
  fun L J h Q x0 x1 => pf_kv pb_u_103 rfl pb_ci_100 rfl ⟨Nat.le_of_ble_eq_true rfl, Nat.le_of_ble_eq_true rfl, Nat.le_of_ble_eq_true rfl, Nat.le_of_ble_eq_true rfl, rfl⟩ rfl rfl,
  fun l0 l1 l2 l3 l4 l5 l6 st h Q x => pf_S pb_u_103 rfl rfl,
  fun l1 l2 l3 l4 l5 l6 st h Q x => pf_S pb_u_103 rfl rfl,
  fun l1 l2 l3 l4 l5 l6 st h Q => pf_S pb_u_103 rfl rfl,
  fun L J st h Q a => pf_gf pb_u_103 rfl rfl,
  fun l0 l2 l3 l4 l5 l6 st h Q x => pf_S pb_u_103 rfl rfl,
  fun L J h Q x0 x1 => pf_kv pb_u_103 rfl pb_ci_101 rfl ⟨Nat.le_of_ble_eq_true rfl, Nat.le_of_ble_eq_true rfl, Nat.le_of_ble_eq_true rfl, Nat.le_of_ble_eq_true rfl, rfl⟩ rfl rfl,
  fun l0 l1 l2 l3 l4 l5 l6 st h Q x => pf_S pb_u_103 rfl rfl,
  fun l1 l2 l3 l4 l5 l6 st h Q x => pf_S pb_u_103 rfl rfl,
  fun l1 l2 l3 l4 l5 l6 st h Q => pf_S pb_u_103 rfl rfl,
  fun L J st h Q a => pf_gf pb_u_103 rfl rfl,
  fun L J st h Q a => pf_gf pb_u_103 rfl rfl,
  fun l0 l1 l2 l3 l5 l6 st h Q x => pf_S pb_u_103 rfl rfl,
  fun L J st h Q => pf_S pb_u_103 rfl rfl,
  fun L J st x y h Q => pf_S pb_u_103 rfl rfl,
  fun L J st x y h Q => pf_S pb_u_103 rfl rfl,
  fun l1 l2 l3 l4 l5 l6 st h Q x => pf_S pb_u_103 rfl rfl,
  fun l1 l2 l3 l4 l5 l6 st h Q => pf_S pb_u_103 rfl rfl,
  fun L J st h Q a => pf_gf pb_u_103 rfl rfl,
  fun L J st h Q a => pf_gf pb_u_103 rfl rfl,
  fun l0 l1 l2 l4 l5 l6 st h Q x => pf_S pb_u_103 rfl rfl,
  fun L J st h Q => pf_S pb_u_103 rfl rfl,
  fun L J st x y h Q => pf_S pb_u_103 rfl rfl,
  fun L J st x y h Q => pf_S pb_u_103 rfl rfl,
  fun L J st x y h Q => pf_S pb_u_103 rfl rfl,
  fun l0 l1 l2 l3 l4 l5 l6 st h Q x => pf_S pb_u_103 rfl rfl,
  fun L J st h Q => pf_S pb_u_103 rfl rfl,
  fun l0 l1 l2 l3 l4 l5 l6 st h Q x => pf_S pb_u_103 rfl rfl,
  fun l1 l2 l3 l4 l5 l6 st h Q x => pf_S pb_u_103 rfl rfl,
  fun l1 l2 l3 l4 l5 l6 st h Q => pf_S pb_u_103 rfl rfl,
  fun L J st h Q a => pf_gf pb_u_103 rfl rfl,
  fun L J st h Q a => pf_gf pb_u_103 rfl rfl,
  fun L J st h Q x y => pf_ic pb_u_103 rfl rfl rfl,
  fun l0 l1 l2 l3 l4 l5 st h Q x => pf_S pb_u_103 rfl rfl,
  fun l0 l1 l3 l4 l5 l6 st h Q x => pf_S pb_u_103 rfl rfl,
  fun L J st h Q x y => pf_ic pb_u_103 rfl rfl rfl,
  fun l0 l1 l2 l3 l4 l6 st h Q x => pf_S pb_u_103 rfl rfl,
  fun L J st h Q => pf_S pb_u_103 rfl rfl,
  fun l0 l1 l2 l3 l4 l5 st h Q x => pf_S pb_u_103 rfl rfl,
  fun L J st h Q => pf_S pb_u_103 rfl rfl,
  fun L J st x y h Q => pf_S pb_u_103 rfl rfl,
  fun L J st x y h Q => pf_S pb_u_103 rfl rfl,
  fun L J st x y h Q => pf_S pb_u_103 rfl rfl,
  fun L J st h Q x => pf_ii pb_u_103 rfl rfl pf_ne,
  fun L J st h Q => pf_S pb_u_103 rfl rfl,
  fun l1 l2 l3 l4 l5 l6 st h Q x => pf_S pb_u_103 rfl rfl,
  fun l1 l2 l3 l4 l5 l6 st h Q => pf_S pb_u_103 rfl rfl,
  fun L J st h Q a => pf_gf pb_u_103 rfl rfl,
  fun l1 l2 l3 l4 l5 l6 st h Q x => pf_S pb_u_103 rfl rfl,
  fun l1 l2 l3 l4 l5 l6 st h Q => pf_S pb_u_103 rfl rfl,
  fun L J st h Q a => pf_gf pb_u_103 rfl rfl,
  fun L J st h Q a => pf_gf pb_u_103 rfl rfl,
  fun l0 l1 l2 l3 l4 l5 st h Q x => pf_S pb_u_103 rfl rfl,
  fun L J st h Q => pf_S pb_u_103 rfl rfl,
  fun L J st x y h Q => pf_S pb_u_103 rfl rfl,
  fun L J h Q x0 x1 x2 => pf_kv pb_u_103 rfl pb_ci_36 rfl ⟨Nat.le_of_ble_eq_true rfl, Nat.le_of_ble_eq_true rfl, Nat.le_of_ble_eq_true rfl, Nat.le_of_ble_eq_true rfl, rfl⟩ rfl rfl,
  fun L J st h Q x => pf_ii pb_u_103 rfl rfl rfl,
  fun l1 l2 l3 l4 l5 l6 st h Q x => pf_S pb_u_103 rfl rfl,
  fun l1 l2 l3 l4 l5 l6 st h Q => pf_S pb_u_103 rfl rfl,
  fun L J st h Q a => pf_gf pb_u_103 rfl rfl,
  fun l0 l1 l2 l3 l4 l5 st h Q x => pf_S pb_u_103 rfl rfl,
  fun L J h Q x0 x1 => pf_kv pb_u_103 rfl pb_ci_55 rfl ⟨Nat.le_of_ble_eq_true rfl, Nat.le_of_ble_eq_true rfl, Nat.le_of_ble_eq_true rfl, Nat.le_of_ble_eq_true rfl, rfl⟩ rfl rfl,
  fun l1 l2 l3 l4 l5 l6 st h Q x => pf_S pb_u_103 rfl rfl,
  fun l1 l2 l3 l4 l5 l6 st h Q => pf_S pb_u_103 rfl rfl,
  fun L J st h Q a => pf_gf pb_u_103 rfl rfl,
  fun L J st h Q => pf_S pb_u_103 rfl rfl,
  fun L J h Q x0 x1 => pf_kv pb_u_103 rfl pb_ci_9 rfl ⟨Nat.le_of_ble_eq_true rfl, Nat.le_of_ble_eq_true rfl, Nat.le_of_ble_eq_true rfl, Nat.le_of_ble_eq_true rfl, rfl⟩ rfl rfl,
  fun l1 l2 l3 l4 l5 l6 st h Q x => pf_S pb_u_103 rfl rfl,
  fun l1 l2 l3 l4 l5 l6 st h Q => pf_S pb_u_103 rfl rfl,
  fun L J st h Q a => pf_gf pb_u_103 rfl rfl,
  fun l0 l1 l2 l3 l4 l5 st h Q x => pf_S pb_u_103 rfl rfl,
  fun L J h Q x0 x1 => pf_kv pb_u_103 rfl pb_ci_8 rfl ⟨Nat.le_of_ble_eq_true rfl, Nat.le_of_ble_eq_true rfl, Nat.le_of_ble_eq_true rfl, Nat.le_of_ble_eq_true rfl, rfl⟩ rfl rfl,
  fun l1 l2 l3 l4 l5 l6 st h Q x => pf_S pb_u_103 rfl rfl,
  fun l1 l2 l3 l4 l5 l6 st h Q => pf_S pb_u_103 rfl rfl,
  fun L J st h Q a => pf_gf pb_u_103 rfl rfl,
  fun L J st h Q => pf_S pb_u_103 rfl rfl,
  fun L J h Q x0 x1 => pf_kv pb_u_103 rfl pb_ci_9 rfl ⟨Nat.le_of_ble_eq_true rfl, Nat.le_of_ble_eq_true rfl, Nat.le_of_ble_eq_true rfl, Nat.le_of_ble_eq_true rfl, rfl⟩ rfl rfl,
  fun l0 l1 l2 l3 l4 l5 st h Q x => pf_S pb_u_103 rfl rfl,
  fun L J st h Q => pf_S pb_u_103 rfl rfl,
  fun L J h Q => pf_rv pb_u_103 rfl rfl⟩
theorem pb_c103 (x0 : Nat) (x1 : Int32) (x2 : Int32) (h : pb_H) (Q : Option Value → pb_H → Prop) : pb_call 103 [.ref x0, .int x1, .int x2] h Q ↔ pb_R 103 0 [some (.ref x0), some (.int x1), some (.int x2), none, none, none, none] [] [] h Q := Iff.rfl
/-! 104: PlaneBench$Search.isOne([I)Z -/
theorem pb_u_104 : pb_t 104 = pb_t104 := rfl
set_option maxRecDepth 100000 in
theorem pb_e104 : (∀ (st : List Value) (h : pb_H) (Q : Option Value → pb_H → Prop) (x : Nat), pb_R 104 0 [some (.ref x)] [] st h Q ↔ pb_R 104 1 [some (.ref x)] [] (.ref x :: st) h Q) ∧
  (∀ (st : List Value) (h : pb_H) (Q : Option Value → pb_H → Prop), pb_R 104 0 [some .null] [] st h Q ↔ pb_R 104 1 [some .null] [] (.null :: st) h Q) ∧
  (∀ (L : pb_L) (J : pb_J) (h : pb_H) (Q : Option Value → pb_H → Prop) (x0 : Nat), pb_R 104 1 L J [.ref x0] h Q ↔ pb_call 45 [.ref x0] h (fun v t => pb_R 104 4 L J (v.toList ++ []) t Q)) ∧
  (∀ (L : pb_L) (J : pb_J) (st : List Value) (h : pb_H) (Q : Option Value → pb_H → Prop), pb_R 104 4 L J st h Q ↔ pb_R 104 5 L J (.int (1 : Int32) :: st) h Q) ∧
  (∀ (L : pb_L) (J : pb_J) (st : List Value) (h : pb_H) (Q : Option Value → pb_H → Prop) (x y : Int32), pb_R 104 5 L J (.int y :: .int x :: st) h Q ↔ if ¬ x = y then pb_R 104 12 L J st h Q else pb_R 104 8 L J st h Q) ∧
  (∀ (L : pb_L) (J : pb_J) (st : List Value) (h : pb_H) (Q : Option Value → pb_H → Prop), pb_R 104 8 L J st h Q ↔ pb_R 104 9 L J (.int (1 : Int32) :: st) h Q) ∧
  (∀ (L : pb_L) (J : pb_J) (st : List Value) (h : pb_H) (Q : Option Value → pb_H → Prop), pb_R 104 9 L J st h Q ↔ pb_R 104 13 L J st h Q) ∧
  (∀ (L : pb_L) (J : pb_J) (st : List Value) (h : pb_H) (Q : Option Value → pb_H → Prop), pb_R 104 12 L J st h Q ↔ pb_R 104 13 L J (.int (0 : Int32) :: st) h Q) ∧
  (∀ (L : pb_L) (J : pb_J) (h : pb_H) (Q : Option Value → pb_H → Prop) (x : Int32), pb_R 104 13 L J [.int x] h Q ↔ narrow .boolean (.int x) = .int x ∧ Q (some (.int x)) h) := ⟨
  fun st h Q x => pf_S pb_u_104 rfl rfl,
  fun st h Q => pf_S pb_u_104 rfl rfl,
  fun L J h Q x0 => pf_ks pb_u_104 rfl rfl rfl rfl,
  fun L J st h Q => pf_S pb_u_104 rfl rfl,
  fun L J st h Q x y => pf_ic pb_u_104 rfl rfl pf_ne,
  fun L J st h Q => pf_S pb_u_104 rfl rfl,
  fun L J st h Q => pf_S pb_u_104 rfl rfl,
  fun L J st h Q => pf_S pb_u_104 rfl rfl,
  fun L J h Q x => pf_rz pb_u_104 rfl rfl⟩
theorem pb_c104 (x0 : Nat) (h : pb_H) (Q : Option Value → pb_H → Prop) : pb_call 104 [.ref x0] h Q ↔ pb_R 104 0 [some (.ref x0)] [] [] h Q := Iff.rfl
/-! 105: PlaneBench$Search.writeNumberAnd(I)V -/
theorem pb_u_105 : pb_t 105 = pb_t105 := rfl
theorem pb_ci_105 : pb_ci 105 = 6 := by decide +kernel
set_option maxRecDepth 100000 in
theorem pb_e105 : (∀ (l1 : Option Value) (st : List Value) (h : pb_H) (Q : Option Value → pb_H → Prop) (x : Nat), pb_R 105 0 [some (.ref x), l1] [] st h Q ↔ pb_R 105 1 [some (.ref x), l1] [] (.ref x :: st) h Q) ∧
  (∀ (l1 : Option Value) (st : List Value) (h : pb_H) (Q : Option Value → pb_H → Prop), pb_R 105 0 [some .null, l1] [] st h Q ↔ pb_R 105 1 [some .null, l1] [] (.null :: st) h Q) ∧
  (∀ (L : pb_L) (J : pb_J) (st : List Value) (h : pb_H) (Q : Option Value → pb_H → Prop) (a : Nat), pb_R 105 1 L J (.ref a :: st) h Q ↔ pb_o (pb_gf (h.2 a) 6 13) (fun v => pb_R 105 4 L J (v :: st) h Q)) ∧
  (∀ (L : pb_L) (J : pb_J) (st : List Value) (h : pb_H) (Q : Option Value → pb_H → Prop), pb_R 105 4 L J st h Q ↔ pb_R 105 5 L J (.int (0 : Int32) :: st) h Q) ∧
  (∀ (l1 : Option Value) (st : List Value) (h : pb_H) (Q : Option Value → pb_H → Prop) (x : Nat), pb_R 105 5 [some (.ref x), l1] [] st h Q ↔ pb_R 105 6 [some (.ref x), l1] [] (.ref x :: st) h Q) ∧
  (∀ (l1 : Option Value) (st : List Value) (h : pb_H) (Q : Option Value → pb_H → Prop), pb_R 105 5 [some .null, l1] [] st h Q ↔ pb_R 105 6 [some .null, l1] [] (.null :: st) h Q) ∧
  (∀ (L : pb_L) (J : pb_J) (st : List Value) (h : pb_H) (Q : Option Value → pb_H → Prop) (a : Nat), pb_R 105 6 L J (.ref a :: st) h Q ↔ pb_o (pb_gf (h.2 a) 6 12) (fun v => pb_R 105 9 L J (v :: st) h Q)) ∧
  (∀ (L : pb_L) (J : pb_J) (st : List Value) (h : pb_H) (Q : Option Value → pb_H → Prop), pb_R 105 9 L J st h Q ↔ pb_R 105 10 L J (.int (0 : Int32) :: st) h Q) ∧
  (∀ (L : pb_L) (J : pb_J) (h : pb_H) (Q : Option Value → pb_H → Prop) (x0 : Int32) (x1 : Nat) (x2 : Int32) (x3 : Nat), pb_R 105 10 L J [.int x0, .ref x1, .int x2, .ref x3] h Q ↔ pb_call 42 [.ref x3, .int x2, .ref x1, .int x0] h (fun v t => pb_R 105 13 L J (v.toList ++ []) t Q)) ∧
  (∀ (l1 : Option Value) (st : List Value) (h : pb_H) (Q : Option Value → pb_H → Prop) (x : Nat), pb_R 105 13 [some (.ref x), l1] [] st h Q ↔ pb_R 105 14 [some (.ref x), l1] [] (.ref x :: st) h Q) ∧
  (∀ (l1 : Option Value) (st : List Value) (h : pb_H) (Q : Option Value → pb_H → Prop), pb_R 105 13 [some .null, l1] [] st h Q ↔ pb_R 105 14 [some .null, l1] [] (.null :: st) h Q) ∧
  (∀ (L : pb_L) (J : pb_J) (st : List Value) (h : pb_H) (Q : Option Value → pb_H → Prop) (a : Nat), pb_R 105 14 L J (.ref a :: st) h Q ↔ pb_o (pb_gf (h.2 a) 6 2) (fun v => pb_R 105 17 L J (v :: st) h Q)) ∧
  (∀ (L : pb_L) (J : pb_J) (st : List Value) (h : pb_H) (Q : Option Value → pb_H → Prop), pb_R 105 17 L J st h Q ↔ pb_R 105 19 L J (.int (32 : Int32) :: st) h Q) ∧
  (∀ (L : pb_L) (J : pb_J) (h : pb_H) (Q : Option Value → pb_H → Prop) (x0 : Int32) (x1 : Nat), pb_R 105 19 L J [.int x0, .ref x1] h Q ↔ pb_is0 (h.2 x1) 0 = true ∧ pb_call 2 [.ref x1, .int x0] h (fun v t => pb_R 105 22 L J (v.toList ++ []) t Q)) ∧
  (∀ (l1 : Option Value) (st : List Value) (h : pb_H) (Q : Option Value → pb_H → Prop) (x : Nat), pb_R 105 22 [some (.ref x), l1] [] st h Q ↔ pb_R 105 23 [some (.ref x), l1] [] (.ref x :: st) h Q) ∧
  (∀ (l1 : Option Value) (st : List Value) (h : pb_H) (Q : Option Value → pb_H → Prop), pb_R 105 22 [some .null, l1] [] st h Q ↔ pb_R 105 23 [some .null, l1] [] (.null :: st) h Q) ∧
  (∀ (L : pb_L) (J : pb_J) (st : List Value) (h : pb_H) (Q : Option Value → pb_H → Prop) (a : Nat), pb_R 105 23 L J (.ref a :: st) h Q ↔ pb_o (pb_gf (h.2 a) 6 2) (fun v => pb_R 105 26 L J (v :: st) h Q)) ∧
  (∀ (l1 : Option Value) (st : List Value) (h : pb_H) (Q : Option Value → pb_H → Prop) (x : Nat), pb_R 105 26 [some (.ref x), l1] [] st h Q ↔ pb_R 105 27 [some (.ref x), l1] [] (.ref x :: st) h Q) ∧
  (∀ (l1 : Option Value) (st : List Value) (h : pb_H) (Q : Option Value → pb_H → Prop), pb_R 105 26 [some .null, l1] [] st h Q ↔ pb_R 105 27 [some .null, l1] [] (.null :: st) h Q) ∧
  (∀ (L : pb_L) (J : pb_J) (st : List Value) (h : pb_H) (Q : Option Value → pb_H → Prop) (a : Nat), pb_R 105 27 L J (.ref a :: st) h Q ↔ pb_o (pb_gf (h.2 a) 6 13) (fun v => pb_R 105 30 L J (v :: st) h Q)) ∧
  (∀ (L : pb_L) (J : pb_J) (h : pb_H) (Q : Option Value → pb_H → Prop) (x0 : Nat) (x1 : Nat), pb_R 105 30 L J [.ref x0, .ref x1] h Q ↔ pb_is0 (h.2 x1) 0 = true ∧ pb_call 7 [.ref x1, .ref x0] h (fun v t => pb_R 105 33 L J (v.toList ++ []) t Q)) ∧
  (∀ (l1 : Option Value) (st : List Value) (h : pb_H) (Q : Option Value → pb_H → Prop) (x : Nat), pb_R 105 33 [some (.ref x), l1] [] st h Q ↔ pb_R 105 34 [some (.ref x), l1] [] (.ref x :: st) h Q) ∧
  (∀ (l1 : Option Value) (st : List Value) (h : pb_H) (Q : Option Value → pb_H → Prop), pb_R 105 33 [some .null, l1] [] st h Q ↔ pb_R 105 34 [some .null, l1] [] (.null :: st) h Q) ∧
  (∀ (L : pb_L) (J : pb_J) (st : List Value) (h : pb_H) (Q : Option Value → pb_H → Prop) (a : Nat), pb_R 105 34 L J (.ref a :: st) h Q ↔ pb_o (pb_gf (h.2 a) 6 2) (fun v => pb_R 105 37 L J (v :: st) h Q)) ∧
  (∀ (l0 : Option Value) (st : List Value) (h : pb_H) (Q : Option Value → pb_H → Prop) (x : Int32), pb_R 105 37 [l0, some (.int x)] [] st h Q ↔ pb_R 105 38 [l0, some (.int x)] [] (.int x :: st) h Q) ∧
  (∀ (L : pb_L) (J : pb_J) (h : pb_H) (Q : Option Value → pb_H → Prop) (x0 : Int32) (x1 : Nat), pb_R 105 38 L J [.int x0, .ref x1] h Q ↔ pb_is0 (h.2 x1) 0 = true ∧ pb_call 9 [.ref x1, .int x0] h (fun v t => pb_R 105 41 L J (v.toList ++ []) t Q)) ∧
  (∀ (L : pb_L) (J : pb_J) (h : pb_H) (Q : Option Value → pb_H → Prop), pb_R 105 41 L J [] h Q ↔ Q none h) := ⟨
  fun l1 st h Q x => pf_S pb_u_105 rfl rfl,
  fun l1 st h Q => pf_S pb_u_105 rfl rfl,
  fun L J st h Q a => pf_gf pb_u_105 rfl rfl,
  fun L J st h Q => pf_S pb_u_105 rfl rfl,
  fun l1 st h Q x => pf_S pb_u_105 rfl rfl,
  fun l1 st h Q => pf_S pb_u_105 rfl rfl,
  fun L J st h Q a => pf_gf pb_u_105 rfl rfl,
  fun L J st h Q => pf_S pb_u_105 rfl rfl,
  fun L J h Q x0 x1 x2 x3 => pf_ks pb_u_105 rfl rfl rfl rfl,
  fun l1 st h Q x => pf_S pb_u_105 rfl rfl,
  fun l1 st h Q => pf_S pb_u_105 rfl rfl,
  fun L J st h Q a => pf_gf pb_u_105 rfl rfl,
  fun L J st h Q => pf_S pb_u_105 rfl rfl,
  fun L J h Q x0 x1 => pf_kv pb_u_105 rfl pb_ci_2 rfl ⟨Nat.le_of_ble_eq_true rfl, Nat.le_of_ble_eq_true rfl, Nat.le_of_ble_eq_true rfl, Nat.le_of_ble_eq_true rfl, rfl⟩ rfl rfl,
  fun l1 st h Q x => pf_S pb_u_105 rfl rfl,
  fun l1 st h Q => pf_S pb_u_105 rfl rfl,
  fun L J st h Q a => pf_gf pb_u_105 rfl rfl,
  fun l1 st h Q x => pf_S pb_u_105 rfl rfl,
  fun l1 st h Q => pf_S pb_u_105 rfl rfl,
  fun L J st h Q a => pf_gf pb_u_105 rfl rfl,
  fun L J h Q x0 x1 => pf_kv pb_u_105 rfl pb_ci_7 rfl ⟨Nat.le_of_ble_eq_true rfl, Nat.le_of_ble_eq_true rfl, Nat.le_of_ble_eq_true rfl, Nat.le_of_ble_eq_true rfl, rfl⟩ rfl rfl,
  fun l1 st h Q x => pf_S pb_u_105 rfl rfl,
  fun l1 st h Q => pf_S pb_u_105 rfl rfl,
  fun L J st h Q a => pf_gf pb_u_105 rfl rfl,
  fun l0 st h Q x => pf_S pb_u_105 rfl rfl,
  fun L J h Q x0 x1 => pf_kv pb_u_105 rfl pb_ci_9 rfl ⟨Nat.le_of_ble_eq_true rfl, Nat.le_of_ble_eq_true rfl, Nat.le_of_ble_eq_true rfl, Nat.le_of_ble_eq_true rfl, rfl⟩ rfl rfl,
  fun L J h Q => pf_rv pb_u_105 rfl rfl⟩
theorem pb_c105 (x0 : Nat) (x1 : Int32) (h : pb_H) (Q : Option Value → pb_H → Prop) : pb_call 105 [.ref x0, .int x1] h Q ↔ pb_R 105 0 [some (.ref x0), some (.int x1)] [] [] h Q := Iff.rfl
/-! 106: PlaneBench$Search.takeReason(II)Z -/
theorem pb_u_106 : pb_t 106 = pb_t106 := rfl
theorem pb_ci_106 : pb_ci 106 = 6 := by decide +kernel
set_option maxRecDepth 100000 in
theorem pb_e106 : (∀ (l1 l2 l3 l4 : Option Value) (st : List Value) (h : pb_H) (Q : Option Value → pb_H → Prop) (x : Nat), pb_R 106 0 [some (.ref x), l1, l2, l3, l4] [] st h Q ↔ pb_R 106 1 [some (.ref x), l1, l2, l3, l4] [] (.ref x :: st) h Q) ∧
  (∀ (l1 l2 l3 l4 : Option Value) (st : List Value) (h : pb_H) (Q : Option Value → pb_H → Prop), pb_R 106 0 [some .null, l1, l2, l3, l4] [] st h Q ↔ pb_R 106 1 [some .null, l1, l2, l3, l4] [] (.null :: st) h Q) ∧
  (∀ (L : pb_L) (J : pb_J) (st : List Value) (h : pb_H) (Q : Option Value → pb_H → Prop) (a : Nat), pb_R 106 1 L J (.ref a :: st) h Q ↔ pb_o (pb_gf (h.2 a) 6 1) (fun v => pb_R 106 4 L J (v :: st) h Q)) ∧
  (∀ (L : pb_L) (J : pb_J) (st : List Value) (h : pb_H) (Q : Option Value → pb_H → Prop) (a : Nat), pb_R 106 4 L J (.ref a :: st) h Q ↔ pb_o (pb_gf (h.2 a) 9 3) (fun v => pb_R 106 7 L J (v :: st) h Q)) ∧
  (∀ (l0 l2 l3 l4 : Option Value) (st : List Value) (h : pb_H) (Q : Option Value → pb_H → Prop) (x : Int32), pb_R 106 7 [l0, some (.int x), l2, l3, l4] [] st h Q ↔ pb_R 106 8 [l0, some (.int x), l2, l3, l4] [] (.int x :: st) h Q) ∧
  (∀ (L : pb_L) (J : pb_J) (st : List Value) (h : pb_H) (Q : Option Value → pb_H → Prop) (a : Nat) (i : Int32), pb_R 106 8 L J (.int i :: .ref a :: st) h Q ↔ pb_o (pb_ai (h.2 a) i) (fun v => pb_R 106 9 L J (.int v :: st) h Q)) ∧
  (∀ (l0 l1 l2 l3 l4 : Option Value) (st : List Value) (h : pb_H) (Q : Option Value → pb_H → Prop) (x : Int32), pb_R 106 9 [l0, l1, l2, l3, l4] [] (.int x :: st) h Q ↔ pb_R 106 10 [l0, l1, l2, some (.int x), l4] [] st h Q) ∧
  (∀ (l1 l2 l3 l4 : Option Value) (st : List Value) (h : pb_H) (Q : Option Value → pb_H → Prop) (x : Nat), pb_R 106 10 [some (.ref x), l1, l2, l3, l4] [] st h Q ↔ pb_R 106 11 [some (.ref x), l1, l2, l3, l4] [] (.ref x :: st) h Q) ∧
  (∀ (l1 l2 l3 l4 : Option Value) (st : List Value) (h : pb_H) (Q : Option Value → pb_H → Prop), pb_R 106 10 [some .null, l1, l2, l3, l4] [] st h Q ↔ pb_R 106 11 [some .null, l1, l2, l3, l4] [] (.null :: st) h Q) ∧
  (∀ (L : pb_L) (J : pb_J) (st : List Value) (h : pb_H) (Q : Option Value → pb_H → Prop) (a : Nat), pb_R 106 11 L J (.ref a :: st) h Q ↔ pb_o (pb_gf (h.2 a) 6 0) (fun v => pb_R 106 14 L J (v :: st) h Q)) ∧
  (∀ (l0 l1 l2 l4 : Option Value) (st : List Value) (h : pb_H) (Q : Option Value → pb_H → Prop) (x : Int32), pb_R 106 14 [l0, l1, l2, some (.int x), l4] [] st h Q ↔ pb_R 106 15 [l0, l1, l2, some (.int x), l4] [] (.int x :: st) h Q) ∧
  (∀ (L : pb_L) (J : pb_J) (h : pb_H) (Q : Option Value → pb_H → Prop) (x0 : Int32) (x1 : Nat), pb_R 106 15 L J [.int x0, .ref x1] h Q ↔ pb_is0 (h.2 x1) 7 = true ∧ pb_call 46 [.ref x1, .int x0] h (fun v t => pb_R 106 18 L J (v.toList ++ []) t Q)) ∧
  (∀ (l0 l1 l2 l3 l4 : Option Value) (st : List Value) (h : pb_H) (Q : Option Value → pb_H → Prop) (x : Nat), pb_R 106 18 [l0, l1, l2, l3, l4] [] (.ref x :: st) h Q ↔ pb_R 106 20 [l0, l1, l2, l3, some (.ref x)] [] st h Q) ∧
  (∀ (l0 l1 l2 l3 l4 : Option Value) (st : List Value) (h : pb_H) (Q : Option Value → pb_H → Prop), pb_R 106 18 [l0, l1, l2, l3, l4] [] (.null :: st) h Q ↔ pb_R 106 20 [l0, l1, l2, l3, some .null] [] st h Q) ∧
  (∀ (l0 l1 l2 l3 : Option Value) (st : List Value) (h : pb_H) (Q : Option Value → pb_H → Prop) (x : Nat), pb_R 106 20 [l0, l1, l2, l3, some (.ref x)] [] st h Q ↔ pb_R 106 22 [l0, l1, l2, l3, some (.ref x)] [] (.ref x :: st) h Q) ∧
  (∀ (l0 l1 l2 l3 : Option Value) (st : List Value) (h : pb_H) (Q : Option Value → pb_H → Prop), pb_R 106 20 [l0, l1, l2, l3, some .null] [] st h Q ↔ pb_R 106 22 [l0, l1, l2, l3, some .null] [] (.null :: st) h Q) ∧
  (∀ (L : pb_L) (J : pb_J) (st : List Value) (h : pb_H) (Q : Option Value → pb_H → Prop), pb_R 106 22 L J (.null :: st) h Q ↔ pb_R 106 25 L J st h Q) ∧
  (∀ (L : pb_L) (J : pb_J) (st : List Value) (h : pb_H) (Q : Option Value → pb_H → Prop) (x : Nat), pb_R 106 22 L J (.ref x :: st) h Q ↔ pb_R 106 27 L J st h Q) ∧
  (∀ (L : pb_L) (J : pb_J) (st : List Value) (h : pb_H) (Q : Option Value → pb_H → Prop), pb_R 106 25 L J st h Q ↔ pb_R 106 26 L J (.int (0 : Int32) :: st) h Q) ∧
  (∀ (L : pb_L) (J : pb_J) (h : pb_H) (Q : Option Value → pb_H → Prop) (x : Int32), pb_R 106 26 L J [.int x] h Q ↔ narrow .boolean (.int x) = .int x ∧ Q (some (.int x)) h) ∧
  (∀ (l1 l2 l3 l4 : Option Value) (st : List Value) (h : pb_H) (Q : Option Value → pb_H → Prop) (x : Nat), pb_R 106 27 [some (.ref x), l1, l2, l3, l4] [] st h Q ↔ pb_R 106 28 [some (.ref x), l1, l2, l3, l4] [] (.ref x :: st) h Q) ∧
  (∀ (l1 l2 l3 l4 : Option Value) (st : List Value) (h : pb_H) (Q : Option Value → pb_H → Prop), pb_R 106 27 [some .null, l1, l2, l3, l4] [] st h Q ↔ pb_R 106 28 [some .null, l1, l2, l3, l4] [] (.null :: st) h Q) ∧
  (∀ (L : pb_L) (J : pb_J) (st : List Value) (h : pb_H) (Q : Option Value → pb_H → Prop) (a : Nat), pb_R 106 28 L J (.ref a :: st) h Q ↔ pb_o (pb_gf (h.2 a) 6 10) (fun v => pb_R 106 31 L J (v :: st) h Q)) ∧
  (∀ (l0 l1 l2 l3 : Option Value) (st : List Value) (h : pb_H) (Q : Option Value → pb_H → Prop) (x : Nat), pb_R 106 31 [l0, l1, l2, l3, some (.ref x)] [] st h Q ↔ pb_R 106 33 [l0, l1, l2, l3, some (.ref x)] [] (.ref x :: st) h Q) ∧
  (∀ (l0 l1 l2 l3 : Option Value) (st : List Value) (h : pb_H) (Q : Option Value → pb_H → Prop), pb_R 106 31 [l0, l1, l2, l3, some .null] [] st h Q ↔ pb_R 106 33 [l0, l1, l2, l3, some .null] [] (.null :: st) h Q) ∧
  (∀ (L : pb_L) (J : pb_J) (h : pb_H) (Q : Option Value → pb_H → Prop) (x0 : Nat) (x1 : Nat), pb_R 106 33 L J [.ref x0, .ref x1] h Q ↔ pb_is0 (h.2 x1) 4 = true ∧ pb_call 48 [.ref x1, .ref x0] h (fun v t => pb_R 106 36 L J (v.toList ++ []) t Q)) ∧
  (∀ (l1 l2 l3 l4 : Option Value) (st : List Value) (h : pb_H) (Q : Option Value → pb_H → Prop) (x : Nat), pb_R 106 36 [some (.ref x), l1, l2, l3, l4] [] st h Q ↔ pb_R 106 37 [some (.ref x), l1, l2, l3, l4] [] (.ref x :: st) h Q) ∧
  (∀ (l1 l2 l3 l4 : Option Value) (st : List Value) (h : pb_H) (Q : Option Value → pb_H → Prop), pb_R 106 36 [some .null, l1, l2, l3, l4] [] st h Q ↔ pb_R 106 37 [some .null, l1, l2, l3, l4] [] (.null :: st) h Q) ∧
  (∀ (L : pb_L) (J : pb_J) (st : List Value) (h : pb_H) (Q : Option Value → pb_H → Prop) (a : Nat), pb_R 106 37 L J (.ref a :: st) h Q ↔ pb_o (pb_gf (h.2 a) 6 2) (fun v => pb_R 106 40 L J (v :: st) h Q)) ∧
  (∀ (L : pb_L) (J : pb_J) (st : List Value) (h : pb_H) (Q : Option Value → pb_H → Prop), pb_R 106 40 L J st h Q ↔ pb_R 106 42 L J (.int (32 : Int32) :: st) h Q) ∧
  (∀ (L : pb_L) (J : pb_J) (h : pb_H) (Q : Option Value → pb_H → Prop) (x0 : Int32) (x1 : Nat), pb_R 106 42 L J [.int x0, .ref x1] h Q ↔ pb_is0 (h.2 x1) 0 = true ∧ pb_call 2 [.ref x1, .int x0] h (fun v t => pb_R 106 45 L J (v.toList ++ []) t Q)) ∧
  (∀ (l1 l2 l3 l4 : Option Value) (st : List Value) (h : pb_H) (Q : Option Value → pb_H → Prop) (x : Nat), pb_R 106 45 [some (.ref x), l1, l2, l3, l4] [] st h Q ↔ pb_R 106 46 [some (.ref x), l1, l2, l3, l4] [] (.ref x :: st) h Q) ∧
  (∀ (l1 l2 l3 l4 : Option Value) (st : List Value) (h : pb_H) (Q : Option Value → pb_H → Prop), pb_R 106 45 [some .null, l1, l2, l3, l4] [] st h Q ↔ pb_R 106 46 [some .null, l1, l2, l3, l4] [] (.null :: st) h Q) ∧
  (∀ (L : pb_L) (J : pb_J) (st : List Value) (h : pb_H) (Q : Option Value → pb_H → Prop) (a : Nat), pb_R 106 46 L J (.ref a :: st) h Q ↔ pb_o (pb_gf (h.2 a) 6 2) (fun v => pb_R 106 49 L J (v :: st) h Q)) ∧
  (∀ (l0 l1 l2 l4 : Option Value) (st : List Value) (h : pb_H) (Q : Option Value → pb_H → Prop) (x : Int32), pb_R 106 49 [l0, l1, l2, some (.int x), l4] [] st h Q ↔ pb_R 106 50 [l0, l1, l2, some (.int x), l4] [] (.int x :: st) h Q) ∧
  (∀ (L : pb_L) (J : pb_J) (h : pb_H) (Q : Option Value → pb_H → Prop) (x0 : Int32) (x1 : Nat), pb_R 106 50 L J [.int x0, .ref x1] h Q ↔ pb_is0 (h.2 x1) 0 = true ∧ pb_call 8 [.ref x1, .int x0] h (fun v t => pb_R 106 53 L J (v.toList ++ []) t Q)) ∧
  (∀ (l1 l2 l3 l4 : Option Value) (st : List Value) (h : pb_H) (Q : Option Value → pb_H → Prop) (x : Nat), pb_R 106 53 [some (.ref x), l1, l2, l3, l4] [] st h Q ↔ pb_R 106 54 [some (.ref x), l1, l2, l3, l4] [] (.ref x :: st) h Q) ∧
  (∀ (l1 l2 l3 l4 : Option Value) (st : List Value) (h : pb_H) (Q : Option Value → pb_H → Prop), pb_R 106 53 [some .null, l1, l2, l3, l4] [] st h Q ↔ pb_R 106 54 [some .null, l1, l2, l3, l4] [] (.null :: st) h Q) ∧
  (∀ (L : pb_L) (J : pb_J) (st : List Value) (h : pb_H) (Q : Option Value → pb_H → Prop) (a : Nat), pb_R 106 54 L J (.ref a :: st) h Q ↔ pb_o (pb_gf (h.2 a) 6 12) (fun v => pb_R 106 57 L J (v :: st) h Q)) ∧
  (∀ (L : pb_L) (J : pb_J) (st : List Value) (h : pb_H) (Q : Option Value → pb_H → Prop), pb_R 106 57 L J st h Q ↔ pb_R 106 58 L J (.int (0 : Int32) :: st) h Q) ∧
  (∀ (l0 l1 l2 l3 : Option Value) (st : List Value) (h : pb_H) (Q : Option Value → pb_H → Prop) (x : Nat), pb_R 106 58 [l0, l1, l2, l3, some (.ref x)] [] st h Q ↔ pb_R 106 60 [l0, l1, l2, l3, some (.ref x)] [] (.ref x :: st) h Q) ∧
  (∀ (l0 l1 l2 l3 : Option Value) (st : List Value) (h : pb_H) (Q : Option Value → pb_H → Prop), pb_R 106 58 [l0, l1, l2, l3, some .null] [] st h Q ↔ pb_R 106 60 [l0, l1, l2, l3, some .null] [] (.null :: st) h Q) ∧
  (∀ (L : pb_L) (J : pb_J) (st : List Value) (h : pb_H) (Q : Option Value → pb_H → Prop) (a : Nat), pb_R 106 60 L J (.ref a :: st) h Q ↔ pb_o (pb_gf (h.2 a) 4 1) (fun v => pb_R 106 63 L J (v :: st) h Q)) ∧
  (∀ (l0 l1 l3 l4 : Option Value) (st : List Value) (h : pb_H) (Q : Option Value → pb_H → Prop) (x : Int32), pb_R 106 63 [l0, l1, some (.int x), l3, l4] [] st h Q ↔ pb_R 106 64 [l0, l1, some (.int x), l3, l4] [] (.int x :: st) h Q) ∧
  (∀ (L : pb_L) (J : pb_J) (st : List Value) (h : pb_H) (Q : Option Value → pb_H → Prop), pb_R 106 64 L J st h Q ↔ pb_R 106 66 L J (.int (8 : Int32) :: st) h Q) ∧
  (∀ (L : pb_L) (J : pb_J) (st : List Value) (x y : Int32) (h : pb_H) (Q : Option Value → pb_H → Prop), pb_R 106 66 L J (.int y :: .int x :: st) h Q ↔ pb_R 106 67 L J (.int (x * y) :: st) h Q) ∧
  (∀ (L : pb_L) (J : pb_J) (h : pb_H) (Q : Option Value → pb_H → Prop) (x0 : Int32) (x1 : Nat) (x2 : Int32) (x3 : Nat), pb_R 106 67 L J [.int x0, .ref x1, .int x2, .ref x3] h Q ↔ pb_call 42 [.ref x3, .int x2, .ref x1, .int x0] h (fun v t => pb_R 106 70 L J (v.toList ++ []) t Q)) ∧
  (∀ (l1 l2 l3 l4 : Option Value) (st : List Value) (h : pb_H) (Q : Option Value → pb_H → Prop) (x : Nat), pb_R 106 70 [some (.ref x), l1, l2, l3, l4] [] st h Q ↔ pb_R 106 71 [some (.ref x), l1, l2, l3, l4] [] (.ref x :: st) h Q) ∧
  (∀ (l1 l2 l3 l4 : Option Value) (st : List Value) (h : pb_H) (Q : Option Value → pb_H → Prop), pb_R 106 70 [some .null, l1, l2, l3, l4] [] st h Q ↔ pb_R 106 71 [some .null, l1, l2, l3, l4] [] (.null :: st) h Q) ∧
  (∀ (L : pb_L) (J : pb_J) (st : List Value) (h : pb_H) (Q : Option Value → pb_H → Prop) (a : Nat), pb_R 106 71 L J (.ref a :: st) h Q ↔ pb_o (pb_gf (h.2 a) 6 11) (fun v => pb_R 106 74 L J (v :: st) h Q)) ∧
  (∀ (l1 l2 l3 l4 : Option Value) (st : List Value) (h : pb_H) (Q : Option Value → pb_H → Prop) (x : Nat), pb_R 106 74 [some (.ref x), l1, l2, l3, l4] [] st h Q ↔ pb_R 106 75 [some (.ref x), l1, l2, l3, l4] [] (.ref x :: st) h Q) ∧
  (∀ (l1 l2 l3 l4 : Option Value) (st : List Value) (h : pb_H) (Q : Option Value → pb_H → Prop), pb_R 106 74 [some .null, l1, l2, l3, l4] [] st h Q ↔ pb_R 106 75 [some .null, l1, l2, l3, l4] [] (.null :: st) h Q) ∧
  (∀ (L : pb_L) (J : pb_J) (st : List Value) (h : pb_H) (Q : Option Value → pb_H → Prop) (a : Nat), pb_R 106 75 L J (.ref a :: st) h Q ↔ pb_o (pb_gf (h.2 a) 6 12) (fun v => pb_R 106 78 L J (v :: st) h Q)) ∧
  (∀ (L : pb_L) (J : pb_J) (h : pb_H) (Q : Option Value → pb_H → Prop) (x0 : Nat) (x1 : Nat), pb_R 106 78 L J [.ref x0, .ref x1] h Q ↔ pb_is0 (h.2 x1) 3 = true ∧ pb_call 31 [.ref x1, .ref x0] h (fun v t => pb_R 106 81 L J (v.toList ++ []) t Q)) ∧
  (∀ (l1 l2 l3 l4 : Option Value) (st : List Value) (h : pb_H) (Q : Option Value → pb_H → Prop) (x : Nat), pb_R 106 81 [some (.ref x), l1, l2, l3, l4] [] st h Q ↔ pb_R 106 82 [some (.ref x), l1, l2, l3, l4] [] (.ref x :: st) h Q) ∧
  (∀ (l1 l2 l3 l4 : Option Value) (st : List Value) (h : pb_H) (Q : Option Value → pb_H → Prop), pb_R 106 81 [some .null, l1, l2, l3, l4] [] st h Q ↔ pb_R 106 82 [some .null, l1, l2, l3, l4] [] (.null :: st) h Q) ∧
  (∀ (l0 l2 l3 l4 : Option Value) (st : List Value) (h : pb_H) (Q : Option Value → pb_H → Prop) (x : Int32), pb_R 106 82 [l0, some (.int x), l2, l3, l4] [] st h Q ↔ pb_R 106 83 [l0, some (.int x), l2, l3, l4] [] (.int x :: st) h Q) ∧
  (∀ (l0 l1 l3 l4 : Option Value) (st : List Value) (h : pb_H) (Q : Option Value → pb_H → Prop) (x : Int32), pb_R 106 83 [l0, l1, some (.int x), l3, l4] [] st h Q ↔ pb_R 106 84 [l0, l1, some (.int x), l3, l4] [] (.int x :: st) h Q) ∧
  (∀ (L : pb_L) (J : pb_J) (h : pb_H) (Q : Option Value → pb_H → Prop) (x0 : Int32) (x1 : Int32) (x2 : Nat), pb_R 106 84 L J [.int x0, .int x1, .ref x2] h Q ↔ pb_is0 (h.2 x2) 6 = true ∧ pb_call 103 [.ref x2, .int x1, .int x0] h (fun v t => pb_R 106 87 L J (v.toList ++ []) t Q)) ∧
  (∀ (l1 l2 l3 l4 : Option Value) (st : List Value) (h : pb_H) (Q : Option Value → pb_H → Prop) (x : Nat), pb_R 106 87 [some (.ref x), l1, l2, l3, l4] [] st h Q ↔ pb_R 106 88 [some (.ref x), l1, l2, l3, l4] [] (.ref x :: st) h Q) ∧
  (∀ (l1 l2 l3 l4 : Option Value) (st : List Value) (h : pb_H) (Q : Option Value → pb_H → Prop), pb_R 106 87 [some .null, l1, l2, l3, l4] [] st h Q ↔ pb_R 106 88 [some .null, l1, l2, l3, l4] [] (.null :: st) h Q) ∧
  (∀ (L : pb_L) (J : pb_J) (st : List Value) (h : pb_H) (Q : Option Value → pb_H → Prop) (a : Nat), pb_R 106 88 L J (.ref a :: st) h Q ↔ pb_o (pb_gf (h.2 a) 6 12) (fun v => pb_R 106 91 L J (v :: st) h Q)) ∧
  (∀ (L : pb_L) (J : pb_J) (h : pb_H) (Q : Option Value → pb_H → Prop) (x0 : Nat), pb_R 106 91 L J [.ref x0] h Q ↔ pb_call 104 [.ref x0] h (fun v t => pb_R 106 94 L J (v.toList ++ []) t Q)) ∧
  (∀ (L : pb_L) (J : pb_J) (st : List Value) (h : pb_H) (Q : Option Value → pb_H → Prop) (x : Int32), pb_R 106 94 L J (.int x :: st) h Q ↔ if ¬ x = 0 then pb_R 106 114 L J st h Q else pb_R 106 97 L J st h Q) ∧
  (∀ (l1 l2 l3 l4 : Option Value) (st : List Value) (h : pb_H) (Q : Option Value → pb_H → Prop) (x : Nat), pb_R 106 97 [some (.ref x), l1, l2, l3, l4] [] st h Q ↔ pb_R 106 98 [some (.ref x), l1, l2, l3, l4] [] (.ref x :: st) h Q) ∧
  (∀ (l1 l2 l3 l4 : Option Value) (st : List Value) (h : pb_H) (Q : Option Value → pb_H → Prop), pb_R 106 97 [some .null, l1, l2, l3, l4] [] st h Q ↔ pb_R 106 98 [some .null, l1, l2, l3, l4] [] (.null :: st) h Q) ∧
  (∀ (L : pb_L) (J : pb_J) (st : List Value) (h : pb_H) (Q : Option Value → pb_H → Prop) (a : Nat), pb_R 106 98 L J (.ref a :: st) h Q ↔ pb_o (pb_gf (h.2 a) 6 10) (fun v => pb_R 106 101 L J (v :: st) h Q)) ∧
  (∀ (l1 l2 l3 l4 : Option Value) (st : List Value) (h : pb_H) (Q : Option Value → pb_H → Prop) (x : Nat), pb_R 106 101 [some (.ref x), l1, l2, l3, l4] [] st h Q ↔ pb_R 106 102 [some (.ref x), l1, l2, l3, l4] [] (.ref x :: st) h Q) ∧
  (∀ (l1 l2 l3 l4 : Option Value) (st : List Value) (h : pb_H) (Q : Option Value → pb_H → Prop), pb_R 106 101 [some .null, l1, l2, l3, l4] [] st h Q ↔ pb_R 106 102 [some .null, l1, l2, l3, l4] [] (.null :: st) h Q) ∧
  (∀ (L : pb_L) (J : pb_J) (st : List Value) (h : pb_H) (Q : Option Value → pb_H → Prop) (a : Nat), pb_R 106 102 L J (.ref a :: st) h Q ↔ pb_o (pb_gf (h.2 a) 6 11) (fun v => pb_R 106 105 L J (v :: st) h Q)) ∧
  (∀ (L : pb_L) (J : pb_J) (h : pb_H) (Q : Option Value → pb_H → Prop) (x0 : Nat) (x1 : Nat), pb_R 106 105 L J [.ref x0, .ref x1] h Q ↔ pb_is0 (h.2 x1) 4 = true ∧ pb_call 40 [.ref x1, .ref x0] h (fun v t => pb_R 106 108 L J (v.toList ++ []) t Q)) ∧
  (∀ (l1 l2 l3 l4 : Option Value) (st : List Value) (h : pb_H) (Q : Option Value → pb_H → Prop) (x : Nat), pb_R 106 108 [some (.ref x), l1, l2, l3, l4] [] st h Q ↔ pb_R 106 109 [some (.ref x), l1, l2, l3, l4] [] (.ref x :: st) h Q) ∧
  (∀ (l1 l2 l3 l4 : Option Value) (st : List Value) (h : pb_H) (Q : Option Value → pb_H → Prop), pb_R 106 108 [some .null, l1, l2, l3, l4] [] st h Q ↔ pb_R 106 109 [some .null, l1, l2, l3, l4] [] (.null :: st) h Q) ∧
  (∀ (L : pb_L) (J : pb_J) (st : List Value) (h : pb_H) (Q : Option Value → pb_H → Prop), pb_R 106 109 L J st h Q ↔ pb_R 106 111 L J (.int (100 : Int32) :: st) h Q) ∧
  (∀ (L : pb_L) (J : pb_J) (h : pb_H) (Q : Option Value → pb_H → Prop) (x0 : Int32) (x1 : Nat), pb_R 106 111 L J [.int x0, .ref x1] h Q ↔ pb_is0 (h.2 x1) 6 = true ∧ pb_call 105 [.ref x1, .int x0] h (fun v t => pb_R 106 114 L J (v.toList ++ []) t Q)) ∧
  (∀ (l1 l2 l3 l4 : Option Value) (st : List Value) (h : pb_H) (Q : Option Value → pb_H → Prop) (x : Nat), pb_R 106 114 [some (.ref x), l1, l2, l3, l4] [] st h Q ↔ pb_R 106 115 [some (.ref x), l1, l2, l3, l4] [] (.ref x :: st) h Q) ∧
  (∀ (l1 l2 l3 l4 : Option Value) (st : List Value) (h : pb_H) (Q : Option Value → pb_H → Prop), pb_R 106 114 [some .null, l1, l2, l3, l4] [] st h Q ↔ pb_R 106 115 [some .null, l1, l2, l3, l4] [] (.null :: st) h Q) ∧
  (∀ (L : pb_L) (J : pb_J) (st : List Value) (h : pb_H) (Q : Option Value → pb_H → Prop) (a : Nat), pb_R 106 115 L J (.ref a :: st) h Q ↔ pb_o (pb_gf (h.2 a) 6 10) (fun v => pb_R 106 118 L J (v :: st) h Q)) ∧
  (∀ (L : pb_L) (J : pb_J) (h : pb_H) (Q : Option Value → pb_H → Prop) (x0 : Nat), pb_R 106 118 L J [.ref x0] h Q ↔ pb_is0 (h.2 x0) 4 = true ∧ pb_call 66 [.ref x0] h (fun v t => pb_R 106 121 L J (v.toList ++ []) t Q)) ∧
  (∀ (l1 l2 l3 l4 : Option Value) (st : List Value) (h : pb_H) (Q : Option Value → pb_H → Prop) (x : Nat), pb_R 106 121 [some (.ref x), l1, l2, l3, l4] [] st h Q ↔ pb_R 106 122 [some (.ref x), l1, l2, l3, l4] [] (.ref x :: st) h Q) ∧
  (∀ (l1 l2 l3 l4 : Option Value) (st : List Value) (h : pb_H) (Q : Option Value → pb_H → Prop), pb_R 106 121 [some .null, l1, l2, l3, l4] [] st h Q ↔ pb_R 106 122 [some .null, l1, l2, l3, l4] [] (.null :: st) h Q) ∧
  (∀ (L : pb_L) (J : pb_J) (st : List Value) (h : pb_H) (Q : Option Value → pb_H → Prop) (a : Nat), pb_R 106 122 L J (.ref a :: st) h Q ↔ pb_o (pb_gf (h.2 a) 6 2) (fun v => pb_R 106 125 L J (v :: st) h Q)) ∧
  (∀ (L : pb_L) (J : pb_J) (st : List Value) (h : pb_H) (Q : Option Value → pb_H → Prop), pb_R 106 125 L J st h Q ↔ pb_R 106 127 L J (.int (115 : Int32) :: st) h Q) ∧
  (∀ (L : pb_L) (J : pb_J) (h : pb_H) (Q : Option Value → pb_H → Prop) (x0 : Int32) (x1 : Nat), pb_R 106 127 L J [.int x0, .ref x1] h Q ↔ pb_is0 (h.2 x1) 0 = true ∧ pb_call 9 [.ref x1, .int x0] h (fun v t => pb_R 106 130 L J (v.toList ++ []) t Q)) ∧
  (∀ (L : pb_L) (J : pb_J) (st : List Value) (h : pb_H) (Q : Option Value → pb_H → Prop), pb_R 106 130 L J st h Q ↔ pb_R 106 131 L J (.int (1 : Int32) :: st) h Q) ∧
  (∀ (L : pb_L) (J : pb_J) (h : pb_H) (Q : Option Value → pb_H → Prop) (x : Int32), pb_R 106 131 L J [.int x] h Q ↔ narrow .boolean (.int x) = .int x ∧ Q (some (.int x)) h) := ⟨
  fun l1 l2 l3 l4 st h Q x => pf_S pb_u_106 rfl rfl,
  fun l1 l2 l3 l4 st h Q => pf_S pb_u_106 rfl rfl,
  fun L J st h Q a => pf_gf pb_u_106 rfl rfl,
  fun L J st h Q a => pf_gf pb_u_106 rfl rfl,
  fun l0 l2 l3 l4 st h Q x => pf_S pb_u_106 rfl rfl,
  fun L J st h Q a i => pf_ai pb_u_106 rfl rfl,
  fun l0 l1 l2 l3 l4 st h Q x => pf_S pb_u_106 rfl rfl,
  fun l1 l2 l3 l4 st h Q x => pf_S pb_u_106 rfl rfl,
  fun l1 l2 l3 l4 st h Q => pf_S pb_u_106 rfl rfl,
  fun L J st h Q a => pf_gf pb_u_106 rfl rfl,
  fun l0 l1 l2 l4 st h Q x => pf_S pb_u_106 rfl rfl,
  fun L J h Q x0 x1 => pf_kv pb_u_106 rfl pb_ci_46 rfl ⟨Nat.le_of_ble_eq_true rfl, Nat.le_of_ble_eq_true rfl, Nat.le_of_ble_eq_true rfl, Nat.le_of_ble_eq_true rfl, rfl⟩ rfl rfl,
  fun l0 l1 l2 l3 l4 st h Q x => pf_S pb_u_106 rfl rfl,
  fun l0 l1 l2 l3 l4 st h Q => pf_S pb_u_106 rfl rfl,
  fun l0 l1 l2 l3 st h Q x => pf_S pb_u_106 rfl rfl,
  fun l0 l1 l2 l3 st h Q => pf_S pb_u_106 rfl rfl,
  fun L J st h Q => pf_S pb_u_106 rfl rfl,
  fun L J st h Q x => pf_S pb_u_106 rfl rfl,
  fun L J st h Q => pf_S pb_u_106 rfl rfl,
  fun L J h Q x => pf_rz pb_u_106 rfl rfl,
  fun l1 l2 l3 l4 st h Q x => pf_S pb_u_106 rfl rfl,
  fun l1 l2 l3 l4 st h Q => pf_S pb_u_106 rfl rfl,
  fun L J st h Q a => pf_gf pb_u_106 rfl rfl,
  fun l0 l1 l2 l3 st h Q x => pf_S pb_u_106 rfl rfl,
  fun l0 l1 l2 l3 st h Q => pf_S pb_u_106 rfl rfl,
  fun L J h Q x0 x1 => pf_kv pb_u_106 rfl pb_ci_48 rfl ⟨Nat.le_of_ble_eq_true rfl, Nat.le_of_ble_eq_true rfl, Nat.le_of_ble_eq_true rfl, Nat.le_of_ble_eq_true rfl, rfl⟩ rfl rfl,
  fun l1 l2 l3 l4 st h Q x => pf_S pb_u_106 rfl rfl,
  fun l1 l2 l3 l4 st h Q => pf_S pb_u_106 rfl rfl,
  fun L J st h Q a => pf_gf pb_u_106 rfl rfl,
  fun L J st h Q => pf_S pb_u_106 rfl rfl,
  fun L J h Q x0 x1 => pf_kv pb_u_106 rfl pb_ci_2 rfl ⟨Nat.le_of_ble_eq_true rfl, Nat.le_of_ble_eq_true rfl, Nat.le_of_ble_eq_true rfl, Nat.le_of_ble_eq_true rfl, rfl⟩ rfl rfl,
  fun l1 l2 l3 l4 st h Q x => pf_S pb_u_106 rfl rfl,
  fun l1 l2 l3 l4 st h Q => pf_S pb_u_106 rfl rfl,
  fun L J st h Q a => pf_gf pb_u_106 rfl rfl,
  fun l0 l1 l2 l4 st h Q x => pf_S pb_u_106 rfl rfl,
  fun L J h Q x0 x1 => pf_kv pb_u_106 rfl pb_ci_8 rfl ⟨Nat.le_of_ble_eq_true rfl, Nat.le_of_ble_eq_true rfl, Nat.le_of_ble_eq_true rfl, Nat.le_of_ble_eq_true rfl, rfl⟩ rfl rfl,
  fun l1 l2 l3 l4 st h Q x => pf_S pb_u_106 rfl rfl,
  fun l1 l2 l3 l4 st h Q => pf_S pb_u_106 rfl rfl,
  fun L J st h Q a => pf_gf pb_u_106 rfl rfl,
  fun L J st h Q => pf_S pb_u_106 rfl rfl,
  fun l0 l1 l2 l3 st h Q x => pf_S pb_u_106 rfl rfl,
  fun l0 l1 l2 l3 st h Q => pf_S pb_u_106 rfl rfl,
  fun L J st h Q a => pf_gf pb_u_106 rfl rfl,
  fun l0 l1 l3 l4 st h Q x => pf_S pb_u_106 rfl rfl,
  fun L J st h Q => pf_S pb_u_106 rfl rfl,
  fun L J st x y h Q => pf_S pb_u_106 rfl rfl,
  fun L J h Q x0 x1 x2 x3 => pf_ks pb_u_106 rfl rfl rfl rfl,
  fun l1 l2 l3 l4 st h Q x => pf_S pb_u_106 rfl rfl,
  fun l1 l2 l3 l4 st h Q => pf_S pb_u_106 rfl rfl,
  fun L J st h Q a => pf_gf pb_u_106 rfl rfl,
  fun l1 l2 l3 l4 st h Q x => pf_S pb_u_106 rfl rfl,
  fun l1 l2 l3 l4 st h Q => pf_S pb_u_106 rfl rfl,
  fun L J st h Q a => pf_gf pb_u_106 rfl rfl,
  fun L J h Q x0 x1 => pf_kv pb_u_106 rfl pb_ci_31 rfl ⟨Nat.le_of_ble_eq_true rfl, Nat.le_of_ble_eq_true rfl, Nat.le_of_ble_eq_true rfl, Nat.le_of_ble_eq_true rfl, rfl⟩ rfl rfl,
  fun l1 l2 l3 l4 st h Q x => pf_S pb_u_106 rfl rfl,
  fun l1 l2 l3 l4 st h Q => pf_S pb_u_106 rfl rfl,
  fun l0 l2 l3 l4 st h Q x => pf_S pb_u_106 rfl rfl,
  fun l0 l1 l3 l4 st h Q x => pf_S pb_u_106 rfl rfl,
  fun L J h Q x0 x1 x2 => pf_kv pb_u_106 rfl pb_ci_103 rfl ⟨Nat.le_of_ble_eq_true rfl, Nat.le_of_ble_eq_true rfl, Nat.le_of_ble_eq_true rfl, Nat.le_of_ble_eq_true rfl, rfl⟩ rfl rfl,
  fun l1 l2 l3 l4 st h Q x => pf_S pb_u_106 rfl rfl,
  fun l1 l2 l3 l4 st h Q => pf_S pb_u_106 rfl rfl,
  fun L J st h Q a => pf_gf pb_u_106 rfl rfl,
  fun L J h Q x0 => pf_ks pb_u_106 rfl rfl rfl rfl,
  fun L J st h Q x => pf_ii pb_u_106 rfl rfl pf_ne,
  fun l1 l2 l3 l4 st h Q x => pf_S pb_u_106 rfl rfl,
  fun l1 l2 l3 l4 st h Q => pf_S pb_u_106 rfl rfl,
  fun L J st h Q a => pf_gf pb_u_106 rfl rfl,
  fun l1 l2 l3 l4 st h Q x => pf_S pb_u_106 rfl rfl,
  fun l1 l2 l3 l4 st h Q => pf_S pb_u_106 rfl rfl,
  fun L J st h Q a => pf_gf pb_u_106 rfl rfl,
  fun L J h Q x0 x1 => pf_kv pb_u_106 rfl pb_ci_40 rfl ⟨Nat.le_of_ble_eq_true rfl, Nat.le_of_ble_eq_true rfl, Nat.le_of_ble_eq_true rfl, Nat.le_of_ble_eq_true rfl, rfl⟩ rfl rfl,
  fun l1 l2 l3 l4 st h Q x => pf_S pb_u_106 rfl rfl,
  fun l1 l2 l3 l4 st h Q => pf_S pb_u_106 rfl rfl,
  fun L J st h Q => pf_S pb_u_106 rfl rfl,
  fun L J h Q x0 x1 => pf_kv pb_u_106 rfl pb_ci_105 rfl ⟨Nat.le_of_ble_eq_true rfl, Nat.le_of_ble_eq_true rfl, Nat.le_of_ble_eq_true rfl, Nat.le_of_ble_eq_true rfl, rfl⟩ rfl rfl,
  fun l1 l2 l3 l4 st h Q x => pf_S pb_u_106 rfl rfl,
  fun l1 l2 l3 l4 st h Q => pf_S pb_u_106 rfl rfl,
  fun L J st h Q a => pf_gf pb_u_106 rfl rfl,
  fun L J h Q x0 => pf_kv pb_u_106 rfl pb_ci_66 rfl ⟨Nat.le_of_ble_eq_true rfl, Nat.le_of_ble_eq_true rfl, Nat.le_of_ble_eq_true rfl, Nat.le_of_ble_eq_true rfl, rfl⟩ rfl rfl,
  fun l1 l2 l3 l4 st h Q x => pf_S pb_u_106 rfl rfl,
  fun l1 l2 l3 l4 st h Q => pf_S pb_u_106 rfl rfl,
  fun L J st h Q a => pf_gf pb_u_106 rfl rfl,
  fun L J st h Q => pf_S pb_u_106 rfl rfl,
  fun L J h Q x0 x1 => pf_kv pb_u_106 rfl pb_ci_9 rfl ⟨Nat.le_of_ble_eq_true rfl, Nat.le_of_ble_eq_true rfl, Nat.le_of_ble_eq_true rfl, Nat.le_of_ble_eq_true rfl, rfl⟩ rfl rfl,
  fun L J st h Q => pf_S pb_u_106 rfl rfl,
  fun L J h Q x => pf_rz pb_u_106 rfl rfl⟩
theorem pb_c106 (x0 : Nat) (x1 : Int32) (x2 : Int32) (h : pb_H) (Q : Option Value → pb_H → Prop) : pb_call 106 [.ref x0, .int x1, .int x2] h Q ↔ pb_R 106 0 [some (.ref x0), some (.int x1), some (.int x2), none, none] [] [] h Q := Iff.rfl
/-! 107: PlaneBench$Search.addReason(I)Z -/
theorem pb_u_107 : pb_t 107 = pb_t107 := rfl
theorem pb_ci_107 : pb_ci 107 = 6 := by decide +kernel
set_option maxRecDepth 100000 in
theorem pb_e107 : (∀ (l1 : Option Value) (st : List Value) (h : pb_H) (Q : Option Value → pb_H → Prop) (x : Nat), pb_R 107 0 [some (.ref x), l1] [] st h Q ↔ pb_R 107 1 [some (.ref x), l1] [] (.ref x :: st) h Q) ∧
  (∀ (l1 : Option Value) (st : List Value) (h : pb_H) (Q : Option Value → pb_H → Prop), pb_R 107 0 [some .null, l1] [] st h Q ↔ pb_R 107 1 [some .null, l1] [] (.null :: st) h Q) ∧
  (∀ (L : pb_L) (J : pb_J) (st : List Value) (h : pb_H) (Q : Option Value → pb_H → Prop) (a : Nat), pb_R 107 1 L J (.ref a :: st) h Q ↔ pb_o (pb_gf (h.2 a) 6 12) (fun v => pb_R 107 4 L J (v :: st) h Q)) ∧
  (∀ (L : pb_L) (J : pb_J) (st : List Value) (h : pb_H) (Q : Option Value → pb_H → Prop), pb_R 107 4 L J st h Q ↔ pb_R 107 5 L J (.int (0 : Int32) :: st) h Q) ∧
  (∀ (l1 : Option Value) (st : List Value) (h : pb_H) (Q : Option Value → pb_H → Prop) (x : Nat), pb_R 107 5 [some (.ref x), l1] [] st h Q ↔ pb_R 107 6 [some (.ref x), l1] [] (.ref x :: st) h Q) ∧
  (∀ (l1 : Option Value) (st : List Value) (h : pb_H) (Q : Option Value → pb_H → Prop), pb_R 107 5 [some .null, l1] [] st h Q ↔ pb_R 107 6 [some .null, l1] [] (.null :: st) h Q) ∧
  (∀ (L : pb_L) (J : pb_J) (st : List Value) (h : pb_H) (Q : Option Value → pb_H → Prop) (a : Nat), pb_R 107 6 L J (.ref a :: st) h Q ↔ pb_o (pb_gf (h.2 a) 6 9) (fun v => pb_R 107 9 L J (v :: st) h Q)) ∧
  (∀ (L : pb_L) (J : pb_J) (st : List Value) (h : pb_H) (Q : Option Value → pb_H → Prop) (a : Nat), pb_R 107 9 L J (.ref a :: st) h Q ↔ pb_o (pb_gf (h.2 a) 4 1) (fun v => pb_R 107 12 L J (v :: st) h Q)) ∧
  (∀ (l0 : Option Value) (st : List Value) (h : pb_H) (Q : Option Value → pb_H → Prop) (x : Int32), pb_R 107 12 [l0, some (.int x)] [] st h Q ↔ pb_R 107 13 [l0, some (.int x)] [] (.int x :: st) h Q) ∧
  (∀ (L : pb_L) (J : pb_J) (st : List Value) (h : pb_H) (Q : Option Value → pb_H → Prop), pb_R 107 13 L J st h Q ↔ pb_R 107 15 L J (.int (8 : Int32) :: st) h Q) ∧
  (∀ (L : pb_L) (J : pb_J) (st : List Value) (x y : Int32) (h : pb_H) (Q : Option Value → pb_H → Prop), pb_R 107 15 L J (.int y :: .int x :: st) h Q ↔ pb_R 107 16 L J (.int (x * y) :: st) h Q) ∧
  (∀ (L : pb_L) (J : pb_J) (h : pb_H) (Q : Option Value → pb_H → Prop) (x0 : Int32) (x1 : Nat) (x2 : Int32) (x3 : Nat), pb_R 107 16 L J [.int x0, .ref x1, .int x2, .ref x3] h Q ↔ pb_call 42 [.ref x3, .int x2, .ref x1, .int x0] h (fun v t => pb_R 107 19 L J (v.toList ++ []) t Q)) ∧
  (∀ (l1 : Option Value) (st : List Value) (h : pb_H) (Q : Option Value → pb_H → Prop) (x : Nat), pb_R 107 19 [some (.ref x), l1] [] st h Q ↔ pb_R 107 20 [some (.ref x), l1] [] (.ref x :: st) h Q) ∧
  (∀ (l1 : Option Value) (st : List Value) (h : pb_H) (Q : Option Value → pb_H → Prop), pb_R 107 19 [some .null, l1] [] st h Q ↔ pb_R 107 20 [some .null, l1] [] (.null :: st) h Q) ∧
  (∀ (L : pb_L) (J : pb_J) (st : List Value) (h : pb_H) (Q : Option Value → pb_H → Prop) (a : Nat), pb_R 107 20 L J (.ref a :: st) h Q ↔ pb_o (pb_gf (h.2 a) 6 12) (fun v => pb_R 107 23 L J (v :: st) h Q)) ∧
  (∀ (L : pb_L) (J : pb_J) (h : pb_H) (Q : Option Value → pb_H → Prop) (x0 : Nat), pb_R 107 23 L J [.ref x0] h Q ↔ pb_call 104 [.ref x0] h (fun v t => pb_R 107 26 L J (v.toList ++ []) t Q)) ∧
  (∀ (L : pb_L) (J : pb_J) (st : List Value) (h : pb_H) (Q : Option Value → pb_H → Prop) (x : Int32), pb_R 107 26 L J (.int x :: st) h Q ↔ if ¬ x = 0 then pb_R 107 55 L J st h Q else pb_R 107 29 L J st h Q) ∧
  (∀ (l1 : Option Value) (st : List Value) (h : pb_H) (Q : Option Value → pb_H → Prop) (x : Nat), pb_R 107 29 [some (.ref x), l1] [] st h Q ↔ pb_R 107 30 [some (.ref x), l1] [] (.ref x :: st) h Q) ∧
  (∀ (l1 : Option Value) (st : List Value) (h : pb_H) (Q : Option Value → pb_H → Prop), pb_R 107 29 [some .null, l1] [] st h Q ↔ pb_R 107 30 [some .null, l1] [] (.null :: st) h Q) ∧
  (∀ (L : pb_L) (J : pb_J) (st : List Value) (h : pb_H) (Q : Option Value → pb_H → Prop) (a : Nat), pb_R 107 30 L J (.ref a :: st) h Q ↔ pb_o (pb_gf (h.2 a) 6 10) (fun v => pb_R 107 33 L J (v :: st) h Q)) ∧
  (∀ (l1 : Option Value) (st : List Value) (h : pb_H) (Q : Option Value → pb_H → Prop) (x : Nat), pb_R 107 33 [some (.ref x), l1] [] st h Q ↔ pb_R 107 34 [some (.ref x), l1] [] (.ref x :: st) h Q) ∧
  (∀ (l1 : Option Value) (st : List Value) (h : pb_H) (Q : Option Value → pb_H → Prop), pb_R 107 33 [some .null, l1] [] st h Q ↔ pb_R 107 34 [some .null, l1] [] (.null :: st) h Q) ∧
  (∀ (L : pb_L) (J : pb_J) (st : List Value) (h : pb_H) (Q : Option Value → pb_H → Prop) (a : Nat), pb_R 107 34 L J (.ref a :: st) h Q ↔ pb_o (pb_gf (h.2 a) 6 12) (fun v => pb_R 107 37 L J (v :: st) h Q)) ∧
  (∀ (l1 : Option Value) (st : List Value) (h : pb_H) (Q : Option Value → pb_H → Prop) (x : Nat), pb_R 107 37 [some (.ref x), l1] [] st h Q ↔ pb_R 107 38 [some (.ref x), l1] [] (.ref x :: st) h Q) ∧
  (∀ (l1 : Option Value) (st : List Value) (h : pb_H) (Q : Option Value → pb_H → Prop), pb_R 107 37 [some .null, l1] [] st h Q ↔ pb_R 107 38 [some .null, l1] [] (.null :: st) h Q) ∧
  (∀ (L : pb_L) (J : pb_J) (st : List Value) (h : pb_H) (Q : Option Value → pb_H → Prop) (a : Nat), pb_R 107 38 L J (.ref a :: st) h Q ↔ pb_o (pb_gf (h.2 a) 6 14) (fun v => pb_R 107 41 L J (v :: st) h Q)) ∧
  (∀ (L : pb_L) (J : pb_J) (h : pb_H) (Q : Option Value → pb_H → Prop) (x0 : Nat) (x1 : Nat) (x2 : Nat), pb_R 107 41 L J [.ref x0, .ref x1, .ref x2] h Q ↔ pb_is0 (h.2 x2) 4 = true ∧ pb_call 43 [.ref x2, .ref x1, .ref x0] h (fun v t => pb_R 107 44 L J (v.toList ++ []) t Q)) ∧
  (∀ (L : pb_L) (J : pb_J) (st : List Value) (h : pb_H) (Q : Option Value → pb_H → Prop) (x : Int32), pb_R 107 44 L J (.int x :: st) h Q ↔ if ¬ x = 0 then pb_R 107 49 L J st h Q else pb_R 107 47 L J st h Q) ∧
  (∀ (L : pb_L) (J : pb_J) (st : List Value) (h : pb_H) (Q : Option Value → pb_H → Prop), pb_R 107 47 L J st h Q ↔ pb_R 107 48 L J (.int (0 : Int32) :: st) h Q) ∧
  (∀ (L : pb_L) (J : pb_J) (h : pb_H) (Q : Option Value → pb_H → Prop) (x : Int32), pb_R 107 48 L J [.int x] h Q ↔ narrow .boolean (.int x) = .int x ∧ Q (some (.int x)) h) ∧
  (∀ (l1 : Option Value) (st : List Value) (h : pb_H) (Q : Option Value → pb_H → Prop) (x : Nat), pb_R 107 49 [some (.ref x), l1] [] st h Q ↔ pb_R 107 50 [some (.ref x), l1] [] (.ref x :: st) h Q) ∧
  (∀ (l1 : Option Value) (st : List Value) (h : pb_H) (Q : Option Value → pb_H → Prop), pb_R 107 49 [some .null, l1] [] st h Q ↔ pb_R 107 50 [some .null, l1] [] (.null :: st) h Q) ∧
  (∀ (L : pb_L) (J : pb_J) (st : List Value) (h : pb_H) (Q : Option Value → pb_H → Prop), pb_R 107 50 L J st h Q ↔ pb_R 107 52 L J (.int (42 : Int32) :: st) h Q) ∧
  (∀ (L : pb_L) (J : pb_J) (h : pb_H) (Q : Option Value → pb_H → Prop) (x0 : Int32) (x1 : Nat), pb_R 107 52 L J [.int x0, .ref x1] h Q ↔ pb_is0 (h.2 x1) 6 = true ∧ pb_call 105 [.ref x1, .int x0] h (fun v t => pb_R 107 55 L J (v.toList ++ []) t Q)) ∧
  (∀ (l1 : Option Value) (st : List Value) (h : pb_H) (Q : Option Value → pb_H → Prop) (x : Nat), pb_R 107 55 [some (.ref x), l1] [] st h Q ↔ pb_R 107 56 [some (.ref x), l1] [] (.ref x :: st) h Q) ∧
  (∀ (l1 : Option Value) (st : List Value) (h : pb_H) (Q : Option Value → pb_H → Prop), pb_R 107 55 [some .null, l1] [] st h Q ↔ pb_R 107 56 [some .null, l1] [] (.null :: st) h Q) ∧
  (∀ (L : pb_L) (J : pb_J) (st : List Value) (h : pb_H) (Q : Option Value → pb_H → Prop) (a : Nat), pb_R 107 56 L J (.ref a :: st) h Q ↔ pb_o (pb_gf (h.2 a) 6 9) (fun v => pb_R 107 59 L J (v :: st) h Q)) ∧
  (∀ (l1 : Option Value) (st : List Value) (h : pb_H) (Q : Option Value → pb_H → Prop) (x : Nat), pb_R 107 59 [some (.ref x), l1] [] st h Q ↔ pb_R 107 60 [some (.ref x), l1] [] (.ref x :: st) h Q) ∧
  (∀ (l1 : Option Value) (st : List Value) (h : pb_H) (Q : Option Value → pb_H → Prop), pb_R 107 59 [some .null, l1] [] st h Q ↔ pb_R 107 60 [some .null, l1] [] (.null :: st) h Q) ∧
  (∀ (L : pb_L) (J : pb_J) (st : List Value) (h : pb_H) (Q : Option Value → pb_H → Prop) (a : Nat), pb_R 107 60 L J (.ref a :: st) h Q ↔ pb_o (pb_gf (h.2 a) 6 10) (fun v => pb_R 107 63 L J (v :: st) h Q)) ∧
  (∀ (L : pb_L) (J : pb_J) (h : pb_H) (Q : Option Value → pb_H → Prop) (x0 : Nat) (x1 : Nat), pb_R 107 63 L J [.ref x0, .ref x1] h Q ↔ pb_is0 (h.2 x1) 4 = true ∧ pb_call 64 [.ref x1, .ref x0] h (fun v t => pb_R 107 66 L J (v.toList ++ []) t Q)) ∧
  (∀ (L : pb_L) (J : pb_J) (st : List Value) (h : pb_H) (Q : Option Value → pb_H → Prop) (x : Int32), pb_R 107 66 L J (.int x :: st) h Q ↔ if ¬ x = 0 then pb_R 107 71 L J st h Q else pb_R 107 69 L J st h Q) ∧
  (∀ (L : pb_L) (J : pb_J) (st : List Value) (h : pb_H) (Q : Option Value → pb_H → Prop), pb_R 107 69 L J st h Q ↔ pb_R 107 70 L J (.int (0 : Int32) :: st) h Q) ∧
  (∀ (L : pb_L) (J : pb_J) (h : pb_H) (Q : Option Value → pb_H → Prop) (x : Int32), pb_R 107 70 L J [.int x] h Q ↔ narrow .boolean (.int x) = .int x ∧ Q (some (.int x)) h) ∧
  (∀ (l1 : Option Value) (st : List Value) (h : pb_H) (Q : Option Value → pb_H → Prop) (x : Nat), pb_R 107 71 [some (.ref x), l1] [] st h Q ↔ pb_R 107 72 [some (.ref x), l1] [] (.ref x :: st) h Q) ∧
  (∀ (l1 : Option Value) (st : List Value) (h : pb_H) (Q : Option Value → pb_H → Prop), pb_R 107 71 [some .null, l1] [] st h Q ↔ pb_R 107 72 [some .null, l1] [] (.null :: st) h Q) ∧
  (∀ (L : pb_L) (J : pb_J) (st : List Value) (h : pb_H) (Q : Option Value → pb_H → Prop) (a : Nat), pb_R 107 72 L J (.ref a :: st) h Q ↔ pb_o (pb_gf (h.2 a) 6 9) (fun v => pb_R 107 75 L J (v :: st) h Q)) ∧
  (∀ (L : pb_L) (J : pb_J) (h : pb_H) (Q : Option Value → pb_H → Prop) (x0 : Nat), pb_R 107 75 L J [.ref x0] h Q ↔ pb_is0 (h.2 x0) 4 = true ∧ pb_call 66 [.ref x0] h (fun v t => pb_R 107 78 L J (v.toList ++ []) t Q)) ∧
  (∀ (l1 : Option Value) (st : List Value) (h : pb_H) (Q : Option Value → pb_H → Prop) (x : Nat), pb_R 107 78 [some (.ref x), l1] [] st h Q ↔ pb_R 107 79 [some (.ref x), l1] [] (.ref x :: st) h Q) ∧
  (∀ (l1 : Option Value) (st : List Value) (h : pb_H) (Q : Option Value → pb_H → Prop), pb_R 107 78 [some .null, l1] [] st h Q ↔ pb_R 107 79 [some .null, l1] [] (.null :: st) h Q) ∧
  (∀ (L : pb_L) (J : pb_J) (st : List Value) (h : pb_H) (Q : Option Value → pb_H → Prop) (a : Nat), pb_R 107 79 L J (.ref a :: st) h Q ↔ pb_o (pb_gf (h.2 a) 6 2) (fun v => pb_R 107 82 L J (v :: st) h Q)) ∧
  (∀ (L : pb_L) (J : pb_J) (st : List Value) (h : pb_H) (Q : Option Value → pb_H → Prop), pb_R 107 82 L J st h Q ↔ pb_R 107 84 L J (.int (43 : Int32) :: st) h Q) ∧
  (∀ (L : pb_L) (J : pb_J) (h : pb_H) (Q : Option Value → pb_H → Prop) (x0 : Int32) (x1 : Nat), pb_R 107 84 L J [.int x0, .ref x1] h Q ↔ pb_is0 (h.2 x1) 0 = true ∧ pb_call 9 [.ref x1, .int x0] h (fun v t => pb_R 107 87 L J (v.toList ++ []) t Q)) ∧
  (∀ (l1 : Option Value) (st : List Value) (h : pb_H) (Q : Option Value → pb_H → Prop) (x : Nat), pb_R 107 87 [some (.ref x), l1] [] st h Q ↔ pb_R 107 88 [some (.ref x), l1] [] (.ref x :: st) h Q) ∧
  (∀ (l1 : Option Value) (st : List Value) (h : pb_H) (Q : Option Value → pb_H → Prop), pb_R 107 87 [some .null, l1] [] st h Q ↔ pb_R 107 88 [some .null, l1] [] (.null :: st) h Q) ∧
  (∀ (L : pb_L) (J : pb_J) (st : List Value) (h : pb_H) (Q : Option Value → pb_H → Prop) (a : Nat), pb_R 107 88 L J (.ref a :: st) h Q ↔ pb_o (pb_gf (h.2 a) 6 2) (fun v => pb_R 107 91 L J (v :: st) h Q)) ∧
  (∀ (L : pb_L) (J : pb_J) (st : List Value) (h : pb_H) (Q : Option Value → pb_H → Prop), pb_R 107 91 L J st h Q ↔ pb_R 107 93 L J (.int (115 : Int32) :: st) h Q) ∧
  (∀ (L : pb_L) (J : pb_J) (h : pb_H) (Q : Option Value → pb_H → Prop) (x0 : Int32) (x1 : Nat), pb_R 107 93 L J [.int x0, .ref x1] h Q ↔ pb_is0 (h.2 x1) 0 = true ∧ pb_call 9 [.ref x1, .int x0] h (fun v t => pb_R 107 96 L J (v.toList ++ []) t Q)) ∧
  (∀ (L : pb_L) (J : pb_J) (st : List Value) (h : pb_H) (Q : Option Value → pb_H → Prop), pb_R 107 96 L J st h Q ↔ pb_R 107 97 L J (.int (1 : Int32) :: st) h Q) ∧
  (∀ (L : pb_L) (J : pb_J) (h : pb_H) (Q : Option Value → pb_H → Prop) (x : Int32), pb_R 107 97 L J [.int x] h Q ↔ narrow .boolean (.int x) = .int x ∧ Q (some (.int x)) h) := ⟨
  fun l1 st h Q x => pf_S pb_u_107 rfl rfl,
  fun l1 st h Q => pf_S pb_u_107 rfl rfl,
  fun L J st h Q a => pf_gf pb_u_107 rfl rfl,
  fun L J st h Q => pf_S pb_u_107 rfl rfl,
  fun l1 st h Q x => pf_S pb_u_107 rfl rfl,
  fun l1 st h Q => pf_S pb_u_107 rfl rfl,
  fun L J st h Q a => pf_gf pb_u_107 rfl rfl,
  fun L J st h Q a => pf_gf pb_u_107 rfl rfl,
  fun l0 st h Q x => pf_S pb_u_107 rfl rfl,
  fun L J st h Q => pf_S pb_u_107 rfl rfl,
  fun L J st x y h Q => pf_S pb_u_107 rfl rfl,
  fun L J h Q x0 x1 x2 x3 => pf_ks pb_u_107 rfl rfl rfl rfl,
  fun l1 st h Q x => pf_S pb_u_107 rfl rfl,
  fun l1 st h Q => pf_S pb_u_107 rfl rfl,
  fun L J st h Q a => pf_gf pb_u_107 rfl rfl,
  fun L J h Q x0 => pf_ks pb_u_107 rfl rfl rfl rfl,
  fun L J st h Q x => pf_ii pb_u_107 rfl rfl pf_ne,
  fun l1 st h Q x => pf_S pb_u_107 rfl rfl,
  fun l1 st h Q => pf_S pb_u_107 rfl rfl,
  fun L J st h Q a => pf_gf pb_u_107 rfl rfl,
  fun l1 st h Q x => pf_S pb_u_107 rfl rfl,
  fun l1 st h Q => pf_S pb_u_107 rfl rfl,
  fun L J st h Q a => pf_gf pb_u_107 rfl rfl,
  fun l1 st h Q x => pf_S pb_u_107 rfl rfl,
  fun l1 st h Q => pf_S pb_u_107 rfl rfl,
  fun L J st h Q a => pf_gf pb_u_107 rfl rfl,
  fun L J h Q x0 x1 x2 => pf_kv pb_u_107 rfl pb_ci_43 rfl ⟨Nat.le_of_ble_eq_true rfl, Nat.le_of_ble_eq_true rfl, Nat.le_of_ble_eq_true rfl, Nat.le_of_ble_eq_true rfl, rfl⟩ rfl rfl,
  fun L J st h Q x => pf_ii pb_u_107 rfl rfl pf_ne,
  fun L J st h Q => pf_S pb_u_107 rfl rfl,
  fun L J h Q x => pf_rz pb_u_107 rfl rfl,
  fun l1 st h Q x => pf_S pb_u_107 rfl rfl,
  fun l1 st h Q => pf_S pb_u_107 rfl rfl,
  fun L J st h Q => pf_S pb_u_107 rfl rfl,
  fun L J h Q x0 x1 => pf_kv pb_u_107 rfl pb_ci_105 rfl ⟨Nat.le_of_ble_eq_true rfl, Nat.le_of_ble_eq_true rfl, Nat.le_of_ble_eq_true rfl, Nat.le_of_ble_eq_true rfl, rfl⟩ rfl rfl,
  fun l1 st h Q x => pf_S pb_u_107 rfl rfl,
  fun l1 st h Q => pf_S pb_u_107 rfl rfl,
  fun L J st h Q a => pf_gf pb_u_107 rfl rfl,
  fun l1 st h Q x => pf_S pb_u_107 rfl rfl,
  fun l1 st h Q => pf_S pb_u_107 rfl rfl,
  fun L J st h Q a => pf_gf pb_u_107 rfl rfl,
  fun L J h Q x0 x1 => pf_kv pb_u_107 rfl pb_ci_64 rfl ⟨Nat.le_of_ble_eq_true rfl, Nat.le_of_ble_eq_true rfl, Nat.le_of_ble_eq_true rfl, Nat.le_of_ble_eq_true rfl, rfl⟩ rfl rfl,
  fun L J st h Q x => pf_ii pb_u_107 rfl rfl pf_ne,
  fun L J st h Q => pf_S pb_u_107 rfl rfl,
  fun L J h Q x => pf_rz pb_u_107 rfl rfl,
  fun l1 st h Q x => pf_S pb_u_107 rfl rfl,
  fun l1 st h Q => pf_S pb_u_107 rfl rfl,
  fun L J st h Q a => pf_gf pb_u_107 rfl rfl,
  fun L J h Q x0 => pf_kv pb_u_107 rfl pb_ci_66 rfl ⟨Nat.le_of_ble_eq_true rfl, Nat.le_of_ble_eq_true rfl, Nat.le_of_ble_eq_true rfl, Nat.le_of_ble_eq_true rfl, rfl⟩ rfl rfl,
  fun l1 st h Q x => pf_S pb_u_107 rfl rfl,
  fun l1 st h Q => pf_S pb_u_107 rfl rfl,
  fun L J st h Q a => pf_gf pb_u_107 rfl rfl,
  fun L J st h Q => pf_S pb_u_107 rfl rfl,
  fun L J h Q x0 x1 => pf_kv pb_u_107 rfl pb_ci_9 rfl ⟨Nat.le_of_ble_eq_true rfl, Nat.le_of_ble_eq_true rfl, Nat.le_of_ble_eq_true rfl, Nat.le_of_ble_eq_true rfl, rfl⟩ rfl rfl,
  fun l1 st h Q x => pf_S pb_u_107 rfl rfl,
  fun l1 st h Q => pf_S pb_u_107 rfl rfl,
  fun L J st h Q a => pf_gf pb_u_107 rfl rfl,
  fun L J st h Q => pf_S pb_u_107 rfl rfl,
  fun L J h Q x0 x1 => pf_kv pb_u_107 rfl pb_ci_9 rfl ⟨Nat.le_of_ble_eq_true rfl, Nat.le_of_ble_eq_true rfl, Nat.le_of_ble_eq_true rfl, Nat.le_of_ble_eq_true rfl, rfl⟩ rfl rfl,
  fun L J st h Q => pf_S pb_u_107 rfl rfl,
  fun L J h Q x => pf_rz pb_u_107 rfl rfl⟩
theorem pb_c107 (x0 : Nat) (x1 : Int32) (h : pb_H) (Q : Option Value → pb_H → Prop) : pb_call 107 [.ref x0, .int x1] h Q ↔ pb_R 107 0 [some (.ref x0), some (.int x1)] [] [] h Q := Iff.rfl
/-! 108: PlaneBench$Search.resolve(ILPlaneBench$Line;)Z -/
theorem pb_u_108 : pb_t 108 = pb_t108 := rfl
theorem pb_ci_108 : pb_ci 108 = 6 := by decide +kernel
set_option maxRecDepth 100000 in
theorem pb_q108_70 (l0 l1 l2 l3 l5 : Option Value) (st : List Value) (h : pb_H) (Q : Option Value → pb_H → Prop) (x : Int32) : pb_R 108 70 [l0, l1, l2, l3, some (.int x), l5] [] st h Q ↔ pb_R 108 72 [l0, l1, l2, l3, some (.int x), l5] [] (.int x :: st) h Q := pf_S pb_u_108 rfl rfl
set_option maxRecDepth 100000 in
theorem pb_e108 : (∀ (l1 l2 l3 l4 l5 : Option Value) (st : List Value) (h : pb_H) (Q : Option Value → pb_H → Prop) (x : Nat), pb_R 108 0 [some (.ref x), l1, l2, l3, l4, l5] [] st h Q ↔ pb_R 108 1 [some (.ref x), l1, l2, l3, l4, l5] [] (.ref x :: st) h Q) ∧
  (∀ (l1 l2 l3 l4 l5 : Option Value) (st : List Value) (h : pb_H) (Q : Option Value → pb_H → Prop), pb_R 108 0 [some .null, l1, l2, l3, l4, l5] [] st h Q ↔ pb_R 108 1 [some .null, l1, l2, l3, l4, l5] [] (.null :: st) h Q) ∧
  (∀ (l1 l2 l3 l4 l5 : Option Value) (st : List Value) (h : pb_H) (Q : Option Value → pb_H → Prop) (x : Nat), pb_R 108 1 [some (.ref x), l1, l2, l3, l4, l5] [] st h Q ↔ pb_R 108 2 [some (.ref x), l1, l2, l3, l4, l5] [] (.ref x :: st) h Q) ∧
  (∀ (l1 l2 l3 l4 l5 : Option Value) (st : List Value) (h : pb_H) (Q : Option Value → pb_H → Prop), pb_R 108 1 [some .null, l1, l2, l3, l4, l5] [] st h Q ↔ pb_R 108 2 [some .null, l1, l2, l3, l4, l5] [] (.null :: st) h Q) ∧
  (∀ (L : pb_L) (J : pb_J) (st : List Value) (h : pb_H) (Q : Option Value → pb_H → Prop) (a : Nat), pb_R 108 2 L J (.ref a :: st) h Q ↔ pb_o (pb_gf (h.2 a) 6 2) (fun v => pb_R 108 5 L J (v :: st) h Q)) ∧
  (∀ (L : pb_L) (J : pb_J) (st : List Value) (h : pb_H) (Q : Option Value → pb_H → Prop) (a : Nat), pb_R 108 5 L J (.ref a :: st) h Q ↔ pb_o (pb_gf (h.2 a) 0 2) (fun v => pb_R 108 8 L J (v :: st) h Q)) ∧
  (∀ (L : pb_L) (J : pb_J) (st : List Value) (h : pb_H) (Q : Option Value → pb_H → Prop) (a : Nat) (x : Int32), pb_R 108 8 L J (.int x :: .ref a :: st) h Q ↔ pb_o (pb_pf (h.2 a) 6 8 (.int x)) (fun c => pb_R 108 11 L J st (pb_set h a c) Q)) ∧
  (∀ (l1 l2 l3 l4 l5 : Option Value) (st : List Value) (h : pb_H) (Q : Option Value → pb_H → Prop) (x : Nat), pb_R 108 11 [some (.ref x), l1, l2, l3, l4, l5] [] st h Q ↔ pb_R 108 12 [some (.ref x), l1, l2, l3, l4, l5] [] (.ref x :: st) h Q) ∧
  (∀ (l1 l2 l3 l4 l5 : Option Value) (st : List Value) (h : pb_H) (Q : Option Value → pb_H → Prop), pb_R 108 11 [some .null, l1, l2, l3, l4, l5] [] st h Q ↔ pb_R 108 12 [some .null, l1, l2, l3, l4, l5] [] (.null :: st) h Q) ∧
  (∀ (L : pb_L) (J : pb_J) (st : List Value) (h : pb_H) (Q : Option Value → pb_H → Prop) (a : Nat), pb_R 108 12 L J (.ref a :: st) h Q ↔ pb_o (pb_gf (h.2 a) 6 9) (fun v => pb_R 108 15 L J (v :: st) h Q)) ∧
  (∀ (l0 l1 l3 l4 l5 : Option Value) (st : List Value) (h : pb_H) (Q : Option Value → pb_H → Prop) (x : Nat), pb_R 108 15 [l0, l1, some (.ref x), l3, l4, l5] [] st h Q ↔ pb_R 108 16 [l0, l1, some (.ref x), l3, l4, l5] [] (.ref x :: st) h Q) ∧
  (∀ (l0 l1 l3 l4 l5 : Option Value) (st : List Value) (h : pb_H) (Q : Option Value → pb_H → Prop), pb_R 108 15 [l0, l1, some .null, l3, l4, l5] [] st h Q ↔ pb_R 108 16 [l0, l1, some .null, l3, l4, l5] [] (.null :: st) h Q) ∧
  (∀ (L : pb_L) (J : pb_J) (h : pb_H) (Q : Option Value → pb_H → Prop) (x0 : Nat) (x1 : Nat), pb_R 108 16 L J [.ref x0, .ref x1] h Q ↔ pb_is0 (h.2 x1) 4 = true ∧ pb_call 48 [.ref x1, .ref x0] h (fun v t => pb_R 108 19 L J (v.toList ++ []) t Q)) ∧
  (∀ (l1 l2 l3 l4 l5 : Option Value) (st : List Value) (h : pb_H) (Q : Option Value → pb_H → Prop) (x : Nat), pb_R 108 19 [some (.ref x), l1, l2, l3, l4, l5] [] st h Q ↔ pb_R 108 20 [some (.ref x), l1, l2, l3, l4, l5] [] (.ref x :: st) h Q) ∧
  (∀ (l1 l2 l3 l4 l5 : Option Value) (st : List Value) (h : pb_H) (Q : Option Value → pb_H → Prop), pb_R 108 19 [some .null, l1, l2, l3, l4, l5] [] st h Q ↔ pb_R 108 20 [some .null, l1, l2, l3, l4, l5] [] (.null :: st) h Q) ∧
  (∀ (L : pb_L) (J : pb_J) (st : List Value) (h : pb_H) (Q : Option Value → pb_H → Prop) (a : Nat), pb_R 108 20 L J (.ref a :: st) h Q ↔ pb_o (pb_gf (h.2 a) 6 2) (fun v => pb_R 108 23 L J (v :: st) h Q)) ∧
  (∀ (L : pb_L) (J : pb_J) (st : List Value) (h : pb_H) (Q : Option Value → pb_H → Prop), pb_R 108 23 L J st h Q ↔ pb_R 108 25 L J (.int (112 : Int32) :: st) h Q) ∧
  (∀ (L : pb_L) (J : pb_J) (h : pb_H) (Q : Option Value → pb_H → Prop) (x0 : Int32) (x1 : Nat), pb_R 108 25 L J [.int x0, .ref x1] h Q ↔ pb_is0 (h.2 x1) 0 = true ∧ pb_call 2 [.ref x1, .int x0] h (fun v t => pb_R 108 28 L J (v.toList ++ []) t Q)) ∧
  (∀ (l1 l2 l3 l4 l5 : Option Value) (st : List Value) (h : pb_H) (Q : Option Value → pb_H → Prop) (x : Nat), pb_R 108 28 [some (.ref x), l1, l2, l3, l4, l5] [] st h Q ↔ pb_R 108 29 [some (.ref x), l1, l2, l3, l4, l5] [] (.ref x :: st) h Q) ∧
  (∀ (l1 l2 l3 l4 l5 : Option Value) (st : List Value) (h : pb_H) (Q : Option Value → pb_H → Prop), pb_R 108 28 [some .null, l1, l2, l3, l4, l5] [] st h Q ↔ pb_R 108 29 [some .null, l1, l2, l3, l4, l5] [] (.null :: st) h Q) ∧
  (∀ (L : pb_L) (J : pb_J) (st : List Value) (h : pb_H) (Q : Option Value → pb_H → Prop) (a : Nat), pb_R 108 29 L J (.ref a :: st) h Q ↔ pb_o (pb_gf (h.2 a) 6 2) (fun v => pb_R 108 32 L J (v :: st) h Q)) ∧
  (∀ (L : pb_L) (J : pb_J) (st : List Value) (h : pb_H) (Q : Option Value → pb_H → Prop), pb_R 108 32 L J st h Q ↔ pb_R 108 34 L J (.int (32 : Int32) :: st) h Q) ∧
  (∀ (L : pb_L) (J : pb_J) (h : pb_H) (Q : Option Value → pb_H → Prop) (x0 : Int32) (x1 : Nat), pb_R 108 34 L J [.int x0, .ref x1] h Q ↔ pb_is0 (h.2 x1) 0 = true ∧ pb_call 2 [.ref x1, .int x0] h (fun v t => pb_R 108 37 L J (v.toList ++ []) t Q)) ∧
  (∀ (l1 l2 l3 l4 l5 : Option Value) (st : List Value) (h : pb_H) (Q : Option Value → pb_H → Prop) (x : Nat), pb_R 108 37 [some (.ref x), l1, l2, l3, l4, l5] [] st h Q ↔ pb_R 108 38 [some (.ref x), l1, l2, l3, l4, l5] [] (.ref x :: st) h Q) ∧
  (∀ (l1 l2 l3 l4 l5 : Option Value) (st : List Value) (h : pb_H) (Q : Option Value → pb_H → Prop), pb_R 108 37 [some .null, l1, l2, l3, l4, l5] [] st h Q ↔ pb_R 108 38 [some .null, l1, l2, l3, l4, l5] [] (.null :: st) h Q) ∧
  (∀ (L : pb_L) (J : pb_J) (st : List Value) (h : pb_H) (Q : Option Value → pb_H → Prop) (a : Nat), pb_R 108 38 L J (.ref a :: st) h Q ↔ pb_o (pb_gf (h.2 a) 6 2) (fun v => pb_R 108 41 L J (v :: st) h Q)) ∧
  (∀ (l0 l2 l3 l4 l5 : Option Value) (st : List Value) (h : pb_H) (Q : Option Value → pb_H → Prop) (x : Int32), pb_R 108 41 [l0, some (.int x), l2, l3, l4, l5] [] st h Q ↔ pb_R 108 42 [l0, some (.int x), l2, l3, l4, l5] [] (.int x :: st) h Q) ∧
  (∀ (L : pb_L) (J : pb_J) (h : pb_H) (Q : Option Value → pb_H → Prop) (x0 : Int32) (x1 : Nat), pb_R 108 42 L J [.int x0, .ref x1] h Q ↔ pb_is0 (h.2 x1) 0 = true ∧ pb_call 8 [.ref x1, .int x0] h (fun v t => pb_R 108 45 L J (v.toList ++ []) t Q)) ∧
  (∀ (l1 l2 l3 l4 l5 : Option Value) (st : List Value) (h : pb_H) (Q : Option Value → pb_H → Prop) (x : Nat), pb_R 108 45 [some (.ref x), l1, l2, l3, l4, l5] [] st h Q ↔ pb_R 108 46 [some (.ref x), l1, l2, l3, l4, l5] [] (.ref x :: st) h Q) ∧
  (∀ (l1 l2 l3 l4 l5 : Option Value) (st : List Value) (h : pb_H) (Q : Option Value → pb_H → Prop), pb_R 108 45 [some .null, l1, l2, l3, l4, l5] [] st h Q ↔ pb_R 108 46 [some .null, l1, l2, l3, l4, l5] [] (.null :: st) h Q) ∧
  (∀ (L : pb_L) (J : pb_J) (h : pb_H) (Q : Option Value → pb_H → Prop) (x0 : Nat), pb_R 108 46 L J [.ref x0] h Q ↔ pb_is0 (h.2 x0) 6 = true ∧ pb_call 102 [.ref x0] h (fun v t => pb_R 108 49 L J (v.toList ++ []) t Q)) ∧
  (∀ (L : pb_L) (J : pb_J) (st : List Value) (h : pb_H) (Q : Option Value → pb_H → Prop), pb_R 108 49 L J st h Q ↔ pb_R 108 50 L J (.int (-1 : Int32) :: st) h Q) ∧
  (∀ (L : pb_L) (J : pb_J) (st : List Value) (h : pb_H) (Q : Option Value → pb_H → Prop) (x y : Int32), pb_R 108 50 L J (.int y :: .int x :: st) h Q ↔ if x = y then pb_R 108 57 L J st h Q else pb_R 108 53 L J st h Q) ∧
  (∀ (L : pb_L) (J : pb_J) (st : List Value) (h : pb_H) (Q : Option Value → pb_H → Prop), pb_R 108 53 L J st h Q ↔ pb_R 108 54 L J (.int (1 : Int32) :: st) h Q) ∧
  (∀ (L : pb_L) (J : pb_J) (st : List Value) (h : pb_H) (Q : Option Value → pb_H → Prop), pb_R 108 54 L J st h Q ↔ pb_R 108 58 L J st h Q) ∧
  (∀ (L : pb_L) (J : pb_J) (st : List Value) (h : pb_H) (Q : Option Value → pb_H → Prop), pb_R 108 57 L J st h Q ↔ pb_R 108 58 L J (.int (0 : Int32) :: st) h Q) ∧
  (∀ (l0 l1 l2 l3 l4 l5 : Option Value) (st : List Value) (h : pb_H) (Q : Option Value → pb_H → Prop) (x : Int32), pb_R 108 58 [l0, l1, l2, l3, l4, l5] [] (.int x :: st) h Q ↔ pb_R 108 59 [l0, l1, l2, some (.int x), l4, l5] [] st h Q) ∧
  (∀ (l1 l2 l3 l4 l5 : Option Value) (st : List Value) (h : pb_H) (Q : Option Value → pb_H → Prop) (x : Nat), pb_R 108 59 [some (.ref x), l1, l2, l3, l4, l5] [] st h Q ↔ pb_R 108 60 [some (.ref x), l1, l2, l3, l4, l5] [] (.ref x :: st) h Q) ∧
  (∀ (l1 l2 l3 l4 l5 : Option Value) (st : List Value) (h : pb_H) (Q : Option Value → pb_H → Prop), pb_R 108 59 [some .null, l1, l2, l3, l4, l5] [] st h Q ↔ pb_R 108 60 [some .null, l1, l2, l3, l4, l5] [] (.null :: st) h Q) ∧
  (∀ (L : pb_L) (J : pb_J) (st : List Value) (h : pb_H) (Q : Option Value → pb_H → Prop) (a : Nat), pb_R 108 60 L J (.ref a :: st) h Q ↔ pb_o (pb_gf (h.2 a) 6 1) (fun v => pb_R 108 63 L J (v :: st) h Q)) ∧
  (∀ (L : pb_L) (J : pb_J) (st : List Value) (h : pb_H) (Q : Option Value → pb_H → Prop) (a : Nat), pb_R 108 63 L J (.ref a :: st) h Q ↔ pb_o (pb_gf (h.2 a) 9 4) (fun v => pb_R 108 66 L J (v :: st) h Q)) ∧
  (∀ (L : pb_L) (J : pb_J) (st : List Value) (h : pb_H) (Q : Option Value → pb_H → Prop), pb_R 108 66 L J st h Q ↔ pb_R 108 67 L J (.int (1 : Int32) :: st) h Q) ∧
  (∀ (L : pb_L) (J : pb_J) (st : List Value) (x y : Int32) (h : pb_H) (Q : Option Value → pb_H → Prop), pb_R 108 67 L J (.int y :: .int x :: st) h Q ↔ pb_R 108 68 L J (.int (x - y) :: st) h Q) ∧
  (∀ (l0 l1 l2 l3 l4 l5 : Option Value) (st : List Value) (h : pb_H) (Q : Option Value → pb_H → Prop) (x : Int32), pb_R 108 68 [l0, l1, l2, l3, l4, l5] [] (.int x :: st) h Q ↔ pb_R 108 70 [l0, l1, l2, l3, some (.int x), l5] [] st h Q) ∧
  (∀ (L : pb_L) (J : pb_J) (st : List Value) (h : pb_H) (Q : Option Value → pb_H → Prop) (x : Int32), pb_R 108 72 L J (.int x :: st) h Q ↔ if x < 0 then pb_R 108 162 L J st h Q else pb_R 108 75 L J st h Q) ∧
  (∀ (l0 l1 l2 l4 l5 : Option Value) (st : List Value) (h : pb_H) (Q : Option Value → pb_H → Prop) (x : Int32), pb_R 108 75 [l0, l1, l2, some (.int x), l4, l5] [] st h Q ↔ pb_R 108 76 [l0, l1, l2, some (.int x), l4, l5] [] (.int x :: st) h Q) ∧
  (∀ (L : pb_L) (J : pb_J) (st : List Value) (h : pb_H) (Q : Option Value → pb_H → Prop) (x : Int32), pb_R 108 76 L J (.int x :: st) h Q ↔ if ¬ x = 0 then pb_R 108 162 L J st h Q else pb_R 108 79 L J st h Q) ∧
  (∀ (l1 l2 l3 l4 l5 : Option Value) (st : List Value) (h : pb_H) (Q : Option Value → pb_H → Prop) (x : Nat), pb_R 108 79 [some (.ref x), l1, l2, l3, l4, l5] [] st h Q ↔ pb_R 108 80 [some (.ref x), l1, l2, l3, l4, l5] [] (.ref x :: st) h Q) ∧
  (∀ (l1 l2 l3 l4 l5 : Option Value) (st : List Value) (h : pb_H) (Q : Option Value → pb_H → Prop), pb_R 108 79 [some .null, l1, l2, l3, l4, l5] [] st h Q ↔ pb_R 108 80 [some .null, l1, l2, l3, l4, l5] [] (.null :: st) h Q) ∧
  (∀ (L : pb_L) (J : pb_J) (st : List Value) (h : pb_H) (Q : Option Value → pb_H → Prop) (a : Nat), pb_R 108 80 L J (.ref a :: st) h Q ↔ pb_o (pb_gf (h.2 a) 6 1) (fun v => pb_R 108 83 L J (v :: st) h Q)) ∧
  (∀ (L : pb_L) (J : pb_J) (st : List Value) (h : pb_H) (Q : Option Value → pb_H → Prop) (a : Nat), pb_R 108 83 L J (.ref a :: st) h Q ↔ pb_o (pb_gf (h.2 a) 9 1) (fun v => pb_R 108 86 L J (v :: st) h Q)) ∧
  (∀ (l0 l1 l2 l3 l5 : Option Value) (st : List Value) (h : pb_H) (Q : Option Value → pb_H → Prop) (x : Int32), pb_R 108 86 [l0, l1, l2, l3, some (.int x), l5] [] st h Q ↔ pb_R 108 88 [l0, l1, l2, l3, some (.int x), l5] [] (.int x :: st) h Q) ∧
  (∀ (L : pb_L) (J : pb_J) (st : List Value) (h : pb_H) (Q : Option Value → pb_H → Prop) (a : Nat) (i : Int32), pb_R 108 88 L J (.int i :: .ref a :: st) h Q ↔ pb_o (pb_ai (h.2 a) i) (fun v => pb_R 108 89 L J (.int v :: st) h Q)) ∧
  (∀ (L : pb_L) (J : pb_J) (h : pb_H) (Q : Option Value → pb_H → Prop) (x0 : Int32), pb_R 108 89 L J [.int x0] h Q ↔ pb_R 108 92 L J [.int (if 0 ≤ x0 then x0 else 0 - x0)] h Q) ∧
  (∀ (l0 l1 l2 l3 l4 l5 : Option Value) (st : List Value) (h : pb_H) (Q : Option Value → pb_H → Prop) (x : Int32), pb_R 108 92 [l0, l1, l2, l3, l4, l5] [] (.int x :: st) h Q ↔ pb_R 108 94 [l0, l1, l2, l3, l4, some (.int x)] [] st h Q) ∧
  (∀ (l1 l2 l3 l4 l5 : Option Value) (st : List Value) (h : pb_H) (Q : Option Value → pb_H → Prop) (x : Nat), pb_R 108 94 [some (.ref x), l1, l2, l3, l4, l5] [] st h Q ↔ pb_R 108 95 [some (.ref x), l1, l2, l3, l4, l5] [] (.ref x :: st) h Q) ∧
  (∀ (l1 l2 l3 l4 l5 : Option Value) (st : List Value) (h : pb_H) (Q : Option Value → pb_H → Prop), pb_R 108 94 [some .null, l1, l2, l3, l4, l5] [] st h Q ↔ pb_R 108 95 [some .null, l1, l2, l3, l4, l5] [] (.null :: st) h Q) ∧
  (∀ (L : pb_L) (J : pb_J) (st : List Value) (h : pb_H) (Q : Option Value → pb_H → Prop) (a : Nat), pb_R 108 95 L J (.ref a :: st) h Q ↔ pb_o (pb_gf (h.2 a) 6 9) (fun v => pb_R 108 98 L J (v :: st) h Q)) ∧
  (∀ (l0 l1 l2 l3 l4 : Option Value) (st : List Value) (h : pb_H) (Q : Option Value → pb_H → Prop) (x : Int32), pb_R 108 98 [l0, l1, l2, l3, l4, some (.int x)] [] st h Q ↔ pb_R 108 100 [l0, l1, l2, l3, l4, some (.int x)] [] (.int x :: st) h Q) ∧
  (∀ (L : pb_L) (J : pb_J) (h : pb_H) (Q : Option Value → pb_H → Prop) (x0 : Int32) (x1 : Nat), pb_R 108 100 L J [.int x0, .ref x1] h Q ↔ pb_is0 (h.2 x1) 4 = true ∧ pb_call 60 [.ref x1, .int x0] h (fun v t => pb_R 108 103 L J (v.toList ++ []) t Q)) ∧
  (∀ (l1 l2 l3 l4 l5 : Option Value) (st : List Value) (h : pb_H) (Q : Option Value → pb_H → Prop) (x : Nat), pb_R 108 103 [some (.ref x), l1, l2, l3, l4, l5] [] st h Q ↔ pb_R 108 104 [some (.ref x), l1, l2, l3, l4, l5] [] (.ref x :: st) h Q) ∧
  (∀ (l1 l2 l3 l4 l5 : Option Value) (st : List Value) (h : pb_H) (Q : Option Value → pb_H → Prop), pb_R 108 103 [some .null, l1, l2, l3, l4, l5] [] st h Q ↔ pb_R 108 104 [some .null, l1, l2, l3, l4, l5] [] (.null :: st) h Q) ∧
  (∀ (L : pb_L) (J : pb_J) (st : List Value) (h : pb_H) (Q : Option Value → pb_H → Prop) (a : Nat), pb_R 108 104 L J (.ref a :: st) h Q ↔ pb_o (pb_gf (h.2 a) 6 1) (fun v => pb_R 108 107 L J (v :: st) h Q)) ∧
  (∀ (L : pb_L) (J : pb_J) (st : List Value) (h : pb_H) (Q : Option Value → pb_H → Prop) (a : Nat), pb_R 108 107 L J (.ref a :: st) h Q ↔ pb_o (pb_gf (h.2 a) 9 1) (fun v => pb_R 108 110 L J (v :: st) h Q)) ∧
  (∀ (l0 l1 l2 l3 l5 : Option Value) (st : List Value) (h : pb_H) (Q : Option Value → pb_H → Prop) (x : Int32), pb_R 108 110 [l0, l1, l2, l3, some (.int x), l5] [] st h Q ↔ pb_R 108 112 [l0, l1, l2, l3, some (.int x), l5] [] (.int x :: st) h Q) ∧
  (∀ (L : pb_L) (J : pb_J) (st : List Value) (h : pb_H) (Q : Option Value → pb_H → Prop) (a : Nat) (i : Int32), pb_R 108 112 L J (.int i :: .ref a :: st) h Q ↔ pb_o (pb_ai (h.2 a) i) (fun v => pb_R 108 113 L J (.int v :: st) h Q)) ∧
  (∀ (L : pb_L) (J : pb_J) (st : List Value) (x y : Int32) (h : pb_H) (Q : Option Value → pb_H → Prop), pb_R 108 113 L J (.int y :: .int x :: st) h Q ↔ pb_R 108 114 L J (.int (x * y) :: st) h Q) ∧
  (∀ (L : pb_L) (J : pb_J) (st : List Value) (h : pb_H) (Q : Option Value → pb_H → Prop) (x : Int32), pb_R 108 114 L J (.int x :: st) h Q ↔ if x < 0 then pb_R 108 120 L J st h Q else pb_R 108 117 L J st h Q) ∧
  (∀ (L : pb_L) (J : pb_J) (st : List Value) (h : pb_H) (Q : Option Value → pb_H → Prop), pb_R 108 117 L J st h Q ↔ pb_R 108 156 L J st h Q) ∧
  (∀ (l1 l2 l3 l4 l5 : Option Value) (st : List Value) (h : pb_H) (Q : Option Value → pb_H → Prop) (x : Nat), pb_R 108 120 [some (.ref x), l1, l2, l3, l4, l5] [] st h Q ↔ pb_R 108 121 [some (.ref x), l1, l2, l3, l4, l5] [] (.ref x :: st) h Q) ∧
  (∀ (l1 l2 l3 l4 l5 : Option Value) (st : List Value) (h : pb_H) (Q : Option Value → pb_H → Prop), pb_R 108 120 [some .null, l1, l2, l3, l4, l5] [] st h Q ↔ pb_R 108 121 [some .null, l1, l2, l3, l4, l5] [] (.null :: st) h Q) ∧
  (∀ (l0 l1 l2 l3 l5 : Option Value) (st : List Value) (h : pb_H) (Q : Option Value → pb_H → Prop) (x : Int32), pb_R 108 121 [l0, l1, l2, l3, some (.int x), l5] [] st h Q ↔ pb_R 108 123 [l0, l1, l2, l3, some (.int x), l5] [] (.int x :: st) h Q) ∧
  (∀ (l0 l1 l2 l3 l4 : Option Value) (st : List Value) (h : pb_H) (Q : Option Value → pb_H → Prop) (x : Int32), pb_R 108 123 [l0, l1, l2, l3, l4, some (.int x)] [] st h Q ↔ pb_R 108 125 [l0, l1, l2, l3, l4, some (.int x)] [] (.int x :: st) h Q) ∧
  (∀ (L : pb_L) (J : pb_J) (h : pb_H) (Q : Option Value → pb_H → Prop) (x0 : Int32) (x1 : Int32) (x2 : Nat), pb_R 108 125 L J [.int x0, .int x1, .ref x2] h Q ↔ pb_is0 (h.2 x2) 6 = true ∧ pb_call 106 [.ref x2, .int x1, .int x0] h (fun v t => pb_R 108 128 L J (v.toList ++ []) t Q)) ∧
  (∀ (L : pb_L) (J : pb_J) (st : List Value) (h : pb_H) (Q : Option Value → pb_H → Prop) (x : Int32), pb_R 108 128 L J (.int x :: st) h Q ↔ if x = 0 then pb_R 108 140 L J st h Q else pb_R 108 131 L J st h Q) ∧
  (∀ (l1 l2 l3 l4 l5 : Option Value) (st : List Value) (h : pb_H) (Q : Option Value → pb_H → Prop) (x : Nat), pb_R 108 131 [some (.ref x), l1, l2, l3, l4, l5] [] st h Q ↔ pb_R 108 132 [some (.ref x), l1, l2, l3, l4, l5] [] (.ref x :: st) h Q) ∧
  (∀ (l1 l2 l3 l4 l5 : Option Value) (st : List Value) (h : pb_H) (Q : Option Value → pb_H → Prop), pb_R 108 131 [some .null, l1, l2, l3, l4, l5] [] st h Q ↔ pb_R 108 132 [some .null, l1, l2, l3, l4, l5] [] (.null :: st) h Q) ∧
  (∀ (l0 l1 l2 l3 l4 : Option Value) (st : List Value) (h : pb_H) (Q : Option Value → pb_H → Prop) (x : Int32), pb_R 108 132 [l0, l1, l2, l3, l4, some (.int x)] [] st h Q ↔ pb_R 108 134 [l0, l1, l2, l3, l4, some (.int x)] [] (.int x :: st) h Q) ∧
  (∀ (L : pb_L) (J : pb_J) (h : pb_H) (Q : Option Value → pb_H → Prop) (x0 : Int32) (x1 : Nat), pb_R 108 134 L J [.int x0, .ref x1] h Q ↔ pb_is0 (h.2 x1) 6 = true ∧ pb_call 107 [.ref x1, .int x0] h (fun v t => pb_R 108 137 L J (v.toList ++ []) t Q)) ∧
  (∀ (L : pb_L) (J : pb_J) (st : List Value) (h : pb_H) (Q : Option Value → pb_H → Prop) (x : Int32), pb_R 108 137 L J (.int x :: st) h Q ↔ if ¬ x = 0 then pb_R 108 142 L J st h Q else pb_R 108 140 L J st h Q) ∧
  (∀ (L : pb_L) (J : pb_J) (st : List Value) (h : pb_H) (Q : Option Value → pb_H → Prop), pb_R 108 140 L J st h Q ↔ pb_R 108 141 L J (.int (0 : Int32) :: st) h Q) ∧
  (∀ (L : pb_L) (J : pb_J) (h : pb_H) (Q : Option Value → pb_H → Prop) (x : Int32), pb_R 108 141 L J [.int x] h Q ↔ narrow .boolean (.int x) = .int x ∧ Q (some (.int x)) h) ∧
  (∀ (l1 l2 l3 l4 l5 : Option Value) (st : List Value) (h : pb_H) (Q : Option Value → pb_H → Prop) (x : Nat), pb_R 108 142 [some (.ref x), l1, l2, l3, l4, l5] [] st h Q ↔ pb_R 108 143 [some (.ref x), l1, l2, l3, l4, l5] [] (.ref x :: st) h Q) ∧
  (∀ (l1 l2 l3 l4 l5 : Option Value) (st : List Value) (h : pb_H) (Q : Option Value → pb_H → Prop), pb_R 108 142 [some .null, l1, l2, l3, l4, l5] [] st h Q ↔ pb_R 108 143 [some .null, l1, l2, l3, l4, l5] [] (.null :: st) h Q) ∧
  (∀ (L : pb_L) (J : pb_J) (h : pb_H) (Q : Option Value → pb_H → Prop) (x0 : Nat), pb_R 108 143 L J [.ref x0] h Q ↔ pb_is0 (h.2 x0) 6 = true ∧ pb_call 102 [.ref x0] h (fun v t => pb_R 108 146 L J (v.toList ++ []) t Q)) ∧
  (∀ (L : pb_L) (J : pb_J) (st : List Value) (h : pb_H) (Q : Option Value → pb_H → Prop), pb_R 108 146 L J st h Q ↔ pb_R 108 147 L J (.int (-1 : Int32) :: st) h Q) ∧
  (∀ (L : pb_L) (J : pb_J) (st : List Value) (h : pb_H) (Q : Option Value → pb_H → Prop) (x y : Int32), pb_R 108 147 L J (.int y :: .int x :: st) h Q ↔ if x = y then pb_R 108 154 L J st h Q else pb_R 108 150 L J st h Q) ∧
  (∀ (L : pb_L) (J : pb_J) (st : List Value) (h : pb_H) (Q : Option Value → pb_H → Prop), pb_R 108 150 L J st h Q ↔ pb_R 108 151 L J (.int (1 : Int32) :: st) h Q) ∧
  (∀ (L : pb_L) (J : pb_J) (st : List Value) (h : pb_H) (Q : Option Value → pb_H → Prop), pb_R 108 151 L J st h Q ↔ pb_R 108 155 L J st h Q) ∧
  (∀ (L : pb_L) (J : pb_J) (st : List Value) (h : pb_H) (Q : Option Value → pb_H → Prop), pb_R 108 154 L J st h Q ↔ pb_R 108 155 L J (.int (0 : Int32) :: st) h Q) ∧
  (∀ (l0 l1 l2 l3 l4 l5 : Option Value) (st : List Value) (h : pb_H) (Q : Option Value → pb_H → Prop) (x : Int32), pb_R 108 155 [l0, l1, l2, l3, l4, l5] [] (.int x :: st) h Q ↔ pb_R 108 156 [l0, l1, l2, some (.int x), l4, l5] [] st h Q) ∧
  (∀ (l0 l1 l2 l3 l5 : Option Value) (st : List Value) (h : pb_H) (Q : Option Value → pb_H → Prop) (x : Int32), pb_R 108 156 [l0, l1, l2, l3, some (.int x), l5] [] st h Q ↔ pb_R 108 159 [l0, l1, l2, l3, some (.int (x + (-1 : Int32))), l5] [] st h Q) ∧
  (∀ (L : pb_L) (J : pb_J) (st : List Value) (h : pb_H) (Q : Option Value → pb_H → Prop), pb_R 108 159 L J st h Q ↔ pb_R 108 70 L J st h Q) ∧
  (∀ (l0 l1 l2 l4 l5 : Option Value) (st : List Value) (h : pb_H) (Q : Option Value → pb_H → Prop) (x : Int32), pb_R 108 162 [l0, l1, l2, some (.int x), l4, l5] [] st h Q ↔ pb_R 108 163 [l0, l1, l2, some (.int x), l4, l5] [] (.int x :: st) h Q) ∧
  (∀ (L : pb_L) (J : pb_J) (st : List Value) (h : pb_H) (Q : Option Value → pb_H → Prop) (x : Int32), pb_R 108 163 L J (.int x :: st) h Q ↔ if ¬ x = 0 then pb_R 108 173 L J st h Q else pb_R 108 166 L J st h Q) ∧
  (∀ (l1 l2 l3 l4 l5 : Option Value) (st : List Value) (h : pb_H) (Q : Option Value → pb_H → Prop) (x : Nat), pb_R 108 166 [some (.ref x), l1, l2, l3, l4, l5] [] st h Q ↔ pb_R 108 167 [some (.ref x), l1, l2, l3, l4, l5] [] (.ref x :: st) h Q) ∧
  (∀ (l1 l2 l3 l4 l5 : Option Value) (st : List Value) (h : pb_H) (Q : Option Value → pb_H → Prop), pb_R 108 166 [some .null, l1, l2, l3, l4, l5] [] st h Q ↔ pb_R 108 167 [some .null, l1, l2, l3, l4, l5] [] (.null :: st) h Q) ∧
  (∀ (L : pb_L) (J : pb_J) (st : List Value) (h : pb_H) (Q : Option Value → pb_H → Prop) (a : Nat), pb_R 108 167 L J (.ref a :: st) h Q ↔ pb_o (pb_gf (h.2 a) 6 4) (fun v => pb_R 108 170 L J (v :: st) h Q)) ∧
  (∀ (L : pb_L) (J : pb_J) (st : List Value) (h : pb_H) (Q : Option Value → pb_H → Prop) (x : Int32), pb_R 108 170 L J (.int x :: st) h Q ↔ if ¬ x = 0 then pb_R 108 177 L J st h Q else pb_R 108 173 L J st h Q) ∧
  (∀ (L : pb_L) (J : pb_J) (st : List Value) (h : pb_H) (Q : Option Value → pb_H → Prop), pb_R 108 173 L J st h Q ↔ pb_R 108 174 L J (.int (1 : Int32) :: st) h Q) ∧
  (∀ (L : pb_L) (J : pb_J) (st : List Value) (h : pb_H) (Q : Option Value → pb_H → Prop), pb_R 108 174 L J st h Q ↔ pb_R 108 178 L J st h Q) ∧
  (∀ (L : pb_L) (J : pb_J) (st : List Value) (h : pb_H) (Q : Option Value → pb_H → Prop), pb_R 108 177 L J st h Q ↔ pb_R 108 178 L J (.int (0 : Int32) :: st) h Q) ∧
  (∀ (L : pb_L) (J : pb_J) (h : pb_H) (Q : Option Value → pb_H → Prop) (x : Int32), pb_R 108 178 L J [.int x] h Q ↔ narrow .boolean (.int x) = .int x ∧ Q (some (.int x)) h) := ⟨
  fun l1 l2 l3 l4 l5 st h Q x => pf_S pb_u_108 rfl rfl,
  fun l1 l2 l3 l4 l5 st h Q => pf_S pb_u_108 rfl rfl,
  fun l1 l2 l3 l4 l5 st h Q x => pf_S pb_u_108 rfl rfl,
  fun l1 l2 l3 l4 l5 st h Q => pf_S pb_u_108 rfl rfl,
  fun L J st h Q a => pf_gf pb_u_108 rfl rfl,
  fun L J st h Q a => pf_gf pb_u_108 rfl rfl,
  fun L J st h Q a x => pf_pf pb_u_108 rfl rfl,
  fun l1 l2 l3 l4 l5 st h Q x => pf_S pb_u_108 rfl rfl,
  fun l1 l2 l3 l4 l5 st h Q => pf_S pb_u_108 rfl rfl,
  fun L J st h Q a => pf_gf pb_u_108 rfl rfl,
  fun l0 l1 l3 l4 l5 st h Q x => pf_S pb_u_108 rfl rfl,
  fun l0 l1 l3 l4 l5 st h Q => pf_S pb_u_108 rfl rfl,
  fun L J h Q x0 x1 => pf_kv pb_u_108 rfl pb_ci_48 rfl ⟨Nat.le_of_ble_eq_true rfl, Nat.le_of_ble_eq_true rfl, Nat.le_of_ble_eq_true rfl, Nat.le_of_ble_eq_true rfl, rfl⟩ rfl rfl,
  fun l1 l2 l3 l4 l5 st h Q x => pf_S pb_u_108 rfl rfl,
  fun l1 l2 l3 l4 l5 st h Q => pf_S pb_u_108 rfl rfl,
  fun L J st h Q a => pf_gf pb_u_108 rfl rfl,
  fun L J st h Q => pf_S pb_u_108 rfl rfl,
  fun L J h Q x0 x1 => pf_kv pb_u_108 rfl pb_ci_2 rfl ⟨Nat.le_of_ble_eq_true rfl, Nat.le_of_ble_eq_true rfl, Nat.le_of_ble_eq_true rfl, Nat.le_of_ble_eq_true rfl, rfl⟩ rfl rfl,
  fun l1 l2 l3 l4 l5 st h Q x => pf_S pb_u_108 rfl rfl,
  fun l1 l2 l3 l4 l5 st h Q => pf_S pb_u_108 rfl rfl,
  fun L J st h Q a => pf_gf pb_u_108 rfl rfl,
  fun L J st h Q => pf_S pb_u_108 rfl rfl,
  fun L J h Q x0 x1 => pf_kv pb_u_108 rfl pb_ci_2 rfl ⟨Nat.le_of_ble_eq_true rfl, Nat.le_of_ble_eq_true rfl, Nat.le_of_ble_eq_true rfl, Nat.le_of_ble_eq_true rfl, rfl⟩ rfl rfl,
  fun l1 l2 l3 l4 l5 st h Q x => pf_S pb_u_108 rfl rfl,
  fun l1 l2 l3 l4 l5 st h Q => pf_S pb_u_108 rfl rfl,
  fun L J st h Q a => pf_gf pb_u_108 rfl rfl,
  fun l0 l2 l3 l4 l5 st h Q x => pf_S pb_u_108 rfl rfl,
  fun L J h Q x0 x1 => pf_kv pb_u_108 rfl pb_ci_8 rfl ⟨Nat.le_of_ble_eq_true rfl, Nat.le_of_ble_eq_true rfl, Nat.le_of_ble_eq_true rfl, Nat.le_of_ble_eq_true rfl, rfl⟩ rfl rfl,
  fun l1 l2 l3 l4 l5 st h Q x => pf_S pb_u_108 rfl rfl,
  fun l1 l2 l3 l4 l5 st h Q => pf_S pb_u_108 rfl rfl,
  fun L J h Q x0 => pf_kv pb_u_108 rfl pb_ci_102 rfl ⟨Nat.le_of_ble_eq_true rfl, Nat.le_of_ble_eq_true rfl, Nat.le_of_ble_eq_true rfl, Nat.le_of_ble_eq_true rfl, rfl⟩ rfl rfl,
  fun L J st h Q => pf_S pb_u_108 rfl rfl,
  fun L J st h Q x y => pf_ic pb_u_108 rfl rfl rfl,
  fun L J st h Q => pf_S pb_u_108 rfl rfl,
  fun L J st h Q => pf_S pb_u_108 rfl rfl,
  fun L J st h Q => pf_S pb_u_108 rfl rfl,
  fun l0 l1 l2 l3 l4 l5 st h Q x => pf_S pb_u_108 rfl rfl,
  fun l1 l2 l3 l4 l5 st h Q x => pf_S pb_u_108 rfl rfl,
  fun l1 l2 l3 l4 l5 st h Q => pf_S pb_u_108 rfl rfl,
  fun L J st h Q a => pf_gf pb_u_108 rfl rfl,
  fun L J st h Q a => pf_gf pb_u_108 rfl rfl,
  fun L J st h Q => pf_S pb_u_108 rfl rfl,
  fun L J st x y h Q => pf_S pb_u_108 rfl rfl,
  fun l0 l1 l2 l3 l4 l5 st h Q x => pf_S pb_u_108 rfl rfl,
  fun L J st h Q x => pf_ii pb_u_108 rfl rfl rfl,
  fun l0 l1 l2 l4 l5 st h Q x => pf_S pb_u_108 rfl rfl,
  fun L J st h Q x => pf_ii pb_u_108 rfl rfl pf_ne,
  fun l1 l2 l3 l4 l5 st h Q x => pf_S pb_u_108 rfl rfl,
  fun l1 l2 l3 l4 l5 st h Q => pf_S pb_u_108 rfl rfl,
  fun L J st h Q a => pf_gf pb_u_108 rfl rfl,
  fun L J st h Q a => pf_gf pb_u_108 rfl rfl,
  fun l0 l1 l2 l3 l5 st h Q x => pf_S pb_u_108 rfl rfl,
  fun L J st h Q a i => pf_ai pb_u_108 rfl rfl,
  fun L J h Q x0 => pf_S pb_u_108 rfl rfl,
  fun l0 l1 l2 l3 l4 l5 st h Q x => pf_S pb_u_108 rfl rfl,
  fun l1 l2 l3 l4 l5 st h Q x => pf_S pb_u_108 rfl rfl,
  fun l1 l2 l3 l4 l5 st h Q => pf_S pb_u_108 rfl rfl,
  fun L J st h Q a => pf_gf pb_u_108 rfl rfl,
  fun l0 l1 l2 l3 l4 st h Q x => pf_S pb_u_108 rfl rfl,
  fun L J h Q x0 x1 => pf_kv pb_u_108 rfl pb_ci_60 rfl ⟨Nat.le_of_ble_eq_true rfl, Nat.le_of_ble_eq_true rfl, Nat.le_of_ble_eq_true rfl, Nat.le_of_ble_eq_true rfl, rfl⟩ rfl rfl,
  fun l1 l2 l3 l4 l5 st h Q x => pf_S pb_u_108 rfl rfl,
  fun l1 l2 l3 l4 l5 st h Q => pf_S pb_u_108 rfl rfl,
  fun L J st h Q a => pf_gf pb_u_108 rfl rfl,
  fun L J st h Q a => pf_gf pb_u_108 rfl rfl,
  fun l0 l1 l2 l3 l5 st h Q x => pf_S pb_u_108 rfl rfl,
  fun L J st h Q a i => pf_ai pb_u_108 rfl rfl,
  fun L J st x y h Q => pf_S pb_u_108 rfl rfl,
  fun L J st h Q x => pf_ii pb_u_108 rfl rfl rfl,
  fun L J st h Q => pf_S pb_u_108 rfl rfl,
  fun l1 l2 l3 l4 l5 st h Q x => pf_S pb_u_108 rfl rfl,
  fun l1 l2 l3 l4 l5 st h Q => pf_S pb_u_108 rfl rfl,
  fun l0 l1 l2 l3 l5 st h Q x => pf_S pb_u_108 rfl rfl,
  fun l0 l1 l2 l3 l4 st h Q x => pf_S pb_u_108 rfl rfl,
  fun L J h Q x0 x1 x2 => pf_kv pb_u_108 rfl pb_ci_106 rfl ⟨Nat.le_of_ble_eq_true rfl, Nat.le_of_ble_eq_true rfl, Nat.le_of_ble_eq_true rfl, Nat.le_of_ble_eq_true rfl, rfl⟩ rfl rfl,
  fun L J st h Q x => pf_ii pb_u_108 rfl rfl rfl,
  fun l1 l2 l3 l4 l5 st h Q x => pf_S pb_u_108 rfl rfl,
  fun l1 l2 l3 l4 l5 st h Q => pf_S pb_u_108 rfl rfl,
  fun l0 l1 l2 l3 l4 st h Q x => pf_S pb_u_108 rfl rfl,
  fun L J h Q x0 x1 => pf_kv pb_u_108 rfl pb_ci_107 rfl ⟨Nat.le_of_ble_eq_true rfl, Nat.le_of_ble_eq_true rfl, Nat.le_of_ble_eq_true rfl, Nat.le_of_ble_eq_true rfl, rfl⟩ rfl rfl,
  fun L J st h Q x => pf_ii pb_u_108 rfl rfl pf_ne,
  fun L J st h Q => pf_S pb_u_108 rfl rfl,
  fun L J h Q x => pf_rz pb_u_108 rfl rfl,
  fun l1 l2 l3 l4 l5 st h Q x => pf_S pb_u_108 rfl rfl,
  fun l1 l2 l3 l4 l5 st h Q => pf_S pb_u_108 rfl rfl,
  fun L J h Q x0 => pf_kv pb_u_108 rfl pb_ci_102 rfl ⟨Nat.le_of_ble_eq_true rfl, Nat.le_of_ble_eq_true rfl, Nat.le_of_ble_eq_true rfl, Nat.le_of_ble_eq_true rfl, rfl⟩ rfl rfl,
  fun L J st h Q => pf_S pb_u_108 rfl rfl,
  fun L J st h Q x y => pf_ic pb_u_108 rfl rfl rfl,
  fun L J st h Q => pf_S pb_u_108 rfl rfl,
  fun L J st h Q => pf_S pb_u_108 rfl rfl,
  fun L J st h Q => pf_S pb_u_108 rfl rfl,
  fun l0 l1 l2 l3 l4 l5 st h Q x => pf_S pb_u_108 rfl rfl,
  fun l0 l1 l2 l3 l5 st h Q x => pf_S pb_u_108 rfl rfl,
  fun L J st h Q => pf_S pb_u_108 rfl rfl,
  fun l0 l1 l2 l4 l5 st h Q x => pf_S pb_u_108 rfl rfl,
  fun L J st h Q x => pf_ii pb_u_108 rfl rfl pf_ne,
  fun l1 l2 l3 l4 l5 st h Q x => pf_S pb_u_108 rfl rfl,
  fun l1 l2 l3 l4 l5 st h Q => pf_S pb_u_108 rfl rfl,
  fun L J st h Q a => pf_gf pb_u_108 rfl rfl,
  fun L J st h Q x => pf_ii pb_u_108 rfl rfl pf_ne,
  fun L J st h Q => pf_S pb_u_108 rfl rfl,
  fun L J st h Q => pf_S pb_u_108 rfl rfl,
  fun L J st h Q => pf_S pb_u_108 rfl rfl,
  fun L J h Q x => pf_rz pb_u_108 rfl rfl⟩
theorem pb_c108 (x0 : Nat) (x1 : Int32) (x2 : Nat) (h : pb_H) (Q : Option Value → pb_H → Prop) : pb_call 108 [.ref x0, .int x1, .ref x2] h Q ↔ pb_R 108 0 [some (.ref x0), some (.int x1), some (.ref x2), none, none, none] [] [] h Q := Iff.rfl
/-! 109: PlaneBench$Search.writeEnd()V -/
theorem pb_u_109 : pb_t 109 = pb_t109 := rfl
theorem pb_ci_109 : pb_ci 109 = 6 := by decide +kernel
set_option maxRecDepth 100000 in
theorem pb_e109 : (∀ (st : List Value) (h : pb_H) (Q : Option Value → pb_H → Prop) (x : Nat), pb_R 109 0 [some (.ref x)] [] st h Q ↔ pb_R 109 1 [some (.ref x)] [] (.ref x :: st) h Q) ∧
  (∀ (st : List Value) (h : pb_H) (Q : Option Value → pb_H → Prop), pb_R 109 0 [some .null] [] st h Q ↔ pb_R 109 1 [some .null] [] (.null :: st) h Q) ∧
  (∀ (L : pb_L) (J : pb_J) (st : List Value) (h : pb_H) (Q : Option Value → pb_H → Prop) (a : Nat), pb_R 109 1 L J (.ref a :: st) h Q ↔ pb_o (pb_gf (h.2 a) 6 2) (fun v => pb_R 109 4 L J (v :: st) h Q)) ∧
  (∀ (L : pb_L) (J : pb_J) (st : List Value) (h : pb_H) (Q : Option Value → pb_H → Prop), pb_R 109 4 L J st h Q ↔ pb_R 109 6 L J (.int (59 : Int32) :: st) h Q) ∧
  (∀ (L : pb_L) (J : pb_J) (h : pb_H) (Q : Option Value → pb_H → Prop) (x0 : Int32) (x1 : Nat), pb_R 109 6 L J [.int x0, .ref x1] h Q ↔ pb_is0 (h.2 x1) 0 = true ∧ pb_call 9 [.ref x1, .int x0] h (fun v t => pb_R 109 9 L J (v.toList ++ []) t Q)) ∧
  (∀ (st : List Value) (h : pb_H) (Q : Option Value → pb_H → Prop) (x : Nat), pb_R 109 9 [some (.ref x)] [] st h Q ↔ pb_R 109 10 [some (.ref x)] [] (.ref x :: st) h Q) ∧
  (∀ (st : List Value) (h : pb_H) (Q : Option Value → pb_H → Prop), pb_R 109 9 [some .null] [] st h Q ↔ pb_R 109 10 [some .null] [] (.null :: st) h Q) ∧
  (∀ (L : pb_L) (J : pb_J) (st : List Value) (h : pb_H) (Q : Option Value → pb_H → Prop) (a : Nat), pb_R 109 10 L J (.ref a :: st) h Q ↔ pb_o (pb_gf (h.2 a) 6 2) (fun v => pb_R 109 13 L J (v :: st) h Q)) ∧
  (∀ (L : pb_L) (J : pb_J) (st : List Value) (h : pb_H) (Q : Option Value → pb_H → Prop), pb_R 109 13 L J st h Q ↔ pb_R 109 15 L J (.int (10 : Int32) :: st) h Q) ∧
  (∀ (L : pb_L) (J : pb_J) (h : pb_H) (Q : Option Value → pb_H → Prop) (x0 : Int32) (x1 : Nat), pb_R 109 15 L J [.int x0, .ref x1] h Q ↔ pb_is0 (h.2 x1) 0 = true ∧ pb_call 2 [.ref x1, .int x0] h (fun v t => pb_R 109 18 L J (v.toList ++ []) t Q)) ∧
  (∀ (st : List Value) (h : pb_H) (Q : Option Value → pb_H → Prop) (x : Nat), pb_R 109 18 [some (.ref x)] [] st h Q ↔ pb_R 109 19 [some (.ref x)] [] (.ref x :: st) h Q) ∧
  (∀ (st : List Value) (h : pb_H) (Q : Option Value → pb_H → Prop), pb_R 109 18 [some .null] [] st h Q ↔ pb_R 109 19 [some .null] [] (.null :: st) h Q) ∧
  (∀ (L : pb_L) (J : pb_J) (st : List Value) (h : pb_H) (Q : Option Value → pb_H → Prop) (a : Nat), pb_R 109 19 L J (.ref a :: st) h Q ↔ pb_o (pb_gf (h.2 a) 6 4) (fun v => pb_R 109 22 L J (v :: st) h Q)) ∧
  (∀ (L : pb_L) (J : pb_J) (st : List Value) (h : pb_H) (Q : Option Value → pb_H → Prop) (x : Int32), pb_R 109 22 L J (.int x :: st) h Q ↔ if ¬ x = 0 then pb_R 109 77 L J st h Q else pb_R 109 25 L J st h Q) ∧
  (∀ (st : List Value) (h : pb_H) (Q : Option Value → pb_H → Prop) (x : Nat), pb_R 109 25 [some (.ref x)] [] st h Q ↔ pb_R 109 26 [some (.ref x)] [] (.ref x :: st) h Q) ∧
  (∀ (st : List Value) (h : pb_H) (Q : Option Value → pb_H → Prop), pb_R 109 25 [some .null] [] st h Q ↔ pb_R 109 26 [some .null] [] (.null :: st) h Q) ∧
  (∀ (L : pb_L) (J : pb_J) (st : List Value) (h : pb_H) (Q : Option Value → pb_H → Prop) (a : Nat), pb_R 109 26 L J (.ref a :: st) h Q ↔ pb_o (pb_gf (h.2 a) 6 2) (fun v => pb_R 109 29 L J (v :: st) h Q)) ∧
  (∀ (L : pb_L) (J : pb_J) (st : List Value) (h : pb_H) (Q : Option Value → pb_H → Prop), pb_R 109 29 L J st h Q ↔ pb_R 109 31 L J (.int (99 : Int32) :: st) h Q) ∧
  (∀ (L : pb_L) (J : pb_J) (h : pb_H) (Q : Option Value → pb_H → Prop) (x0 : Int32) (x1 : Nat), pb_R 109 31 L J [.int x0, .ref x1] h Q ↔ pb_is0 (h.2 x1) 0 = true ∧ pb_call 2 [.ref x1, .int x0] h (fun v t => pb_R 109 34 L J (v.toList ++ []) t Q)) ∧
  (∀ (st : List Value) (h : pb_H) (Q : Option Value → pb_H → Prop) (x : Nat), pb_R 109 34 [some (.ref x)] [] st h Q ↔ pb_R 109 35 [some (.ref x)] [] (.ref x :: st) h Q) ∧
  (∀ (st : List Value) (h : pb_H) (Q : Option Value → pb_H → Prop), pb_R 109 34 [some .null] [] st h Q ↔ pb_R 109 35 [some .null] [] (.null :: st) h Q) ∧
  (∀ (L : pb_L) (J : pb_J) (st : List Value) (h : pb_H) (Q : Option Value → pb_H → Prop) (a : Nat), pb_R 109 35 L J (.ref a :: st) h Q ↔ pb_o (pb_gf (h.2 a) 6 2) (fun v => pb_R 109 38 L J (v :: st) h Q)) ∧
  (∀ (L : pb_L) (J : pb_J) (st : List Value) (h : pb_H) (Q : Option Value → pb_H → Prop), pb_R 109 38 L J st h Q ↔ pb_R 109 40 L J (.int (32 : Int32) :: st) h Q) ∧
  (∀ (L : pb_L) (J : pb_J) (h : pb_H) (Q : Option Value → pb_H → Prop) (x0 : Int32) (x1 : Nat), pb_R 109 40 L J [.int x0, .ref x1] h Q ↔ pb_is0 (h.2 x1) 0 = true ∧ pb_call 2 [.ref x1, .int x0] h (fun v t => pb_R 109 43 L J (v.toList ++ []) t Q)) ∧
  (∀ (st : List Value) (h : pb_H) (Q : Option Value → pb_H → Prop) (x : Nat), pb_R 109 43 [some (.ref x)] [] st h Q ↔ pb_R 109 44 [some (.ref x)] [] (.ref x :: st) h Q) ∧
  (∀ (st : List Value) (h : pb_H) (Q : Option Value → pb_H → Prop), pb_R 109 43 [some .null] [] st h Q ↔ pb_R 109 44 [some .null] [] (.null :: st) h Q) ∧
  (∀ (L : pb_L) (J : pb_J) (st : List Value) (h : pb_H) (Q : Option Value → pb_H → Prop) (a : Nat), pb_R 109 44 L J (.ref a :: st) h Q ↔ pb_o (pb_gf (h.2 a) 6 2) (fun v => pb_R 109 47 L J (v :: st) h Q)) ∧
  (∀ (st : List Value) (h : pb_H) (Q : Option Value → pb_H → Prop) (x : Nat), pb_R 109 47 [some (.ref x)] [] st h Q ↔ pb_R 109 48 [some (.ref x)] [] (.ref x :: st) h Q) ∧
  (∀ (st : List Value) (h : pb_H) (Q : Option Value → pb_H → Prop), pb_R 109 47 [some .null] [] st h Q ↔ pb_R 109 48 [some .null] [] (.null :: st) h Q) ∧
  (∀ (L : pb_L) (J : pb_J) (st : List Value) (h : pb_H) (Q : Option Value → pb_H → Prop) (a : Nat), pb_R 109 48 L J (.ref a :: st) h Q ↔ pb_o (pb_gf (h.2 a) 6 0) (fun v => pb_R 109 51 L J (v :: st) h Q)) ∧
  (∀ (L : pb_L) (J : pb_J) (st : List Value) (h : pb_H) (Q : Option Value → pb_H → Prop) (a : Nat), pb_R 109 51 L J (.ref a :: st) h Q ↔ pb_o (pb_gf (h.2 a) 7 2) (fun v => pb_R 109 54 L J (v :: st) h Q)) ∧
  (∀ (L : pb_L) (J : pb_J) (st : List Value) (h : pb_H) (Q : Option Value → pb_H → Prop), pb_R 109 54 L J st h Q ↔ pb_R 109 55 L J (.int (1 : Int32) :: st) h Q) ∧
  (∀ (L : pb_L) (J : pb_J) (st : List Value) (x y : Int32) (h : pb_H) (Q : Option Value → pb_H → Prop), pb_R 109 55 L J (.int y :: .int x :: st) h Q ↔ pb_R 109 56 L J (.int (x + y) :: st) h Q) ∧
  (∀ (L : pb_L) (J : pb_J) (h : pb_H) (Q : Option Value → pb_H → Prop) (x0 : Int32) (x1 : Nat), pb_R 109 56 L J [.int x0, .ref x1] h Q ↔ pb_is0 (h.2 x1) 0 = true ∧ pb_call 8 [.ref x1, .int x0] h (fun v t => pb_R 109 59 L J (v.toList ++ []) t Q)) ∧
  (∀ (st : List Value) (h : pb_H) (Q : Option Value → pb_H → Prop) (x : Nat), pb_R 109 59 [some (.ref x)] [] st h Q ↔ pb_R 109 60 [some (.ref x)] [] (.ref x :: st) h Q) ∧
  (∀ (st : List Value) (h : pb_H) (Q : Option Value → pb_H → Prop), pb_R 109 59 [some .null] [] st h Q ↔ pb_R 109 60 [some .null] [] (.null :: st) h Q) ∧
  (∀ (L : pb_L) (J : pb_J) (st : List Value) (h : pb_H) (Q : Option Value → pb_H → Prop) (a : Nat), pb_R 109 60 L J (.ref a :: st) h Q ↔ pb_o (pb_gf (h.2 a) 6 2) (fun v => pb_R 109 63 L J (v :: st) h Q)) ∧
  (∀ (L : pb_L) (J : pb_J) (st : List Value) (h : pb_H) (Q : Option Value → pb_H → Prop), pb_R 109 63 L J st h Q ↔ pb_R 109 65 L J (.int (59 : Int32) :: st) h Q) ∧
  (∀ (L : pb_L) (J : pb_J) (h : pb_H) (Q : Option Value → pb_H → Prop) (x0 : Int32) (x1 : Nat), pb_R 109 65 L J [.int x0, .ref x1] h Q ↔ pb_is0 (h.2 x1) 0 = true ∧ pb_call 9 [.ref x1, .int x0] h (fun v t => pb_R 109 68 L J (v.toList ++ []) t Q)) ∧
  (∀ (st : List Value) (h : pb_H) (Q : Option Value → pb_H → Prop) (x : Nat), pb_R 109 68 [some (.ref x)] [] st h Q ↔ pb_R 109 69 [some (.ref x)] [] (.ref x :: st) h Q) ∧
  (∀ (st : List Value) (h : pb_H) (Q : Option Value → pb_H → Prop), pb_R 109 68 [some .null] [] st h Q ↔ pb_R 109 69 [some .null] [] (.null :: st) h Q) ∧
  (∀ (L : pb_L) (J : pb_J) (st : List Value) (h : pb_H) (Q : Option Value → pb_H → Prop) (a : Nat), pb_R 109 69 L J (.ref a :: st) h Q ↔ pb_o (pb_gf (h.2 a) 6 2) (fun v => pb_R 109 72 L J (v :: st) h Q)) ∧
  (∀ (L : pb_L) (J : pb_J) (st : List Value) (h : pb_H) (Q : Option Value → pb_H → Prop), pb_R 109 72 L J st h Q ↔ pb_R 109 74 L J (.int (10 : Int32) :: st) h Q) ∧
  (∀ (L : pb_L) (J : pb_J) (h : pb_H) (Q : Option Value → pb_H → Prop) (x0 : Int32) (x1 : Nat), pb_R 109 74 L J [.int x0, .ref x1] h Q ↔ pb_is0 (h.2 x1) 0 = true ∧ pb_call 2 [.ref x1, .int x0] h (fun v t => pb_R 109 77 L J (v.toList ++ []) t Q)) ∧
  (∀ (L : pb_L) (J : pb_J) (h : pb_H) (Q : Option Value → pb_H → Prop), pb_R 109 77 L J [] h Q ↔ Q none h) := ⟨
  fun st h Q x => pf_S pb_u_109 rfl rfl,
  fun st h Q => pf_S pb_u_109 rfl rfl,
  fun L J st h Q a => pf_gf pb_u_109 rfl rfl,
  fun L J st h Q => pf_S pb_u_109 rfl rfl,
  fun L J h Q x0 x1 => pf_kv pb_u_109 rfl pb_ci_9 rfl ⟨Nat.le_of_ble_eq_true rfl, Nat.le_of_ble_eq_true rfl, Nat.le_of_ble_eq_true rfl, Nat.le_of_ble_eq_true rfl, rfl⟩ rfl rfl,
  fun st h Q x => pf_S pb_u_109 rfl rfl,
  fun st h Q => pf_S pb_u_109 rfl rfl,
  fun L J st h Q a => pf_gf pb_u_109 rfl rfl,
  fun L J st h Q => pf_S pb_u_109 rfl rfl,
  fun L J h Q x0 x1 => pf_kv pb_u_109 rfl pb_ci_2 rfl ⟨Nat.le_of_ble_eq_true rfl, Nat.le_of_ble_eq_true rfl, Nat.le_of_ble_eq_true rfl, Nat.le_of_ble_eq_true rfl, rfl⟩ rfl rfl,
  fun st h Q x => pf_S pb_u_109 rfl rfl,
  fun st h Q => pf_S pb_u_109 rfl rfl,
  fun L J st h Q a => pf_gf pb_u_109 rfl rfl,
  fun L J st h Q x => pf_ii pb_u_109 rfl rfl pf_ne,
  fun st h Q x => pf_S pb_u_109 rfl rfl,
  fun st h Q => pf_S pb_u_109 rfl rfl,
  fun L J st h Q a => pf_gf pb_u_109 rfl rfl,
  fun L J st h Q => pf_S pb_u_109 rfl rfl,
  fun L J h Q x0 x1 => pf_kv pb_u_109 rfl pb_ci_2 rfl ⟨Nat.le_of_ble_eq_true rfl, Nat.le_of_ble_eq_true rfl, Nat.le_of_ble_eq_true rfl, Nat.le_of_ble_eq_true rfl, rfl⟩ rfl rfl,
  fun st h Q x => pf_S pb_u_109 rfl rfl,
  fun st h Q => pf_S pb_u_109 rfl rfl,
  fun L J st h Q a => pf_gf pb_u_109 rfl rfl,
  fun L J st h Q => pf_S pb_u_109 rfl rfl,
  fun L J h Q x0 x1 => pf_kv pb_u_109 rfl pb_ci_2 rfl ⟨Nat.le_of_ble_eq_true rfl, Nat.le_of_ble_eq_true rfl, Nat.le_of_ble_eq_true rfl, Nat.le_of_ble_eq_true rfl, rfl⟩ rfl rfl,
  fun st h Q x => pf_S pb_u_109 rfl rfl,
  fun st h Q => pf_S pb_u_109 rfl rfl,
  fun L J st h Q a => pf_gf pb_u_109 rfl rfl,
  fun st h Q x => pf_S pb_u_109 rfl rfl,
  fun st h Q => pf_S pb_u_109 rfl rfl,
  fun L J st h Q a => pf_gf pb_u_109 rfl rfl,
  fun L J st h Q a => pf_gf pb_u_109 rfl rfl,
  fun L J st h Q => pf_S pb_u_109 rfl rfl,
  fun L J st x y h Q => pf_S pb_u_109 rfl rfl,
  fun L J h Q x0 x1 => pf_kv pb_u_109 rfl pb_ci_8 rfl ⟨Nat.le_of_ble_eq_true rfl, Nat.le_of_ble_eq_true rfl, Nat.le_of_ble_eq_true rfl, Nat.le_of_ble_eq_true rfl, rfl⟩ rfl rfl,
  fun st h Q x => pf_S pb_u_109 rfl rfl,
  fun st h Q => pf_S pb_u_109 rfl rfl,
  fun L J st h Q a => pf_gf pb_u_109 rfl rfl,
  fun L J st h Q => pf_S pb_u_109 rfl rfl,
  fun L J h Q x0 x1 => pf_kv pb_u_109 rfl pb_ci_9 rfl ⟨Nat.le_of_ble_eq_true rfl, Nat.le_of_ble_eq_true rfl, Nat.le_of_ble_eq_true rfl, Nat.le_of_ble_eq_true rfl, rfl⟩ rfl rfl,
  fun st h Q x => pf_S pb_u_109 rfl rfl,
  fun st h Q => pf_S pb_u_109 rfl rfl,
  fun L J st h Q a => pf_gf pb_u_109 rfl rfl,
  fun L J st h Q => pf_S pb_u_109 rfl rfl,
  fun L J h Q x0 x1 => pf_kv pb_u_109 rfl pb_ci_2 rfl ⟨Nat.le_of_ble_eq_true rfl, Nat.le_of_ble_eq_true rfl, Nat.le_of_ble_eq_true rfl, Nat.le_of_ble_eq_true rfl, rfl⟩ rfl rfl,
  fun L J h Q => pf_rv pb_u_109 rfl rfl⟩
theorem pb_c109 (x0 : Nat) (h : pb_H) (Q : Option Value → pb_H → Prop) : pb_call 109 [.ref x0] h Q ↔ pb_R 109 0 [some (.ref x0)] [] [] h Q := Iff.rfl
/-! 110: PlaneBench$Trail.keepLevels(I)V -/
theorem pb_u_110 : pb_t 110 = pb_t110 := rfl
theorem pb_ci_110 : pb_ci 110 = 9 := by decide +kernel
set_option maxRecDepth 100000 in
theorem pb_e110 : (∀ (l1 l2 : Option Value) (st : List Value) (h : pb_H) (Q : Option Value → pb_H → Prop) (x : Nat), pb_R 110 0 [some (.ref x), l1, l2] [] st h Q ↔ pb_R 110 1 [some (.ref x), l1, l2] [] (.ref x :: st) h Q) ∧
  (∀ (l1 l2 : Option Value) (st : List Value) (h : pb_H) (Q : Option Value → pb_H → Prop), pb_R 110 0 [some .null, l1, l2] [] st h Q ↔ pb_R 110 1 [some .null, l1, l2] [] (.null :: st) h Q) ∧
  (∀ (l0 l2 : Option Value) (st : List Value) (h : pb_H) (Q : Option Value → pb_H → Prop) (x : Int32), pb_R 110 1 [l0, some (.int x), l2] [] st h Q ↔ pb_R 110 2 [l0, some (.int x), l2] [] (.int x :: st) h Q) ∧
  (∀ (L : pb_L) (J : pb_J) (h : pb_H) (Q : Option Value → pb_H → Prop) (x0 : Int32) (x1 : Nat), pb_R 110 2 L J [.int x0, .ref x1] h Q ↔ pb_is0 (h.2 x1) 9 = true ∧ pb_call 98 [.ref x1, .int x0] h (fun v t => pb_R 110 5 L J (v.toList ++ []) t Q)) ∧
  (∀ (l0 l1 l2 : Option Value) (st : List Value) (h : pb_H) (Q : Option Value → pb_H → Prop) (x : Int32), pb_R 110 5 [l0, l1, l2] [] (.int x :: st) h Q ↔ pb_R 110 6 [l0, l1, some (.int x)] [] st h Q) ∧
  (∀ (l1 l2 : Option Value) (st : List Value) (h : pb_H) (Q : Option Value → pb_H → Prop) (x : Nat), pb_R 110 6 [some (.ref x), l1, l2] [] st h Q ↔ pb_R 110 7 [some (.ref x), l1, l2] [] (.ref x :: st) h Q) ∧
  (∀ (l1 l2 : Option Value) (st : List Value) (h : pb_H) (Q : Option Value → pb_H → Prop), pb_R 110 6 [some .null, l1, l2] [] st h Q ↔ pb_R 110 7 [some .null, l1, l2] [] (.null :: st) h Q) ∧
  (∀ (l1 l2 : Option Value) (st : List Value) (h : pb_H) (Q : Option Value → pb_H → Prop) (x : Nat), pb_R 110 7 [some (.ref x), l1, l2] [] st h Q ↔ pb_R 110 8 [some (.ref x), l1, l2] [] (.ref x :: st) h Q) ∧
  (∀ (l1 l2 : Option Value) (st : List Value) (h : pb_H) (Q : Option Value → pb_H → Prop), pb_R 110 7 [some .null, l1, l2] [] st h Q ↔ pb_R 110 8 [some .null, l1, l2] [] (.null :: st) h Q) ∧
  (∀ (l0 l1 : Option Value) (st : List Value) (h : pb_H) (Q : Option Value → pb_H → Prop) (x : Int32), pb_R 110 8 [l0, l1, some (.int x)] [] st h Q ↔ pb_R 110 9 [l0, l1, some (.int x)] [] (.int x :: st) h Q) ∧
  (∀ (L : pb_L) (J : pb_J) (h : pb_H) (Q : Option Value → pb_H → Prop) (x0 : Int32) (x1 : Nat) (x2 : Nat), pb_R 110 9 L J [.int x0, .ref x1, .ref x2] h Q ↔ pb_is0 (h.2 x1) 9 = true ∧ pb_call 100 [.ref x1, .int x0] h (fun v t => pb_R 110 12 L J (v.toList ++ [.ref x2]) t Q)) ∧
  (∀ (L : pb_L) (J : pb_J) (st : List Value) (h : pb_H) (Q : Option Value → pb_H → Prop) (a : Nat) (x : Int32), pb_R 110 12 L J (.int x :: .ref a :: st) h Q ↔ pb_o (pb_pf (h.2 a) 9 5 (.int x)) (fun c => pb_R 110 15 L J st (pb_set h a c) Q)) ∧
  (∀ (l1 l2 : Option Value) (st : List Value) (h : pb_H) (Q : Option Value → pb_H → Prop) (x : Nat), pb_R 110 15 [some (.ref x), l1, l2] [] st h Q ↔ pb_R 110 16 [some (.ref x), l1, l2] [] (.ref x :: st) h Q) ∧
  (∀ (l1 l2 : Option Value) (st : List Value) (h : pb_H) (Q : Option Value → pb_H → Prop), pb_R 110 15 [some .null, l1, l2] [] st h Q ↔ pb_R 110 16 [some .null, l1, l2] [] (.null :: st) h Q) ∧
  (∀ (l1 l2 : Option Value) (st : List Value) (h : pb_H) (Q : Option Value → pb_H → Prop) (x : Nat), pb_R 110 16 [some (.ref x), l1, l2] [] st h Q ↔ pb_R 110 17 [some (.ref x), l1, l2] [] (.ref x :: st) h Q) ∧
  (∀ (l1 l2 : Option Value) (st : List Value) (h : pb_H) (Q : Option Value → pb_H → Prop), pb_R 110 16 [some .null, l1, l2] [] st h Q ↔ pb_R 110 17 [some .null, l1, l2] [] (.null :: st) h Q) ∧
  (∀ (l0 l1 : Option Value) (st : List Value) (h : pb_H) (Q : Option Value → pb_H → Prop) (x : Int32), pb_R 110 17 [l0, l1, some (.int x)] [] st h Q ↔ pb_R 110 18 [l0, l1, some (.int x)] [] (.int x :: st) h Q) ∧
  (∀ (L : pb_L) (J : pb_J) (h : pb_H) (Q : Option Value → pb_H → Prop) (x0 : Int32) (x1 : Nat) (x2 : Nat), pb_R 110 18 L J [.int x0, .ref x1, .ref x2] h Q ↔ pb_is0 (h.2 x1) 9 = true ∧ pb_call 101 [.ref x1, .int x0] h (fun v t => pb_R 110 21 L J (v.toList ++ [.ref x2]) t Q)) ∧
  (∀ (L : pb_L) (J : pb_J) (st : List Value) (h : pb_H) (Q : Option Value → pb_H → Prop) (a : Nat) (x : Int32), pb_R 110 21 L J (.int x :: .ref a :: st) h Q ↔ pb_o (pb_pf (h.2 a) 9 6 (.int x)) (fun c => pb_R 110 24 L J st (pb_set h a c) Q)) ∧
  (∀ (l1 l2 : Option Value) (st : List Value) (h : pb_H) (Q : Option Value → pb_H → Prop) (x : Nat), pb_R 110 24 [some (.ref x), l1, l2] [] st h Q ↔ pb_R 110 25 [some (.ref x), l1, l2] [] (.ref x :: st) h Q) ∧
  (∀ (l1 l2 : Option Value) (st : List Value) (h : pb_H) (Q : Option Value → pb_H → Prop), pb_R 110 24 [some .null, l1, l2] [] st h Q ↔ pb_R 110 25 [some .null, l1, l2] [] (.null :: st) h Q) ∧
  (∀ (l0 l1 : Option Value) (st : List Value) (h : pb_H) (Q : Option Value → pb_H → Prop) (x : Int32), pb_R 110 25 [l0, l1, some (.int x)] [] st h Q ↔ pb_R 110 26 [l0, l1, some (.int x)] [] (.int x :: st) h Q) ∧
  (∀ (L : pb_L) (J : pb_J) (st : List Value) (h : pb_H) (Q : Option Value → pb_H → Prop) (a : Nat) (x : Int32), pb_R 110 26 L J (.int x :: .ref a :: st) h Q ↔ pb_o (pb_pf (h.2 a) 9 4 (.int x)) (fun c => pb_R 110 29 L J st (pb_set h a c) Q)) ∧
  (∀ (L : pb_L) (J : pb_J) (h : pb_H) (Q : Option Value → pb_H → Prop), pb_R 110 29 L J [] h Q ↔ Q none h) := ⟨
  fun l1 l2 st h Q x => pf_S pb_u_110 rfl rfl,
  fun l1 l2 st h Q => pf_S pb_u_110 rfl rfl,
  fun l0 l2 st h Q x => pf_S pb_u_110 rfl rfl,
  fun L J h Q x0 x1 => pf_kv pb_u_110 rfl pb_ci_98 rfl ⟨Nat.le_of_ble_eq_true rfl, Nat.le_of_ble_eq_true rfl, Nat.le_of_ble_eq_true rfl, Nat.le_of_ble_eq_true rfl, rfl⟩ rfl rfl,
  fun l0 l1 l2 st h Q x => pf_S pb_u_110 rfl rfl,
  fun l1 l2 st h Q x => pf_S pb_u_110 rfl rfl,
  fun l1 l2 st h Q => pf_S pb_u_110 rfl rfl,
  fun l1 l2 st h Q x => pf_S pb_u_110 rfl rfl,
  fun l1 l2 st h Q => pf_S pb_u_110 rfl rfl,
  fun l0 l1 st h Q x => pf_S pb_u_110 rfl rfl,
  fun L J h Q x0 x1 x2 => pf_kv pb_u_110 rfl pb_ci_100 rfl ⟨Nat.le_of_ble_eq_true rfl, Nat.le_of_ble_eq_true rfl, Nat.le_of_ble_eq_true rfl, Nat.le_of_ble_eq_true rfl, rfl⟩ rfl rfl,
  fun L J st h Q a x => pf_pf pb_u_110 rfl rfl,
  fun l1 l2 st h Q x => pf_S pb_u_110 rfl rfl,
  fun l1 l2 st h Q => pf_S pb_u_110 rfl rfl,
  fun l1 l2 st h Q x => pf_S pb_u_110 rfl rfl,
  fun l1 l2 st h Q => pf_S pb_u_110 rfl rfl,
  fun l0 l1 st h Q x => pf_S pb_u_110 rfl rfl,
  fun L J h Q x0 x1 x2 => pf_kv pb_u_110 rfl pb_ci_101 rfl ⟨Nat.le_of_ble_eq_true rfl, Nat.le_of_ble_eq_true rfl, Nat.le_of_ble_eq_true rfl, Nat.le_of_ble_eq_true rfl, rfl⟩ rfl rfl,
  fun L J st h Q a x => pf_pf pb_u_110 rfl rfl,
  fun l1 l2 st h Q x => pf_S pb_u_110 rfl rfl,
  fun l1 l2 st h Q => pf_S pb_u_110 rfl rfl,
  fun l0 l1 st h Q x => pf_S pb_u_110 rfl rfl,
  fun L J st h Q a x => pf_pf pb_u_110 rfl rfl,
  fun L J h Q => pf_rv pb_u_110 rfl rfl⟩
theorem pb_c110 (x0 : Nat) (x1 : Int32) (h : pb_H) (Q : Option Value → pb_H → Prop) : pb_call 110 [.ref x0, .int x1] h Q ↔ pb_R 110 0 [some (.ref x0), some (.int x1), none] [] [] h Q := Iff.rfl
/-! 111: PlaneBench$Search.finish(Z)V -/
theorem pb_u_111 : pb_t 111 = pb_t111 := rfl
theorem pb_ci_111 : pb_ci 111 = 6 := by decide +kernel
set_option maxRecDepth 100000 in
theorem pb_e111 : (∀ (l1 : Option Value) (st : List Value) (h : pb_H) (Q : Option Value → pb_H → Prop) (x : Nat), pb_R 111 0 [some (.ref x), l1] [] st h Q ↔ pb_R 111 1 [some (.ref x), l1] [] (.ref x :: st) h Q) ∧
  (∀ (l1 : Option Value) (st : List Value) (h : pb_H) (Q : Option Value → pb_H → Prop), pb_R 111 0 [some .null, l1] [] st h Q ↔ pb_R 111 1 [some .null, l1] [] (.null :: st) h Q) ∧
  (∀ (L : pb_L) (J : pb_J) (h : pb_H) (Q : Option Value → pb_H → Prop) (x0 : Nat), pb_R 111 1 L J [.ref x0] h Q ↔ pb_is0 (h.2 x0) 6 = true ∧ pb_call 109 [.ref x0] h (fun v t => pb_R 111 4 L J (v.toList ++ []) t Q)) ∧
  (∀ (l0 : Option Value) (st : List Value) (h : pb_H) (Q : Option Value → pb_H → Prop) (x : Int32), pb_R 111 4 [l0, some (.int x)] [] st h Q ↔ pb_R 111 5 [l0, some (.int x)] [] (.int x :: st) h Q) ∧
  (∀ (L : pb_L) (J : pb_J) (st : List Value) (h : pb_H) (Q : Option Value → pb_H → Prop) (x : Int32), pb_R 111 5 L J (.int x :: st) h Q ↔ if x = 0 then pb_R 111 28 L J st h Q else pb_R 111 8 L J st h Q) ∧
  (∀ (l1 : Option Value) (st : List Value) (h : pb_H) (Q : Option Value → pb_H → Prop) (x : Nat), pb_R 111 8 [some (.ref x), l1] [] st h Q ↔ pb_R 111 9 [some (.ref x), l1] [] (.ref x :: st) h Q) ∧
  (∀ (l1 : Option Value) (st : List Value) (h : pb_H) (Q : Option Value → pb_H → Prop), pb_R 111 8 [some .null, l1] [] st h Q ↔ pb_R 111 9 [some .null, l1] [] (.null :: st) h Q) ∧
  (∀ (L : pb_L) (J : pb_J) (st : List Value) (h : pb_H) (Q : Option Value → pb_H → Prop) (a : Nat), pb_R 111 9 L J (.ref a :: st) h Q ↔ pb_o (pb_gf (h.2 a) 6 0) (fun v => pb_R 111 12 L J (v :: st) h Q)) ∧
  (∀ (L : pb_L) (J : pb_J) (h : pb_H) (Q : Option Value → pb_H → Prop) (x0 : Nat), pb_R 111 12 L J [.ref x0] h Q ↔ pb_is0 (h.2 x0) 7 = true ∧ pb_call 68 [.ref x0] h (fun v t => pb_R 111 15 L J (v.toList ++ []) t Q)) ∧
  (∀ (L : pb_L) (J : pb_J) (st : List Value) (h : pb_H) (Q : Option Value → pb_H → Prop) (x : Int32), pb_R 111 15 L J (.int x :: st) h Q ↔ if ¬ x = 0 then pb_R 111 28 L J st h Q else pb_R 111 18 L J st h Q) ∧
  (∀ (l1 : Option Value) (st : List Value) (h : pb_H) (Q : Option Value → pb_H → Prop) (x : Nat), pb_R 111 18 [some (.ref x), l1] [] st h Q ↔ pb_R 111 19 [some (.ref x), l1] [] (.ref x :: st) h Q) ∧
  (∀ (l1 : Option Value) (st : List Value) (h : pb_H) (Q : Option Value → pb_H → Prop), pb_R 111 18 [some .null, l1] [] st h Q ↔ pb_R 111 19 [some .null, l1] [] (.null :: st) h Q) ∧
  (∀ (L : pb_L) (J : pb_J) (st : List Value) (h : pb_H) (Q : Option Value → pb_H → Prop) (a : Nat), pb_R 111 19 L J (.ref a :: st) h Q ↔ pb_o (pb_gf (h.2 a) 6 2) (fun v => pb_R 111 22 L J (v :: st) h Q)) ∧
  (∀ (L : pb_L) (J : pb_J) (st : List Value) (h : pb_H) (Q : Option Value → pb_H → Prop) (a : Nat), pb_R 111 22 L J (.ref a :: st) h Q ↔ pb_o (pb_gf (h.2 a) 0 3) (fun v => pb_R 111 25 L J (v :: st) h Q)) ∧
  (∀ (L : pb_L) (J : pb_J) (st : List Value) (h : pb_H) (Q : Option Value → pb_H → Prop) (x : Int32), pb_R 111 25 L J (.int x :: st) h Q ↔ if x = 0 then pb_R 111 45 L J st h Q else pb_R 111 28 L J st h Q) ∧
  (∀ (l1 : Option Value) (st : List Value) (h : pb_H) (Q : Option Value → pb_H → Prop) (x : Nat), pb_R 111 28 [some (.ref x), l1] [] st h Q ↔ pb_R 111 29 [some (.ref x), l1] [] (.ref x :: st) h Q) ∧
  (∀ (l1 : Option Value) (st : List Value) (h : pb_H) (Q : Option Value → pb_H → Prop), pb_R 111 28 [some .null, l1] [] st h Q ↔ pb_R 111 29 [some .null, l1] [] (.null :: st) h Q) ∧
  (∀ (L : pb_L) (J : pb_J) (st : List Value) (h : pb_H) (Q : Option Value → pb_H → Prop) (a : Nat), pb_R 111 29 L J (.ref a :: st) h Q ↔ pb_o (pb_gf (h.2 a) 6 2) (fun v => pb_R 111 32 L J (v :: st) h Q)) ∧
  (∀ (l1 : Option Value) (st : List Value) (h : pb_H) (Q : Option Value → pb_H → Prop) (x : Nat), pb_R 111 32 [some (.ref x), l1] [] st h Q ↔ pb_R 111 33 [some (.ref x), l1] [] (.ref x :: st) h Q) ∧
  (∀ (l1 : Option Value) (st : List Value) (h : pb_H) (Q : Option Value → pb_H → Prop), pb_R 111 32 [some .null, l1] [] st h Q ↔ pb_R 111 33 [some .null, l1] [] (.null :: st) h Q) ∧
  (∀ (L : pb_L) (J : pb_J) (st : List Value) (h : pb_H) (Q : Option Value → pb_H → Prop) (a : Nat), pb_R 111 33 L J (.ref a :: st) h Q ↔ pb_o (pb_gf (h.2 a) 6 8) (fun v => pb_R 111 36 L J (v :: st) h Q)) ∧
  (∀ (L : pb_L) (J : pb_J) (h : pb_H) (Q : Option Value → pb_H → Prop) (x0 : Int32) (x1 : Nat), pb_R 111 36 L J [.int x0, .ref x1] h Q ↔ pb_is0 (h.2 x1) 0 = true ∧ pb_call 10 [.ref x1, .int x0] h (fun v t => pb_R 111 39 L J (v.toList ++ []) t Q)) ∧
  (∀ (l1 : Option Value) (st : List Value) (h : pb_H) (Q : Option Value → pb_H → Prop) (x : Nat), pb_R 111 39 [some (.ref x), l1] [] st h Q ↔ pb_R 111 40 [some (.ref x), l1] [] (.ref x :: st) h Q) ∧
  (∀ (l1 : Option Value) (st : List Value) (h : pb_H) (Q : Option Value → pb_H → Prop), pb_R 111 39 [some .null, l1] [] st h Q ↔ pb_R 111 40 [some .null, l1] [] (.null :: st) h Q) ∧
  (∀ (L : pb_L) (J : pb_J) (st : List Value) (h : pb_H) (Q : Option Value → pb_H → Prop), pb_R 111 40 L J st h Q ↔ pb_R 111 41 L J (.int (4 : Int32) :: st) h Q) ∧
  (∀ (L : pb_L) (J : pb_J) (st : List Value) (h : pb_H) (Q : Option Value → pb_H → Prop) (a : Nat) (x : Int32), pb_R 111 41 L J (.int x :: .ref a :: st) h Q ↔ pb_o (pb_pf (h.2 a) 6 3 (.int x)) (fun c => pb_R 111 44 L J st (pb_set h a c) Q)) ∧
  (∀ (L : pb_L) (J : pb_J) (h : pb_H) (Q : Option Value → pb_H → Prop), pb_R 111 44 L J [] h Q ↔ Q none h) ∧
  (∀ (l1 : Option Value) (st : List Value) (h : pb_H) (Q : Option Value → pb_H → Prop) (x : Nat), pb_R 111 45 [some (.ref x), l1] [] st h Q ↔ pb_R 111 46 [some (.ref x), l1] [] (.ref x :: st) h Q) ∧
  (∀ (l1 : Option Value) (st : List Value) (h : pb_H) (Q : Option Value → pb_H → Prop), pb_R 111 45 [some .null, l1] [] st h Q ↔ pb_R 111 46 [some .null, l1] [] (.null :: st) h Q) ∧
  (∀ (L : pb_L) (J : pb_J) (st : List Value) (h : pb_H) (Q : Option Value → pb_H → Prop) (a : Nat), pb_R 111 46 L J (.ref a :: st) h Q ↔ pb_o (pb_gf (h.2 a) 6 4) (fun v => pb_R 111 49 L J (v :: st) h Q)) ∧
  (∀ (L : pb_L) (J : pb_J) (st : List Value) (h : pb_H) (Q : Option Value → pb_H → Prop) (x : Int32), pb_R 111 49 L J (.int x :: st) h Q ↔ if ¬ x = 0 then pb_R 111 60 L J st h Q else pb_R 111 52 L J st h Q) ∧
  (∀ (l1 : Option Value) (st : List Value) (h : pb_H) (Q : Option Value → pb_H → Prop) (x : Nat), pb_R 111 52 [some (.ref x), l1] [] st h Q ↔ pb_R 111 53 [some (.ref x), l1] [] (.ref x :: st) h Q) ∧
  (∀ (l1 : Option Value) (st : List Value) (h : pb_H) (Q : Option Value → pb_H → Prop), pb_R 111 52 [some .null, l1] [] st h Q ↔ pb_R 111 53 [some .null, l1] [] (.null :: st) h Q) ∧
  (∀ (L : pb_L) (J : pb_J) (st : List Value) (h : pb_H) (Q : Option Value → pb_H → Prop), pb_R 111 53 L J st h Q ↔ pb_R 111 54 L J (.int (3 : Int32) :: st) h Q) ∧
  (∀ (L : pb_L) (J : pb_J) (st : List Value) (h : pb_H) (Q : Option Value → pb_H → Prop) (a : Nat) (x : Int32), pb_R 111 54 L J (.int x :: .ref a :: st) h Q ↔ pb_o (pb_pf (h.2 a) 6 3 (.int x)) (fun c => pb_R 111 57 L J st (pb_set h a c) Q)) ∧
  (∀ (L : pb_L) (J : pb_J) (st : List Value) (h : pb_H) (Q : Option Value → pb_H → Prop), pb_R 111 57 L J st h Q ↔ pb_R 111 79 L J st h Q) ∧
  (∀ (l1 : Option Value) (st : List Value) (h : pb_H) (Q : Option Value → pb_H → Prop) (x : Nat), pb_R 111 60 [some (.ref x), l1] [] st h Q ↔ pb_R 111 61 [some (.ref x), l1] [] (.ref x :: st) h Q) ∧
  (∀ (l1 : Option Value) (st : List Value) (h : pb_H) (Q : Option Value → pb_H → Prop), pb_R 111 60 [some .null, l1] [] st h Q ↔ pb_R 111 61 [some .null, l1] [] (.null :: st) h Q) ∧
  (∀ (l1 : Option Value) (st : List Value) (h : pb_H) (Q : Option Value → pb_H → Prop) (x : Nat), pb_R 111 61 [some (.ref x), l1] [] st h Q ↔ pb_R 111 62 [some (.ref x), l1] [] (.ref x :: st) h Q) ∧
  (∀ (l1 : Option Value) (st : List Value) (h : pb_H) (Q : Option Value → pb_H → Prop), pb_R 111 61 [some .null, l1] [] st h Q ↔ pb_R 111 62 [some .null, l1] [] (.null :: st) h Q) ∧
  (∀ (L : pb_L) (J : pb_J) (h : pb_H) (Q : Option Value → pb_H → Prop) (x0 : Nat) (x1 : Nat), pb_R 111 62 L J [.ref x0, .ref x1] h Q ↔ pb_is0 (h.2 x0) 6 = true ∧ pb_call 102 [.ref x0] h (fun v t => pb_R 111 65 L J (v.toList ++ [.ref x1]) t Q)) ∧
  (∀ (L : pb_L) (J : pb_J) (st : List Value) (h : pb_H) (Q : Option Value → pb_H → Prop) (a : Nat) (x : Int32), pb_R 111 65 L J (.int x :: .ref a :: st) h Q ↔ pb_o (pb_pf (h.2 a) 6 4 (.int x)) (fun c => pb_R 111 68 L J st (pb_set h a c) Q)) ∧
  (∀ (l1 : Option Value) (st : List Value) (h : pb_H) (Q : Option Value → pb_H → Prop) (x : Nat), pb_R 111 68 [some (.ref x), l1] [] st h Q ↔ pb_R 111 69 [some (.ref x), l1] [] (.ref x :: st) h Q) ∧
  (∀ (l1 : Option Value) (st : List Value) (h : pb_H) (Q : Option Value → pb_H → Prop), pb_R 111 68 [some .null, l1] [] st h Q ↔ pb_R 111 69 [some .null, l1] [] (.null :: st) h Q) ∧
  (∀ (L : pb_L) (J : pb_J) (st : List Value) (h : pb_H) (Q : Option Value → pb_H → Prop) (a : Nat), pb_R 111 69 L J (.ref a :: st) h Q ↔ pb_o (pb_gf (h.2 a) 6 1) (fun v => pb_R 111 72 L J (v :: st) h Q)) ∧
  (∀ (l1 : Option Value) (st : List Value) (h : pb_H) (Q : Option Value → pb_H → Prop) (x : Nat), pb_R 111 72 [some (.ref x), l1] [] st h Q ↔ pb_R 111 73 [some (.ref x), l1] [] (.ref x :: st) h Q) ∧
  (∀ (l1 : Option Value) (st : List Value) (h : pb_H) (Q : Option Value → pb_H → Prop), pb_R 111 72 [some .null, l1] [] st h Q ↔ pb_R 111 73 [some .null, l1] [] (.null :: st) h Q) ∧
  (∀ (L : pb_L) (J : pb_J) (st : List Value) (h : pb_H) (Q : Option Value → pb_H → Prop) (a : Nat), pb_R 111 73 L J (.ref a :: st) h Q ↔ pb_o (pb_gf (h.2 a) 6 4) (fun v => pb_R 111 76 L J (v :: st) h Q)) ∧
  (∀ (L : pb_L) (J : pb_J) (h : pb_H) (Q : Option Value → pb_H → Prop) (x0 : Int32) (x1 : Nat), pb_R 111 76 L J [.int x0, .ref x1] h Q ↔ pb_is0 (h.2 x1) 9 = true ∧ pb_call 110 [.ref x1, .int x0] h (fun v t => pb_R 111 79 L J (v.toList ++ []) t Q)) ∧
  (∀ (l1 : Option Value) (st : List Value) (h : pb_H) (Q : Option Value → pb_H → Prop) (x : Nat), pb_R 111 79 [some (.ref x), l1] [] st h Q ↔ pb_R 111 80 [some (.ref x), l1] [] (.ref x :: st) h Q) ∧
  (∀ (l1 : Option Value) (st : List Value) (h : pb_H) (Q : Option Value → pb_H → Prop), pb_R 111 79 [some .null, l1] [] st h Q ↔ pb_R 111 80 [some .null, l1] [] (.null :: st) h Q) ∧
  (∀ (L : pb_L) (J : pb_J) (st : List Value) (h : pb_H) (Q : Option Value → pb_H → Prop) (a : Nat), pb_R 111 80 L J (.ref a :: st) h Q ↔ pb_o (pb_gf (h.2 a) 6 0) (fun v => pb_R 111 83 L J (v :: st) h Q)) ∧
  (∀ (l1 : Option Value) (st : List Value) (h : pb_H) (Q : Option Value → pb_H → Prop) (x : Nat), pb_R 111 83 [some (.ref x), l1] [] st h Q ↔ pb_R 111 84 [some (.ref x), l1] [] (.ref x :: st) h Q) ∧
  (∀ (l1 : Option Value) (st : List Value) (h : pb_H) (Q : Option Value → pb_H → Prop), pb_R 111 83 [some .null, l1] [] st h Q ↔ pb_R 111 84 [some .null, l1] [] (.null :: st) h Q) ∧
  (∀ (L : pb_L) (J : pb_J) (st : List Value) (h : pb_H) (Q : Option Value → pb_H → Prop) (a : Nat), pb_R 111 84 L J (.ref a :: st) h Q ↔ pb_o (pb_gf (h.2 a) 6 9) (fun v => pb_R 111 87 L J (v :: st) h Q)) ∧
  (∀ (L : pb_L) (J : pb_J) (st : List Value) (h : pb_H) (Q : Option Value → pb_H → Prop), pb_R 111 87 L J st h Q ↔ pb_R 111 88 L J (.int (4 : Int32) :: st) h Q) ∧
  (∀ (L : pb_L) (J : pb_J) (h : pb_H) (Q : Option Value → pb_H → Prop) (x0 : Int32) (x1 : Nat) (x2 : Nat), pb_R 111 88 L J [.int x0, .ref x1, .ref x2] h Q ↔ pb_is0 (h.2 x2) 7 = true ∧ pb_call 72 [.ref x2, .ref x1, .int x0] h (fun v t => pb_R 111 91 L J (v.toList ++ []) t Q)) ∧
  (∀ (l1 : Option Value) (st : List Value) (h : pb_H) (Q : Option Value → pb_H → Prop) (x : Nat), pb_R 111 91 [some (.ref x), l1] [] st h Q ↔ pb_R 111 92 [some (.ref x), l1] [] (.ref x :: st) h Q) ∧
  (∀ (l1 : Option Value) (st : List Value) (h : pb_H) (Q : Option Value → pb_H → Prop), pb_R 111 91 [some .null, l1] [] st h Q ↔ pb_R 111 92 [some .null, l1] [] (.null :: st) h Q) ∧
  (∀ (L : pb_L) (J : pb_J) (st : List Value) (x : Nat) (h : pb_H) (Q : Option Value → pb_H → Prop), pb_R 111 92 L J (.ref x :: st) h Q ↔ pb_R 111 93 L J (.ref x :: .ref x :: st) h Q) ∧
  (∀ (L : pb_L) (J : pb_J) (st : List Value) (h : pb_H) (Q : Option Value → pb_H → Prop) (a : Nat), pb_R 111 93 L J (.ref a :: st) h Q ↔ pb_o (pb_gf (h.2 a) 6 6) (fun v => pb_R 111 96 L J (v :: st) h Q)) ∧
  (∀ (L : pb_L) (J : pb_J) (st : List Value) (h : pb_H) (Q : Option Value → pb_H → Prop), pb_R 111 96 L J st h Q ↔ pb_R 111 97 L J (.int (1 : Int32) :: st) h Q) ∧
  (∀ (L : pb_L) (J : pb_J) (st : List Value) (x y : Int32) (h : pb_H) (Q : Option Value → pb_H → Prop), pb_R 111 97 L J (.int y :: .int x :: st) h Q ↔ pb_R 111 98 L J (.int (x + y) :: st) h Q) ∧
  (∀ (L : pb_L) (J : pb_J) (st : List Value) (h : pb_H) (Q : Option Value → pb_H → Prop) (a : Nat) (x : Int32), pb_R 111 98 L J (.int x :: .ref a :: st) h Q ↔ pb_o (pb_pf (h.2 a) 6 6 (.int x)) (fun c => pb_R 111 101 L J st (pb_set h a c) Q)) ∧
  (∀ (L : pb_L) (J : pb_J) (h : pb_H) (Q : Option Value → pb_H → Prop), pb_R 111 101 L J [] h Q ↔ Q none h) := ⟨
  fun l1 st h Q x => pf_S pb_u_111 rfl rfl,
  fun l1 st h Q => pf_S pb_u_111 rfl rfl,
  fun L J h Q x0 => pf_kv pb_u_111 rfl pb_ci_109 rfl ⟨Nat.le_of_ble_eq_true rfl, Nat.le_of_ble_eq_true rfl, Nat.le_of_ble_eq_true rfl, Nat.le_of_ble_eq_true rfl, rfl⟩ rfl rfl,
  fun l0 st h Q x => pf_S pb_u_111 rfl rfl,
  fun L J st h Q x => pf_ii pb_u_111 rfl rfl rfl,
  fun l1 st h Q x => pf_S pb_u_111 rfl rfl,
  fun l1 st h Q => pf_S pb_u_111 rfl rfl,
  fun L J st h Q a => pf_gf pb_u_111 rfl rfl,
  fun L J h Q x0 => pf_kv pb_u_111 rfl pb_ci_68 rfl ⟨Nat.le_of_ble_eq_true rfl, Nat.le_of_ble_eq_true rfl, Nat.le_of_ble_eq_true rfl, Nat.le_of_ble_eq_true rfl, rfl⟩ rfl rfl,
  fun L J st h Q x => pf_ii pb_u_111 rfl rfl pf_ne,
  fun l1 st h Q x => pf_S pb_u_111 rfl rfl,
  fun l1 st h Q => pf_S pb_u_111 rfl rfl,
  fun L J st h Q a => pf_gf pb_u_111 rfl rfl,
  fun L J st h Q a => pf_gf pb_u_111 rfl rfl,
  fun L J st h Q x => pf_ii pb_u_111 rfl rfl rfl,
  fun l1 st h Q x => pf_S pb_u_111 rfl rfl,
  fun l1 st h Q => pf_S pb_u_111 rfl rfl,
  fun L J st h Q a => pf_gf pb_u_111 rfl rfl,
  fun l1 st h Q x => pf_S pb_u_111 rfl rfl,
  fun l1 st h Q => pf_S pb_u_111 rfl rfl,
  fun L J st h Q a => pf_gf pb_u_111 rfl rfl,
  fun L J h Q x0 x1 => pf_kv pb_u_111 rfl pb_ci_10 rfl ⟨Nat.le_of_ble_eq_true rfl, Nat.le_of_ble_eq_true rfl, Nat.le_of_ble_eq_true rfl, Nat.le_of_ble_eq_true rfl, rfl⟩ rfl rfl,
  fun l1 st h Q x => pf_S pb_u_111 rfl rfl,
  fun l1 st h Q => pf_S pb_u_111 rfl rfl,
  fun L J st h Q => pf_S pb_u_111 rfl rfl,
  fun L J st h Q a x => pf_pf pb_u_111 rfl rfl,
  fun L J h Q => pf_rv pb_u_111 rfl rfl,
  fun l1 st h Q x => pf_S pb_u_111 rfl rfl,
  fun l1 st h Q => pf_S pb_u_111 rfl rfl,
  fun L J st h Q a => pf_gf pb_u_111 rfl rfl,
  fun L J st h Q x => pf_ii pb_u_111 rfl rfl pf_ne,
  fun l1 st h Q x => pf_S pb_u_111 rfl rfl,
  fun l1 st h Q => pf_S pb_u_111 rfl rfl,
  fun L J st h Q => pf_S pb_u_111 rfl rfl,
  fun L J st h Q a x => pf_pf pb_u_111 rfl rfl,
  fun L J st h Q => pf_S pb_u_111 rfl rfl,
  fun l1 st h Q x => pf_S pb_u_111 rfl rfl,
  fun l1 st h Q => pf_S pb_u_111 rfl rfl,
  fun l1 st h Q x => pf_S pb_u_111 rfl rfl,
  fun l1 st h Q => pf_S pb_u_111 rfl rfl,
  fun L J h Q x0 x1 => pf_kv pb_u_111 rfl pb_ci_102 rfl ⟨Nat.le_of_ble_eq_true rfl, Nat.le_of_ble_eq_true rfl, Nat.le_of_ble_eq_true rfl, Nat.le_of_ble_eq_true rfl, rfl⟩ rfl rfl,
  fun L J st h Q a x => pf_pf pb_u_111 rfl rfl,
  fun l1 st h Q x => pf_S pb_u_111 rfl rfl,
  fun l1 st h Q => pf_S pb_u_111 rfl rfl,
  fun L J st h Q a => pf_gf pb_u_111 rfl rfl,
  fun l1 st h Q x => pf_S pb_u_111 rfl rfl,
  fun l1 st h Q => pf_S pb_u_111 rfl rfl,
  fun L J st h Q a => pf_gf pb_u_111 rfl rfl,
  fun L J h Q x0 x1 => pf_kv pb_u_111 rfl pb_ci_110 rfl ⟨Nat.le_of_ble_eq_true rfl, Nat.le_of_ble_eq_true rfl, Nat.le_of_ble_eq_true rfl, Nat.le_of_ble_eq_true rfl, rfl⟩ rfl rfl,
  fun l1 st h Q x => pf_S pb_u_111 rfl rfl,
  fun l1 st h Q => pf_S pb_u_111 rfl rfl,
  fun L J st h Q a => pf_gf pb_u_111 rfl rfl,
  fun l1 st h Q x => pf_S pb_u_111 rfl rfl,
  fun l1 st h Q => pf_S pb_u_111 rfl rfl,
  fun L J st h Q a => pf_gf pb_u_111 rfl rfl,
  fun L J st h Q => pf_S pb_u_111 rfl rfl,
  fun L J h Q x0 x1 x2 => pf_kv pb_u_111 rfl pb_ci_72 rfl ⟨Nat.le_of_ble_eq_true rfl, Nat.le_of_ble_eq_true rfl, Nat.le_of_ble_eq_true rfl, Nat.le_of_ble_eq_true rfl, rfl⟩ rfl rfl,
  fun l1 st h Q x => pf_S pb_u_111 rfl rfl,
  fun l1 st h Q => pf_S pb_u_111 rfl rfl,
  fun L J st x h Q => pf_S pb_u_111 rfl rfl,
  fun L J st h Q a => pf_gf pb_u_111 rfl rfl,
  fun L J st h Q => pf_S pb_u_111 rfl rfl,
  fun L J st x y h Q => pf_S pb_u_111 rfl rfl,
  fun L J st h Q a x => pf_pf pb_u_111 rfl rfl,
  fun L J h Q => pf_rv pb_u_111 rfl rfl⟩
theorem pb_c111 (x0 : Nat) (x1 : Int32) (h : pb_H) (Q : Option Value → pb_H → Prop) : pb_call 111 [.ref x0, .int x1] h Q ↔ pb_R 111 0 [some (.ref x0), some (.int x1)] [] [] h Q := Iff.rfl
/-! 112: java/lang/Integer.numberOfTrailingZeros(I)I -/
theorem pb_u_112 : pb_t 112 = pb_t112 := rfl
set_option maxRecDepth 100000 in
theorem pb_e112 : (∀ (l1 : Option Value) (st : List Value) (h : pb_H) (Q : Option Value → pb_H → Prop) (x : Int32), pb_R 112 0 [some (.int x), l1] [] st h Q ↔ pb_R 112 1 [some (.int x), l1] [] (.int x :: st) h Q) ∧
  (∀ (L : pb_L) (J : pb_J) (st : List Value) (h : pb_H) (Q : Option Value → pb_H → Prop), pb_R 112 1 L J st h Q ↔ pb_R 112 2 L J (.int (-1 : Int32) :: st) h Q) ∧
  (∀ (L : pb_L) (J : pb_J) (st : List Value) (x y : Int32) (h : pb_H) (Q : Option Value → pb_H → Prop), pb_R 112 2 L J (.int y :: .int x :: st) h Q ↔ pb_R 112 3 L J (.int (x ^^^ y) :: st) h Q) ∧
  (∀ (l1 : Option Value) (st : List Value) (h : pb_H) (Q : Option Value → pb_H → Prop) (x : Int32), pb_R 112 3 [some (.int x), l1] [] st h Q ↔ pb_R 112 4 [some (.int x), l1] [] (.int x :: st) h Q) ∧
  (∀ (L : pb_L) (J : pb_J) (st : List Value) (h : pb_H) (Q : Option Value → pb_H → Prop), pb_R 112 4 L J st h Q ↔ pb_R 112 5 L J (.int (1 : Int32) :: st) h Q) ∧
  (∀ (L : pb_L) (J : pb_J) (st : List Value) (x y : Int32) (h : pb_H) (Q : Option Value → pb_H → Prop), pb_R 112 5 L J (.int y :: .int x :: st) h Q ↔ pb_R 112 6 L J (.int (x - y) :: st) h Q) ∧
  (∀ (L : pb_L) (J : pb_J) (st : List Value) (x y : Int32) (h : pb_H) (Q : Option Value → pb_H → Prop), pb_R 112 6 L J (.int y :: .int x :: st) h Q ↔ pb_R 112 7 L J (.int (x &&& y) :: st) h Q) ∧
  (∀ (l0 l1 : Option Value) (st : List Value) (h : pb_H) (Q : Option Value → pb_H → Prop) (x : Int32), pb_R 112 7 [l0, l1] [] (.int x :: st) h Q ↔ pb_R 112 8 [some (.int x), l1] [] st h Q) ∧
  (∀ (l1 : Option Value) (st : List Value) (h : pb_H) (Q : Option Value → pb_H → Prop) (x : Int32), pb_R 112 8 [some (.int x), l1] [] st h Q ↔ pb_R 112 9 [some (.int x), l1] [] (.int x :: st) h Q) ∧
  (∀ (L : pb_L) (J : pb_J) (st : List Value) (h : pb_H) (Q : Option Value → pb_H → Prop) (x : Int32), pb_R 112 9 L J (.int x :: st) h Q ↔ if 0 < x then pb_R 112 17 L J st h Q else pb_R 112 12 L J st h Q) ∧
  (∀ (l1 : Option Value) (st : List Value) (h : pb_H) (Q : Option Value → pb_H → Prop) (x : Int32), pb_R 112 12 [some (.int x), l1] [] st h Q ↔ pb_R 112 13 [some (.int x), l1] [] (.int x :: st) h Q) ∧
  (∀ (L : pb_L) (J : pb_J) (st : List Value) (h : pb_H) (Q : Option Value → pb_H → Prop), pb_R 112 13 L J st h Q ↔ pb_R 112 15 L J (.int (32 : Int32) :: st) h Q) ∧
  (∀ (L : pb_L) (J : pb_J) (st : List Value) (x y : Int32) (h : pb_H) (Q : Option Value → pb_H → Prop), pb_R 112 15 L J (.int y :: .int x :: st) h Q ↔ pb_R 112 16 L J (.int (x &&& y) :: st) h Q) ∧
  (∀ (L : pb_L) (J : pb_J) (h : pb_H) (Q : Option Value → pb_H → Prop) (x : Int32), pb_R 112 16 L J [.int x] h Q ↔ Q (some (.int x)) h) ∧
  (∀ (L : pb_L) (J : pb_J) (st : List Value) (h : pb_H) (Q : Option Value → pb_H → Prop), pb_R 112 17 L J st h Q ↔ pb_R 112 18 L J (.int (1 : Int32) :: st) h Q) ∧
  (∀ (l0 l1 : Option Value) (st : List Value) (h : pb_H) (Q : Option Value → pb_H → Prop) (x : Int32), pb_R 112 18 [l0, l1] [] (.int x :: st) h Q ↔ pb_R 112 19 [l0, some (.int x)] [] st h Q) ∧
  (∀ (l1 : Option Value) (st : List Value) (h : pb_H) (Q : Option Value → pb_H → Prop) (x : Int32), pb_R 112 19 [some (.int x), l1] [] st h Q ↔ pb_R 112 20 [some (.int x), l1] [] (.int x :: st) h Q) ∧
  (∀ (L : pb_L) (J : pb_J) (st : List Value) (h : pb_H) (Q : Option Value → pb_H → Prop), pb_R 112 20 L J st h Q ↔ pb_R 112 23 L J (.int (65536 : Int32) :: st) h Q) ∧
  (∀ (L : pb_L) (J : pb_J) (st : List Value) (h : pb_H) (Q : Option Value → pb_H → Prop) (x y : Int32), pb_R 112 23 L J (.int y :: .int x :: st) h Q ↔ if x ≤ y then pb_R 112 34 L J st h Q else pb_R 112 26 L J st h Q) ∧
  (∀ (l0 : Option Value) (st : List Value) (h : pb_H) (Q : Option Value → pb_H → Prop) (x : Int32), pb_R 112 26 [l0, some (.int x)] [] st h Q ↔ pb_R 112 29 [l0, some (.int (x + (16 : Int32)))] [] st h Q) ∧
  (∀ (l1 : Option Value) (st : List Value) (h : pb_H) (Q : Option Value → pb_H → Prop) (x : Int32), pb_R 112 29 [some (.int x), l1] [] st h Q ↔ pb_R 112 30 [some (.int x), l1] [] (.int x :: st) h Q) ∧
  (∀ (L : pb_L) (J : pb_J) (st : List Value) (h : pb_H) (Q : Option Value → pb_H → Prop), pb_R 112 30 L J st h Q ↔ pb_R 112 32 L J (.int (16 : Int32) :: st) h Q) ∧
  (∀ (L : pb_L) (J : pb_J) (st : List Value) (x y : Int32) (h : pb_H) (Q : Option Value → pb_H → Prop), pb_R 112 32 L J (.int y :: .int x :: st) h Q ↔ pb_R 112 33 L J (.int (x.toUInt32 >>> (y.toUInt32 &&& Int32.toUInt32 31)).toInt32 :: st) h Q) ∧
  (∀ (l0 l1 : Option Value) (st : List Value) (h : pb_H) (Q : Option Value → pb_H → Prop) (x : Int32), pb_R 112 33 [l0, l1] [] (.int x :: st) h Q ↔ pb_R 112 34 [some (.int x), l1] [] st h Q) ∧
  (∀ (l1 : Option Value) (st : List Value) (h : pb_H) (Q : Option Value → pb_H → Prop) (x : Int32), pb_R 112 34 [some (.int x), l1] [] st h Q ↔ pb_R 112 35 [some (.int x), l1] [] (.int x :: st) h Q) ∧
  (∀ (L : pb_L) (J : pb_J) (st : List Value) (h : pb_H) (Q : Option Value → pb_H → Prop), pb_R 112 35 L J st h Q ↔ pb_R 112 38 L J (.int (256 : Int32) :: st) h Q) ∧
  (∀ (L : pb_L) (J : pb_J) (st : List Value) (h : pb_H) (Q : Option Value → pb_H → Prop) (x y : Int32), pb_R 112 38 L J (.int y :: .int x :: st) h Q ↔ if x ≤ y then pb_R 112 49 L J st h Q else pb_R 112 41 L J st h Q) ∧
  (∀ (l0 : Option Value) (st : List Value) (h : pb_H) (Q : Option Value → pb_H → Prop) (x : Int32), pb_R 112 41 [l0, some (.int x)] [] st h Q ↔ pb_R 112 44 [l0, some (.int (x + (8 : Int32)))] [] st h Q) ∧
  (∀ (l1 : Option Value) (st : List Value) (h : pb_H) (Q : Option Value → pb_H → Prop) (x : Int32), pb_R 112 44 [some (.int x), l1] [] st h Q ↔ pb_R 112 45 [some (.int x), l1] [] (.int x :: st) h Q) ∧
  (∀ (L : pb_L) (J : pb_J) (st : List Value) (h : pb_H) (Q : Option Value → pb_H → Prop), pb_R 112 45 L J st h Q ↔ pb_R 112 47 L J (.int (8 : Int32) :: st) h Q) ∧
  (∀ (L : pb_L) (J : pb_J) (st : List Value) (x y : Int32) (h : pb_H) (Q : Option Value → pb_H → Prop), pb_R 112 47 L J (.int y :: .int x :: st) h Q ↔ pb_R 112 48 L J (.int (x.toUInt32 >>> (y.toUInt32 &&& Int32.toUInt32 31)).toInt32 :: st) h Q) ∧
  (∀ (l0 l1 : Option Value) (st : List Value) (h : pb_H) (Q : Option Value → pb_H → Prop) (x : Int32), pb_R 112 48 [l0, l1] [] (.int x :: st) h Q ↔ pb_R 112 49 [some (.int x), l1] [] st h Q) ∧
  (∀ (l1 : Option Value) (st : List Value) (h : pb_H) (Q : Option Value → pb_H → Prop) (x : Int32), pb_R 112 49 [some (.int x), l1] [] st h Q ↔ pb_R 112 50 [some (.int x), l1] [] (.int x :: st) h Q) ∧
  (∀ (L : pb_L) (J : pb_J) (st : List Value) (h : pb_H) (Q : Option Value → pb_H → Prop), pb_R 112 50 L J st h Q ↔ pb_R 112 52 L J (.int (16 : Int32) :: st) h Q) ∧
  (∀ (L : pb_L) (J : pb_J) (st : List Value) (h : pb_H) (Q : Option Value → pb_H → Prop) (x y : Int32), pb_R 112 52 L J (.int y :: .int x :: st) h Q ↔ if x ≤ y then pb_R 112 62 L J st h Q else pb_R 112 55 L J st h Q) ∧
  (∀ (l0 : Option Value) (st : List Value) (h : pb_H) (Q : Option Value → pb_H → Prop) (x : Int32), pb_R 112 55 [l0, some (.int x)] [] st h Q ↔ pb_R 112 58 [l0, some (.int (x + (4 : Int32)))] [] st h Q) ∧
  (∀ (l1 : Option Value) (st : List Value) (h : pb_H) (Q : Option Value → pb_H → Prop) (x : Int32), pb_R 112 58 [some (.int x), l1] [] st h Q ↔ pb_R 112 59 [some (.int x), l1] [] (.int x :: st) h Q) ∧
  (∀ (L : pb_L) (J : pb_J) (st : List Value) (h : pb_H) (Q : Option Value → pb_H → Prop), pb_R 112 59 L J st h Q ↔ pb_R 112 60 L J (.int (4 : Int32) :: st) h Q) ∧
  (∀ (L : pb_L) (J : pb_J) (st : List Value) (x y : Int32) (h : pb_H) (Q : Option Value → pb_H → Prop), pb_R 112 60 L J (.int y :: .int x :: st) h Q ↔ pb_R 112 61 L J (.int (x.toUInt32 >>> (y.toUInt32 &&& Int32.toUInt32 31)).toInt32 :: st) h Q) ∧
  (∀ (l0 l1 : Option Value) (st : List Value) (h : pb_H) (Q : Option Value → pb_H → Prop) (x : Int32), pb_R 112 61 [l0, l1] [] (.int x :: st) h Q ↔ pb_R 112 62 [some (.int x), l1] [] st h Q) ∧
  (∀ (l1 : Option Value) (st : List Value) (h : pb_H) (Q : Option Value → pb_H → Prop) (x : Int32), pb_R 112 62 [some (.int x), l1] [] st h Q ↔ pb_R 112 63 [some (.int x), l1] [] (.int x :: st) h Q) ∧
  (∀ (L : pb_L) (J : pb_J) (st : List Value) (h : pb_H) (Q : Option Value → pb_H → Prop), pb_R 112 63 L J st h Q ↔ pb_R 112 64 L J (.int (4 : Int32) :: st) h Q) ∧
  (∀ (L : pb_L) (J : pb_J) (st : List Value) (h : pb_H) (Q : Option Value → pb_H → Prop) (x y : Int32), pb_R 112 64 L J (.int y :: .int x :: st) h Q ↔ if x ≤ y then pb_R 112 74 L J st h Q else pb_R 112 67 L J st h Q) ∧
  (∀ (l0 : Option Value) (st : List Value) (h : pb_H) (Q : Option Value → pb_H → Prop) (x : Int32), pb_R 112 67 [l0, some (.int x)] [] st h Q ↔ pb_R 112 70 [l0, some (.int (x + (2 : Int32)))] [] st h Q) ∧
  (∀ (l1 : Option Value) (st : List Value) (h : pb_H) (Q : Option Value → pb_H → Prop) (x : Int32), pb_R 112 70 [some (.int x), l1] [] st h Q ↔ pb_R 112 71 [some (.int x), l1] [] (.int x :: st) h Q) ∧
  (∀ (L : pb_L) (J : pb_J) (st : List Value) (h : pb_H) (Q : Option Value → pb_H → Prop), pb_R 112 71 L J st h Q ↔ pb_R 112 72 L J (.int (2 : Int32) :: st) h Q) ∧
  (∀ (L : pb_L) (J : pb_J) (st : List Value) (x y : Int32) (h : pb_H) (Q : Option Value → pb_H → Prop), pb_R 112 72 L J (.int y :: .int x :: st) h Q ↔ pb_R 112 73 L J (.int (x.toUInt32 >>> (y.toUInt32 &&& Int32.toUInt32 31)).toInt32 :: st) h Q) ∧
  (∀ (l0 l1 : Option Value) (st : List Value) (h : pb_H) (Q : Option Value → pb_H → Prop) (x : Int32), pb_R 112 73 [l0, l1] [] (.int x :: st) h Q ↔ pb_R 112 74 [some (.int x), l1] [] st h Q) ∧
  (∀ (l0 : Option Value) (st : List Value) (h : pb_H) (Q : Option Value → pb_H → Prop) (x : Int32), pb_R 112 74 [l0, some (.int x)] [] st h Q ↔ pb_R 112 75 [l0, some (.int x)] [] (.int x :: st) h Q) ∧
  (∀ (l1 : Option Value) (st : List Value) (h : pb_H) (Q : Option Value → pb_H → Prop) (x : Int32), pb_R 112 75 [some (.int x), l1] [] st h Q ↔ pb_R 112 76 [some (.int x), l1] [] (.int x :: st) h Q) ∧
  (∀ (L : pb_L) (J : pb_J) (st : List Value) (h : pb_H) (Q : Option Value → pb_H → Prop), pb_R 112 76 L J st h Q ↔ pb_R 112 77 L J (.int (1 : Int32) :: st) h Q) ∧
  (∀ (L : pb_L) (J : pb_J) (st : List Value) (x y : Int32) (h : pb_H) (Q : Option Value → pb_H → Prop), pb_R 112 77 L J (.int y :: .int x :: st) h Q ↔ pb_R 112 78 L J (.int (x.toUInt32 >>> (y.toUInt32 &&& Int32.toUInt32 31)).toInt32 :: st) h Q) ∧
  (∀ (L : pb_L) (J : pb_J) (st : List Value) (x y : Int32) (h : pb_H) (Q : Option Value → pb_H → Prop), pb_R 112 78 L J (.int y :: .int x :: st) h Q ↔ pb_R 112 79 L J (.int (x + y) :: st) h Q) ∧
  (∀ (L : pb_L) (J : pb_J) (h : pb_H) (Q : Option Value → pb_H → Prop) (x : Int32), pb_R 112 79 L J [.int x] h Q ↔ Q (some (.int x)) h) := ⟨
  fun l1 st h Q x => pf_S pb_u_112 rfl rfl,
  fun L J st h Q => pf_S pb_u_112 rfl rfl,
  fun L J st x y h Q => pf_S pb_u_112 rfl rfl,
  fun l1 st h Q x => pf_S pb_u_112 rfl rfl,
  fun L J st h Q => pf_S pb_u_112 rfl rfl,
  fun L J st x y h Q => pf_S pb_u_112 rfl rfl,
  fun L J st x y h Q => pf_S pb_u_112 rfl rfl,
  fun l0 l1 st h Q x => pf_S pb_u_112 rfl rfl,
  fun l1 st h Q x => pf_S pb_u_112 rfl rfl,
  fun L J st h Q x => pf_ii pb_u_112 rfl rfl rfl,
  fun l1 st h Q x => pf_S pb_u_112 rfl rfl,
  fun L J st h Q => pf_S pb_u_112 rfl rfl,
  fun L J st x y h Q => pf_S pb_u_112 rfl rfl,
  fun L J h Q x => pf_ri pb_u_112 rfl rfl,
  fun L J st h Q => pf_S pb_u_112 rfl rfl,
  fun l0 l1 st h Q x => pf_S pb_u_112 rfl rfl,
  fun l1 st h Q x => pf_S pb_u_112 rfl rfl,
  fun L J st h Q => pf_S pb_u_112 rfl rfl,
  fun L J st h Q x y => pf_ic pb_u_112 rfl rfl rfl,
  fun l0 st h Q x => pf_S pb_u_112 rfl rfl,
  fun l1 st h Q x => pf_S pb_u_112 rfl rfl,
  fun L J st h Q => pf_S pb_u_112 rfl rfl,
  fun L J st x y h Q => pf_S pb_u_112 rfl rfl,
  fun l0 l1 st h Q x => pf_S pb_u_112 rfl rfl,
  fun l1 st h Q x => pf_S pb_u_112 rfl rfl,
  fun L J st h Q => pf_S pb_u_112 rfl rfl,
  fun L J st h Q x y => pf_ic pb_u_112 rfl rfl rfl,
  fun l0 st h Q x => pf_S pb_u_112 rfl rfl,
  fun l1 st h Q x => pf_S pb_u_112 rfl rfl,
  fun L J st h Q => pf_S pb_u_112 rfl rfl,
  fun L J st x y h Q => pf_S pb_u_112 rfl rfl,
  fun l0 l1 st h Q x => pf_S pb_u_112 rfl rfl,
  fun l1 st h Q x => pf_S pb_u_112 rfl rfl,
  fun L J st h Q => pf_S pb_u_112 rfl rfl,
  fun L J st h Q x y => pf_ic pb_u_112 rfl rfl rfl,
  fun l0 st h Q x => pf_S pb_u_112 rfl rfl,
  fun l1 st h Q x => pf_S pb_u_112 rfl rfl,
  fun L J st h Q => pf_S pb_u_112 rfl rfl,
  fun L J st x y h Q => pf_S pb_u_112 rfl rfl,
  fun l0 l1 st h Q x => pf_S pb_u_112 rfl rfl,
  fun l1 st h Q x => pf_S pb_u_112 rfl rfl,
  fun L J st h Q => pf_S pb_u_112 rfl rfl,
  fun L J st h Q x y => pf_ic pb_u_112 rfl rfl rfl,
  fun l0 st h Q x => pf_S pb_u_112 rfl rfl,
  fun l1 st h Q x => pf_S pb_u_112 rfl rfl,
  fun L J st h Q => pf_S pb_u_112 rfl rfl,
  fun L J st x y h Q => pf_S pb_u_112 rfl rfl,
  fun l0 l1 st h Q x => pf_S pb_u_112 rfl rfl,
  fun l0 st h Q x => pf_S pb_u_112 rfl rfl,
  fun l1 st h Q x => pf_S pb_u_112 rfl rfl,
  fun L J st h Q => pf_S pb_u_112 rfl rfl,
  fun L J st x y h Q => pf_S pb_u_112 rfl rfl,
  fun L J st x y h Q => pf_S pb_u_112 rfl rfl,
  fun L J h Q x => pf_ri pb_u_112 rfl rfl⟩
theorem pb_c112 (x0 : Int32) (h : pb_H) (Q : Option Value → pb_H → Prop) : pb_call 112 [.int x0] h Q ↔ pb_R 112 0 [some (.int x0), none] [] [] h Q := Iff.rfl
/-! 113: PlaneBench$Trail.leastOf(I)I -/
theorem pb_u_113 : pb_t 113 = pb_t113 := rfl
set_option maxRecDepth 100000 in
theorem pb_e113 : (∀ (st : List Value) (h : pb_H) (Q : Option Value → pb_H → Prop) (x : Int32), pb_R 113 0 [some (.int x)] [] st h Q ↔ pb_R 113 1 [some (.int x)] [] (.int x :: st) h Q) ∧
  (∀ (L : pb_L) (J : pb_J) (h : pb_H) (Q : Option Value → pb_H → Prop) (x0 : Int32), pb_R 113 1 L J [.int x0] h Q ↔ pb_call 112 [.int x0] h (fun v t => pb_R 113 4 L J (v.toList ++ []) t Q)) ∧
  (∀ (L : pb_L) (J : pb_J) (st : List Value) (h : pb_H) (Q : Option Value → pb_H → Prop), pb_R 113 4 L J st h Q ↔ pb_R 113 5 L J (.int (1 : Int32) :: st) h Q) ∧
  (∀ (L : pb_L) (J : pb_J) (st : List Value) (x y : Int32) (h : pb_H) (Q : Option Value → pb_H → Prop), pb_R 113 5 L J (.int y :: .int x :: st) h Q ↔ pb_R 113 6 L J (.int (x + y) :: st) h Q) ∧
  (∀ (L : pb_L) (J : pb_J) (h : pb_H) (Q : Option Value → pb_H → Prop) (x : Int32), pb_R 113 6 L J [.int x] h Q ↔ Q (some (.int x)) h) := ⟨
  fun st h Q x => pf_S pb_u_113 rfl rfl,
  fun L J h Q x0 => pf_ks pb_u_113 rfl rfl rfl rfl,
  fun L J st h Q => pf_S pb_u_113 rfl rfl,
  fun L J st x y h Q => pf_S pb_u_113 rfl rfl,
  fun L J h Q x => pf_ri pb_u_113 rfl rfl⟩
theorem pb_c113 (x0 : Int32) (h : pb_H) (Q : Option Value → pb_H → Prop) : pb_call 113 [.int x0] h Q ↔ pb_R 113 0 [some (.int x0)] [] [] h Q := Iff.rfl
/-! 114: PlaneBench$Trail.isComplete()Z -/
theorem pb_u_114 : pb_t 114 = pb_t114 := rfl
theorem pb_ci_114 : pb_ci 114 = 9 := by decide +kernel
set_option maxRecDepth 100000 in
theorem pb_e114 : (∀ (st : List Value) (h : pb_H) (Q : Option Value → pb_H → Prop) (x : Nat), pb_R 114 0 [some (.ref x)] [] st h Q ↔ pb_R 114 1 [some (.ref x)] [] (.ref x :: st) h Q) ∧
  (∀ (st : List Value) (h : pb_H) (Q : Option Value → pb_H → Prop), pb_R 114 0 [some .null] [] st h Q ↔ pb_R 114 1 [some .null] [] (.null :: st) h Q) ∧
  (∀ (L : pb_L) (J : pb_J) (st : List Value) (h : pb_H) (Q : Option Value → pb_H → Prop) (a : Nat), pb_R 114 1 L J (.ref a :: st) h Q ↔ pb_o (pb_gf (h.2 a) 9 4) (fun v => pb_R 114 4 L J (v :: st) h Q)) ∧
  (∀ (st : List Value) (h : pb_H) (Q : Option Value → pb_H → Prop) (x : Nat), pb_R 114 4 [some (.ref x)] [] st h Q ↔ pb_R 114 5 [some (.ref x)] [] (.ref x :: st) h Q) ∧
  (∀ (st : List Value) (h : pb_H) (Q : Option Value → pb_H → Prop), pb_R 114 4 [some .null] [] st h Q ↔ pb_R 114 5 [some .null] [] (.null :: st) h Q) ∧
  (∀ (L : pb_L) (J : pb_J) (st : List Value) (h : pb_H) (Q : Option Value → pb_H → Prop) (a : Nat), pb_R 114 5 L J (.ref a :: st) h Q ↔ pb_o (pb_gf (h.2 a) 9 0) (fun v => pb_R 114 8 L J (v :: st) h Q)) ∧
  (∀ (L : pb_L) (J : pb_J) (st : List Value) (h : pb_H) (Q : Option Value → pb_H → Prop) (x y : Int32), pb_R 114 8 L J (.int y :: .int x :: st) h Q ↔ if x < y then pb_R 114 15 L J st h Q else pb_R 114 11 L J st h Q) ∧
  (∀ (L : pb_L) (J : pb_J) (st : List Value) (h : pb_H) (Q : Option Value → pb_H → Prop), pb_R 114 11 L J st h Q ↔ pb_R 114 12 L J (.int (1 : Int32) :: st) h Q) ∧
  (∀ (L : pb_L) (J : pb_J) (st : List Value) (h : pb_H) (Q : Option Value → pb_H → Prop), pb_R 114 12 L J st h Q ↔ pb_R 114 16 L J st h Q) ∧
  (∀ (L : pb_L) (J : pb_J) (st : List Value) (h : pb_H) (Q : Option Value → pb_H → Prop), pb_R 114 15 L J st h Q ↔ pb_R 114 16 L J (.int (0 : Int32) :: st) h Q) ∧
  (∀ (L : pb_L) (J : pb_J) (h : pb_H) (Q : Option Value → pb_H → Prop) (x : Int32), pb_R 114 16 L J [.int x] h Q ↔ narrow .boolean (.int x) = .int x ∧ Q (some (.int x)) h) := ⟨
  fun st h Q x => pf_S pb_u_114 rfl rfl,
  fun st h Q => pf_S pb_u_114 rfl rfl,
  fun L J st h Q a => pf_gf pb_u_114 rfl rfl,
  fun st h Q x => pf_S pb_u_114 rfl rfl,
  fun st h Q => pf_S pb_u_114 rfl rfl,
  fun L J st h Q a => pf_gf pb_u_114 rfl rfl,
  fun L J st h Q x y => pf_ic pb_u_114 rfl rfl rfl,
  fun L J st h Q => pf_S pb_u_114 rfl rfl,
  fun L J st h Q => pf_S pb_u_114 rfl rfl,
  fun L J st h Q => pf_S pb_u_114 rfl rfl,
  fun L J h Q x => pf_rz pb_u_114 rfl rfl⟩
theorem pb_c114 (x0 : Nat) (h : pb_H) (Q : Option Value → pb_H → Prop) : pb_call 114 [.ref x0] h Q ↔ pb_R 114 0 [some (.ref x0)] [] [] h Q := Iff.rfl
/-! 115: PlaneBench$Trail.push(III)V -/
theorem pb_u_115 : pb_t 115 = pb_t115 := rfl
theorem pb_ci_115 : pb_ci 115 = 9 := by decide +kernel
set_option maxRecDepth 100000 in
theorem pb_e115 : (∀ (l1 l2 l3 l4 : Option Value) (st : List Value) (h : pb_H) (Q : Option Value → pb_H → Prop) (x : Nat), pb_R 115 0 [some (.ref x), l1, l2, l3, l4] [] st h Q ↔ pb_R 115 1 [some (.ref x), l1, l2, l3, l4] [] (.ref x :: st) h Q) ∧
  (∀ (l1 l2 l3 l4 : Option Value) (st : List Value) (h : pb_H) (Q : Option Value → pb_H → Prop), pb_R 115 0 [some .null, l1, l2, l3, l4] [] st h Q ↔ pb_R 115 1 [some .null, l1, l2, l3, l4] [] (.null :: st) h Q) ∧
  (∀ (L : pb_L) (J : pb_J) (h : pb_H) (Q : Option Value → pb_H → Prop) (x0 : Nat), pb_R 115 1 L J [.ref x0] h Q ↔ pb_is0 (h.2 x0) 9 = true ∧ pb_call 114 [.ref x0] h (fun v t => pb_R 115 4 L J (v.toList ++ []) t Q)) ∧
  (∀ (L : pb_L) (J : pb_J) (st : List Value) (h : pb_H) (Q : Option Value → pb_H → Prop) (x : Int32), pb_R 115 4 L J (.int x :: st) h Q ↔ if x = 0 then pb_R 115 8 L J st h Q else pb_R 115 7 L J st h Q) ∧
  (∀ (L : pb_L) (J : pb_J) (h : pb_H) (Q : Option Value → pb_H → Prop), pb_R 115 7 L J [] h Q ↔ Q none h) ∧
  (∀ (l1 l2 l3 l4 : Option Value) (st : List Value) (h : pb_H) (Q : Option Value → pb_H → Prop) (x : Nat), pb_R 115 8 [some (.ref x), l1, l2, l3, l4] [] st h Q ↔ pb_R 115 9 [some (.ref x), l1, l2, l3, l4] [] (.ref x :: st) h Q) ∧
  (∀ (l1 l2 l3 l4 : Option Value) (st : List Value) (h : pb_H) (Q : Option Value → pb_H → Prop), pb_R 115 8 [some .null, l1, l2, l3, l4] [] st h Q ↔ pb_R 115 9 [some .null, l1, l2, l3, l4] [] (.null :: st) h Q) ∧
  (∀ (L : pb_L) (J : pb_J) (st : List Value) (h : pb_H) (Q : Option Value → pb_H → Prop) (a : Nat), pb_R 115 9 L J (.ref a :: st) h Q ↔ pb_o (pb_gf (h.2 a) 9 1) (fun v => pb_R 115 12 L J (v :: st) h Q)) ∧
  (∀ (l1 l2 l3 l4 : Option Value) (st : List Value) (h : pb_H) (Q : Option Value → pb_H → Prop) (x : Nat), pb_R 115 12 [some (.ref x), l1, l2, l3, l4] [] st h Q ↔ pb_R 115 13 [some (.ref x), l1, l2, l3, l4] [] (.ref x :: st) h Q) ∧
  (∀ (l1 l2 l3 l4 : Option Value) (st : List Value) (h : pb_H) (Q : Option Value → pb_H → Prop), pb_R 115 12 [some .null, l1, l2, l3, l4] [] st h Q ↔ pb_R 115 13 [some .null, l1, l2, l3, l4] [] (.null :: st) h Q) ∧
  (∀ (L : pb_L) (J : pb_J) (st : List Value) (h : pb_H) (Q : Option Value → pb_H → Prop) (a : Nat), pb_R 115 13 L J (.ref a :: st) h Q ↔ pb_o (pb_gf (h.2 a) 9 4) (fun v => pb_R 115 16 L J (v :: st) h Q)) ∧
  (∀ (l0 l2 l3 l4 : Option Value) (st : List Value) (h : pb_H) (Q : Option Value → pb_H → Prop) (x : Int32), pb_R 115 16 [l0, some (.int x), l2, l3, l4] [] st h Q ↔ pb_R 115 17 [l0, some (.int x), l2, l3, l4] [] (.int x :: st) h Q) ∧
  (∀ (L : pb_L) (J : pb_J) (st : List Value) (h : pb_H) (Q : Option Value → pb_H → Prop) (a : Nat) (i x : Int32), pb_R 115 17 L J (.int x :: .int i :: .ref a :: st) h Q ↔ pb_o (pb_si (h.2 a) i x) (fun c => pb_R 115 18 L J st (pb_set h a c) Q)) ∧
  (∀ (l1 l2 l3 l4 : Option Value) (st : List Value) (h : pb_H) (Q : Option Value → pb_H → Prop) (x : Nat), pb_R 115 18 [some (.ref x), l1, l2, l3, l4] [] st h Q ↔ pb_R 115 19 [some (.ref x), l1, l2, l3, l4] [] (.ref x :: st) h Q) ∧
  (∀ (l1 l2 l3 l4 : Option Value) (st : List Value) (h : pb_H) (Q : Option Value → pb_H → Prop), pb_R 115 18 [some .null, l1, l2, l3, l4] [] st h Q ↔ pb_R 115 19 [some .null, l1, l2, l3, l4] [] (.null :: st) h Q) ∧
  (∀ (L : pb_L) (J : pb_J) (st : List Value) (h : pb_H) (Q : Option Value → pb_H → Prop) (a : Nat), pb_R 115 19 L J (.ref a :: st) h Q ↔ pb_o (pb_gf (h.2 a) 9 2) (fun v => pb_R 115 22 L J (v :: st) h Q)) ∧
  (∀ (l1 l2 l3 l4 : Option Value) (st : List Value) (h : pb_H) (Q : Option Value → pb_H → Prop) (x : Nat), pb_R 115 22 [some (.ref x), l1, l2, l3, l4] [] st h Q ↔ pb_R 115 23 [some (.ref x), l1, l2, l3, l4] [] (.ref x :: st) h Q) ∧
  (∀ (l1 l2 l3 l4 : Option Value) (st : List Value) (h : pb_H) (Q : Option Value → pb_H → Prop), pb_R 115 22 [some .null, l1, l2, l3, l4] [] st h Q ↔ pb_R 115 23 [some .null, l1, l2, l3, l4] [] (.null :: st) h Q) ∧
  (∀ (L : pb_L) (J : pb_J) (st : List Value) (h : pb_H) (Q : Option Value → pb_H → Prop) (a : Nat), pb_R 115 23 L J (.ref a :: st) h Q ↔ pb_o (pb_gf (h.2 a) 9 4) (fun v => pb_R 115 26 L J (v :: st) h Q)) ∧
  (∀ (l0 l1 l3 l4 : Option Value) (st : List Value) (h : pb_H) (Q : Option Value → pb_H → Prop) (x : Int32), pb_R 115 26 [l0, l1, some (.int x), l3, l4] [] st h Q ↔ pb_R 115 27 [l0, l1, some (.int x), l3, l4] [] (.int x :: st) h Q) ∧
  (∀ (L : pb_L) (J : pb_J) (st : List Value) (h : pb_H) (Q : Option Value → pb_H → Prop) (a : Nat) (i x : Int32), pb_R 115 27 L J (.int x :: .int i :: .ref a :: st) h Q ↔ pb_o (pb_si (h.2 a) i x) (fun c => pb_R 115 28 L J st (pb_set h a c) Q)) ∧
  (∀ (l1 l2 l3 l4 : Option Value) (st : List Value) (h : pb_H) (Q : Option Value → pb_H → Prop) (x : Nat), pb_R 115 28 [some (.ref x), l1, l2, l3, l4] [] st h Q ↔ pb_R 115 29 [some (.ref x), l1, l2, l3, l4] [] (.ref x :: st) h Q) ∧
  (∀ (l1 l2 l3 l4 : Option Value) (st : List Value) (h : pb_H) (Q : Option Value → pb_H → Prop), pb_R 115 28 [some .null, l1, l2, l3, l4] [] st h Q ↔ pb_R 115 29 [some .null, l1, l2, l3, l4] [] (.null :: st) h Q) ∧
  (∀ (L : pb_L) (J : pb_J) (st : List Value) (h : pb_H) (Q : Option Value → pb_H → Prop) (a : Nat), pb_R 115 29 L J (.ref a :: st) h Q ↔ pb_o (pb_gf (h.2 a) 9 3) (fun v => pb_R 115 32 L J (v :: st) h Q)) ∧
  (∀ (l1 l2 l3 l4 : Option Value) (st : List Value) (h : pb_H) (Q : Option Value → pb_H → Prop) (x : Nat), pb_R 115 32 [some (.ref x), l1, l2, l3, l4] [] st h Q ↔ pb_R 115 33 [some (.ref x), l1, l2, l3, l4] [] (.ref x :: st) h Q) ∧
  (∀ (l1 l2 l3 l4 : Option Value) (st : List Value) (h : pb_H) (Q : Option Value → pb_H → Prop), pb_R 115 32 [some .null, l1, l2, l3, l4] [] st h Q ↔ pb_R 115 33 [some .null, l1, l2, l3, l4] [] (.null :: st) h Q) ∧
  (∀ (L : pb_L) (J : pb_J) (st : List Value) (h : pb_H) (Q : Option Value → pb_H → Prop) (a : Nat), pb_R 115 33 L J (.ref a :: st) h Q ↔ pb_o (pb_gf (h.2 a) 9 4) (fun v => pb_R 115 36 L J (v :: st) h Q)) ∧
  (∀ (l0 l1 l2 l4 : Option Value) (st : List Value) (h : pb_H) (Q : Option Value → pb_H → Prop) (x : Int32), pb_R 115 36 [l0, l1, l2, some (.int x), l4] [] st h Q ↔ pb_R 115 37 [l0, l1, l2, some (.int x), l4] [] (.int x :: st) h Q) ∧
  (∀ (L : pb_L) (J : pb_J) (st : List Value) (h : pb_H) (Q : Option Value → pb_H → Prop) (a : Nat) (i x : Int32), pb_R 115 37 L J (.int x :: .int i :: .ref a :: st) h Q ↔ pb_o (pb_si (h.2 a) i x) (fun c => pb_R 115 38 L J st (pb_set h a c) Q)) ∧
  (∀ (l1 l2 l3 l4 : Option Value) (st : List Value) (h : pb_H) (Q : Option Value → pb_H → Prop) (x : Nat), pb_R 115 38 [some (.ref x), l1, l2, l3, l4] [] st h Q ↔ pb_R 115 39 [some (.ref x), l1, l2, l3, l4] [] (.ref x :: st) h Q) ∧
  (∀ (l1 l2 l3 l4 : Option Value) (st : List Value) (h : pb_H) (Q : Option Value → pb_H → Prop), pb_R 115 38 [some .null, l1, l2, l3, l4] [] st h Q ↔ pb_R 115 39 [some .null, l1, l2, l3, l4] [] (.null :: st) h Q) ∧
  (∀ (L : pb_L) (J : pb_J) (st : List Value) (x : Nat) (h : pb_H) (Q : Option Value → pb_H → Prop), pb_R 115 39 L J (.ref x :: st) h Q ↔ pb_R 115 40 L J (.ref x :: .ref x :: st) h Q) ∧
  (∀ (L : pb_L) (J : pb_J) (st : List Value) (h : pb_H) (Q : Option Value → pb_H → Prop) (a : Nat), pb_R 115 40 L J (.ref a :: st) h Q ↔ pb_o (pb_gf (h.2 a) 9 4) (fun v => pb_R 115 43 L J (v :: st) h Q)) ∧
  (∀ (L : pb_L) (J : pb_J) (st : List Value) (h : pb_H) (Q : Option Value → pb_H → Prop), pb_R 115 43 L J st h Q ↔ pb_R 115 44 L J (.int (1 : Int32) :: st) h Q) ∧
  (∀ (L : pb_L) (J : pb_J) (st : List Value) (x y : Int32) (h : pb_H) (Q : Option Value → pb_H → Prop), pb_R 115 44 L J (.int y :: .int x :: st) h Q ↔ pb_R 115 45 L J (.int (x + y) :: st) h Q) ∧
  (∀ (L : pb_L) (J : pb_J) (st : List Value) (h : pb_H) (Q : Option Value → pb_H → Prop) (a : Nat) (x : Int32), pb_R 115 45 L J (.int x :: .ref a :: st) h Q ↔ pb_o (pb_pf (h.2 a) 9 4 (.int x)) (fun c => pb_R 115 48 L J st (pb_set h a c) Q)) ∧
  (∀ (l0 l2 l3 l4 : Option Value) (st : List Value) (h : pb_H) (Q : Option Value → pb_H → Prop) (x : Int32), pb_R 115 48 [l0, some (.int x), l2, l3, l4] [] st h Q ↔ pb_R 115 49 [l0, some (.int x), l2, l3, l4] [] (.int x :: st) h Q) ∧
  (∀ (L : pb_L) (J : pb_J) (h : pb_H) (Q : Option Value → pb_H → Prop) (x0 : Int32), pb_R 115 49 L J [.int x0] h Q ↔ pb_call 99 [.int x0] h (fun v t => pb_R 115 52 L J (v.toList ++ []) t Q)) ∧
  (∀ (l0 l1 l2 l3 l4 : Option Value) (st : List Value) (h : pb_H) (Q : Option Value → pb_H → Prop) (x : Int32), pb_R 115 52 [l0, l1, l2, l3, l4] [] (.int x :: st) h Q ↔ pb_R 115 54 [l0, l1, l2, l3, some (.int x)] [] st h Q) ∧
  (∀ (l0 l2 l3 l4 : Option Value) (st : List Value) (h : pb_H) (Q : Option Value → pb_H → Prop) (x : Int32), pb_R 115 54 [l0, some (.int x), l2, l3, l4] [] st h Q ↔ pb_R 115 55 [l0, some (.int x), l2, l3, l4] [] (.int x :: st) h Q) ∧
  (∀ (L : pb_L) (J : pb_J) (st : List Value) (h : pb_H) (Q : Option Value → pb_H → Prop) (x : Int32), pb_R 115 55 L J (.int x :: st) h Q ↔ if x ≤ 0 then pb_R 115 83 L J st h Q else pb_R 115 58 L J st h Q) ∧
  (∀ (l1 l2 l3 l4 : Option Value) (st : List Value) (h : pb_H) (Q : Option Value → pb_H → Prop) (x : Nat), pb_R 115 58 [some (.ref x), l1, l2, l3, l4] [] st h Q ↔ pb_R 115 59 [some (.ref x), l1, l2, l3, l4] [] (.ref x :: st) h Q) ∧
  (∀ (l1 l2 l3 l4 : Option Value) (st : List Value) (h : pb_H) (Q : Option Value → pb_H → Prop), pb_R 115 58 [some .null, l1, l2, l3, l4] [] st h Q ↔ pb_R 115 59 [some .null, l1, l2, l3, l4] [] (.null :: st) h Q) ∧
  (∀ (L : pb_L) (J : pb_J) (st : List Value) (x : Nat) (h : pb_H) (Q : Option Value → pb_H → Prop), pb_R 115 59 L J (.ref x :: st) h Q ↔ pb_R 115 60 L J (.ref x :: .ref x :: st) h Q) ∧
  (∀ (L : pb_L) (J : pb_J) (st : List Value) (h : pb_H) (Q : Option Value → pb_H → Prop) (a : Nat), pb_R 115 60 L J (.ref a :: st) h Q ↔ pb_o (pb_gf (h.2 a) 9 5) (fun v => pb_R 115 63 L J (v :: st) h Q)) ∧
  (∀ (l0 l1 l2 l3 : Option Value) (st : List Value) (h : pb_H) (Q : Option Value → pb_H → Prop) (x : Int32), pb_R 115 63 [l0, l1, l2, l3, some (.int x)] [] st h Q ↔ pb_R 115 65 [l0, l1, l2, l3, some (.int x)] [] (.int x :: st) h Q) ∧
  (∀ (L : pb_L) (J : pb_J) (st : List Value) (x y : Int32) (h : pb_H) (Q : Option Value → pb_H → Prop), pb_R 115 65 L J (.int y :: .int x :: st) h Q ↔ pb_R 115 66 L J (.int (x ||| y) :: st) h Q) ∧
  (∀ (L : pb_L) (J : pb_J) (st : List Value) (h : pb_H) (Q : Option Value → pb_H → Prop) (a : Nat) (x : Int32), pb_R 115 66 L J (.int x :: .ref a :: st) h Q ↔ pb_o (pb_pf (h.2 a) 9 5 (.int x)) (fun c => pb_R 115 69 L J st (pb_set h a c) Q)) ∧
  (∀ (l1 l2 l3 l4 : Option Value) (st : List Value) (h : pb_H) (Q : Option Value → pb_H → Prop) (x : Nat), pb_R 115 69 [some (.ref x), l1, l2, l3, l4] [] st h Q ↔ pb_R 115 70 [some (.ref x), l1, l2, l3, l4] [] (.ref x :: st) h Q) ∧
  (∀ (l1 l2 l3 l4 : Option Value) (st : List Value) (h : pb_H) (Q : Option Value → pb_H → Prop), pb_R 115 69 [some .null, l1, l2, l3, l4] [] st h Q ↔ pb_R 115 70 [some .null, l1, l2, l3, l4] [] (.null :: st) h Q) ∧
  (∀ (L : pb_L) (J : pb_J) (st : List Value) (x : Nat) (h : pb_H) (Q : Option Value → pb_H → Prop), pb_R 115 70 L J (.ref x :: st) h Q ↔ pb_R 115 71 L J (.ref x :: .ref x :: st) h Q) ∧
  (∀ (L : pb_L) (J : pb_J) (st : List Value) (h : pb_H) (Q : Option Value → pb_H → Prop) (a : Nat), pb_R 115 71 L J (.ref a :: st) h Q ↔ pb_o (pb_gf (h.2 a) 9 7) (fun v => pb_R 115 74 L J (v :: st) h Q)) ∧
  (∀ (l0 l1 l2 l3 : Option Value) (st : List Value) (h : pb_H) (Q : Option Value → pb_H → Prop) (x : Int32), pb_R 115 74 [l0, l1, l2, l3, some (.int x)] [] st h Q ↔ pb_R 115 76 [l0, l1, l2, l3, some (.int x)] [] (.int x :: st) h Q) ∧
  (∀ (L : pb_L) (J : pb_J) (st : List Value) (x y : Int32) (h : pb_H) (Q : Option Value → pb_H → Prop), pb_R 115 76 L J (.int y :: .int x :: st) h Q ↔ pb_R 115 77 L J (.int (x ||| y) :: st) h Q) ∧
  (∀ (L : pb_L) (J : pb_J) (st : List Value) (h : pb_H) (Q : Option Value → pb_H → Prop) (a : Nat) (x : Int32), pb_R 115 77 L J (.int x :: .ref a :: st) h Q ↔ pb_o (pb_pf (h.2 a) 9 7 (.int x)) (fun c => pb_R 115 80 L J st (pb_set h a c) Q)) ∧
  (∀ (L : pb_L) (J : pb_J) (st : List Value) (h : pb_H) (Q : Option Value → pb_H → Prop), pb_R 115 80 L J st h Q ↔ pb_R 115 107 L J st h Q) ∧
  (∀ (l1 l2 l3 l4 : Option Value) (st : List Value) (h : pb_H) (Q : Option Value → pb_H → Prop) (x : Nat), pb_R 115 83 [some (.ref x), l1, l2, l3, l4] [] st h Q ↔ pb_R 115 84 [some (.ref x), l1, l2, l3, l4] [] (.ref x :: st) h Q) ∧
  (∀ (l1 l2 l3 l4 : Option Value) (st : List Value) (h : pb_H) (Q : Option Value → pb_H → Prop), pb_R 115 83 [some .null, l1, l2, l3, l4] [] st h Q ↔ pb_R 115 84 [some .null, l1, l2, l3, l4] [] (.null :: st) h Q) ∧
  (∀ (L : pb_L) (J : pb_J) (st : List Value) (x : Nat) (h : pb_H) (Q : Option Value → pb_H → Prop), pb_R 115 84 L J (.ref x :: st) h Q ↔ pb_R 115 85 L J (.ref x :: .ref x :: st) h Q) ∧
  (∀ (L : pb_L) (J : pb_J) (st : List Value) (h : pb_H) (Q : Option Value → pb_H → Prop) (a : Nat), pb_R 115 85 L J (.ref a :: st) h Q ↔ pb_o (pb_gf (h.2 a) 9 6) (fun v => pb_R 115 88 L J (v :: st) h Q)) ∧
  (∀ (l0 l1 l2 l3 : Option Value) (st : List Value) (h : pb_H) (Q : Option Value → pb_H → Prop) (x : Int32), pb_R 115 88 [l0, l1, l2, l3, some (.int x)] [] st h Q ↔ pb_R 115 90 [l0, l1, l2, l3, some (.int x)] [] (.int x :: st) h Q) ∧
  (∀ (L : pb_L) (J : pb_J) (st : List Value) (x y : Int32) (h : pb_H) (Q : Option Value → pb_H → Prop), pb_R 115 90 L J (.int y :: .int x :: st) h Q ↔ pb_R 115 91 L J (.int (x ||| y) :: st) h Q) ∧
  (∀ (L : pb_L) (J : pb_J) (st : List Value) (h : pb_H) (Q : Option Value → pb_H → Prop) (a : Nat) (x : Int32), pb_R 115 91 L J (.int x :: .ref a :: st) h Q ↔ pb_o (pb_pf (h.2 a) 9 6 (.int x)) (fun c => pb_R 115 94 L J st (pb_set h a c) Q)) ∧
  (∀ (l1 l2 l3 l4 : Option Value) (st : List Value) (h : pb_H) (Q : Option Value → pb_H → Prop) (x : Nat), pb_R 115 94 [some (.ref x), l1, l2, l3, l4] [] st h Q ↔ pb_R 115 95 [some (.ref x), l1, l2, l3, l4] [] (.ref x :: st) h Q) ∧
  (∀ (l1 l2 l3 l4 : Option Value) (st : List Value) (h : pb_H) (Q : Option Value → pb_H → Prop), pb_R 115 94 [some .null, l1, l2, l3, l4] [] st h Q ↔ pb_R 115 95 [some .null, l1, l2, l3, l4] [] (.null :: st) h Q) ∧
  (∀ (L : pb_L) (J : pb_J) (st : List Value) (x : Nat) (h : pb_H) (Q : Option Value → pb_H → Prop), pb_R 115 95 L J (.ref x :: st) h Q ↔ pb_R 115 96 L J (.ref x :: .ref x :: st) h Q) ∧
  (∀ (L : pb_L) (J : pb_J) (st : List Value) (h : pb_H) (Q : Option Value → pb_H → Prop) (a : Nat), pb_R 115 96 L J (.ref a :: st) h Q ↔ pb_o (pb_gf (h.2 a) 9 7) (fun v => pb_R 115 99 L J (v :: st) h Q)) ∧
  (∀ (l0 l1 l2 l3 : Option Value) (st : List Value) (h : pb_H) (Q : Option Value → pb_H → Prop) (x : Int32), pb_R 115 99 [l0, l1, l2, l3, some (.int x)] [] st h Q ↔ pb_R 115 101 [l0, l1, l2, l3, some (.int x)] [] (.int x :: st) h Q) ∧
  (∀ (L : pb_L) (J : pb_J) (st : List Value) (h : pb_H) (Q : Option Value → pb_H → Prop), pb_R 115 101 L J st h Q ↔ pb_R 115 102 L J (.int (-1 : Int32) :: st) h Q) ∧
  (∀ (L : pb_L) (J : pb_J) (st : List Value) (x y : Int32) (h : pb_H) (Q : Option Value → pb_H → Prop), pb_R 115 102 L J (.int y :: .int x :: st) h Q ↔ pb_R 115 103 L J (.int (x ^^^ y) :: st) h Q) ∧
  (∀ (L : pb_L) (J : pb_J) (st : List Value) (x y : Int32) (h : pb_H) (Q : Option Value → pb_H → Prop), pb_R 115 103 L J (.int y :: .int x :: st) h Q ↔ pb_R 115 104 L J (.int (x &&& y) :: st) h Q) ∧
  (∀ (L : pb_L) (J : pb_J) (st : List Value) (h : pb_H) (Q : Option Value → pb_H → Prop) (a : Nat) (x : Int32), pb_R 115 104 L J (.int x :: .ref a :: st) h Q ↔ pb_o (pb_pf (h.2 a) 9 7 (.int x)) (fun c => pb_R 115 107 L J st (pb_set h a c) Q)) ∧
  (∀ (L : pb_L) (J : pb_J) (h : pb_H) (Q : Option Value → pb_H → Prop), pb_R 115 107 L J [] h Q ↔ Q none h) := ⟨
  fun l1 l2 l3 l4 st h Q x => pf_S pb_u_115 rfl rfl,
  fun l1 l2 l3 l4 st h Q => pf_S pb_u_115 rfl rfl,
  fun L J h Q x0 => pf_kv pb_u_115 rfl pb_ci_114 rfl ⟨Nat.le_of_ble_eq_true rfl, Nat.le_of_ble_eq_true rfl, Nat.le_of_ble_eq_true rfl, Nat.le_of_ble_eq_true rfl, rfl⟩ rfl rfl,
  fun L J st h Q x => pf_ii pb_u_115 rfl rfl rfl,
  fun L J h Q => pf_rv pb_u_115 rfl rfl,
  fun l1 l2 l3 l4 st h Q x => pf_S pb_u_115 rfl rfl,
  fun l1 l2 l3 l4 st h Q => pf_S pb_u_115 rfl rfl,
  fun L J st h Q a => pf_gf pb_u_115 rfl rfl,
  fun l1 l2 l3 l4 st h Q x => pf_S pb_u_115 rfl rfl,
  fun l1 l2 l3 l4 st h Q => pf_S pb_u_115 rfl rfl,
  fun L J st h Q a => pf_gf pb_u_115 rfl rfl,
  fun l0 l2 l3 l4 st h Q x => pf_S pb_u_115 rfl rfl,
  fun L J st h Q a i x => pf_si pb_u_115 rfl rfl,
  fun l1 l2 l3 l4 st h Q x => pf_S pb_u_115 rfl rfl,
  fun l1 l2 l3 l4 st h Q => pf_S pb_u_115 rfl rfl,
  fun L J st h Q a => pf_gf pb_u_115 rfl rfl,
  fun l1 l2 l3 l4 st h Q x => pf_S pb_u_115 rfl rfl,
  fun l1 l2 l3 l4 st h Q => pf_S pb_u_115 rfl rfl,
  fun L J st h Q a => pf_gf pb_u_115 rfl rfl,
  fun l0 l1 l3 l4 st h Q x => pf_S pb_u_115 rfl rfl,
  fun L J st h Q a i x => pf_si pb_u_115 rfl rfl,
  fun l1 l2 l3 l4 st h Q x => pf_S pb_u_115 rfl rfl,
  fun l1 l2 l3 l4 st h Q => pf_S pb_u_115 rfl rfl,
  fun L J st h Q a => pf_gf pb_u_115 rfl rfl,
  fun l1 l2 l3 l4 st h Q x => pf_S pb_u_115 rfl rfl,
  fun l1 l2 l3 l4 st h Q => pf_S pb_u_115 rfl rfl,
  fun L J st h Q a => pf_gf pb_u_115 rfl rfl,
  fun l0 l1 l2 l4 st h Q x => pf_S pb_u_115 rfl rfl,
  fun L J st h Q a i x => pf_si pb_u_115 rfl rfl,
  fun l1 l2 l3 l4 st h Q x => pf_S pb_u_115 rfl rfl,
  fun l1 l2 l3 l4 st h Q => pf_S pb_u_115 rfl rfl,
  fun L J st x h Q => pf_S pb_u_115 rfl rfl,
  fun L J st h Q a => pf_gf pb_u_115 rfl rfl,
  fun L J st h Q => pf_S pb_u_115 rfl rfl,
  fun L J st x y h Q => pf_S pb_u_115 rfl rfl,
  fun L J st h Q a x => pf_pf pb_u_115 rfl rfl,
  fun l0 l2 l3 l4 st h Q x => pf_S pb_u_115 rfl rfl,
  fun L J h Q x0 => pf_ks pb_u_115 rfl rfl rfl rfl,
  fun l0 l1 l2 l3 l4 st h Q x => pf_S pb_u_115 rfl rfl,
  fun l0 l2 l3 l4 st h Q x => pf_S pb_u_115 rfl rfl,
  fun L J st h Q x => pf_ii pb_u_115 rfl rfl rfl,
  fun l1 l2 l3 l4 st h Q x => pf_S pb_u_115 rfl rfl,
  fun l1 l2 l3 l4 st h Q => pf_S pb_u_115 rfl rfl,
  fun L J st x h Q => pf_S pb_u_115 rfl rfl,
  fun L J st h Q a => pf_gf pb_u_115 rfl rfl,
  fun l0 l1 l2 l3 st h Q x => pf_S pb_u_115 rfl rfl,
  fun L J st x y h Q => pf_S pb_u_115 rfl rfl,
  fun L J st h Q a x => pf_pf pb_u_115 rfl rfl,
  fun l1 l2 l3 l4 st h Q x => pf_S pb_u_115 rfl rfl,
  fun l1 l2 l3 l4 st h Q => pf_S pb_u_115 rfl rfl,
  fun L J st x h Q => pf_S pb_u_115 rfl rfl,
  fun L J st h Q a => pf_gf pb_u_115 rfl rfl,
  fun l0 l1 l2 l3 st h Q x => pf_S pb_u_115 rfl rfl,
  fun L J st x y h Q => pf_S pb_u_115 rfl rfl,
  fun L J st h Q a x => pf_pf pb_u_115 rfl rfl,
  fun L J st h Q => pf_S pb_u_115 rfl rfl,
  fun l1 l2 l3 l4 st h Q x => pf_S pb_u_115 rfl rfl,
  fun l1 l2 l3 l4 st h Q => pf_S pb_u_115 rfl rfl,
  fun L J st x h Q => pf_S pb_u_115 rfl rfl,
  fun L J st h Q a => pf_gf pb_u_115 rfl rfl,
  fun l0 l1 l2 l3 st h Q x => pf_S pb_u_115 rfl rfl,
  fun L J st x y h Q => pf_S pb_u_115 rfl rfl,
  fun L J st h Q a x => pf_pf pb_u_115 rfl rfl,
  fun l1 l2 l3 l4 st h Q x => pf_S pb_u_115 rfl rfl,
  fun l1 l2 l3 l4 st h Q => pf_S pb_u_115 rfl rfl,
  fun L J st x h Q => pf_S pb_u_115 rfl rfl,
  fun L J st h Q a => pf_gf pb_u_115 rfl rfl,
  fun l0 l1 l2 l3 st h Q x => pf_S pb_u_115 rfl rfl,
  fun L J st h Q => pf_S pb_u_115 rfl rfl,
  fun L J st x y h Q => pf_S pb_u_115 rfl rfl,
  fun L J st x y h Q => pf_S pb_u_115 rfl rfl,
  fun L J st h Q a x => pf_pf pb_u_115 rfl rfl,
  fun L J h Q => pf_rv pb_u_115 rfl rfl⟩
theorem pb_c115 (x0 : Nat) (x1 : Int32) (x2 : Int32) (x3 : Int32) (h : pb_H) (Q : Option Value → pb_H → Prop) : pb_call 115 [.ref x0, .int x1, .int x2, .int x3] h Q ↔ pb_R 115 0 [some (.ref x0), some (.int x1), some (.int x2), some (.int x3), none] [] [] h Q := Iff.rfl
/-! 116: PlaneBench$Trail.choice()I -/
theorem pb_u_116 : pb_t 116 = pb_t116 := rfl
theorem pb_ci_116 : pb_ci 116 = 9 := by decide +kernel
set_option maxRecDepth 100000 in
theorem pb_e116 : (∀ (l1 : Option Value) (st : List Value) (h : pb_H) (Q : Option Value → pb_H → Prop) (x : Nat), pb_R 116 0 [some (.ref x), l1] [] st h Q ↔ pb_R 116 1 [some (.ref x), l1] [] (.ref x :: st) h Q) ∧
  (∀ (l1 : Option Value) (st : List Value) (h : pb_H) (Q : Option Value → pb_H → Prop), pb_R 116 0 [some .null, l1] [] st h Q ↔ pb_R 116 1 [some .null, l1] [] (.null :: st) h Q) ∧
  (∀ (L : pb_L) (J : pb_J) (st : List Value) (h : pb_H) (Q : Option Value → pb_H → Prop) (a : Nat), pb_R 116 1 L J (.ref a :: st) h Q ↔ pb_o (pb_gf (h.2 a) 9 5) (fun v => pb_R 116 4 L J (v :: st) h Q)) ∧
  (∀ (l1 : Option Value) (st : List Value) (h : pb_H) (Q : Option Value → pb_H → Prop) (x : Nat), pb_R 116 4 [some (.ref x), l1] [] st h Q ↔ pb_R 116 5 [some (.ref x), l1] [] (.ref x :: st) h Q) ∧
  (∀ (l1 : Option Value) (st : List Value) (h : pb_H) (Q : Option Value → pb_H → Prop), pb_R 116 4 [some .null, l1] [] st h Q ↔ pb_R 116 5 [some .null, l1] [] (.null :: st) h Q) ∧
  (∀ (L : pb_L) (J : pb_J) (st : List Value) (h : pb_H) (Q : Option Value → pb_H → Prop) (a : Nat), pb_R 116 5 L J (.ref a :: st) h Q ↔ pb_o (pb_gf (h.2 a) 9 6) (fun v => pb_R 116 8 L J (v :: st) h Q)) ∧
  (∀ (L : pb_L) (J : pb_J) (st : List Value) (x y : Int32) (h : pb_H) (Q : Option Value → pb_H → Prop), pb_R 116 8 L J (.int y :: .int x :: st) h Q ↔ pb_R 116 9 L J (.int (x ||| y) :: st) h Q) ∧
  (∀ (L : pb_L) (J : pb_J) (st : List Value) (h : pb_H) (Q : Option Value → pb_H → Prop), pb_R 116 9 L J st h Q ↔ pb_R 116 10 L J (.int (-1 : Int32) :: st) h Q) ∧
  (∀ (L : pb_L) (J : pb_J) (st : List Value) (x y : Int32) (h : pb_H) (Q : Option Value → pb_H → Prop), pb_R 116 10 L J (.int y :: .int x :: st) h Q ↔ pb_R 116 11 L J (.int (x ^^^ y) :: st) h Q) ∧
  (∀ (L : pb_L) (J : pb_J) (h : pb_H) (Q : Option Value → pb_H → Prop) (x0 : Int32), pb_R 116 11 L J [.int x0] h Q ↔ pb_call 113 [.int x0] h (fun v t => pb_R 116 14 L J (v.toList ++ []) t Q)) ∧
  (∀ (l0 l1 : Option Value) (st : List Value) (h : pb_H) (Q : Option Value → pb_H → Prop) (x : Int32), pb_R 116 14 [l0, l1] [] (.int x :: st) h Q ↔ pb_R 116 15 [l0, some (.int x)] [] st h Q) ∧
  (∀ (l1 : Option Value) (st : List Value) (h : pb_H) (Q : Option Value → pb_H → Prop) (x : Nat), pb_R 116 15 [some (.ref x), l1] [] st h Q ↔ pb_R 116 16 [some (.ref x), l1] [] (.ref x :: st) h Q) ∧
  (∀ (l1 : Option Value) (st : List Value) (h : pb_H) (Q : Option Value → pb_H → Prop), pb_R 116 15 [some .null, l1] [] st h Q ↔ pb_R 116 16 [some .null, l1] [] (.null :: st) h Q) ∧
  (∀ (L : pb_L) (J : pb_J) (st : List Value) (h : pb_H) (Q : Option Value → pb_H → Prop) (a : Nat), pb_R 116 16 L J (.ref a :: st) h Q ↔ pb_o (pb_gf (h.2 a) 9 7) (fun v => pb_R 116 19 L J (v :: st) h Q)) ∧
  (∀ (L : pb_L) (J : pb_J) (st : List Value) (h : pb_H) (Q : Option Value → pb_H → Prop), pb_R 116 19 L J st h Q ↔ pb_R 116 20 L J (.int (1 : Int32) :: st) h Q) ∧
  (∀ (l0 : Option Value) (st : List Value) (h : pb_H) (Q : Option Value → pb_H → Prop) (x : Int32), pb_R 116 20 [l0, some (.int x)] [] st h Q ↔ pb_R 116 21 [l0, some (.int x)] [] (.int x :: st) h Q) ∧
  (∀ (L : pb_L) (J : pb_J) (st : List Value) (h : pb_H) (Q : Option Value → pb_H → Prop), pb_R 116 21 L J st h Q ↔ pb_R 116 22 L J (.int (1 : Int32) :: st) h Q) ∧
  (∀ (L : pb_L) (J : pb_J) (st : List Value) (x y : Int32) (h : pb_H) (Q : Option Value → pb_H → Prop), pb_R 116 22 L J (.int y :: .int x :: st) h Q ↔ pb_R 116 23 L J (.int (x - y) :: st) h Q) ∧
  (∀ (L : pb_L) (J : pb_J) (st : List Value) (x y : Int32) (h : pb_H) (Q : Option Value → pb_H → Prop), pb_R 116 23 L J (.int y :: .int x :: st) h Q ↔ pb_R 116 24 L J (.int (x <<< (y &&& 31)) :: st) h Q) ∧
  (∀ (L : pb_L) (J : pb_J) (st : List Value) (x y : Int32) (h : pb_H) (Q : Option Value → pb_H → Prop), pb_R 116 24 L J (.int y :: .int x :: st) h Q ↔ pb_R 116 25 L J (.int (x &&& y) :: st) h Q) ∧
  (∀ (L : pb_L) (J : pb_J) (st : List Value) (h : pb_H) (Q : Option Value → pb_H → Prop) (x : Int32), pb_R 116 25 L J (.int x :: st) h Q ↔ if x = 0 then pb_R 116 32 L J st h Q else pb_R 116 28 L J st h Q) ∧
  (∀ (l0 : Option Value) (st : List Value) (h : pb_H) (Q : Option Value → pb_H → Prop) (x : Int32), pb_R 116 28 [l0, some (.int x)] [] st h Q ↔ pb_R 116 29 [l0, some (.int x)] [] (.int x :: st) h Q) ∧
  (∀ (L : pb_L) (J : pb_J) (st : List Value) (h : pb_H) (Q : Option Value → pb_H → Prop), pb_R 116 29 L J st h Q ↔ pb_R 116 34 L J st h Q) ∧
  (∀ (l0 : Option Value) (st : List Value) (h : pb_H) (Q : Option Value → pb_H → Prop) (x : Int32), pb_R 116 32 [l0, some (.int x)] [] st h Q ↔ pb_R 116 33 [l0, some (.int x)] [] (.int x :: st) h Q) ∧
  (∀ (L : pb_L) (J : pb_J) (st : List Value) (x : Int32) (h : pb_H) (Q : Option Value → pb_H → Prop), pb_R 116 33 L J (.int x :: st) h Q ↔ pb_R 116 34 L J (.int (-x) :: st) h Q) ∧
  (∀ (L : pb_L) (J : pb_J) (h : pb_H) (Q : Option Value → pb_H → Prop) (x : Int32), pb_R 116 34 L J [.int x] h Q ↔ Q (some (.int x)) h) := ⟨
  fun l1 st h Q x => pf_S pb_u_116 rfl rfl,
  fun l1 st h Q => pf_S pb_u_116 rfl rfl,
  fun L J st h Q a => pf_gf pb_u_116 rfl rfl,
  fun l1 st h Q x => pf_S pb_u_116 rfl rfl,
  fun l1 st h Q => pf_S pb_u_116 rfl rfl,
  fun L J st h Q a => pf_gf pb_u_116 rfl rfl,
  fun L J st x y h Q => pf_S pb_u_116 rfl rfl,
  fun L J st h Q => pf_S pb_u_116 rfl rfl,
  fun L J st x y h Q => pf_S pb_u_116 rfl rfl,
  fun L J h Q x0 => pf_ks pb_u_116 rfl rfl rfl rfl,
  fun l0 l1 st h Q x => pf_S pb_u_116 rfl rfl,
  fun l1 st h Q x => pf_S pb_u_116 rfl rfl,
  fun l1 st h Q => pf_S pb_u_116 rfl rfl,
  fun L J st h Q a => pf_gf pb_u_116 rfl rfl,
  fun L J st h Q => pf_S pb_u_116 rfl rfl,
  fun l0 st h Q x => pf_S pb_u_116 rfl rfl,
  fun L J st h Q => pf_S pb_u_116 rfl rfl,
  fun L J st x y h Q => pf_S pb_u_116 rfl rfl,
  fun L J st x y h Q => pf_S pb_u_116 rfl rfl,
  fun L J st x y h Q => pf_S pb_u_116 rfl rfl,
  fun L J st h Q x => pf_ii pb_u_116 rfl rfl rfl,
  fun l0 st h Q x => pf_S pb_u_116 rfl rfl,
  fun L J st h Q => pf_S pb_u_116 rfl rfl,
  fun l0 st h Q x => pf_S pb_u_116 rfl rfl,
  fun L J st x h Q => pf_S pb_u_116 rfl rfl,
  fun L J h Q x => pf_ri pb_u_116 rfl rfl⟩
theorem pb_c116 (x0 : Nat) (h : pb_H) (Q : Option Value → pb_H → Prop) : pb_call 116 [.ref x0] h Q ↔ pb_R 116 0 [some (.ref x0), none] [] [] h Q := Iff.rfl
/-! 117: PlaneBench$Search.act()V -/
theorem pb_u_117 : pb_t 117 = pb_t117 := rfl
theorem pb_ci_117 : pb_ci 117 = 6 := by decide +kernel
set_option maxRecDepth 100000 in
theorem pb_q117_12 (l0 l2 l3 l4 : Option Value) (st : List Value) (h : pb_H) (Q : Option Value → pb_H → Prop) (x : Int32) : pb_R 117 12 [l0, some (.int x), l2, l3, l4] [] st h Q ↔ pb_R 117 13 [l0, some (.int x), l2, l3, l4] [] (.int x :: st) h Q := pf_S pb_u_117 rfl rfl
set_option maxRecDepth 100000 in
theorem pb_e117 : (∀ (l1 l2 l3 l4 : Option Value) (st : List Value) (h : pb_H) (Q : Option Value → pb_H → Prop) (x : Nat), pb_R 117 0 [some (.ref x), l1, l2, l3, l4] [] st h Q ↔ pb_R 117 1 [some (.ref x), l1, l2, l3, l4] [] (.ref x :: st) h Q) ∧
  (∀ (l1 l2 l3 l4 : Option Value) (st : List Value) (h : pb_H) (Q : Option Value → pb_H → Prop), pb_R 117 0 [some .null, l1, l2, l3, l4] [] st h Q ↔ pb_R 117 1 [some .null, l1, l2, l3, l4] [] (.null :: st) h Q) ∧
  (∀ (L : pb_L) (J : pb_J) (st : List Value) (x : Nat) (h : pb_H) (Q : Option Value → pb_H → Prop), pb_R 117 1 L J (.ref x :: st) h Q ↔ pb_R 117 2 L J (.ref x :: .ref x :: st) h Q) ∧
  (∀ (L : pb_L) (J : pb_J) (st : List Value) (h : pb_H) (Q : Option Value → pb_H → Prop) (a : Nat), pb_R 117 2 L J (.ref a :: st) h Q ↔ pb_o (pb_gf (h.2 a) 6 7) (fun v => pb_R 117 5 L J (v :: st) h Q)) ∧
  (∀ (L : pb_L) (J : pb_J) (st : List Value) (h : pb_H) (Q : Option Value → pb_H → Prop), pb_R 117 5 L J st h Q ↔ pb_R 117 6 L J (.int (1 : Int32) :: st) h Q) ∧
  (∀ (L : pb_L) (J : pb_J) (st : List Value) (x y : Int32) (h : pb_H) (Q : Option Value → pb_H → Prop), pb_R 117 6 L J (.int y :: .int x :: st) h Q ↔ pb_R 117 7 L J (.int (x + y) :: st) h Q) ∧
  (∀ (L : pb_L) (J : pb_J) (st : List Value) (h : pb_H) (Q : Option Value → pb_H → Prop) (a : Nat) (x : Int32), pb_R 117 7 L J (.int x :: .ref a :: st) h Q ↔ pb_o (pb_pf (h.2 a) 6 7 (.int x)) (fun c => pb_R 117 10 L J st (pb_set h a c) Q)) ∧
  (∀ (L : pb_L) (J : pb_J) (st : List Value) (h : pb_H) (Q : Option Value → pb_H → Prop), pb_R 117 10 L J st h Q ↔ pb_R 117 11 L J (.int (1 : Int32) :: st) h Q) ∧
  (∀ (l0 l1 l2 l3 l4 : Option Value) (st : List Value) (h : pb_H) (Q : Option Value → pb_H → Prop) (x : Int32), pb_R 117 11 [l0, l1, l2, l3, l4] [] (.int x :: st) h Q ↔ pb_R 117 12 [l0, some (.int x), l2, l3, l4] [] st h Q) ∧
  (∀ (l1 l2 l3 l4 : Option Value) (st : List Value) (h : pb_H) (Q : Option Value → pb_H → Prop) (x : Nat), pb_R 117 13 [some (.ref x), l1, l2, l3, l4] [] st h Q ↔ pb_R 117 14 [some (.ref x), l1, l2, l3, l4] [] (.ref x :: st) h Q) ∧
  (∀ (l1 l2 l3 l4 : Option Value) (st : List Value) (h : pb_H) (Q : Option Value → pb_H → Prop), pb_R 117 13 [some .null, l1, l2, l3, l4] [] st h Q ↔ pb_R 117 14 [some .null, l1, l2, l3, l4] [] (.null :: st) h Q) ∧
  (∀ (L : pb_L) (J : pb_J) (st : List Value) (h : pb_H) (Q : Option Value → pb_H → Prop) (a : Nat), pb_R 117 14 L J (.ref a :: st) h Q ↔ pb_o (pb_gf (h.2 a) 6 0) (fun v => pb_R 117 17 L J (v :: st) h Q)) ∧
  (∀ (L : pb_L) (J : pb_J) (st : List Value) (h : pb_H) (Q : Option Value → pb_H → Prop) (a : Nat), pb_R 117 17 L J (.ref a :: st) h Q ↔ pb_o (pb_gf (h.2 a) 7 2) (fun v => pb_R 117 20 L J (v :: st) h Q)) ∧
  (∀ (L : pb_L) (J : pb_J) (st : List Value) (h : pb_H) (Q : Option Value → pb_H → Prop) (x y : Int32), pb_R 117 20 L J (.int y :: .int x :: st) h Q ↔ if y < x then pb_R 117 124 L J st h Q else pb_R 117 23 L J st h Q) ∧
  (∀ (l1 l2 l3 l4 : Option Value) (st : List Value) (h : pb_H) (Q : Option Value → pb_H → Prop) (x : Nat), pb_R 117 23 [some (.ref x), l1, l2, l3, l4] [] st h Q ↔ pb_R 117 24 [some (.ref x), l1, l2, l3, l4] [] (.ref x :: st) h Q) ∧
  (∀ (l1 l2 l3 l4 : Option Value) (st : List Value) (h : pb_H) (Q : Option Value → pb_H → Prop), pb_R 117 23 [some .null, l1, l2, l3, l4] [] st h Q ↔ pb_R 117 24 [some .null, l1, l2, l3, l4] [] (.null :: st) h Q) ∧
  (∀ (L : pb_L) (J : pb_J) (st : List Value) (h : pb_H) (Q : Option Value → pb_H → Prop) (a : Nat), pb_R 117 24 L J (.ref a :: st) h Q ↔ pb_o (pb_gf (h.2 a) 6 0) (fun v => pb_R 117 27 L J (v :: st) h Q)) ∧
  (∀ (l0 l2 l3 l4 : Option Value) (st : List Value) (h : pb_H) (Q : Option Value → pb_H → Prop) (x : Int32), pb_R 117 27 [l0, some (.int x), l2, l3, l4] [] st h Q ↔ pb_R 117 28 [l0, some (.int x), l2, l3, l4] [] (.int x :: st) h Q) ∧
  (∀ (L : pb_L) (J : pb_J) (h : pb_H) (Q : Option Value → pb_H → Prop) (x0 : Int32) (x1 : Nat), pb_R 117 28 L J [.int x0, .ref x1] h Q ↔ pb_is0 (h.2 x1) 7 = true ∧ pb_call 46 [.ref x1, .int x0] h (fun v t => pb_R 117 31 L J (v.toList ++ []) t Q)) ∧
  (∀ (l0 l1 l2 l3 l4 : Option Value) (st : List Value) (h : pb_H) (Q : Option Value → pb_H → Prop) (x : Nat), pb_R 117 31 [l0, l1, l2, l3, l4] [] (.ref x :: st) h Q ↔ pb_R 117 32 [l0, l1, some (.ref x), l3, l4] [] st h Q) ∧
  (∀ (l0 l1 l2 l3 l4 : Option Value) (st : List Value) (h : pb_H) (Q : Option Value → pb_H → Prop), pb_R 117 31 [l0, l1, l2, l3, l4] [] (.null :: st) h Q ↔ pb_R 117 32 [l0, l1, some .null, l3, l4] [] st h Q) ∧
  (∀ (l0 l1 l3 l4 : Option Value) (st : List Value) (h : pb_H) (Q : Option Value → pb_H → Prop) (x : Nat), pb_R 117 32 [l0, l1, some (.ref x), l3, l4] [] st h Q ↔ pb_R 117 33 [l0, l1, some (.ref x), l3, l4] [] (.ref x :: st) h Q) ∧
  (∀ (l0 l1 l3 l4 : Option Value) (st : List Value) (h : pb_H) (Q : Option Value → pb_H → Prop), pb_R 117 32 [l0, l1, some .null, l3, l4] [] st h Q ↔ pb_R 117 33 [l0, l1, some .null, l3, l4] [] (.null :: st) h Q) ∧
  (∀ (L : pb_L) (J : pb_J) (st : List Value) (h : pb_H) (Q : Option Value → pb_H → Prop), pb_R 117 33 L J (.null :: st) h Q ↔ pb_R 117 36 L J st h Q) ∧
  (∀ (L : pb_L) (J : pb_J) (st : List Value) (h : pb_H) (Q : Option Value → pb_H → Prop) (x : Nat), pb_R 117 33 L J (.ref x :: st) h Q ↔ pb_R 117 40 L J st h Q) ∧
  (∀ (L : pb_L) (J : pb_J) (st : List Value) (h : pb_H) (Q : Option Value → pb_H → Prop), pb_R 117 36 L J st h Q ↔ pb_R 117 37 L J (.int (0 : Int32) :: st) h Q) ∧
  (∀ (L : pb_L) (J : pb_J) (st : List Value) (h : pb_H) (Q : Option Value → pb_H → Prop), pb_R 117 37 L J st h Q ↔ pb_R 117 65 L J st h Q) ∧
  (∀ (l0 l1 l3 l4 : Option Value) (st : List Value) (h : pb_H) (Q : Option Value → pb_H → Prop) (x : Nat), pb_R 117 40 [l0, l1, some (.ref x), l3, l4] [] st h Q ↔ pb_R 117 41 [l0, l1, some (.ref x), l3, l4] [] (.ref x :: st) h Q) ∧
  (∀ (l0 l1 l3 l4 : Option Value) (st : List Value) (h : pb_H) (Q : Option Value → pb_H → Prop), pb_R 117 40 [l0, l1, some .null, l3, l4] [] st h Q ↔ pb_R 117 41 [l0, l1, some .null, l3, l4] [] (.null :: st) h Q) ∧
  (∀ (l1 l2 l3 l4 : Option Value) (st : List Value) (h : pb_H) (Q : Option Value → pb_H → Prop) (x : Nat), pb_R 117 41 [some (.ref x), l1, l2, l3, l4] [] st h Q ↔ pb_R 117 42 [some (.ref x), l1, l2, l3, l4] [] (.ref x :: st) h Q) ∧
  (∀ (l1 l2 l3 l4 : Option Value) (st : List Value) (h : pb_H) (Q : Option Value → pb_H → Prop), pb_R 117 41 [some .null, l1, l2, l3, l4] [] st h Q ↔ pb_R 117 42 [some .null, l1, l2, l3, l4] [] (.null :: st) h Q) ∧
  (∀ (L : pb_L) (J : pb_J) (st : List Value) (h : pb_H) (Q : Option Value → pb_H → Prop) (a : Nat), pb_R 117 42 L J (.ref a :: st) h Q ↔ pb_o (pb_gf (h.2 a) 6 1) (fun v => pb_R 117 45 L J (v :: st) h Q)) ∧
  (∀ (L : pb_L) (J : pb_J) (st : List Value) (h : pb_H) (Q : Option Value → pb_H → Prop) (a : Nat), pb_R 117 45 L J (.ref a :: st) h Q ↔ pb_o (pb_gf (h.2 a) 9 5) (fun v => pb_R 117 48 L J (v :: st) h Q)) ∧
  (∀ (l1 l2 l3 l4 : Option Value) (st : List Value) (h : pb_H) (Q : Option Value → pb_H → Prop) (x : Nat), pb_R 117 48 [some (.ref x), l1, l2, l3, l4] [] st h Q ↔ pb_R 117 49 [some (.ref x), l1, l2, l3, l4] [] (.ref x :: st) h Q) ∧
  (∀ (l1 l2 l3 l4 : Option Value) (st : List Value) (h : pb_H) (Q : Option Value → pb_H → Prop), pb_R 117 48 [some .null, l1, l2, l3, l4] [] st h Q ↔ pb_R 117 49 [some .null, l1, l2, l3, l4] [] (.null :: st) h Q) ∧
  (∀ (L : pb_L) (J : pb_J) (st : List Value) (h : pb_H) (Q : Option Value → pb_H → Prop) (a : Nat), pb_R 117 49 L J (.ref a :: st) h Q ↔ pb_o (pb_gf (h.2 a) 6 1) (fun v => pb_R 117 52 L J (v :: st) h Q)) ∧
  (∀ (L : pb_L) (J : pb_J) (st : List Value) (h : pb_H) (Q : Option Value → pb_H → Prop) (a : Nat), pb_R 117 52 L J (.ref a :: st) h Q ↔ pb_o (pb_gf (h.2 a) 9 6) (fun v => pb_R 117 55 L J (v :: st) h Q)) ∧
  (∀ (l1 l2 l3 l4 : Option Value) (st : List Value) (h : pb_H) (Q : Option Value → pb_H → Prop) (x : Nat), pb_R 117 55 [some (.ref x), l1, l2, l3, l4] [] st h Q ↔ pb_R 117 56 [some (.ref x), l1, l2, l3, l4] [] (.ref x :: st) h Q) ∧
  (∀ (l1 l2 l3 l4 : Option Value) (st : List Value) (h : pb_H) (Q : Option Value → pb_H → Prop), pb_R 117 55 [some .null, l1, l2, l3, l4] [] st h Q ↔ pb_R 117 56 [some .null, l1, l2, l3, l4] [] (.null :: st) h Q) ∧
  (∀ (L : pb_L) (J : pb_J) (st : List Value) (h : pb_H) (Q : Option Value → pb_H → Prop) (a : Nat), pb_R 117 56 L J (.ref a :: st) h Q ↔ pb_o (pb_gf (h.2 a) 6 0) (fun v => pb_R 117 59 L J (v :: st) h Q)) ∧
  (∀ (L : pb_L) (J : pb_J) (st : List Value) (h : pb_H) (Q : Option Value → pb_H → Prop) (a : Nat), pb_R 117 59 L J (.ref a :: st) h Q ↔ pb_o (pb_gf (h.2 a) 7 1) (fun v => pb_R 117 62 L J (v :: st) h Q)) ∧
  (∀ (L : pb_L) (J : pb_J) (h : pb_H) (Q : Option Value → pb_H → Prop) (x0 : Nat) (x1 : Int32) (x2 : Int32) (x3 : Nat), pb_R 117 62 L J [.ref x0, .int x1, .int x2, .ref x3] h Q ↔ pb_is0 (h.2 x3) 4 = true ∧ pb_call 71 [.ref x3, .int x2, .int x1, .ref x0] h (fun v t => pb_R 117 65 L J (v.toList ++ []) t Q)) ∧
  (∀ (l0 l1 l2 l3 l4 : Option Value) (st : List Value) (h : pb_H) (Q : Option Value → pb_H → Prop) (x : Int32), pb_R 117 65 [l0, l1, l2, l3, l4] [] (.int x :: st) h Q ↔ pb_R 117 66 [l0, l1, l2, some (.int x), l4] [] st h Q) ∧
  (∀ (l0 l1 l2 l4 : Option Value) (st : List Value) (h : pb_H) (Q : Option Value → pb_H → Prop) (x : Int32), pb_R 117 66 [l0, l1, l2, some (.int x), l4] [] st h Q ↔ pb_R 117 67 [l0, l1, l2, some (.int x), l4] [] (.int x :: st) h Q) ∧
  (∀ (L : pb_L) (J : pb_J) (st : List Value) (h : pb_H) (Q : Option Value → pb_H → Prop), pb_R 117 67 L J st h Q ↔ pb_R 117 68 L J (.int (-1 : Int32) :: st) h Q) ∧
  (∀ (L : pb_L) (J : pb_J) (st : List Value) (h : pb_H) (Q : Option Value → pb_H → Prop) (x y : Int32), pb_R 117 68 L J (.int y :: .int x :: st) h Q ↔ if ¬ x = y then pb_R 117 86 L J st h Q else pb_R 117 71 L J st h Q) ∧
  (∀ (l1 l2 l3 l4 : Option Value) (st : List Value) (h : pb_H) (Q : Option Value → pb_H → Prop) (x : Nat), pb_R 117 71 [some (.ref x), l1, l2, l3, l4] [] st h Q ↔ pb_R 117 72 [some (.ref x), l1, l2, l3, l4] [] (.ref x :: st) h Q) ∧
  (∀ (l1 l2 l3 l4 : Option Value) (st : List Value) (h : pb_H) (Q : Option Value → pb_H → Prop), pb_R 117 71 [some .null, l1, l2, l3, l4] [] st h Q ↔ pb_R 117 72 [some .null, l1, l2, l3, l4] [] (.null :: st) h Q) ∧
  (∀ (l0 l2 l3 l4 : Option Value) (st : List Value) (h : pb_H) (Q : Option Value → pb_H → Prop) (x : Int32), pb_R 117 72 [l0, some (.int x), l2, l3, l4] [] st h Q ↔ pb_R 117 73 [l0, some (.int x), l2, l3, l4] [] (.int x :: st) h Q) ∧
  (∀ (l0 l1 l3 l4 : Option Value) (st : List Value) (h : pb_H) (Q : Option Value → pb_H → Prop) (x : Nat), pb_R 117 73 [l0, l1, some (.ref x), l3, l4] [] st h Q ↔ pb_R 117 74 [l0, l1, some (.ref x), l3, l4] [] (.ref x :: st) h Q) ∧
  (∀ (l0 l1 l3 l4 : Option Value) (st : List Value) (h : pb_H) (Q : Option Value → pb_H → Prop), pb_R 117 73 [l0, l1, some .null, l3, l4] [] st h Q ↔ pb_R 117 74 [l0, l1, some .null, l3, l4] [] (.null :: st) h Q) ∧
  (∀ (L : pb_L) (J : pb_J) (h : pb_H) (Q : Option Value → pb_H → Prop) (x0 : Nat) (x1 : Int32) (x2 : Nat), pb_R 117 74 L J [.ref x0, .int x1, .ref x2] h Q ↔ pb_is0 (h.2 x2) 6 = true ∧ pb_call 108 [.ref x2, .int x1, .ref x0] h (fun v t => pb_R 117 77 L J (v.toList ++ []) t Q)) ∧
  (∀ (l0 l1 l2 l3 l4 : Option Value) (st : List Value) (h : pb_H) (Q : Option Value → pb_H → Prop) (x : Int32), pb_R 117 77 [l0, l1, l2, l3, l4] [] (.int x :: st) h Q ↔ pb_R 117 79 [l0, l1, l2, l3, some (.int x)] [] st h Q) ∧
  (∀ (l1 l2 l3 l4 : Option Value) (st : List Value) (h : pb_H) (Q : Option Value → pb_H → Prop) (x : Nat), pb_R 117 79 [some (.ref x), l1, l2, l3, l4] [] st h Q ↔ pb_R 117 80 [some (.ref x), l1, l2, l3, l4] [] (.ref x :: st) h Q) ∧
  (∀ (l1 l2 l3 l4 : Option Value) (st : List Value) (h : pb_H) (Q : Option Value → pb_H → Prop), pb_R 117 79 [some .null, l1, l2, l3, l4] [] st h Q ↔ pb_R 117 80 [some .null, l1, l2, l3, l4] [] (.null :: st) h Q) ∧
  (∀ (l0 l1 l2 l3 : Option Value) (st : List Value) (h : pb_H) (Q : Option Value → pb_H → Prop) (x : Int32), pb_R 117 80 [l0, l1, l2, l3, some (.int x)] [] st h Q ↔ pb_R 117 82 [l0, l1, l2, l3, some (.int x)] [] (.int x :: st) h Q) ∧
  (∀ (L : pb_L) (J : pb_J) (h : pb_H) (Q : Option Value → pb_H → Prop) (x0 : Int32) (x1 : Nat), pb_R 117 82 L J [.int x0, .ref x1] h Q ↔ pb_is0 (h.2 x1) 6 = true ∧ pb_call 111 [.ref x1, .int x0] h (fun v t => pb_R 117 85 L J (v.toList ++ []) t Q)) ∧
  (∀ (L : pb_L) (J : pb_J) (h : pb_H) (Q : Option Value → pb_H → Prop), pb_R 117 85 L J [] h Q ↔ Q none h) ∧
  (∀ (l0 l1 l2 l4 : Option Value) (st : List Value) (h : pb_H) (Q : Option Value → pb_H → Prop) (x : Int32), pb_R 117 86 [l0, l1, l2, some (.int x), l4] [] st h Q ↔ pb_R 117 87 [l0, l1, l2, some (.int x), l4] [] (.int x :: st) h Q) ∧
  (∀ (L : pb_L) (J : pb_J) (st : List Value) (h : pb_H) (Q : Option Value → pb_H → Prop) (x : Int32), pb_R 117 87 L J (.int x :: st) h Q ↔ if x = 0 then pb_R 117 118 L J st h Q else pb_R 117 90 L J st h Q) ∧
  (∀ (l0 l1 l2 l4 : Option Value) (st : List Value) (h : pb_H) (Q : Option Value → pb_H → Prop) (x : Int32), pb_R 117 90 [l0, l1, l2, some (.int x), l4] [] st h Q ↔ pb_R 117 91 [l0, l1, l2, some (.int x), l4] [] (.int x :: st) h Q) ∧
  (∀ (L : pb_L) (J : pb_J) (h : pb_H) (Q : Option Value → pb_H → Prop) (x0 : Int32), pb_R 117 91 L J [.int x0] h Q ↔ pb_call 113 [.int x0] h (fun v t => pb_R 117 94 L J (v.toList ++ []) t Q)) ∧
  (∀ (l0 l1 l2 l3 l4 : Option Value) (st : List Value) (h : pb_H) (Q : Option Value → pb_H → Prop) (x : Int32), pb_R 117 94 [l0, l1, l2, l3, l4] [] (.int x :: st) h Q ↔ pb_R 117 96 [l0, l1, l2, l3, some (.int x)] [] st h Q) ∧
  (∀ (l1 l2 l3 l4 : Option Value) (st : List Value) (h : pb_H) (Q : Option Value → pb_H → Prop) (x : Nat), pb_R 117 96 [some (.ref x), l1, l2, l3, l4] [] st h Q ↔ pb_R 117 97 [some (.ref x), l1, l2, l3, l4] [] (.ref x :: st) h Q) ∧
  (∀ (l1 l2 l3 l4 : Option Value) (st : List Value) (h : pb_H) (Q : Option Value → pb_H → Prop), pb_R 117 96 [some .null, l1, l2, l3, l4] [] st h Q ↔ pb_R 117 97 [some .null, l1, l2, l3, l4] [] (.null :: st) h Q) ∧
  (∀ (L : pb_L) (J : pb_J) (st : List Value) (h : pb_H) (Q : Option Value → pb_H → Prop) (a : Nat), pb_R 117 97 L J (.ref a :: st) h Q ↔ pb_o (pb_gf (h.2 a) 6 1) (fun v => pb_R 117 100 L J (v :: st) h Q)) ∧
  (∀ (l0 l1 l2 l3 : Option Value) (st : List Value) (h : pb_H) (Q : Option Value → pb_H → Prop) (x : Int32), pb_R 117 100 [l0, l1, l2, l3, some (.int x)] [] st h Q ↔ pb_R 117 102 [l0, l1, l2, l3, some (.int x)] [] (.int x :: st) h Q) ∧
  (∀ (l0 l1 l3 l4 : Option Value) (st : List Value) (h : pb_H) (Q : Option Value → pb_H → Prop) (x : Nat), pb_R 117 102 [l0, l1, some (.ref x), l3, l4] [] st h Q ↔ pb_R 117 103 [l0, l1, some (.ref x), l3, l4] [] (.ref x :: st) h Q) ∧
  (∀ (l0 l1 l3 l4 : Option Value) (st : List Value) (h : pb_H) (Q : Option Value → pb_H → Prop), pb_R 117 102 [l0, l1, some .null, l3, l4] [] st h Q ↔ pb_R 117 103 [l0, l1, some .null, l3, l4] [] (.null :: st) h Q) ∧
  (∀ (l0 l1 l2 l3 : Option Value) (st : List Value) (h : pb_H) (Q : Option Value → pb_H → Prop) (x : Int32), pb_R 117 103 [l0, l1, l2, l3, some (.int x)] [] st h Q ↔ pb_R 117 105 [l0, l1, l2, l3, some (.int x)] [] (.int x :: st) h Q) ∧
  (∀ (L : pb_L) (J : pb_J) (h : pb_H) (Q : Option Value → pb_H → Prop) (x0 : Int32) (x1 : Nat) (x2 : Int32) (x3 : Nat), pb_R 117 105 L J [.int x0, .ref x1, .int x2, .ref x3] h Q ↔ pb_is0 (h.2 x1) 4 = true ∧ pb_call 60 [.ref x1, .int x0] h (fun v t => pb_R 117 108 L J (v.toList ++ [.int x2, .ref x3]) t Q)) ∧
  (∀ (L : pb_L) (J : pb_J) (st : List Value) (x y : Int32) (h : pb_H) (Q : Option Value → pb_H → Prop), pb_R 117 108 L J (.int y :: .int x :: st) h Q ↔ pb_R 117 109 L J (.int (x * y) :: st) h Q) ∧
  (∀ (l1 l2 l3 l4 : Option Value) (st : List Value) (h : pb_H) (Q : Option Value → pb_H → Prop) (x : Nat), pb_R 117 109 [some (.ref x), l1, l2, l3, l4] [] st h Q ↔ pb_R 117 110 [some (.ref x), l1, l2, l3, l4] [] (.ref x :: st) h Q) ∧
  (∀ (l1 l2 l3 l4 : Option Value) (st : List Value) (h : pb_H) (Q : Option Value → pb_H → Prop), pb_R 117 109 [some .null, l1, l2, l3, l4] [] st h Q ↔ pb_R 117 110 [some .null, l1, l2, l3, l4] [] (.null :: st) h Q) ∧
  (∀ (L : pb_L) (J : pb_J) (st : List Value) (h : pb_H) (Q : Option Value → pb_H → Prop) (a : Nat), pb_R 117 110 L J (.ref a :: st) h Q ↔ pb_o (pb_gf (h.2 a) 6 4) (fun v => pb_R 117 113 L J (v :: st) h Q)) ∧
  (∀ (l0 l2 l3 l4 : Option Value) (st : List Value) (h : pb_H) (Q : Option Value → pb_H → Prop) (x : Int32), pb_R 117 113 [l0, some (.int x), l2, l3, l4] [] st h Q ↔ pb_R 117 114 [l0, some (.int x), l2, l3, l4] [] (.int x :: st) h Q) ∧
  (∀ (L : pb_L) (J : pb_J) (h : pb_H) (Q : Option Value → pb_H → Prop) (x0 : Int32) (x1 : Int32) (x2 : Int32) (x3 : Nat), pb_R 117 114 L J [.int x0, .int x1, .int x2, .ref x3] h Q ↔ pb_is0 (h.2 x3) 9 = true ∧ pb_call 115 [.ref x3, .int x2, .int x1, .int x0] h (fun v t => pb_R 117 117 L J (v.toList ++ []) t Q)) ∧
  (∀ (L : pb_L) (J : pb_J) (h : pb_H) (Q : Option Value → pb_H → Prop), pb_R 117 117 L J [] h Q ↔ Q none h) ∧
  (∀ (l0 l2 l3 l4 : Option Value) (st : List Value) (h : pb_H) (Q : Option Value → pb_H → Prop) (x : Int32), pb_R 117 118 [l0, some (.int x), l2, l3, l4] [] st h Q ↔ pb_R 117 121 [l0, some (.int (x + (1 : Int32))), l2, l3, l4] [] st h Q) ∧
  (∀ (L : pb_L) (J : pb_J) (st : List Value) (h : pb_H) (Q : Option Value → pb_H → Prop), pb_R 117 121 L J st h Q ↔ pb_R 117 12 L J st h Q) ∧
  (∀ (l1 l2 l3 l4 : Option Value) (st : List Value) (h : pb_H) (Q : Option Value → pb_H → Prop) (x : Nat), pb_R 117 124 [some (.ref x), l1, l2, l3, l4] [] st h Q ↔ pb_R 117 125 [some (.ref x), l1, l2, l3, l4] [] (.ref x :: st) h Q) ∧
  (∀ (l1 l2 l3 l4 : Option Value) (st : List Value) (h : pb_H) (Q : Option Value → pb_H → Prop), pb_R 117 124 [some .null, l1, l2, l3, l4] [] st h Q ↔ pb_R 117 125 [some .null, l1, l2, l3, l4] [] (.null :: st) h Q) ∧
  (∀ (L : pb_L) (J : pb_J) (st : List Value) (h : pb_H) (Q : Option Value → pb_H → Prop) (a : Nat), pb_R 117 125 L J (.ref a :: st) h Q ↔ pb_o (pb_gf (h.2 a) 6 1) (fun v => pb_R 117 128 L J (v :: st) h Q)) ∧
  (∀ (L : pb_L) (J : pb_J) (h : pb_H) (Q : Option Value → pb_H → Prop) (x0 : Nat), pb_R 117 128 L J [.ref x0] h Q ↔ pb_is0 (h.2 x0) 9 = true ∧ pb_call 114 [.ref x0] h (fun v t => pb_R 117 131 L J (v.toList ++ []) t Q)) ∧
  (∀ (L : pb_L) (J : pb_J) (st : List Value) (h : pb_H) (Q : Option Value → pb_H → Prop) (x : Int32), pb_R 117 131 L J (.int x :: st) h Q ↔ if x = 0 then pb_R 117 142 L J st h Q else pb_R 117 134 L J st h Q) ∧
  (∀ (l1 l2 l3 l4 : Option Value) (st : List Value) (h : pb_H) (Q : Option Value → pb_H → Prop) (x : Nat), pb_R 117 134 [some (.ref x), l1, l2, l3, l4] [] st h Q ↔ pb_R 117 135 [some (.ref x), l1, l2, l3, l4] [] (.ref x :: st) h Q) ∧
  (∀ (l1 l2 l3 l4 : Option Value) (st : List Value) (h : pb_H) (Q : Option Value → pb_H → Prop), pb_R 117 134 [some .null, l1, l2, l3, l4] [] st h Q ↔ pb_R 117 135 [some .null, l1, l2, l3, l4] [] (.null :: st) h Q) ∧
  (∀ (L : pb_L) (J : pb_J) (st : List Value) (h : pb_H) (Q : Option Value → pb_H → Prop), pb_R 117 135 L J st h Q ↔ pb_R 117 136 L J (.int (2 : Int32) :: st) h Q) ∧
  (∀ (L : pb_L) (J : pb_J) (st : List Value) (h : pb_H) (Q : Option Value → pb_H → Prop) (a : Nat) (x : Int32), pb_R 117 136 L J (.int x :: .ref a :: st) h Q ↔ pb_o (pb_pf (h.2 a) 6 3 (.int x)) (fun c => pb_R 117 139 L J st (pb_set h a c) Q)) ∧
  (∀ (L : pb_L) (J : pb_J) (st : List Value) (h : pb_H) (Q : Option Value → pb_H → Prop), pb_R 117 139 L J st h Q ↔ pb_R 117 181 L J st h Q) ∧
  (∀ (l1 l2 l3 l4 : Option Value) (st : List Value) (h : pb_H) (Q : Option Value → pb_H → Prop) (x : Nat), pb_R 117 142 [some (.ref x), l1, l2, l3, l4] [] st h Q ↔ pb_R 117 143 [some (.ref x), l1, l2, l3, l4] [] (.ref x :: st) h Q) ∧
  (∀ (l1 l2 l3 l4 : Option Value) (st : List Value) (h : pb_H) (Q : Option Value → pb_H → Prop), pb_R 117 142 [some .null, l1, l2, l3, l4] [] st h Q ↔ pb_R 117 143 [some .null, l1, l2, l3, l4] [] (.null :: st) h Q) ∧
  (∀ (L : pb_L) (J : pb_J) (st : List Value) (x : Nat) (h : pb_H) (Q : Option Value → pb_H → Prop), pb_R 117 143 L J (.ref x :: st) h Q ↔ pb_R 117 144 L J (.ref x :: .ref x :: st) h Q) ∧
  (∀ (L : pb_L) (J : pb_J) (st : List Value) (h : pb_H) (Q : Option Value → pb_H → Prop) (a : Nat), pb_R 117 144 L J (.ref a :: st) h Q ↔ pb_o (pb_gf (h.2 a) 6 4) (fun v => pb_R 117 147 L J (v :: st) h Q)) ∧
  (∀ (L : pb_L) (J : pb_J) (st : List Value) (h : pb_H) (Q : Option Value → pb_H → Prop), pb_R 117 147 L J st h Q ↔ pb_R 117 148 L J (.int (1 : Int32) :: st) h Q) ∧
  (∀ (L : pb_L) (J : pb_J) (st : List Value) (x y : Int32) (h : pb_H) (Q : Option Value → pb_H → Prop), pb_R 117 148 L J (.int y :: .int x :: st) h Q ↔ pb_R 117 149 L J (.int (x + y) :: st) h Q) ∧
  (∀ (L : pb_L) (J : pb_J) (st : List Value) (h : pb_H) (Q : Option Value → pb_H → Prop) (a : Nat) (x : Int32), pb_R 117 149 L J (.int x :: .ref a :: st) h Q ↔ pb_o (pb_pf (h.2 a) 6 4 (.int x)) (fun c => pb_R 117 152 L J st (pb_set h a c) Q)) ∧
  (∀ (l1 l2 l3 l4 : Option Value) (st : List Value) (h : pb_H) (Q : Option Value → pb_H → Prop) (x : Nat), pb_R 117 152 [some (.ref x), l1, l2, l3, l4] [] st h Q ↔ pb_R 117 153 [some (.ref x), l1, l2, l3, l4] [] (.ref x :: st) h Q) ∧
  (∀ (l1 l2 l3 l4 : Option Value) (st : List Value) (h : pb_H) (Q : Option Value → pb_H → Prop), pb_R 117 152 [some .null, l1, l2, l3, l4] [] st h Q ↔ pb_R 117 153 [some .null, l1, l2, l3, l4] [] (.null :: st) h Q) ∧
  (∀ (L : pb_L) (J : pb_J) (st : List Value) (x : Nat) (h : pb_H) (Q : Option Value → pb_H → Prop), pb_R 117 153 L J (.ref x :: st) h Q ↔ pb_R 117 154 L J (.ref x :: .ref x :: st) h Q) ∧
  (∀ (L : pb_L) (J : pb_J) (st : List Value) (h : pb_H) (Q : Option Value → pb_H → Prop) (a : Nat), pb_R 117 154 L J (.ref a :: st) h Q ↔ pb_o (pb_gf (h.2 a) 6 5) (fun v => pb_R 117 157 L J (v :: st) h Q)) ∧
  (∀ (L : pb_L) (J : pb_J) (st : List Value) (h : pb_H) (Q : Option Value → pb_H → Prop), pb_R 117 157 L J st h Q ↔ pb_R 117 158 L J (.int (1 : Int32) :: st) h Q) ∧
  (∀ (L : pb_L) (J : pb_J) (st : List Value) (x y : Int32) (h : pb_H) (Q : Option Value → pb_H → Prop), pb_R 117 158 L J (.int y :: .int x :: st) h Q ↔ pb_R 117 159 L J (.int (x + y) :: st) h Q) ∧
  (∀ (L : pb_L) (J : pb_J) (st : List Value) (h : pb_H) (Q : Option Value → pb_H → Prop) (a : Nat) (x : Int32), pb_R 117 159 L J (.int x :: .ref a :: st) h Q ↔ pb_o (pb_pf (h.2 a) 6 5 (.int x)) (fun c => pb_R 117 162 L J st (pb_set h a c) Q)) ∧
  (∀ (l1 l2 l3 l4 : Option Value) (st : List Value) (h : pb_H) (Q : Option Value → pb_H → Prop) (x : Nat), pb_R 117 162 [some (.ref x), l1, l2, l3, l4] [] st h Q ↔ pb_R 117 163 [some (.ref x), l1, l2, l3, l4] [] (.ref x :: st) h Q) ∧
  (∀ (l1 l2 l3 l4 : Option Value) (st : List Value) (h : pb_H) (Q : Option Value → pb_H → Prop), pb_R 117 162 [some .null, l1, l2, l3, l4] [] st h Q ↔ pb_R 117 163 [some .null, l1, l2, l3, l4] [] (.null :: st) h Q) ∧
  (∀ (L : pb_L) (J : pb_J) (st : List Value) (h : pb_H) (Q : Option Value → pb_H → Prop) (a : Nat), pb_R 117 163 L J (.ref a :: st) h Q ↔ pb_o (pb_gf (h.2 a) 6 1) (fun v => pb_R 117 166 L J (v :: st) h Q)) ∧
  (∀ (l1 l2 l3 l4 : Option Value) (st : List Value) (h : pb_H) (Q : Option Value → pb_H → Prop) (x : Nat), pb_R 117 166 [some (.ref x), l1, l2, l3, l4] [] st h Q ↔ pb_R 117 167 [some (.ref x), l1, l2, l3, l4] [] (.ref x :: st) h Q) ∧
  (∀ (l1 l2 l3 l4 : Option Value) (st : List Value) (h : pb_H) (Q : Option Value → pb_H → Prop), pb_R 117 166 [some .null, l1, l2, l3, l4] [] st h Q ↔ pb_R 117 167 [some .null, l1, l2, l3, l4] [] (.null :: st) h Q) ∧
  (∀ (L : pb_L) (J : pb_J) (st : List Value) (h : pb_H) (Q : Option Value → pb_H → Prop) (a : Nat), pb_R 117 167 L J (.ref a :: st) h Q ↔ pb_o (pb_gf (h.2 a) 6 1) (fun v => pb_R 117 170 L J (v :: st) h Q)) ∧
  (∀ (L : pb_L) (J : pb_J) (h : pb_H) (Q : Option Value → pb_H → Prop) (x0 : Nat) (x1 : Nat), pb_R 117 170 L J [.ref x0, .ref x1] h Q ↔ pb_is0 (h.2 x0) 9 = true ∧ pb_call 116 [.ref x0] h (fun v t => pb_R 117 173 L J (v.toList ++ [.ref x1]) t Q)) ∧
  (∀ (l1 l2 l3 l4 : Option Value) (st : List Value) (h : pb_H) (Q : Option Value → pb_H → Prop) (x : Nat), pb_R 117 173 [some (.ref x), l1, l2, l3, l4] [] st h Q ↔ pb_R 117 174 [some (.ref x), l1, l2, l3, l4] [] (.ref x :: st) h Q) ∧
  (∀ (l1 l2 l3 l4 : Option Value) (st : List Value) (h : pb_H) (Q : Option Value → pb_H → Prop), pb_R 117 173 [some .null, l1, l2, l3, l4] [] st h Q ↔ pb_R 117 174 [some .null, l1, l2, l3, l4] [] (.null :: st) h Q) ∧
  (∀ (L : pb_L) (J : pb_J) (st : List Value) (h : pb_H) (Q : Option Value → pb_H → Prop) (a : Nat), pb_R 117 174 L J (.ref a :: st) h Q ↔ pb_o (pb_gf (h.2 a) 6 4) (fun v => pb_R 117 177 L J (v :: st) h Q)) ∧
  (∀ (L : pb_L) (J : pb_J) (st : List Value) (h : pb_H) (Q : Option Value → pb_H → Prop), pb_R 117 177 L J st h Q ↔ pb_R 117 178 L J (.int (0 : Int32) :: st) h Q) ∧
  (∀ (L : pb_L) (J : pb_J) (h : pb_H) (Q : Option Value → pb_H → Prop) (x0 : Int32) (x1 : Int32) (x2 : Int32) (x3 : Nat), pb_R 117 178 L J [.int x0, .int x1, .int x2, .ref x3] h Q ↔ pb_is0 (h.2 x3) 9 = true ∧ pb_call 115 [.ref x3, .int x2, .int x1, .int x0] h (fun v t => pb_R 117 181 L J (v.toList ++ []) t Q)) ∧
  (∀ (L : pb_L) (J : pb_J) (h : pb_H) (Q : Option Value → pb_H → Prop), pb_R 117 181 L J [] h Q ↔ Q none h) := ⟨
  fun l1 l2 l3 l4 st h Q x => pf_S pb_u_117 rfl rfl,
  fun l1 l2 l3 l4 st h Q => pf_S pb_u_117 rfl rfl,
  fun L J st x h Q => pf_S pb_u_117 rfl rfl,
  fun L J st h Q a => pf_gf pb_u_117 rfl rfl,
  fun L J st h Q => pf_S pb_u_117 rfl rfl,
  fun L J st x y h Q => pf_S pb_u_117 rfl rfl,
  fun L J st h Q a x => pf_pf pb_u_117 rfl rfl,
  fun L J st h Q => pf_S pb_u_117 rfl rfl,
  fun l0 l1 l2 l3 l4 st h Q x => pf_S pb_u_117 rfl rfl,
  fun l1 l2 l3 l4 st h Q x => pf_S pb_u_117 rfl rfl,
  fun l1 l2 l3 l4 st h Q => pf_S pb_u_117 rfl rfl,
  fun L J st h Q a => pf_gf pb_u_117 rfl rfl,
  fun L J st h Q a => pf_gf pb_u_117 rfl rfl,
  fun L J st h Q x y => pf_ic pb_u_117 rfl rfl rfl,
  fun l1 l2 l3 l4 st h Q x => pf_S pb_u_117 rfl rfl,
  fun l1 l2 l3 l4 st h Q => pf_S pb_u_117 rfl rfl,
  fun L J st h Q a => pf_gf pb_u_117 rfl rfl,
  fun l0 l2 l3 l4 st h Q x => pf_S pb_u_117 rfl rfl,
  fun L J h Q x0 x1 => pf_kv pb_u_117 rfl pb_ci_46 rfl ⟨Nat.le_of_ble_eq_true rfl, Nat.le_of_ble_eq_true rfl, Nat.le_of_ble_eq_true rfl, Nat.le_of_ble_eq_true rfl, rfl⟩ rfl rfl,
  fun l0 l1 l2 l3 l4 st h Q x => pf_S pb_u_117 rfl rfl,
  fun l0 l1 l2 l3 l4 st h Q => pf_S pb_u_117 rfl rfl,
  fun l0 l1 l3 l4 st h Q x => pf_S pb_u_117 rfl rfl,
  fun l0 l1 l3 l4 st h Q => pf_S pb_u_117 rfl rfl,
  fun L J st h Q => pf_S pb_u_117 rfl rfl,
  fun L J st h Q x => pf_S pb_u_117 rfl rfl,
  fun L J st h Q => pf_S pb_u_117 rfl rfl,
  fun L J st h Q => pf_S pb_u_117 rfl rfl,
  fun l0 l1 l3 l4 st h Q x => pf_S pb_u_117 rfl rfl,
  fun l0 l1 l3 l4 st h Q => pf_S pb_u_117 rfl rfl,
  fun l1 l2 l3 l4 st h Q x => pf_S pb_u_117 rfl rfl,
  fun l1 l2 l3 l4 st h Q => pf_S pb_u_117 rfl rfl,
  fun L J st h Q a => pf_gf pb_u_117 rfl rfl,
  fun L J st h Q a => pf_gf pb_u_117 rfl rfl,
  fun l1 l2 l3 l4 st h Q x => pf_S pb_u_117 rfl rfl,
  fun l1 l2 l3 l4 st h Q => pf_S pb_u_117 rfl rfl,
  fun L J st h Q a => pf_gf pb_u_117 rfl rfl,
  fun L J st h Q a => pf_gf pb_u_117 rfl rfl,
  fun l1 l2 l3 l4 st h Q x => pf_S pb_u_117 rfl rfl,
  fun l1 l2 l3 l4 st h Q => pf_S pb_u_117 rfl rfl,
  fun L J st h Q a => pf_gf pb_u_117 rfl rfl,
  fun L J st h Q a => pf_gf pb_u_117 rfl rfl,
  fun L J h Q x0 x1 x2 x3 => pf_kv pb_u_117 rfl pb_ci_71 rfl ⟨Nat.le_of_ble_eq_true rfl, Nat.le_of_ble_eq_true rfl, Nat.le_of_ble_eq_true rfl, Nat.le_of_ble_eq_true rfl, rfl⟩ rfl rfl,
  fun l0 l1 l2 l3 l4 st h Q x => pf_S pb_u_117 rfl rfl,
  fun l0 l1 l2 l4 st h Q x => pf_S pb_u_117 rfl rfl,
  fun L J st h Q => pf_S pb_u_117 rfl rfl,
  fun L J st h Q x y => pf_ic pb_u_117 rfl rfl pf_ne,
  fun l1 l2 l3 l4 st h Q x => pf_S pb_u_117 rfl rfl,
  fun l1 l2 l3 l4 st h Q => pf_S pb_u_117 rfl rfl,
  fun l0 l2 l3 l4 st h Q x => pf_S pb_u_117 rfl rfl,
  fun l0 l1 l3 l4 st h Q x => pf_S pb_u_117 rfl rfl,
  fun l0 l1 l3 l4 st h Q => pf_S pb_u_117 rfl rfl,
  fun L J h Q x0 x1 x2 => pf_kv pb_u_117 rfl pb_ci_108 rfl ⟨Nat.le_of_ble_eq_true rfl, Nat.le_of_ble_eq_true rfl, Nat.le_of_ble_eq_true rfl, Nat.le_of_ble_eq_true rfl, rfl⟩ rfl rfl,
  fun l0 l1 l2 l3 l4 st h Q x => pf_S pb_u_117 rfl rfl,
  fun l1 l2 l3 l4 st h Q x => pf_S pb_u_117 rfl rfl,
  fun l1 l2 l3 l4 st h Q => pf_S pb_u_117 rfl rfl,
  fun l0 l1 l2 l3 st h Q x => pf_S pb_u_117 rfl rfl,
  fun L J h Q x0 x1 => pf_kv pb_u_117 rfl pb_ci_111 rfl ⟨Nat.le_of_ble_eq_true rfl, Nat.le_of_ble_eq_true rfl, Nat.le_of_ble_eq_true rfl, Nat.le_of_ble_eq_true rfl, rfl⟩ rfl rfl,
  fun L J h Q => pf_rv pb_u_117 rfl rfl,
  fun l0 l1 l2 l4 st h Q x => pf_S pb_u_117 rfl rfl,
  fun L J st h Q x => pf_ii pb_u_117 rfl rfl rfl,
  fun l0 l1 l2 l4 st h Q x => pf_S pb_u_117 rfl rfl,
  fun L J h Q x0 => pf_ks pb_u_117 rfl rfl rfl rfl,
  fun l0 l1 l2 l3 l4 st h Q x => pf_S pb_u_117 rfl rfl,
  fun l1 l2 l3 l4 st h Q x => pf_S pb_u_117 rfl rfl,
  fun l1 l2 l3 l4 st h Q => pf_S pb_u_117 rfl rfl,
  fun L J st h Q a => pf_gf pb_u_117 rfl rfl,
  fun l0 l1 l2 l3 st h Q x => pf_S pb_u_117 rfl rfl,
  fun l0 l1 l3 l4 st h Q x => pf_S pb_u_117 rfl rfl,
  fun l0 l1 l3 l4 st h Q => pf_S pb_u_117 rfl rfl,
  fun l0 l1 l2 l3 st h Q x => pf_S pb_u_117 rfl rfl,
  fun L J h Q x0 x1 x2 x3 => pf_kv pb_u_117 rfl pb_ci_60 rfl ⟨Nat.le_of_ble_eq_true rfl, Nat.le_of_ble_eq_true rfl, Nat.le_of_ble_eq_true rfl, Nat.le_of_ble_eq_true rfl, rfl⟩ rfl rfl,
  fun L J st x y h Q => pf_S pb_u_117 rfl rfl,
  fun l1 l2 l3 l4 st h Q x => pf_S pb_u_117 rfl rfl,
  fun l1 l2 l3 l4 st h Q => pf_S pb_u_117 rfl rfl,
  fun L J st h Q a => pf_gf pb_u_117 rfl rfl,
  fun l0 l2 l3 l4 st h Q x => pf_S pb_u_117 rfl rfl,
  fun L J h Q x0 x1 x2 x3 => pf_kv pb_u_117 rfl pb_ci_115 rfl ⟨Nat.le_of_ble_eq_true rfl, Nat.le_of_ble_eq_true rfl, Nat.le_of_ble_eq_true rfl, Nat.le_of_ble_eq_true rfl, rfl⟩ rfl rfl,
  fun L J h Q => pf_rv pb_u_117 rfl rfl,
  fun l0 l2 l3 l4 st h Q x => pf_S pb_u_117 rfl rfl,
  fun L J st h Q => pf_S pb_u_117 rfl rfl,
  fun l1 l2 l3 l4 st h Q x => pf_S pb_u_117 rfl rfl,
  fun l1 l2 l3 l4 st h Q => pf_S pb_u_117 rfl rfl,
  fun L J st h Q a => pf_gf pb_u_117 rfl rfl,
  fun L J h Q x0 => pf_kv pb_u_117 rfl pb_ci_114 rfl ⟨Nat.le_of_ble_eq_true rfl, Nat.le_of_ble_eq_true rfl, Nat.le_of_ble_eq_true rfl, Nat.le_of_ble_eq_true rfl, rfl⟩ rfl rfl,
  fun L J st h Q x => pf_ii pb_u_117 rfl rfl rfl,
  fun l1 l2 l3 l4 st h Q x => pf_S pb_u_117 rfl rfl,
  fun l1 l2 l3 l4 st h Q => pf_S pb_u_117 rfl rfl,
  fun L J st h Q => pf_S pb_u_117 rfl rfl,
  fun L J st h Q a x => pf_pf pb_u_117 rfl rfl,
  fun L J st h Q => pf_S pb_u_117 rfl rfl,
  fun l1 l2 l3 l4 st h Q x => pf_S pb_u_117 rfl rfl,
  fun l1 l2 l3 l4 st h Q => pf_S pb_u_117 rfl rfl,
  fun L J st x h Q => pf_S pb_u_117 rfl rfl,
  fun L J st h Q a => pf_gf pb_u_117 rfl rfl,
  fun L J st h Q => pf_S pb_u_117 rfl rfl,
  fun L J st x y h Q => pf_S pb_u_117 rfl rfl,
  fun L J st h Q a x => pf_pf pb_u_117 rfl rfl,
  fun l1 l2 l3 l4 st h Q x => pf_S pb_u_117 rfl rfl,
  fun l1 l2 l3 l4 st h Q => pf_S pb_u_117 rfl rfl,
  fun L J st x h Q => pf_S pb_u_117 rfl rfl,
  fun L J st h Q a => pf_gf pb_u_117 rfl rfl,
  fun L J st h Q => pf_S pb_u_117 rfl rfl,
  fun L J st x y h Q => pf_S pb_u_117 rfl rfl,
  fun L J st h Q a x => pf_pf pb_u_117 rfl rfl,
  fun l1 l2 l3 l4 st h Q x => pf_S pb_u_117 rfl rfl,
  fun l1 l2 l3 l4 st h Q => pf_S pb_u_117 rfl rfl,
  fun L J st h Q a => pf_gf pb_u_117 rfl rfl,
  fun l1 l2 l3 l4 st h Q x => pf_S pb_u_117 rfl rfl,
  fun l1 l2 l3 l4 st h Q => pf_S pb_u_117 rfl rfl,
  fun L J st h Q a => pf_gf pb_u_117 rfl rfl,
  fun L J h Q x0 x1 => pf_kv pb_u_117 rfl pb_ci_116 rfl ⟨Nat.le_of_ble_eq_true rfl, Nat.le_of_ble_eq_true rfl, Nat.le_of_ble_eq_true rfl, Nat.le_of_ble_eq_true rfl, rfl⟩ rfl rfl,
  fun l1 l2 l3 l4 st h Q x => pf_S pb_u_117 rfl rfl,
  fun l1 l2 l3 l4 st h Q => pf_S pb_u_117 rfl rfl,
  fun L J st h Q a => pf_gf pb_u_117 rfl rfl,
  fun L J st h Q => pf_S pb_u_117 rfl rfl,
  fun L J h Q x0 x1 x2 x3 => pf_kv pb_u_117 rfl pb_ci_115 rfl ⟨Nat.le_of_ble_eq_true rfl, Nat.le_of_ble_eq_true rfl, Nat.le_of_ble_eq_true rfl, Nat.le_of_ble_eq_true rfl, rfl⟩ rfl rfl,
  fun L J h Q => pf_rv pb_u_117 rfl rfl⟩
theorem pb_c117 (x0 : Nat) (h : pb_H) (Q : Option Value → pb_H → Prop) : pb_call 117 [.ref x0] h Q ↔ pb_R 117 0 [some (.ref x0), none, none, none, none] [] [] h Q := Iff.rfl
/-! 118: PlaneBench$Shelf.<init>(I)V -/
theorem pb_u_118 : pb_t 118 = pb_t118 := rfl
set_option maxRecDepth 100000 in
theorem pb_e118 : (∀ (l1 : Option Value) (st : List Value) (h : pb_H) (Q : Option Value → pb_H → Prop) (x : Nat), pb_R 118 0 [some (.ref x), l1] [] st h Q ↔ pb_R 118 1 [some (.ref x), l1] [] (.ref x :: st) h Q) ∧
  (∀ (l1 : Option Value) (st : List Value) (h : pb_H) (Q : Option Value → pb_H → Prop), pb_R 118 0 [some .null, l1] [] st h Q ↔ pb_R 118 1 [some .null, l1] [] (.null :: st) h Q) ∧
  (∀ (L : pb_L) (J : pb_J) (h : pb_H) (Q : Option Value → pb_H → Prop) (a : Nat), pb_R 118 1 L J [.ref a] h Q ↔ pb_R 118 4 L J [] h Q) ∧
  (∀ (l1 : Option Value) (st : List Value) (h : pb_H) (Q : Option Value → pb_H → Prop) (x : Nat), pb_R 118 4 [some (.ref x), l1] [] st h Q ↔ pb_R 118 5 [some (.ref x), l1] [] (.ref x :: st) h Q) ∧
  (∀ (l1 : Option Value) (st : List Value) (h : pb_H) (Q : Option Value → pb_H → Prop), pb_R 118 4 [some .null, l1] [] st h Q ↔ pb_R 118 5 [some .null, l1] [] (.null :: st) h Q) ∧
  (∀ (L : pb_L) (J : pb_J) (st : List Value) (h : pb_H) (Q : Option Value → pb_H → Prop), pb_R 118 5 L J st h Q ↔ pb_R 118 7 L J (.int (8 : Int32) :: st) h Q) ∧
  (∀ (L : pb_L) (J : pb_J) (st : List Value) (h : pb_H) (Q : Option Value → pb_H → Prop) (n : Int32), pb_R 118 7 L J (.int n :: st) h Q ↔ (¬ n < 0 ∧ n.toNatClampNeg ≤ 1000000) ∧ pb_R 118 9 L J (.ref h.1 :: st) (pb_new h (.inl (0, n.toNatClampNeg, .inl (fun _ => 0)))) Q) ∧
  (∀ (L : pb_L) (J : pb_J) (st : List Value) (h : pb_H) (Q : Option Value → pb_H → Prop) (a : Nat) (x : Nat), pb_R 118 9 L J (.ref x :: .ref a :: st) h Q ↔ pb_o (pb_pf (h.2 a) 7 1 (.ref x)) (fun c => pb_R 118 12 L J st (pb_set h a c) Q)) ∧
  (∀ (l1 : Option Value) (st : List Value) (h : pb_H) (Q : Option Value → pb_H → Prop) (x : Nat), pb_R 118 12 [some (.ref x), l1] [] st h Q ↔ pb_R 118 13 [some (.ref x), l1] [] (.ref x :: st) h Q) ∧
  (∀ (l1 : Option Value) (st : List Value) (h : pb_H) (Q : Option Value → pb_H → Prop), pb_R 118 12 [some .null, l1] [] st h Q ↔ pb_R 118 13 [some .null, l1] [] (.null :: st) h Q) ∧
  (∀ (L : pb_L) (J : pb_J) (st : List Value) (h : pb_H) (Q : Option Value → pb_H → Prop), pb_R 118 13 L J st h Q ↔ pb_R 118 16 L J (.int (300 : Int32) :: st) h Q) ∧
  (∀ (L : pb_L) (J : pb_J) (st : List Value) (h : pb_H) (Q : Option Value → pb_H → Prop) (n : Int32), pb_R 118 16 L J (.int n :: st) h Q ↔ (¬ n < 0 ∧ n.toNatClampNeg ≤ 1000000) ∧ pb_R 118 19 L J (.ref h.1 :: st) (pb_new h (.inl (2, n.toNatClampNeg, .inr (.inr (.inr (.inr (fun _ => none))))))) Q) ∧
  (∀ (L : pb_L) (J : pb_J) (st : List Value) (h : pb_H) (Q : Option Value → pb_H → Prop) (a : Nat) (x : Nat), pb_R 118 19 L J (.ref x :: .ref a :: st) h Q ↔ pb_o (pb_pf (h.2 a) 7 5 (.ref x)) (fun c => pb_R 118 22 L J st (pb_set h a c) Q)) ∧
  (∀ (l1 : Option Value) (st : List Value) (h : pb_H) (Q : Option Value → pb_H → Prop) (x : Nat), pb_R 118 22 [some (.ref x), l1] [] st h Q ↔ pb_R 118 23 [some (.ref x), l1] [] (.ref x :: st) h Q) ∧
  (∀ (l1 : Option Value) (st : List Value) (h : pb_H) (Q : Option Value → pb_H → Prop), pb_R 118 22 [some .null, l1] [] st h Q ↔ pb_R 118 23 [some .null, l1] [] (.null :: st) h Q) ∧
  (∀ (l0 : Option Value) (st : List Value) (h : pb_H) (Q : Option Value → pb_H → Prop) (x : Int32), pb_R 118 23 [l0, some (.int x)] [] st h Q ↔ pb_R 118 24 [l0, some (.int x)] [] (.int x :: st) h Q) ∧
  (∀ (L : pb_L) (J : pb_J) (st : List Value) (h : pb_H) (Q : Option Value → pb_H → Prop) (a : Nat) (x : Int32), pb_R 118 24 L J (.int x :: .ref a :: st) h Q ↔ pb_o (pb_pf (h.2 a) 7 0 (.int x)) (fun c => pb_R 118 27 L J st (pb_set h a c) Q)) ∧
  (∀ (L : pb_L) (J : pb_J) (h : pb_H) (Q : Option Value → pb_H → Prop), pb_R 118 27 L J [] h Q ↔ Q none h) := ⟨
  fun l1 st h Q x => pf_S pb_u_118 rfl rfl,
  fun l1 st h Q => pf_S pb_u_118 rfl rfl,
  fun L J h Q a => pf_S pb_u_118 rfl rfl,
  fun l1 st h Q x => pf_S pb_u_118 rfl rfl,
  fun l1 st h Q => pf_S pb_u_118 rfl rfl,
  fun L J st h Q => pf_S pb_u_118 rfl rfl,
  fun L J st h Q n => pf_nI pb_u_118 rfl rfl,
  fun L J st h Q a x => pf_pf pb_u_118 rfl rfl,
  fun l1 st h Q x => pf_S pb_u_118 rfl rfl,
  fun l1 st h Q => pf_S pb_u_118 rfl rfl,
  fun L J st h Q => pf_S pb_u_118 rfl rfl,
  fun L J st h Q n => pf_nL pb_u_118 rfl rfl,
  fun L J st h Q a x => pf_pf pb_u_118 rfl rfl,
  fun l1 st h Q x => pf_S pb_u_118 rfl rfl,
  fun l1 st h Q => pf_S pb_u_118 rfl rfl,
  fun l0 st h Q x => pf_S pb_u_118 rfl rfl,
  fun L J st h Q a x => pf_pf pb_u_118 rfl rfl,
  fun L J h Q => pf_rv pb_u_118 rfl rfl⟩
theorem pb_c118 (x0 : Nat) (x1 : Int32) (h : pb_H) (Q : Option Value → pb_H → Prop) : pb_call 118 [.ref x0, .int x1] h Q ↔ pb_R 118 0 [some (.ref x0), some (.int x1)] [] [] h Q := Iff.rfl
/-! 119: PlaneBench$Shelf.replaceBy([LPlaneBench$Line;I)V -/
theorem pb_u_119 : pb_t 119 = pb_t119 := rfl
theorem pb_ci_119 : pb_ci 119 = 7 := by decide +kernel
set_option maxRecDepth 100000 in
theorem pb_q119_17 (l0 l1 l2 l4 : Option Value) (st : List Value) (h : pb_H) (Q : Option Value → pb_H → Prop) (x : Int32) : pb_R 119 17 [l0, l1, l2, some (.int x), l4] [] st h Q ↔ pb_R 119 18 [l0, l1, l2, some (.int x), l4] [] (.int x :: st) h Q := pf_S pb_u_119 rfl rfl
set_option maxRecDepth 100000 in
theorem pb_e119 : (∀ (l1 l2 l3 l4 : Option Value) (st : List Value) (h : pb_H) (Q : Option Value → pb_H → Prop) (x : Nat), pb_R 119 0 [some (.ref x), l1, l2, l3, l4] [] st h Q ↔ pb_R 119 1 [some (.ref x), l1, l2, l3, l4] [] (.ref x :: st) h Q) ∧
  (∀ (l1 l2 l3 l4 : Option Value) (st : List Value) (h : pb_H) (Q : Option Value → pb_H → Prop), pb_R 119 0 [some .null, l1, l2, l3, l4] [] st h Q ↔ pb_R 119 1 [some .null, l1, l2, l3, l4] [] (.null :: st) h Q) ∧
  (∀ (L : pb_L) (J : pb_J) (st : List Value) (h : pb_H) (Q : Option Value → pb_H → Prop), pb_R 119 1 L J st h Q ↔ pb_R 119 2 L J (.int (0 : Int32) :: st) h Q) ∧
  (∀ (L : pb_L) (J : pb_J) (st : List Value) (h : pb_H) (Q : Option Value → pb_H → Prop) (a : Nat) (x : Int32), pb_R 119 2 L J (.int x :: .ref a :: st) h Q ↔ pb_o (pb_pf (h.2 a) 7 2 (.int x)) (fun c => pb_R 119 5 L J st (pb_set h a c) Q)) ∧
  (∀ (l1 l2 l3 l4 : Option Value) (st : List Value) (h : pb_H) (Q : Option Value → pb_H → Prop) (x : Nat), pb_R 119 5 [some (.ref x), l1, l2, l3, l4] [] st h Q ↔ pb_R 119 6 [some (.ref x), l1, l2, l3, l4] [] (.ref x :: st) h Q) ∧
  (∀ (l1 l2 l3 l4 : Option Value) (st : List Value) (h : pb_H) (Q : Option Value → pb_H → Prop), pb_R 119 5 [some .null, l1, l2, l3, l4] [] st h Q ↔ pb_R 119 6 [some .null, l1, l2, l3, l4] [] (.null :: st) h Q) ∧
  (∀ (L : pb_L) (J : pb_J) (st : List Value) (h : pb_H) (Q : Option Value → pb_H → Prop), pb_R 119 6 L J st h Q ↔ pb_R 119 7 L J (.int (0 : Int32) :: st) h Q) ∧
  (∀ (L : pb_L) (J : pb_J) (st : List Value) (h : pb_H) (Q : Option Value → pb_H → Prop) (a : Nat) (x : Int32), pb_R 119 7 L J (.int x :: .ref a :: st) h Q ↔ pb_o (pb_pf (h.2 a) 7 3 (.int x)) (fun c => pb_R 119 10 L J st (pb_set h a c) Q)) ∧
  (∀ (l1 l2 l3 l4 : Option Value) (st : List Value) (h : pb_H) (Q : Option Value → pb_H → Prop) (x : Nat), pb_R 119 10 [some (.ref x), l1, l2, l3, l4] [] st h Q ↔ pb_R 119 11 [some (.ref x), l1, l2, l3, l4] [] (.ref x :: st) h Q) ∧
  (∀ (l1 l2 l3 l4 : Option Value) (st : List Value) (h : pb_H) (Q : Option Value → pb_H → Prop), pb_R 119 10 [some .null, l1, l2, l3, l4] [] st h Q ↔ pb_R 119 11 [some .null, l1, l2, l3, l4] [] (.null :: st) h Q) ∧
  (∀ (L : pb_L) (J : pb_J) (st : List Value) (h : pb_H) (Q : Option Value → pb_H → Prop), pb_R 119 11 L J st h Q ↔ pb_R 119 12 L J (.int (0 : Int32) :: st) h Q) ∧
  (∀ (L : pb_L) (J : pb_J) (st : List Value) (h : pb_H) (Q : Option Value → pb_H → Prop) (a : Nat) (x : Int32), pb_R 119 12 L J (.int x :: .ref a :: st) h Q ↔ pb_o (pb_pf (h.2 a) 7 4 (.int x)) (fun c => pb_R 119 15 L J st (pb_set h a c) Q)) ∧
  (∀ (L : pb_L) (J : pb_J) (st : List Value) (h : pb_H) (Q : Option Value → pb_H → Prop), pb_R 119 15 L J st h Q ↔ pb_R 119 16 L J (.int (0 : Int32) :: st) h Q) ∧
  (∀ (l0 l1 l2 l3 l4 : Option Value) (st : List Value) (h : pb_H) (Q : Option Value → pb_H → Prop) (x : Int32), pb_R 119 16 [l0, l1, l2, l3, l4] [] (.int x :: st) h Q ↔ pb_R 119 17 [l0, l1, l2, some (.int x), l4] [] st h Q) ∧
  (∀ (l0 l1 l3 l4 : Option Value) (st : List Value) (h : pb_H) (Q : Option Value → pb_H → Prop) (x : Int32), pb_R 119 18 [l0, l1, some (.int x), l3, l4] [] st h Q ↔ pb_R 119 19 [l0, l1, some (.int x), l3, l4] [] (.int x :: st) h Q) ∧
  (∀ (L : pb_L) (J : pb_J) (st : List Value) (h : pb_H) (Q : Option Value → pb_H → Prop) (x y : Int32), pb_R 119 19 L J (.int y :: .int x :: st) h Q ↔ if y ≤ x then pb_R 119 126 L J st h Q else pb_R 119 22 L J st h Q) ∧
  (∀ (l0 l1 l2 l4 : Option Value) (st : List Value) (h : pb_H) (Q : Option Value → pb_H → Prop) (x : Int32), pb_R 119 22 [l0, l1, l2, some (.int x), l4] [] st h Q ↔ pb_R 119 23 [l0, l1, l2, some (.int x), l4] [] (.int x :: st) h Q) ∧
  (∀ (l0 l2 l3 l4 : Option Value) (st : List Value) (h : pb_H) (Q : Option Value → pb_H → Prop) (x : Nat), pb_R 119 23 [l0, some (.ref x), l2, l3, l4] [] st h Q ↔ pb_R 119 24 [l0, some (.ref x), l2, l3, l4] [] (.ref x :: st) h Q) ∧
  (∀ (l0 l2 l3 l4 : Option Value) (st : List Value) (h : pb_H) (Q : Option Value → pb_H → Prop), pb_R 119 23 [l0, some .null, l2, l3, l4] [] st h Q ↔ pb_R 119 24 [l0, some .null, l2, l3, l4] [] (.null :: st) h Q) ∧
  (∀ (L : pb_L) (J : pb_J) (st : List Value) (h : pb_H) (Q : Option Value → pb_H → Prop) (a : Nat), pb_R 119 24 L J (.ref a :: st) h Q ↔ pb_o (pb_al2 (h.2 a)) (fun n => pb_R 119 25 L J (.int (Int32.ofNat n) :: st) h Q)) ∧
  (∀ (L : pb_L) (J : pb_J) (st : List Value) (h : pb_H) (Q : Option Value → pb_H → Prop) (x y : Int32), pb_R 119 25 L J (.int y :: .int x :: st) h Q ↔ if y ≤ x then pb_R 119 126 L J st h Q else pb_R 119 28 L J st h Q) ∧
  (∀ (l0 l1 l2 l4 : Option Value) (st : List Value) (h : pb_H) (Q : Option Value → pb_H → Prop) (x : Int32), pb_R 119 28 [l0, l1, l2, some (.int x), l4] [] st h Q ↔ pb_R 119 29 [l0, l1, l2, some (.int x), l4] [] (.int x :: st) h Q) ∧
  (∀ (l1 l2 l3 l4 : Option Value) (st : List Value) (h : pb_H) (Q : Option Value → pb_H → Prop) (x : Nat), pb_R 119 29 [some (.ref x), l1, l2, l3, l4] [] st h Q ↔ pb_R 119 30 [some (.ref x), l1, l2, l3, l4] [] (.ref x :: st) h Q) ∧
  (∀ (l1 l2 l3 l4 : Option Value) (st : List Value) (h : pb_H) (Q : Option Value → pb_H → Prop), pb_R 119 29 [some .null, l1, l2, l3, l4] [] st h Q ↔ pb_R 119 30 [some .null, l1, l2, l3, l4] [] (.null :: st) h Q) ∧
  (∀ (L : pb_L) (J : pb_J) (st : List Value) (h : pb_H) (Q : Option Value → pb_H → Prop) (a : Nat), pb_R 119 30 L J (.ref a :: st) h Q ↔ pb_o (pb_gf (h.2 a) 7 5) (fun v => pb_R 119 33 L J (v :: st) h Q)) ∧
  (∀ (L : pb_L) (J : pb_J) (st : List Value) (h : pb_H) (Q : Option Value → pb_H → Prop) (a : Nat), pb_R 119 33 L J (.ref a :: st) h Q ↔ pb_o (pb_al2 (h.2 a)) (fun n => pb_R 119 34 L J (.int (Int32.ofNat n) :: st) h Q)) ∧
  (∀ (L : pb_L) (J : pb_J) (st : List Value) (h : pb_H) (Q : Option Value → pb_H → Prop) (x y : Int32), pb_R 119 34 L J (.int y :: .int x :: st) h Q ↔ if y ≤ x then pb_R 119 126 L J st h Q else pb_R 119 37 L J st h Q) ∧
  (∀ (l0 l2 l3 l4 : Option Value) (st : List Value) (h : pb_H) (Q : Option Value → pb_H → Prop) (x : Nat), pb_R 119 37 [l0, some (.ref x), l2, l3, l4] [] st h Q ↔ pb_R 119 38 [l0, some (.ref x), l2, l3, l4] [] (.ref x :: st) h Q) ∧
  (∀ (l0 l2 l3 l4 : Option Value) (st : List Value) (h : pb_H) (Q : Option Value → pb_H → Prop), pb_R 119 37 [l0, some .null, l2, l3, l4] [] st h Q ↔ pb_R 119 38 [l0, some .null, l2, l3, l4] [] (.null :: st) h Q) ∧
  (∀ (l0 l1 l2 l4 : Option Value) (st : List Value) (h : pb_H) (Q : Option Value → pb_H → Prop) (x : Int32), pb_R 119 38 [l0, l1, l2, some (.int x), l4] [] st h Q ↔ pb_R 119 39 [l0, l1, l2, some (.int x), l4] [] (.int x :: st) h Q) ∧
  (∀ (L : pb_L) (J : pb_J) (st : List Value) (h : pb_H) (Q : Option Value → pb_H → Prop) (a : Nat) (i : Int32), pb_R 119 39 L J (.int i :: .ref a :: st) h Q ↔ pb_o (pb_aa (h.2 a) i) (fun v => pb_R 119 40 L J (va_rf v :: st) h Q)) ∧
  (∀ (l0 l1 l2 l3 l4 : Option Value) (st : List Value) (h : pb_H) (Q : Option Value → pb_H → Prop) (x : Nat), pb_R 119 40 [l0, l1, l2, l3, l4] [] (.ref x :: st) h Q ↔ pb_R 119 42 [l0, l1, l2, l3, some (.ref x)] [] st h Q) ∧
  (∀ (l0 l1 l2 l3 l4 : Option Value) (st : List Value) (h : pb_H) (Q : Option Value → pb_H → Prop), pb_R 119 40 [l0, l1, l2, l3, l4] [] (.null :: st) h Q ↔ pb_R 119 42 [l0, l1, l2, l3, some .null] [] st h Q) ∧
  (∀ (l0 l1 l2 l3 : Option Value) (st : List Value) (h : pb_H) (Q : Option Value → pb_H → Prop) (x : Nat), pb_R 119 42 [l0, l1, l2, l3, some (.ref x)] [] st h Q ↔ pb_R 119 44 [l0, l1, l2, l3, some (.ref x)] [] (.ref x :: st) h Q) ∧
  (∀ (l0 l1 l2 l3 : Option Value) (st : List Value) (h : pb_H) (Q : Option Value → pb_H → Prop), pb_R 119 42 [l0, l1, l2, l3, some .null] [] st h Q ↔ pb_R 119 44 [l0, l1, l2, l3, some .null] [] (.null :: st) h Q) ∧
  (∀ (L : pb_L) (J : pb_J) (st : List Value) (h : pb_H) (Q : Option Value → pb_H → Prop), pb_R 119 44 L J (.null :: st) h Q ↔ pb_R 119 47 L J st h Q) ∧
  (∀ (L : pb_L) (J : pb_J) (st : List Value) (h : pb_H) (Q : Option Value → pb_H → Prop) (x : Nat), pb_R 119 44 L J (.ref x :: st) h Q ↔ pb_R 119 48 L J st h Q) ∧
  (∀ (L : pb_L) (J : pb_J) (h : pb_H) (Q : Option Value → pb_H → Prop), pb_R 119 47 L J [] h Q ↔ Q none h) ∧
  (∀ (l0 l2 l3 l4 : Option Value) (st : List Value) (h : pb_H) (Q : Option Value → pb_H → Prop) (x : Nat), pb_R 119 48 [l0, some (.ref x), l2, l3, l4] [] st h Q ↔ pb_R 119 49 [l0, some (.ref x), l2, l3, l4] [] (.ref x :: st) h Q) ∧
  (∀ (l0 l2 l3 l4 : Option Value) (st : List Value) (h : pb_H) (Q : Option Value → pb_H → Prop), pb_R 119 48 [l0, some .null, l2, l3, l4] [] st h Q ↔ pb_R 119 49 [l0, some .null, l2, l3, l4] [] (.null :: st) h Q) ∧
  (∀ (l0 l1 l2 l4 : Option Value) (st : List Value) (h : pb_H) (Q : Option Value → pb_H → Prop) (x : Int32), pb_R 119 49 [l0, l1, l2, some (.int x), l4] [] st h Q ↔ pb_R 119 50 [l0, l1, l2, some (.int x), l4] [] (.int x :: st) h Q) ∧
  (∀ (l1 l2 l3 l4 : Option Value) (st : List Value) (h : pb_H) (Q : Option Value → pb_H → Prop) (x : Nat), pb_R 119 50 [some (.ref x), l1, l2, l3, l4] [] st h Q ↔ pb_R 119 51 [some (.ref x), l1, l2, l3, l4] [] (.ref x :: st) h Q) ∧
  (∀ (l1 l2 l3 l4 : Option Value) (st : List Value) (h : pb_H) (Q : Option Value → pb_H → Prop), pb_R 119 50 [some .null, l1, l2, l3, l4] [] st h Q ↔ pb_R 119 51 [some .null, l1, l2, l3, l4] [] (.null :: st) h Q) ∧
  (∀ (L : pb_L) (J : pb_J) (st : List Value) (h : pb_H) (Q : Option Value → pb_H → Prop) (a : Nat), pb_R 119 51 L J (.ref a :: st) h Q ↔ pb_o (pb_gf (h.2 a) 7 5) (fun v => pb_R 119 54 L J (v :: st) h Q)) ∧
  (∀ (l0 l1 l2 l4 : Option Value) (st : List Value) (h : pb_H) (Q : Option Value → pb_H → Prop) (x : Int32), pb_R 119 54 [l0, l1, l2, some (.int x), l4] [] st h Q ↔ pb_R 119 55 [l0, l1, l2, some (.int x), l4] [] (.int x :: st) h Q) ∧
  (∀ (L : pb_L) (J : pb_J) (st : List Value) (h : pb_H) (Q : Option Value → pb_H → Prop) (a : Nat) (i : Int32), pb_R 119 55 L J (.int i :: .ref a :: st) h Q ↔ pb_o (pb_aa (h.2 a) i) (fun v => pb_R 119 56 L J (va_rf v :: st) h Q)) ∧
  (∀ (L : pb_L) (J : pb_J) (st : List Value) (h : pb_H) (Q : Option Value → pb_H → Prop) (a : Nat) (i : Int32), pb_R 119 56 L J (.null :: .int i :: .ref a :: st) h Q ↔ (∀ v, (none : Option Nat) = some v → pb_is0 (h.2 v) 4 = true) ∧ pb_o (pb_sa (h.2 a) i none) (fun c => pb_R 119 57 L J st (pb_set h a c) Q)) ∧
  (∀ (L : pb_L) (J : pb_J) (st : List Value) (h : pb_H) (Q : Option Value → pb_H → Prop) (a x : Nat) (i : Int32), pb_R 119 56 L J (.ref x :: .int i :: .ref a :: st) h Q ↔ (∀ v, some x = some v → pb_is0 (h.2 v) 4 = true) ∧ pb_o (pb_sa (h.2 a) i (some x)) (fun c => pb_R 119 57 L J st (pb_set h a c) Q)) ∧
  (∀ (l1 l2 l3 l4 : Option Value) (st : List Value) (h : pb_H) (Q : Option Value → pb_H → Prop) (x : Nat), pb_R 119 57 [some (.ref x), l1, l2, l3, l4] [] st h Q ↔ pb_R 119 58 [some (.ref x), l1, l2, l3, l4] [] (.ref x :: st) h Q) ∧
  (∀ (l1 l2 l3 l4 : Option Value) (st : List Value) (h : pb_H) (Q : Option Value → pb_H → Prop), pb_R 119 57 [some .null, l1, l2, l3, l4] [] st h Q ↔ pb_R 119 58 [some .null, l1, l2, l3, l4] [] (.null :: st) h Q) ∧
  (∀ (L : pb_L) (J : pb_J) (st : List Value) (h : pb_H) (Q : Option Value → pb_H → Prop) (a : Nat), pb_R 119 58 L J (.ref a :: st) h Q ↔ pb_o (pb_gf (h.2 a) 7 5) (fun v => pb_R 119 61 L J (v :: st) h Q)) ∧
  (∀ (l0 l1 l2 l4 : Option Value) (st : List Value) (h : pb_H) (Q : Option Value → pb_H → Prop) (x : Int32), pb_R 119 61 [l0, l1, l2, some (.int x), l4] [] st h Q ↔ pb_R 119 62 [l0, l1, l2, some (.int x), l4] [] (.int x :: st) h Q) ∧
  (∀ (l0 l1 l2 l3 : Option Value) (st : List Value) (h : pb_H) (Q : Option Value → pb_H → Prop) (x : Nat), pb_R 119 62 [l0, l1, l2, l3, some (.ref x)] [] st h Q ↔ pb_R 119 64 [l0, l1, l2, l3, some (.ref x)] [] (.ref x :: st) h Q) ∧
  (∀ (l0 l1 l2 l3 : Option Value) (st : List Value) (h : pb_H) (Q : Option Value → pb_H → Prop), pb_R 119 62 [l0, l1, l2, l3, some .null] [] st h Q ↔ pb_R 119 64 [l0, l1, l2, l3, some .null] [] (.null :: st) h Q) ∧
  (∀ (L : pb_L) (J : pb_J) (st : List Value) (h : pb_H) (Q : Option Value → pb_H → Prop) (a : Nat) (i : Int32), pb_R 119 64 L J (.null :: .int i :: .ref a :: st) h Q ↔ (∀ v, (none : Option Nat) = some v → pb_is0 (h.2 v) 4 = true) ∧ pb_o (pb_sa (h.2 a) i none) (fun c => pb_R 119 65 L J st (pb_set h a c) Q)) ∧
  (∀ (L : pb_L) (J : pb_J) (st : List Value) (h : pb_H) (Q : Option Value → pb_H → Prop) (a x : Nat) (i : Int32), pb_R 119 64 L J (.ref x :: .int i :: .ref a :: st) h Q ↔ (∀ v, some x = some v → pb_is0 (h.2 v) 4 = true) ∧ pb_o (pb_sa (h.2 a) i (some x)) (fun c => pb_R 119 65 L J st (pb_set h a c) Q)) ∧
  (∀ (l0 l1 l2 l3 : Option Value) (st : List Value) (h : pb_H) (Q : Option Value → pb_H → Prop) (x : Nat), pb_R 119 65 [l0, l1, l2, l3, some (.ref x)] [] st h Q ↔ pb_R 119 67 [l0, l1, l2, l3, some (.ref x)] [] (.ref x :: st) h Q) ∧
  (∀ (l0 l1 l2 l3 : Option Value) (st : List Value) (h : pb_H) (Q : Option Value → pb_H → Prop), pb_R 119 65 [l0, l1, l2, l3, some .null] [] st h Q ↔ pb_R 119 67 [l0, l1, l2, l3, some .null] [] (.null :: st) h Q) ∧
  (∀ (L : pb_L) (J : pb_J) (st : List Value) (h : pb_H) (Q : Option Value → pb_H → Prop), pb_R 119 67 L J st h Q ↔ pb_R 119 68 L J (.int (1 : Int32) :: st) h Q) ∧
  (∀ (L : pb_L) (J : pb_J) (st : List Value) (h : pb_H) (Q : Option Value → pb_H → Prop) (a : Nat) (x : Int32), pb_R 119 68 L J (.int x :: .ref a :: st) h Q ↔ pb_o (pb_pf (h.2 a) 4 5 (.int x)) (fun c => pb_R 119 71 L J st (pb_set h a c) Q)) ∧
  (∀ (l1 l2 l3 l4 : Option Value) (st : List Value) (h : pb_H) (Q : Option Value → pb_H → Prop) (x : Nat), pb_R 119 71 [some (.ref x), l1, l2, l3, l4] [] st h Q ↔ pb_R 119 72 [some (.ref x), l1, l2, l3, l4] [] (.ref x :: st) h Q) ∧
  (∀ (l1 l2 l3 l4 : Option Value) (st : List Value) (h : pb_H) (Q : Option Value → pb_H → Prop), pb_R 119 71 [some .null, l1, l2, l3, l4] [] st h Q ↔ pb_R 119 72 [some .null, l1, l2, l3, l4] [] (.null :: st) h Q) ∧
  (∀ (L : pb_L) (J : pb_J) (st : List Value) (x : Nat) (h : pb_H) (Q : Option Value → pb_H → Prop), pb_R 119 72 L J (.ref x :: st) h Q ↔ pb_R 119 73 L J (.ref x :: .ref x :: st) h Q) ∧
  (∀ (L : pb_L) (J : pb_J) (st : List Value) (h : pb_H) (Q : Option Value → pb_H → Prop) (a : Nat), pb_R 119 73 L J (.ref a :: st) h Q ↔ pb_o (pb_gf (h.2 a) 7 2) (fun v => pb_R 119 76 L J (v :: st) h Q)) ∧
  (∀ (L : pb_L) (J : pb_J) (st : List Value) (h : pb_H) (Q : Option Value → pb_H → Prop), pb_R 119 76 L J st h Q ↔ pb_R 119 77 L J (.int (1 : Int32) :: st) h Q) ∧
  (∀ (L : pb_L) (J : pb_J) (st : List Value) (x y : Int32) (h : pb_H) (Q : Option Value → pb_H → Prop), pb_R 119 77 L J (.int y :: .int x :: st) h Q ↔ pb_R 119 78 L J (.int (x + y) :: st) h Q) ∧
  (∀ (L : pb_L) (J : pb_J) (st : List Value) (h : pb_H) (Q : Option Value → pb_H → Prop) (a : Nat) (x : Int32), pb_R 119 78 L J (.int x :: .ref a :: st) h Q ↔ pb_o (pb_pf (h.2 a) 7 2 (.int x)) (fun c => pb_R 119 81 L J st (pb_set h a c) Q)) ∧
  (∀ (l1 l2 l3 l4 : Option Value) (st : List Value) (h : pb_H) (Q : Option Value → pb_H → Prop) (x : Nat), pb_R 119 81 [some (.ref x), l1, l2, l3, l4] [] st h Q ↔ pb_R 119 82 [some (.ref x), l1, l2, l3, l4] [] (.ref x :: st) h Q) ∧
  (∀ (l1 l2 l3 l4 : Option Value) (st : List Value) (h : pb_H) (Q : Option Value → pb_H → Prop), pb_R 119 81 [some .null, l1, l2, l3, l4] [] st h Q ↔ pb_R 119 82 [some .null, l1, l2, l3, l4] [] (.null :: st) h Q) ∧
  (∀ (L : pb_L) (J : pb_J) (st : List Value) (x : Nat) (h : pb_H) (Q : Option Value → pb_H → Prop), pb_R 119 82 L J (.ref x :: st) h Q ↔ pb_R 119 83 L J (.ref x :: .ref x :: st) h Q) ∧
  (∀ (L : pb_L) (J : pb_J) (st : List Value) (h : pb_H) (Q : Option Value → pb_H → Prop) (a : Nat), pb_R 119 83 L J (.ref a :: st) h Q ↔ pb_o (pb_gf (h.2 a) 7 3) (fun v => pb_R 119 86 L J (v :: st) h Q)) ∧
  (∀ (L : pb_L) (J : pb_J) (st : List Value) (h : pb_H) (Q : Option Value → pb_H → Prop), pb_R 119 86 L J st h Q ↔ pb_R 119 87 L J (.int (1 : Int32) :: st) h Q) ∧
  (∀ (L : pb_L) (J : pb_J) (st : List Value) (x y : Int32) (h : pb_H) (Q : Option Value → pb_H → Prop), pb_R 119 87 L J (.int y :: .int x :: st) h Q ↔ pb_R 119 88 L J (.int (x + y) :: st) h Q) ∧
  (∀ (L : pb_L) (J : pb_J) (st : List Value) (h : pb_H) (Q : Option Value → pb_H → Prop) (a : Nat) (x : Int32), pb_R 119 88 L J (.int x :: .ref a :: st) h Q ↔ pb_o (pb_pf (h.2 a) 7 3 (.int x)) (fun c => pb_R 119 91 L J st (pb_set h a c) Q)) ∧
  (∀ (l1 l2 l3 l4 : Option Value) (st : List Value) (h : pb_H) (Q : Option Value → pb_H → Prop) (x : Nat), pb_R 119 91 [some (.ref x), l1, l2, l3, l4] [] st h Q ↔ pb_R 119 92 [some (.ref x), l1, l2, l3, l4] [] (.ref x :: st) h Q) ∧
  (∀ (l1 l2 l3 l4 : Option Value) (st : List Value) (h : pb_H) (Q : Option Value → pb_H → Prop), pb_R 119 91 [some .null, l1, l2, l3, l4] [] st h Q ↔ pb_R 119 92 [some .null, l1, l2, l3, l4] [] (.null :: st) h Q) ∧
  (∀ (L : pb_L) (J : pb_J) (st : List Value) (x : Nat) (h : pb_H) (Q : Option Value → pb_H → Prop), pb_R 119 92 L J (.ref x :: st) h Q ↔ pb_R 119 93 L J (.ref x :: .ref x :: st) h Q) ∧
  (∀ (L : pb_L) (J : pb_J) (st : List Value) (h : pb_H) (Q : Option Value → pb_H → Prop) (a : Nat), pb_R 119 93 L J (.ref a :: st) h Q ↔ pb_o (pb_gf (h.2 a) 7 4) (fun v => pb_R 119 96 L J (v :: st) h Q)) ∧
  (∀ (l0 l1 l2 l3 : Option Value) (st : List Value) (h : pb_H) (Q : Option Value → pb_H → Prop) (x : Nat), pb_R 119 96 [l0, l1, l2, l3, some (.ref x)] [] st h Q ↔ pb_R 119 98 [l0, l1, l2, l3, some (.ref x)] [] (.ref x :: st) h Q) ∧
  (∀ (l0 l1 l2 l3 : Option Value) (st : List Value) (h : pb_H) (Q : Option Value → pb_H → Prop), pb_R 119 96 [l0, l1, l2, l3, some .null] [] st h Q ↔ pb_R 119 98 [l0, l1, l2, l3, some .null] [] (.null :: st) h Q) ∧
  (∀ (L : pb_L) (J : pb_J) (st : List Value) (h : pb_H) (Q : Option Value → pb_H → Prop), pb_R 119 98 L J st h Q ↔ pb_R 119 99 L J (.int (0 : Int32) :: st) h Q) ∧
  (∀ (L : pb_L) (J : pb_J) (st : List Value) (h : pb_H) (Q : Option Value → pb_H → Prop), pb_R 119 99 L J st h Q ↔ pb_R 119 100 L J (.int (0 : Int32) :: st) h Q) ∧
  (∀ (l1 l2 l3 l4 : Option Value) (st : List Value) (h : pb_H) (Q : Option Value → pb_H → Prop) (x : Nat), pb_R 119 100 [some (.ref x), l1, l2, l3, l4] [] st h Q ↔ pb_R 119 101 [some (.ref x), l1, l2, l3, l4] [] (.ref x :: st) h Q) ∧
  (∀ (l1 l2 l3 l4 : Option Value) (st : List Value) (h : pb_H) (Q : Option Value → pb_H → Prop), pb_R 119 100 [some .null, l1, l2, l3, l4] [] st h Q ↔ pb_R 119 101 [some .null, l1, l2, l3, l4] [] (.null :: st) h Q) ∧
  (∀ (L : pb_L) (J : pb_J) (st : List Value) (h : pb_H) (Q : Option Value → pb_H → Prop) (a : Nat), pb_R 119 101 L J (.ref a :: st) h Q ↔ pb_o (pb_gf (h.2 a) 7 1) (fun v => pb_R 119 104 L J (v :: st) h Q)) ∧
  (∀ (L : pb_L) (J : pb_J) (h : pb_H) (Q : Option Value → pb_H → Prop) (x0 : Nat) (x1 : Int32) (x2 : Int32) (x3 : Nat) (x4 : Int32) (x5 : Nat), pb_R 119 104 L J [.ref x0, .int x1, .int x2, .ref x3, .int x4, .ref x5] h Q ↔ pb_is0 (h.2 x3) 4 = true ∧ pb_call 71 [.ref x3, .int x2, .int x1, .ref x0] h (fun v t => pb_R 119 107 L J (v.toList ++ [.int x4, .ref x5]) t Q)) ∧
  (∀ (L : pb_L) (J : pb_J) (st : List Value) (h : pb_H) (Q : Option Value → pb_H → Prop), pb_R 119 107 L J st h Q ↔ pb_R 119 108 L J (.int (-1 : Int32) :: st) h Q) ∧
  (∀ (L : pb_L) (J : pb_J) (st : List Value) (h : pb_H) (Q : Option Value → pb_H → Prop) (x y : Int32), pb_R 119 108 L J (.int y :: .int x :: st) h Q ↔ if ¬ x = y then pb_R 119 115 L J st h Q else pb_R 119 111 L J st h Q) ∧
  (∀ (L : pb_L) (J : pb_J) (st : List Value) (h : pb_H) (Q : Option Value → pb_H → Prop), pb_R 119 111 L J st h Q ↔ pb_R 119 112 L J (.int (1 : Int32) :: st) h Q) ∧
  (∀ (L : pb_L) (J : pb_J) (st : List Value) (h : pb_H) (Q : Option Value → pb_H → Prop), pb_R 119 112 L J st h Q ↔ pb_R 119 116 L J st h Q) ∧
  (∀ (L : pb_L) (J : pb_J) (st : List Value) (h : pb_H) (Q : Option Value → pb_H → Prop), pb_R 119 115 L J st h Q ↔ pb_R 119 116 L J (.int (0 : Int32) :: st) h Q) ∧
  (∀ (L : pb_L) (J : pb_J) (st : List Value) (x y : Int32) (h : pb_H) (Q : Option Value → pb_H → Prop), pb_R 119 116 L J (.int y :: .int x :: st) h Q ↔ pb_R 119 117 L J (.int (x + y) :: st) h Q) ∧
  (∀ (L : pb_L) (J : pb_J) (st : List Value) (h : pb_H) (Q : Option Value → pb_H → Prop) (a : Nat) (x : Int32), pb_R 119 117 L J (.int x :: .ref a :: st) h Q ↔ pb_o (pb_pf (h.2 a) 7 4 (.int x)) (fun c => pb_R 119 120 L J st (pb_set h a c) Q)) ∧
  (∀ (l0 l1 l2 l4 : Option Value) (st : List Value) (h : pb_H) (Q : Option Value → pb_H → Prop) (x : Int32), pb_R 119 120 [l0, l1, l2, some (.int x), l4] [] st h Q ↔ pb_R 119 123 [l0, l1, l2, some (.int (x + (1 : Int32))), l4] [] st h Q) ∧
  (∀ (L : pb_L) (J : pb_J) (st : List Value) (h : pb_H) (Q : Option Value → pb_H → Prop), pb_R 119 123 L J st h Q ↔ pb_R 119 17 L J st h Q) ∧
  (∀ (L : pb_L) (J : pb_J) (h : pb_H) (Q : Option Value → pb_H → Prop), pb_R 119 126 L J [] h Q ↔ Q none h) := ⟨
  fun l1 l2 l3 l4 st h Q x => pf_S pb_u_119 rfl rfl,
  fun l1 l2 l3 l4 st h Q => pf_S pb_u_119 rfl rfl,
  fun L J st h Q => pf_S pb_u_119 rfl rfl,
  fun L J st h Q a x => pf_pf pb_u_119 rfl rfl,
  fun l1 l2 l3 l4 st h Q x => pf_S pb_u_119 rfl rfl,
  fun l1 l2 l3 l4 st h Q => pf_S pb_u_119 rfl rfl,
  fun L J st h Q => pf_S pb_u_119 rfl rfl,
  fun L J st h Q a x => pf_pf pb_u_119 rfl rfl,
  fun l1 l2 l3 l4 st h Q x => pf_S pb_u_119 rfl rfl,
  fun l1 l2 l3 l4 st h Q => pf_S pb_u_119 rfl rfl,
  fun L J st h Q => pf_S pb_u_119 rfl rfl,
  fun L J st h Q a x => pf_pf pb_u_119 rfl rfl,
  fun L J st h Q => pf_S pb_u_119 rfl rfl,
  fun l0 l1 l2 l3 l4 st h Q x => pf_S pb_u_119 rfl rfl,
  fun l0 l1 l3 l4 st h Q x => pf_S pb_u_119 rfl rfl,
  fun L J st h Q x y => pf_ic pb_u_119 rfl rfl rfl,
  fun l0 l1 l2 l4 st h Q x => pf_S pb_u_119 rfl rfl,
  fun l0 l2 l3 l4 st h Q x => pf_S pb_u_119 rfl rfl,
  fun l0 l2 l3 l4 st h Q => pf_S pb_u_119 rfl rfl,
  fun L J st h Q a => pf_le pb_u_119 rfl rfl,
  fun L J st h Q x y => pf_ic pb_u_119 rfl rfl rfl,
  fun l0 l1 l2 l4 st h Q x => pf_S pb_u_119 rfl rfl,
  fun l1 l2 l3 l4 st h Q x => pf_S pb_u_119 rfl rfl,
  fun l1 l2 l3 l4 st h Q => pf_S pb_u_119 rfl rfl,
  fun L J st h Q a => pf_gf pb_u_119 rfl rfl,
  fun L J st h Q a => pf_le pb_u_119 rfl rfl,
  fun L J st h Q x y => pf_ic pb_u_119 rfl rfl rfl,
  fun l0 l2 l3 l4 st h Q x => pf_S pb_u_119 rfl rfl,
  fun l0 l2 l3 l4 st h Q => pf_S pb_u_119 rfl rfl,
  fun l0 l1 l2 l4 st h Q x => pf_S pb_u_119 rfl rfl,
  fun L J st h Q a i => pf_aa pb_u_119 rfl rfl,
  fun l0 l1 l2 l3 l4 st h Q x => pf_S pb_u_119 rfl rfl,
  fun l0 l1 l2 l3 l4 st h Q => pf_S pb_u_119 rfl rfl,
  fun l0 l1 l2 l3 st h Q x => pf_S pb_u_119 rfl rfl,
  fun l0 l1 l2 l3 st h Q => pf_S pb_u_119 rfl rfl,
  fun L J st h Q => pf_S pb_u_119 rfl rfl,
  fun L J st h Q x => pf_S pb_u_119 rfl rfl,
  fun L J h Q => pf_rv pb_u_119 rfl rfl,
  fun l0 l2 l3 l4 st h Q x => pf_S pb_u_119 rfl rfl,
  fun l0 l2 l3 l4 st h Q => pf_S pb_u_119 rfl rfl,
  fun l0 l1 l2 l4 st h Q x => pf_S pb_u_119 rfl rfl,
  fun l1 l2 l3 l4 st h Q x => pf_S pb_u_119 rfl rfl,
  fun l1 l2 l3 l4 st h Q => pf_S pb_u_119 rfl rfl,
  fun L J st h Q a => pf_gf pb_u_119 rfl rfl,
  fun l0 l1 l2 l4 st h Q x => pf_S pb_u_119 rfl rfl,
  fun L J st h Q a i => pf_aa pb_u_119 rfl rfl,
  fun L J st h Q a i => pf_sa (r := none) pb_u_119 rfl rfl,
  fun L J st h Q a x i => pf_sa (r := some x) pb_u_119 rfl rfl,
  fun l1 l2 l3 l4 st h Q x => pf_S pb_u_119 rfl rfl,
  fun l1 l2 l3 l4 st h Q => pf_S pb_u_119 rfl rfl,
  fun L J st h Q a => pf_gf pb_u_119 rfl rfl,
  fun l0 l1 l2 l4 st h Q x => pf_S pb_u_119 rfl rfl,
  fun l0 l1 l2 l3 st h Q x => pf_S pb_u_119 rfl rfl,
  fun l0 l1 l2 l3 st h Q => pf_S pb_u_119 rfl rfl,
  fun L J st h Q a i => pf_sa (r := none) pb_u_119 rfl rfl,
  fun L J st h Q a x i => pf_sa (r := some x) pb_u_119 rfl rfl,
  fun l0 l1 l2 l3 st h Q x => pf_S pb_u_119 rfl rfl,
  fun l0 l1 l2 l3 st h Q => pf_S pb_u_119 rfl rfl,
  fun L J st h Q => pf_S pb_u_119 rfl rfl,
  fun L J st h Q a x => pf_pf pb_u_119 rfl rfl,
  fun l1 l2 l3 l4 st h Q x => pf_S pb_u_119 rfl rfl,
  fun l1 l2 l3 l4 st h Q => pf_S pb_u_119 rfl rfl,
  fun L J st x h Q => pf_S pb_u_119 rfl rfl,
  fun L J st h Q a => pf_gf pb_u_119 rfl rfl,
  fun L J st h Q => pf_S pb_u_119 rfl rfl,
  fun L J st x y h Q => pf_S pb_u_119 rfl rfl,
  fun L J st h Q a x => pf_pf pb_u_119 rfl rfl,
  fun l1 l2 l3 l4 st h Q x => pf_S pb_u_119 rfl rfl,
  fun l1 l2 l3 l4 st h Q => pf_S pb_u_119 rfl rfl,
  fun L J st x h Q => pf_S pb_u_119 rfl rfl,
  fun L J st h Q a => pf_gf pb_u_119 rfl rfl,
  fun L J st h Q => pf_S pb_u_119 rfl rfl,
  fun L J st x y h Q => pf_S pb_u_119 rfl rfl,
  fun L J st h Q a x => pf_pf pb_u_119 rfl rfl,
  fun l1 l2 l3 l4 st h Q x => pf_S pb_u_119 rfl rfl,
  fun l1 l2 l3 l4 st h Q => pf_S pb_u_119 rfl rfl,
  fun L J st x h Q => pf_S pb_u_119 rfl rfl,
  fun L J st h Q a => pf_gf pb_u_119 rfl rfl,
  fun l0 l1 l2 l3 st h Q x => pf_S pb_u_119 rfl rfl,
  fun l0 l1 l2 l3 st h Q => pf_S pb_u_119 rfl rfl,
  fun L J st h Q => pf_S pb_u_119 rfl rfl,
  fun L J st h Q => pf_S pb_u_119 rfl rfl,
  fun l1 l2 l3 l4 st h Q x => pf_S pb_u_119 rfl rfl,
  fun l1 l2 l3 l4 st h Q => pf_S pb_u_119 rfl rfl,
  fun L J st h Q a => pf_gf pb_u_119 rfl rfl,
  fun L J h Q x0 x1 x2 x3 x4 x5 => pf_kv pb_u_119 rfl pb_ci_71 rfl ⟨Nat.le_of_ble_eq_true rfl, Nat.le_of_ble_eq_true rfl, Nat.le_of_ble_eq_true rfl, Nat.le_of_ble_eq_true rfl, rfl⟩ rfl rfl,
  fun L J st h Q => pf_S pb_u_119 rfl rfl,
  fun L J st h Q x y => pf_ic pb_u_119 rfl rfl pf_ne,
  fun L J st h Q => pf_S pb_u_119 rfl rfl,
  fun L J st h Q => pf_S pb_u_119 rfl rfl,
  fun L J st h Q => pf_S pb_u_119 rfl rfl,
  fun L J st x y h Q => pf_S pb_u_119 rfl rfl,
  fun L J st h Q a x => pf_pf pb_u_119 rfl rfl,
  fun l0 l1 l2 l4 st h Q x => pf_S pb_u_119 rfl rfl,
  fun L J st h Q => pf_S pb_u_119 rfl rfl,
  fun L J h Q => pf_rv pb_u_119 rfl rfl⟩
theorem pb_c119 (x0 : Nat) (x1 : Nat) (x2 : Int32) (h : pb_H) (Q : Option Value → pb_H → Prop) : pb_call 119 [.ref x0, .ref x1, .int x2] h Q ↔ pb_R 119 0 [some (.ref x0), some (.ref x1), some (.int x2), none, none] [] [] h Q := Iff.rfl
/-! 120: PlaneBench$TextReader.<init>()V -/
theorem pb_u_120 : pb_t 120 = pb_t120 := rfl
set_option maxRecDepth 100000 in
theorem pb_e120 : (∀ (st : List Value) (h : pb_H) (Q : Option Value → pb_H → Prop) (x : Nat), pb_R 120 0 [some (.ref x)] [] st h Q ↔ pb_R 120 1 [some (.ref x)] [] (.ref x :: st) h Q) ∧
  (∀ (st : List Value) (h : pb_H) (Q : Option Value → pb_H → Prop), pb_R 120 0 [some .null] [] st h Q ↔ pb_R 120 1 [some .null] [] (.null :: st) h Q) ∧
  (∀ (L : pb_L) (J : pb_J) (h : pb_H) (Q : Option Value → pb_H → Prop) (a : Nat), pb_R 120 1 L J [.ref a] h Q ↔ pb_R 120 4 L J [] h Q) ∧
  (∀ (st : List Value) (h : pb_H) (Q : Option Value → pb_H → Prop) (x : Nat), pb_R 120 4 [some (.ref x)] [] st h Q ↔ pb_R 120 5 [some (.ref x)] [] (.ref x :: st) h Q) ∧
  (∀ (st : List Value) (h : pb_H) (Q : Option Value → pb_H → Prop), pb_R 120 4 [some .null] [] st h Q ↔ pb_R 120 5 [some .null] [] (.null :: st) h Q) ∧
  (∀ (L : pb_L) (J : pb_J) (st : List Value) (h : pb_H) (Q : Option Value → pb_H → Prop), pb_R 120 5 L J st h Q ↔ pb_R 120 6 L J (.int (-1 : Int32) :: st) h Q) ∧
  (∀ (L : pb_L) (J : pb_J) (st : List Value) (h : pb_H) (Q : Option Value → pb_H → Prop) (a : Nat) (x : Int32), pb_R 120 6 L J (.int x :: .ref a :: st) h Q ↔ pb_o (pb_pf (h.2 a) 8 8 (.int x)) (fun c => pb_R 120 9 L J st (pb_set h a c) Q)) ∧
  (∀ (L : pb_L) (J : pb_J) (h : pb_H) (Q : Option Value → pb_H → Prop), pb_R 120 9 L J [] h Q ↔ Q none h) := ⟨
  fun st h Q x => pf_S pb_u_120 rfl rfl,
  fun st h Q => pf_S pb_u_120 rfl rfl,
  fun L J h Q a => pf_S pb_u_120 rfl rfl,
  fun st h Q x => pf_S pb_u_120 rfl rfl,
  fun st h Q => pf_S pb_u_120 rfl rfl,
  fun L J st h Q => pf_S pb_u_120 rfl rfl,
  fun L J st h Q a x => pf_pf pb_u_120 rfl rfl,
  fun L J h Q => pf_rv pb_u_120 rfl rfl⟩
theorem pb_c120 (x0 : Nat) (h : pb_H) (Q : Option Value → pb_H → Prop) : pb_call 120 [.ref x0] h Q ↔ pb_R 120 0 [some (.ref x0)] [] [] h Q := Iff.rfl
/-! 121: PlaneBench$TextReader.open(LPlaneBench$ByteRow;)V -/
theorem pb_u_121 : pb_t 121 = pb_t121 := rfl
theorem pb_ci_121 : pb_ci 121 = 8 := by decide +kernel
set_option maxRecDepth 100000 in
theorem pb_e121 : (∀ (l1 : Option Value) (st : List Value) (h : pb_H) (Q : Option Value → pb_H → Prop) (x : Nat), pb_R 121 0 [some (.ref x), l1] [] st h Q ↔ pb_R 121 1 [some (.ref x), l1] [] (.ref x :: st) h Q) ∧
  (∀ (l1 : Option Value) (st : List Value) (h : pb_H) (Q : Option Value → pb_H → Prop), pb_R 121 0 [some .null, l1] [] st h Q ↔ pb_R 121 1 [some .null, l1] [] (.null :: st) h Q) ∧
  (∀ (l0 : Option Value) (st : List Value) (h : pb_H) (Q : Option Value → pb_H → Prop) (x : Nat), pb_R 121 1 [l0, some (.ref x)] [] st h Q ↔ pb_R 121 2 [l0, some (.ref x)] [] (.ref x :: st) h Q) ∧
  (∀ (l0 : Option Value) (st : List Value) (h : pb_H) (Q : Option Value → pb_H → Prop), pb_R 121 1 [l0, some .null] [] st h Q ↔ pb_R 121 2 [l0, some .null] [] (.null :: st) h Q) ∧
  (∀ (L : pb_L) (J : pb_J) (st : List Value) (h : pb_H) (Q : Option Value → pb_H → Prop) (a : Nat), pb_R 121 2 L J (.ref a :: st) h Q ↔ pb_o (pb_gf (h.2 a) 0 1) (fun v => pb_R 121 5 L J (v :: st) h Q)) ∧
  (∀ (L : pb_L) (J : pb_J) (st : List Value) (h : pb_H) (Q : Option Value → pb_H → Prop) (a : Nat) (x : Nat), pb_R 121 5 L J (.ref x :: .ref a :: st) h Q ↔ pb_o (pb_pf (h.2 a) 8 0 (.ref x)) (fun c => pb_R 121 8 L J st (pb_set h a c) Q)) ∧
  (∀ (l1 : Option Value) (st : List Value) (h : pb_H) (Q : Option Value → pb_H → Prop) (x : Nat), pb_R 121 8 [some (.ref x), l1] [] st h Q ↔ pb_R 121 9 [some (.ref x), l1] [] (.ref x :: st) h Q) ∧
  (∀ (l1 : Option Value) (st : List Value) (h : pb_H) (Q : Option Value → pb_H → Prop), pb_R 121 8 [some .null, l1] [] st h Q ↔ pb_R 121 9 [some .null, l1] [] (.null :: st) h Q) ∧
  (∀ (l0 : Option Value) (st : List Value) (h : pb_H) (Q : Option Value → pb_H → Prop) (x : Nat), pb_R 121 9 [l0, some (.ref x)] [] st h Q ↔ pb_R 121 10 [l0, some (.ref x)] [] (.ref x :: st) h Q) ∧
  (∀ (l0 : Option Value) (st : List Value) (h : pb_H) (Q : Option Value → pb_H → Prop), pb_R 121 9 [l0, some .null] [] st h Q ↔ pb_R 121 10 [l0, some .null] [] (.null :: st) h Q) ∧
  (∀ (L : pb_L) (J : pb_J) (st : List Value) (h : pb_H) (Q : Option Value → pb_H → Prop) (a : Nat), pb_R 121 10 L J (.ref a :: st) h Q ↔ pb_o (pb_gf (h.2 a) 0 2) (fun v => pb_R 121 13 L J (v :: st) h Q)) ∧
  (∀ (l0 : Option Value) (st : List Value) (h : pb_H) (Q : Option Value → pb_H → Prop) (x : Nat), pb_R 121 13 [l0, some (.ref x)] [] st h Q ↔ pb_R 121 14 [l0, some (.ref x)] [] (.ref x :: st) h Q) ∧
  (∀ (l0 : Option Value) (st : List Value) (h : pb_H) (Q : Option Value → pb_H → Prop), pb_R 121 13 [l0, some .null] [] st h Q ↔ pb_R 121 14 [l0, some .null] [] (.null :: st) h Q) ∧
  (∀ (L : pb_L) (J : pb_J) (st : List Value) (h : pb_H) (Q : Option Value → pb_H → Prop) (a : Nat), pb_R 121 14 L J (.ref a :: st) h Q ↔ pb_o (pb_gf (h.2 a) 0 1) (fun v => pb_R 121 17 L J (v :: st) h Q)) ∧
  (∀ (L : pb_L) (J : pb_J) (st : List Value) (h : pb_H) (Q : Option Value → pb_H → Prop) (a : Nat), pb_R 121 17 L J (.ref a :: st) h Q ↔ pb_o (pb_al2 (h.2 a)) (fun n => pb_R 121 18 L J (.int (Int32.ofNat n) :: st) h Q)) ∧
  (∀ (L : pb_L) (J : pb_J) (h : pb_H) (Q : Option Value → pb_H → Prop) (x0 : Int32) (x1 : Int32) (x2 : Nat), pb_R 121 18 L J [.int x0, .int x1, .ref x2] h Q ↔ pb_R 121 21 L J [.int (if x0 < x1 then x0 else x1), .ref x2] h Q) ∧
  (∀ (L : pb_L) (J : pb_J) (st : List Value) (h : pb_H) (Q : Option Value → pb_H → Prop) (a : Nat) (x : Int32), pb_R 121 21 L J (.int x :: .ref a :: st) h Q ↔ pb_o (pb_pf (h.2 a) 8 1 (.int x)) (fun c => pb_R 121 24 L J st (pb_set h a c) Q)) ∧
  (∀ (l1 : Option Value) (st : List Value) (h : pb_H) (Q : Option Value → pb_H → Prop) (x : Nat), pb_R 121 24 [some (.ref x), l1] [] st h Q ↔ pb_R 121 25 [some (.ref x), l1] [] (.ref x :: st) h Q) ∧
  (∀ (l1 : Option Value) (st : List Value) (h : pb_H) (Q : Option Value → pb_H → Prop), pb_R 121 24 [some .null, l1] [] st h Q ↔ pb_R 121 25 [some .null, l1] [] (.null :: st) h Q) ∧
  (∀ (L : pb_L) (J : pb_J) (st : List Value) (h : pb_H) (Q : Option Value → pb_H → Prop), pb_R 121 25 L J st h Q ↔ pb_R 121 26 L J (.int (0 : Int32) :: st) h Q) ∧
  (∀ (L : pb_L) (J : pb_J) (st : List Value) (h : pb_H) (Q : Option Value → pb_H → Prop) (a : Nat) (x : Int32), pb_R 121 26 L J (.int x :: .ref a :: st) h Q ↔ pb_o (pb_pf (h.2 a) 8 4 (.int x)) (fun c => pb_R 121 29 L J st (pb_set h a c) Q)) ∧
  (∀ (l1 : Option Value) (st : List Value) (h : pb_H) (Q : Option Value → pb_H → Prop) (x : Nat), pb_R 121 29 [some (.ref x), l1] [] st h Q ↔ pb_R 121 30 [some (.ref x), l1] [] (.ref x :: st) h Q) ∧
  (∀ (l1 : Option Value) (st : List Value) (h : pb_H) (Q : Option Value → pb_H → Prop), pb_R 121 29 [some .null, l1] [] st h Q ↔ pb_R 121 30 [some .null, l1] [] (.null :: st) h Q) ∧
  (∀ (L : pb_L) (J : pb_J) (st : List Value) (h : pb_H) (Q : Option Value → pb_H → Prop), pb_R 121 30 L J st h Q ↔ pb_R 121 31 L J (.int (0 : Int32) :: st) h Q) ∧
  (∀ (L : pb_L) (J : pb_J) (st : List Value) (h : pb_H) (Q : Option Value → pb_H → Prop) (a : Nat) (x : Int32), pb_R 121 31 L J (.int x :: .ref a :: st) h Q ↔ pb_o (pb_pf (h.2 a) 8 7 (.int x)) (fun c => pb_R 121 34 L J st (pb_set h a c) Q)) ∧
  (∀ (l1 : Option Value) (st : List Value) (h : pb_H) (Q : Option Value → pb_H → Prop) (x : Nat), pb_R 121 34 [some (.ref x), l1] [] st h Q ↔ pb_R 121 35 [some (.ref x), l1] [] (.ref x :: st) h Q) ∧
  (∀ (l1 : Option Value) (st : List Value) (h : pb_H) (Q : Option Value → pb_H → Prop), pb_R 121 34 [some .null, l1] [] st h Q ↔ pb_R 121 35 [some .null, l1] [] (.null :: st) h Q) ∧
  (∀ (L : pb_L) (J : pb_J) (st : List Value) (h : pb_H) (Q : Option Value → pb_H → Prop), pb_R 121 35 L J st h Q ↔ pb_R 121 36 L J (.int (-1 : Int32) :: st) h Q) ∧
  (∀ (L : pb_L) (J : pb_J) (st : List Value) (h : pb_H) (Q : Option Value → pb_H → Prop) (a : Nat) (x : Int32), pb_R 121 36 L J (.int x :: .ref a :: st) h Q ↔ pb_o (pb_pf (h.2 a) 8 8 (.int x)) (fun c => pb_R 121 39 L J st (pb_set h a c) Q)) ∧
  (∀ (l1 : Option Value) (st : List Value) (h : pb_H) (Q : Option Value → pb_H → Prop) (x : Nat), pb_R 121 39 [some (.ref x), l1] [] st h Q ↔ pb_R 121 40 [some (.ref x), l1] [] (.ref x :: st) h Q) ∧
  (∀ (l1 : Option Value) (st : List Value) (h : pb_H) (Q : Option Value → pb_H → Prop), pb_R 121 39 [some .null, l1] [] st h Q ↔ pb_R 121 40 [some .null, l1] [] (.null :: st) h Q) ∧
  (∀ (L : pb_L) (J : pb_J) (h : pb_H) (Q : Option Value → pb_H → Prop) (x0 : Nat), pb_R 121 40 L J [.ref x0] h Q ↔ pb_is0 (h.2 x0) 8 = true ∧ pb_call 23 [.ref x0] h (fun v t => pb_R 121 43 L J (v.toList ++ []) t Q)) ∧
  (∀ (L : pb_L) (J : pb_J) (h : pb_H) (Q : Option Value → pb_H → Prop), pb_R 121 43 L J [] h Q ↔ Q none h) := ⟨
  fun l1 st h Q x => pf_S pb_u_121 rfl rfl,
  fun l1 st h Q => pf_S pb_u_121 rfl rfl,
  fun l0 st h Q x => pf_S pb_u_121 rfl rfl,
  fun l0 st h Q => pf_S pb_u_121 rfl rfl,
  fun L J st h Q a => pf_gf pb_u_121 rfl rfl,
  fun L J st h Q a x => pf_pf pb_u_121 rfl rfl,
  fun l1 st h Q x => pf_S pb_u_121 rfl rfl,
  fun l1 st h Q => pf_S pb_u_121 rfl rfl,
  fun l0 st h Q x => pf_S pb_u_121 rfl rfl,
  fun l0 st h Q => pf_S pb_u_121 rfl rfl,
  fun L J st h Q a => pf_gf pb_u_121 rfl rfl,
  fun l0 st h Q x => pf_S pb_u_121 rfl rfl,
  fun l0 st h Q => pf_S pb_u_121 rfl rfl,
  fun L J st h Q a => pf_gf pb_u_121 rfl rfl,
  fun L J st h Q a => pf_le pb_u_121 rfl rfl,
  fun L J h Q x0 x1 x2 => pf_S pb_u_121 rfl rfl,
  fun L J st h Q a x => pf_pf pb_u_121 rfl rfl,
  fun l1 st h Q x => pf_S pb_u_121 rfl rfl,
  fun l1 st h Q => pf_S pb_u_121 rfl rfl,
  fun L J st h Q => pf_S pb_u_121 rfl rfl,
  fun L J st h Q a x => pf_pf pb_u_121 rfl rfl,
  fun l1 st h Q x => pf_S pb_u_121 rfl rfl,
  fun l1 st h Q => pf_S pb_u_121 rfl rfl,
  fun L J st h Q => pf_S pb_u_121 rfl rfl,
  fun L J st h Q a x => pf_pf pb_u_121 rfl rfl,
  fun l1 st h Q x => pf_S pb_u_121 rfl rfl,
  fun l1 st h Q => pf_S pb_u_121 rfl rfl,
  fun L J st h Q => pf_S pb_u_121 rfl rfl,
  fun L J st h Q a x => pf_pf pb_u_121 rfl rfl,
  fun l1 st h Q x => pf_S pb_u_121 rfl rfl,
  fun l1 st h Q => pf_S pb_u_121 rfl rfl,
  fun L J h Q x0 => pf_kv pb_u_121 rfl pb_ci_23 rfl ⟨Nat.le_of_ble_eq_true rfl, Nat.le_of_ble_eq_true rfl, Nat.le_of_ble_eq_true rfl, Nat.le_of_ble_eq_true rfl, rfl⟩ rfl rfl,
  fun L J h Q => pf_rv pb_u_121 rfl rfl⟩
theorem pb_c121 (x0 : Nat) (x1 : Nat) (h : pb_H) (Q : Option Value → pb_H → Prop) : pb_call 121 [.ref x0, .ref x1] h Q ↔ pb_R 121 0 [some (.ref x0), some (.ref x1)] [] [] h Q := Iff.rfl
/-! 122: PlaneBench$Trail.valueOf(I)I -/
theorem pb_u_122 : pb_t 122 = pb_t122 := rfl
theorem pb_ci_122 : pb_ci 122 = 9 := by decide +kernel
set_option maxRecDepth 100000 in
theorem pb_e122 : (∀ (L : pb_L) (J : pb_J) (st : List Value) (h : pb_H) (Q : Option Value → pb_H → Prop), pb_R 122 0 L J st h Q ↔ pb_R 122 1 L J (.int (1 : Int32) :: st) h Q) ∧
  (∀ (l0 l2 : Option Value) (st : List Value) (h : pb_H) (Q : Option Value → pb_H → Prop) (x : Int32), pb_R 122 1 [l0, some (.int x), l2] [] st h Q ↔ pb_R 122 2 [l0, some (.int x), l2] [] (.int x :: st) h Q) ∧
  (∀ (L : pb_L) (J : pb_J) (st : List Value) (h : pb_H) (Q : Option Value → pb_H → Prop), pb_R 122 2 L J st h Q ↔ pb_R 122 3 L J (.int (1 : Int32) :: st) h Q) ∧
  (∀ (L : pb_L) (J : pb_J) (st : List Value) (x y : Int32) (h : pb_H) (Q : Option Value → pb_H → Prop), pb_R 122 3 L J (.int y :: .int x :: st) h Q ↔ pb_R 122 4 L J (.int (x - y) :: st) h Q) ∧
  (∀ (L : pb_L) (J : pb_J) (st : List Value) (x y : Int32) (h : pb_H) (Q : Option Value → pb_H → Prop), pb_R 122 4 L J (.int y :: .int x :: st) h Q ↔ pb_R 122 5 L J (.int (x <<< (y &&& 31)) :: st) h Q) ∧
  (∀ (l0 l1 l2 : Option Value) (st : List Value) (h : pb_H) (Q : Option Value → pb_H → Prop) (x : Int32), pb_R 122 5 [l0, l1, l2] [] (.int x :: st) h Q ↔ pb_R 122 6 [l0, l1, some (.int x)] [] st h Q) ∧
  (∀ (l1 l2 : Option Value) (st : List Value) (h : pb_H) (Q : Option Value → pb_H → Prop) (x : Nat), pb_R 122 6 [some (.ref x), l1, l2] [] st h Q ↔ pb_R 122 7 [some (.ref x), l1, l2] [] (.ref x :: st) h Q) ∧
  (∀ (l1 l2 : Option Value) (st : List Value) (h : pb_H) (Q : Option Value → pb_H → Prop), pb_R 122 6 [some .null, l1, l2] [] st h Q ↔ pb_R 122 7 [some .null, l1, l2] [] (.null :: st) h Q) ∧
  (∀ (L : pb_L) (J : pb_J) (st : List Value) (h : pb_H) (Q : Option Value → pb_H → Prop) (a : Nat), pb_R 122 7 L J (.ref a :: st) h Q ↔ pb_o (pb_gf (h.2 a) 9 5) (fun v => pb_R 122 10 L J (v :: st) h Q)) ∧
  (∀ (l0 l1 : Option Value) (st : List Value) (h : pb_H) (Q : Option Value → pb_H → Prop) (x : Int32), pb_R 122 10 [l0, l1, some (.int x)] [] st h Q ↔ pb_R 122 11 [l0, l1, some (.int x)] [] (.int x :: st) h Q) ∧
  (∀ (L : pb_L) (J : pb_J) (st : List Value) (x y : Int32) (h : pb_H) (Q : Option Value → pb_H → Prop), pb_R 122 11 L J (.int y :: .int x :: st) h Q ↔ pb_R 122 12 L J (.int (x &&& y) :: st) h Q) ∧
  (∀ (L : pb_L) (J : pb_J) (st : List Value) (h : pb_H) (Q : Option Value → pb_H → Prop) (x : Int32), pb_R 122 12 L J (.int x :: st) h Q ↔ if x = 0 then pb_R 122 17 L J st h Q else pb_R 122 15 L J st h Q) ∧
  (∀ (L : pb_L) (J : pb_J) (st : List Value) (h : pb_H) (Q : Option Value → pb_H → Prop), pb_R 122 15 L J st h Q ↔ pb_R 122 16 L J (.int (1 : Int32) :: st) h Q) ∧
  (∀ (L : pb_L) (J : pb_J) (h : pb_H) (Q : Option Value → pb_H → Prop) (x : Int32), pb_R 122 16 L J [.int x] h Q ↔ Q (some (.int x)) h) ∧
  (∀ (l1 l2 : Option Value) (st : List Value) (h : pb_H) (Q : Option Value → pb_H → Prop) (x : Nat), pb_R 122 17 [some (.ref x), l1, l2] [] st h Q ↔ pb_R 122 18 [some (.ref x), l1, l2] [] (.ref x :: st) h Q) ∧
  (∀ (l1 l2 : Option Value) (st : List Value) (h : pb_H) (Q : Option Value → pb_H → Prop), pb_R 122 17 [some .null, l1, l2] [] st h Q ↔ pb_R 122 18 [some .null, l1, l2] [] (.null :: st) h Q) ∧
  (∀ (L : pb_L) (J : pb_J) (st : List Value) (h : pb_H) (Q : Option Value → pb_H → Prop) (a : Nat), pb_R 122 18 L J (.ref a :: st) h Q ↔ pb_o (pb_gf (h.2 a) 9 6) (fun v => pb_R 122 21 L J (v :: st) h Q)) ∧
  (∀ (l0 l1 : Option Value) (st : List Value) (h : pb_H) (Q : Option Value → pb_H → Prop) (x : Int32), pb_R 122 21 [l0, l1, some (.int x)] [] st h Q ↔ pb_R 122 22 [l0, l1, some (.int x)] [] (.int x :: st) h Q) ∧
  (∀ (L : pb_L) (J : pb_J) (st : List Value) (x y : Int32) (h : pb_H) (Q : Option Value → pb_H → Prop), pb_R 122 22 L J (.int y :: .int x :: st) h Q ↔ pb_R 122 23 L J (.int (x &&& y) :: st) h Q) ∧
  (∀ (L : pb_L) (J : pb_J) (st : List Value) (h : pb_H) (Q : Option Value → pb_H → Prop) (x : Int32), pb_R 122 23 L J (.int x :: st) h Q ↔ if x = 0 then pb_R 122 30 L J st h Q else pb_R 122 26 L J st h Q) ∧
  (∀ (L : pb_L) (J : pb_J) (st : List Value) (h : pb_H) (Q : Option Value → pb_H → Prop), pb_R 122 26 L J st h Q ↔ pb_R 122 27 L J (.int (0 : Int32) :: st) h Q) ∧
  (∀ (L : pb_L) (J : pb_J) (st : List Value) (h : pb_H) (Q : Option Value → pb_H → Prop), pb_R 122 27 L J st h Q ↔ pb_R 122 31 L J st h Q) ∧
  (∀ (L : pb_L) (J : pb_J) (st : List Value) (h : pb_H) (Q : Option Value → pb_H → Prop), pb_R 122 30 L J st h Q ↔ pb_R 122 31 L J (.int (-1 : Int32) :: st) h Q) ∧
  (∀ (L : pb_L) (J : pb_J) (h : pb_H) (Q : Option Value → pb_H → Prop) (x : Int32), pb_R 122 31 L J [.int x] h Q ↔ Q (some (.int x)) h) := ⟨
  fun L J st h Q => pf_S pb_u_122 rfl rfl,
  fun l0 l2 st h Q x => pf_S pb_u_122 rfl rfl,
  fun L J st h Q => pf_S pb_u_122 rfl rfl,
  fun L J st x y h Q => pf_S pb_u_122 rfl rfl,
  fun L J st x y h Q => pf_S pb_u_122 rfl rfl,
  fun l0 l1 l2 st h Q x => pf_S pb_u_122 rfl rfl,
  fun l1 l2 st h Q x => pf_S pb_u_122 rfl rfl,
  fun l1 l2 st h Q => pf_S pb_u_122 rfl rfl,
  fun L J st h Q a => pf_gf pb_u_122 rfl rfl,
  fun l0 l1 st h Q x => pf_S pb_u_122 rfl rfl,
  fun L J st x y h Q => pf_S pb_u_122 rfl rfl,
  fun L J st h Q x => pf_ii pb_u_122 rfl rfl rfl,
  fun L J st h Q => pf_S pb_u_122 rfl rfl,
  fun L J h Q x => pf_ri pb_u_122 rfl rfl,
  fun l1 l2 st h Q x => pf_S pb_u_122 rfl rfl,
  fun l1 l2 st h Q => pf_S pb_u_122 rfl rfl,
  fun L J st h Q a => pf_gf pb_u_122 rfl rfl,
  fun l0 l1 st h Q x => pf_S pb_u_122 rfl rfl,
  fun L J st x y h Q => pf_S pb_u_122 rfl rfl,
  fun L J st h Q x => pf_ii pb_u_122 rfl rfl rfl,
  fun L J st h Q => pf_S pb_u_122 rfl rfl,
  fun L J st h Q => pf_S pb_u_122 rfl rfl,
  fun L J st h Q => pf_S pb_u_122 rfl rfl,
  fun L J h Q x => pf_ri pb_u_122 rfl rfl⟩
theorem pb_c122 (x0 : Nat) (x1 : Int32) (h : pb_H) (Q : Option Value → pb_H → Prop) : pb_call 122 [.ref x0, .int x1] h Q ↔ pb_R 122 0 [some (.ref x0), some (.int x1), none] [] [] h Q := Iff.rfl
/-! 123: PlaneBench.<init>(I)V -/
theorem pb_u_123 : pb_t 123 = pb_t123 := rfl
set_option maxRecDepth 100000 in
theorem pb_e123 : (∀ (l1 l2 l3 l4 l5 : Option Value) (st : List Value) (h : pb_H) (Q : Option Value → pb_H → Prop) (x : Nat), pb_R 123 0 [some (.ref x), l1, l2, l3, l4, l5] [] st h Q ↔ pb_R 123 1 [some (.ref x), l1, l2, l3, l4, l5] [] (.ref x :: st) h Q) ∧
  (∀ (l1 l2 l3 l4 l5 : Option Value) (st : List Value) (h : pb_H) (Q : Option Value → pb_H → Prop), pb_R 123 0 [some .null, l1, l2, l3, l4, l5] [] st h Q ↔ pb_R 123 1 [some .null, l1, l2, l3, l4, l5] [] (.null :: st) h Q) ∧
  (∀ (L : pb_L) (J : pb_J) (h : pb_H) (Q : Option Value → pb_H → Prop) (a : Nat), pb_R 123 1 L J [.ref a] h Q ↔ pb_R 123 4 L J [] h Q) ∧
  (∀ (L : pb_L) (J : pb_J) (st : List Value) (h : pb_H) (Q : Option Value → pb_H → Prop), pb_R 123 4 L J st h Q ↔ pb_R 123 5 L J (.int (1 : Int32) :: st) h Q) ∧
  (∀ (L : pb_L) (J : pb_J) (st : List Value) (h : pb_H) (Q : Option Value → pb_H → Prop), pb_R 123 5 L J st h Q ↔ pb_R 123 7 L J (.int (16 : Int32) :: st) h Q) ∧
  (∀ (l0 l2 l3 l4 l5 : Option Value) (st : List Value) (h : pb_H) (Q : Option Value → pb_H → Prop) (x : Int32), pb_R 123 7 [l0, some (.int x), l2, l3, l4, l5] [] st h Q ↔ pb_R 123 8 [l0, some (.int x), l2, l3, l4, l5] [] (.int x :: st) h Q) ∧
  (∀ (L : pb_L) (J : pb_J) (h : pb_H) (Q : Option Value → pb_H → Prop) (x0 : Int32) (x1 : Int32) (x2 : Int32), pb_R 123 8 L J [.int x0, .int x1, .int x2] h Q ↔ pb_R 123 11 L J [.int (if x0 < x1 then x0 else x1), .int x2] h Q) ∧
  (∀ (L : pb_L) (J : pb_J) (h : pb_H) (Q : Option Value → pb_H → Prop) (x0 : Int32) (x1 : Int32), pb_R 123 11 L J [.int x0, .int x1] h Q ↔ pb_R 123 14 L J [.int (if x1 < x0 then x0 else x1)] h Q) ∧
  (∀ (l0 l1 l2 l3 l4 l5 : Option Value) (st : List Value) (h : pb_H) (Q : Option Value → pb_H → Prop) (x : Int32), pb_R 123 14 [l0, l1, l2, l3, l4, l5] [] (.int x :: st) h Q ↔ pb_R 123 15 [l0, l1, some (.int x), l3, l4, l5] [] st h Q) ∧
  (∀ (L : pb_L) (J : pb_J) (st : List Value) (h : pb_H) (Q : Option Value → pb_H → Prop), pb_R 123 15 L J st h Q ↔ pb_R 123 18 L J (.ref h.1 :: st) (pb_new h (.inr (7, pb_df 7))) Q) ∧
  (∀ (L : pb_L) (J : pb_J) (st : List Value) (x : Nat) (h : pb_H) (Q : Option Value → pb_H → Prop), pb_R 123 18 L J (.ref x :: st) h Q ↔ pb_R 123 19 L J (.ref x :: .ref x :: st) h Q) ∧
  (∀ (l0 l1 l3 l4 l5 : Option Value) (st : List Value) (h : pb_H) (Q : Option Value → pb_H → Prop) (x : Int32), pb_R 123 19 [l0, l1, some (.int x), l3, l4, l5] [] st h Q ↔ pb_R 123 20 [l0, l1, some (.int x), l3, l4, l5] [] (.int x :: st) h Q) ∧
  (∀ (L : pb_L) (J : pb_J) (h : pb_H) (Q : Option Value → pb_H → Prop) (x0 : Int32) (x1 : Nat) (x2 : Nat), pb_R 123 20 L J [.int x0, .ref x1, .ref x2] h Q ↔ pb_call 118 [.ref x1, .int x0] h (fun v t => pb_R 123 23 L J (v.toList ++ [.ref x2]) t Q)) ∧
  (∀ (l0 l1 l2 l3 l4 l5 : Option Value) (st : List Value) (h : pb_H) (Q : Option Value → pb_H → Prop) (x : Nat), pb_R 123 23 [l0, l1, l2, l3, l4, l5] [] (.ref x :: st) h Q ↔ pb_R 123 24 [l0, l1, l2, some (.ref x), l4, l5] [] st h Q) ∧
  (∀ (l0 l1 l2 l3 l4 l5 : Option Value) (st : List Value) (h : pb_H) (Q : Option Value → pb_H → Prop), pb_R 123 23 [l0, l1, l2, l3, l4, l5] [] (.null :: st) h Q ↔ pb_R 123 24 [l0, l1, l2, some .null, l4, l5] [] st h Q) ∧
  (∀ (L : pb_L) (J : pb_J) (st : List Value) (h : pb_H) (Q : Option Value → pb_H → Prop), pb_R 123 24 L J st h Q ↔ pb_R 123 27 L J (.ref h.1 :: st) (pb_new h (.inr (8, pb_df 8))) Q) ∧
  (∀ (L : pb_L) (J : pb_J) (st : List Value) (x : Nat) (h : pb_H) (Q : Option Value → pb_H → Prop), pb_R 123 27 L J (.ref x :: st) h Q ↔ pb_R 123 28 L J (.ref x :: .ref x :: st) h Q) ∧
  (∀ (L : pb_L) (J : pb_J) (h : pb_H) (Q : Option Value → pb_H → Prop) (x0 : Nat) (x1 : Nat), pb_R 123 28 L J [.ref x0, .ref x1] h Q ↔ pb_call 120 [.ref x0] h (fun v t => pb_R 123 31 L J (v.toList ++ [.ref x1]) t Q)) ∧
  (∀ (l0 l1 l2 l3 l4 l5 : Option Value) (st : List Value) (h : pb_H) (Q : Option Value → pb_H → Prop) (x : Nat), pb_R 123 31 [l0, l1, l2, l3, l4, l5] [] (.ref x :: st) h Q ↔ pb_R 123 33 [l0, l1, l2, l3, some (.ref x), l5] [] st h Q) ∧
  (∀ (l0 l1 l2 l3 l4 l5 : Option Value) (st : List Value) (h : pb_H) (Q : Option Value → pb_H → Prop), pb_R 123 31 [l0, l1, l2, l3, l4, l5] [] (.null :: st) h Q ↔ pb_R 123 33 [l0, l1, l2, l3, some .null, l5] [] st h Q) ∧
  (∀ (L : pb_L) (J : pb_J) (st : List Value) (h : pb_H) (Q : Option Value → pb_H → Prop), pb_R 123 33 L J st h Q ↔ pb_R 123 36 L J (.ref h.1 :: st) (pb_new h (.inr (2, pb_df 2))) Q) ∧
  (∀ (L : pb_L) (J : pb_J) (st : List Value) (x : Nat) (h : pb_H) (Q : Option Value → pb_H → Prop), pb_R 123 36 L J (.ref x :: st) h Q ↔ pb_R 123 37 L J (.ref x :: .ref x :: st) h Q) ∧
  (∀ (l0 l1 l2 l3 l5 : Option Value) (st : List Value) (h : pb_H) (Q : Option Value → pb_H → Prop) (x : Nat), pb_R 123 37 [l0, l1, l2, l3, some (.ref x), l5] [] st h Q ↔ pb_R 123 39 [l0, l1, l2, l3, some (.ref x), l5] [] (.ref x :: st) h Q) ∧
  (∀ (l0 l1 l2 l3 l5 : Option Value) (st : List Value) (h : pb_H) (Q : Option Value → pb_H → Prop), pb_R 123 37 [l0, l1, l2, l3, some .null, l5] [] st h Q ↔ pb_R 123 39 [l0, l1, l2, l3, some .null, l5] [] (.null :: st) h Q) ∧
  (∀ (l0 l1 l3 l4 l5 : Option Value) (st : List Value) (h : pb_H) (Q : Option Value → pb_H → Prop) (x : Int32), pb_R 123 39 [l0, l1, some (.int x), l3, l4, l5] [] st h Q ↔ pb_R 123 40 [l0, l1, some (.int x), l3, l4, l5] [] (.int x :: st) h Q) ∧
  (∀ (L : pb_L) (J : pb_J) (h : pb_H) (Q : Option Value → pb_H → Prop) (x0 : Int32) (x1 : Nat) (x2 : Nat) (x3 : Nat), pb_R 123 40 L J [.int x0, .ref x1, .ref x2, .ref x3] h Q ↔ pb_call 88 [.ref x2, .ref x1, .int x0] h (fun v t => pb_R 123 43 L J (v.toList ++ [.ref x3]) t Q)) ∧
  (∀ (l0 l1 l2 l3 l4 l5 : Option Value) (st : List Value) (h : pb_H) (Q : Option Value → pb_H → Prop) (x : Nat), pb_R 123 43 [l0, l1, l2, l3, l4, l5] [] (.ref x :: st) h Q ↔ pb_R 123 45 [l0, l1, l2, l3, l4, some (.ref x)] [] st h Q) ∧
  (∀ (l0 l1 l2 l3 l4 l5 : Option Value) (st : List Value) (h : pb_H) (Q : Option Value → pb_H → Prop), pb_R 123 43 [l0, l1, l2, l3, l4, l5] [] (.null :: st) h Q ↔ pb_R 123 45 [l0, l1, l2, l3, l4, some .null] [] st h Q) ∧
  (∀ (l1 l2 l3 l4 l5 : Option Value) (st : List Value) (h : pb_H) (Q : Option Value → pb_H → Prop) (x : Nat), pb_R 123 45 [some (.ref x), l1, l2, l3, l4, l5] [] st h Q ↔ pb_R 123 46 [some (.ref x), l1, l2, l3, l4, l5] [] (.ref x :: st) h Q) ∧
  (∀ (l1 l2 l3 l4 l5 : Option Value) (st : List Value) (h : pb_H) (Q : Option Value → pb_H → Prop), pb_R 123 45 [some .null, l1, l2, l3, l4, l5] [] st h Q ↔ pb_R 123 46 [some .null, l1, l2, l3, l4, l5] [] (.null :: st) h Q) ∧
  (∀ (l0 l1 l3 l4 l5 : Option Value) (st : List Value) (h : pb_H) (Q : Option Value → pb_H → Prop) (x : Int32), pb_R 123 46 [l0, l1, some (.int x), l3, l4, l5] [] st h Q ↔ pb_R 123 47 [l0, l1, some (.int x), l3, l4, l5] [] (.int x :: st) h Q) ∧
  (∀ (L : pb_L) (J : pb_J) (st : List Value) (h : pb_H) (Q : Option Value → pb_H → Prop) (a : Nat) (x : Int32), pb_R 123 47 L J (.int x :: .ref a :: st) h Q ↔ pb_o (pb_pf (h.2 a) 11 0 (.int x)) (fun c => pb_R 123 50 L J st (pb_set h a c) Q)) ∧
  (∀ (l1 l2 l3 l4 l5 : Option Value) (st : List Value) (h : pb_H) (Q : Option Value → pb_H → Prop) (x : Nat), pb_R 123 50 [some (.ref x), l1, l2, l3, l4, l5] [] st h Q ↔ pb_R 123 51 [some (.ref x), l1, l2, l3, l4, l5] [] (.ref x :: st) h Q) ∧
  (∀ (l1 l2 l3 l4 l5 : Option Value) (st : List Value) (h : pb_H) (Q : Option Value → pb_H → Prop), pb_R 123 50 [some .null, l1, l2, l3, l4, l5] [] st h Q ↔ pb_R 123 51 [some .null, l1, l2, l3, l4, l5] [] (.null :: st) h Q) ∧
  (∀ (L : pb_L) (J : pb_J) (st : List Value) (h : pb_H) (Q : Option Value → pb_H → Prop), pb_R 123 51 L J st h Q ↔ pb_R 123 54 L J (.ref h.1 :: st) (pb_new h (.inr (0, pb_df 0))) Q) ∧
  (∀ (L : pb_L) (J : pb_J) (st : List Value) (x : Nat) (h : pb_H) (Q : Option Value → pb_H → Prop), pb_R 123 54 L J (.ref x :: st) h Q ↔ pb_R 123 55 L J (.ref x :: .ref x :: st) h Q) ∧
  (∀ (L : pb_L) (J : pb_J) (st : List Value) (h : pb_H) (Q : Option Value → pb_H → Prop), pb_R 123 55 L J st h Q ↔ pb_R 123 58 L J (.int (4000 : Int32) :: st) h Q) ∧
  (∀ (L : pb_L) (J : pb_J) (h : pb_H) (Q : Option Value → pb_H → Prop) (x0 : Int32) (x1 : Nat) (x2 : Nat) (x3 : Nat), pb_R 123 58 L J [.int x0, .ref x1, .ref x2, .ref x3] h Q ↔ pb_call 0 [.ref x1, .int x0] h (fun v t => pb_R 123 61 L J (v.toList ++ [.ref x2, .ref x3]) t Q)) ∧
  (∀ (L : pb_L) (J : pb_J) (st : List Value) (h : pb_H) (Q : Option Value → pb_H → Prop) (a : Nat) (x : Nat), pb_R 123 61 L J (.ref x :: .ref a :: st) h Q ↔ pb_o (pb_pf (h.2 a) 11 1 (.ref x)) (fun c => pb_R 123 64 L J st (pb_set h a c) Q)) ∧
  (∀ (l1 l2 l3 l4 l5 : Option Value) (st : List Value) (h : pb_H) (Q : Option Value → pb_H → Prop) (x : Nat), pb_R 123 64 [some (.ref x), l1, l2, l3, l4, l5] [] st h Q ↔ pb_R 123 65 [some (.ref x), l1, l2, l3, l4, l5] [] (.ref x :: st) h Q) ∧
  (∀ (l1 l2 l3 l4 l5 : Option Value) (st : List Value) (h : pb_H) (Q : Option Value → pb_H → Prop), pb_R 123 64 [some .null, l1, l2, l3, l4, l5] [] st h Q ↔ pb_R 123 65 [some .null, l1, l2, l3, l4, l5] [] (.null :: st) h Q) ∧
  (∀ (l0 l1 l2 l4 l5 : Option Value) (st : List Value) (h : pb_H) (Q : Option Value → pb_H → Prop) (x : Nat), pb_R 123 65 [l0, l1, l2, some (.ref x), l4, l5] [] st h Q ↔ pb_R 123 66 [l0, l1, l2, some (.ref x), l4, l5] [] (.ref x :: st) h Q) ∧
  (∀ (l0 l1 l2 l4 l5 : Option Value) (st : List Value) (h : pb_H) (Q : Option Value → pb_H → Prop), pb_R 123 65 [l0, l1, l2, some .null, l4, l5] [] st h Q ↔ pb_R 123 66 [l0, l1, l2, some .null, l4, l5] [] (.null :: st) h Q) ∧
  (∀ (L : pb_L) (J : pb_J) (st : List Value) (h : pb_H) (Q : Option Value → pb_H → Prop) (a : Nat) (x : Nat), pb_R 123 66 L J (.ref x :: .ref a :: st) h Q ↔ pb_o (pb_pf (h.2 a) 11 2 (.ref x)) (fun c => pb_R 123 69 L J st (pb_set h a c) Q)) ∧
  (∀ (l1 l2 l3 l4 l5 : Option Value) (st : List Value) (h : pb_H) (Q : Option Value → pb_H → Prop) (x : Nat), pb_R 123 69 [some (.ref x), l1, l2, l3, l4, l5] [] st h Q ↔ pb_R 123 70 [some (.ref x), l1, l2, l3, l4, l5] [] (.ref x :: st) h Q) ∧
  (∀ (l1 l2 l3 l4 l5 : Option Value) (st : List Value) (h : pb_H) (Q : Option Value → pb_H → Prop), pb_R 123 69 [some .null, l1, l2, l3, l4, l5] [] st h Q ↔ pb_R 123 70 [some .null, l1, l2, l3, l4, l5] [] (.null :: st) h Q) ∧
  (∀ (l0 l1 l2 l3 l5 : Option Value) (st : List Value) (h : pb_H) (Q : Option Value → pb_H → Prop) (x : Nat), pb_R 123 70 [l0, l1, l2, l3, some (.ref x), l5] [] st h Q ↔ pb_R 123 72 [l0, l1, l2, l3, some (.ref x), l5] [] (.ref x :: st) h Q) ∧
  (∀ (l0 l1 l2 l3 l5 : Option Value) (st : List Value) (h : pb_H) (Q : Option Value → pb_H → Prop), pb_R 123 70 [l0, l1, l2, l3, some .null, l5] [] st h Q ↔ pb_R 123 72 [l0, l1, l2, l3, some .null, l5] [] (.null :: st) h Q) ∧
  (∀ (L : pb_L) (J : pb_J) (st : List Value) (h : pb_H) (Q : Option Value → pb_H → Prop) (a : Nat) (x : Nat), pb_R 123 72 L J (.ref x :: .ref a :: st) h Q ↔ pb_o (pb_pf (h.2 a) 11 3 (.ref x)) (fun c => pb_R 123 75 L J st (pb_set h a c) Q)) ∧
  (∀ (l1 l2 l3 l4 l5 : Option Value) (st : List Value) (h : pb_H) (Q : Option Value → pb_H → Prop) (x : Nat), pb_R 123 75 [some (.ref x), l1, l2, l3, l4, l5] [] st h Q ↔ pb_R 123 76 [some (.ref x), l1, l2, l3, l4, l5] [] (.ref x :: st) h Q) ∧
  (∀ (l1 l2 l3 l4 l5 : Option Value) (st : List Value) (h : pb_H) (Q : Option Value → pb_H → Prop), pb_R 123 75 [some .null, l1, l2, l3, l4, l5] [] st h Q ↔ pb_R 123 76 [some .null, l1, l2, l3, l4, l5] [] (.null :: st) h Q) ∧
  (∀ (L : pb_L) (J : pb_J) (st : List Value) (h : pb_H) (Q : Option Value → pb_H → Prop), pb_R 123 76 L J st h Q ↔ pb_R 123 79 L J (.ref h.1 :: st) (pb_new h (.inr (5, pb_df 5))) Q) ∧
  (∀ (L : pb_L) (J : pb_J) (st : List Value) (x : Nat) (h : pb_H) (Q : Option Value → pb_H → Prop), pb_R 123 79 L J (.ref x :: st) h Q ↔ pb_R 123 80 L J (.ref x :: .ref x :: st) h Q) ∧
  (∀ (l0 l1 l2 l3 l5 : Option Value) (st : List Value) (h : pb_H) (Q : Option Value → pb_H → Prop) (x : Nat), pb_R 123 80 [l0, l1, l2, l3, some (.ref x), l5] [] st h Q ↔ pb_R 123 82 [l0, l1, l2, l3, some (.ref x), l5] [] (.ref x :: st) h Q) ∧
  (∀ (l0 l1 l2 l3 l5 : Option Value) (st : List Value) (h : pb_H) (Q : Option Value → pb_H → Prop), pb_R 123 80 [l0, l1, l2, l3, some .null, l5] [] st h Q ↔ pb_R 123 82 [l0, l1, l2, l3, some .null, l5] [] (.null :: st) h Q) ∧
  (∀ (l0 l1 l2 l3 l4 : Option Value) (st : List Value) (h : pb_H) (Q : Option Value → pb_H → Prop) (x : Nat), pb_R 123 82 [l0, l1, l2, l3, l4, some (.ref x)] [] st h Q ↔ pb_R 123 84 [l0, l1, l2, l3, l4, some (.ref x)] [] (.ref x :: st) h Q) ∧
  (∀ (l0 l1 l2 l3 l4 : Option Value) (st : List Value) (h : pb_H) (Q : Option Value → pb_H → Prop), pb_R 123 82 [l0, l1, l2, l3, l4, some .null] [] st h Q ↔ pb_R 123 84 [l0, l1, l2, l3, l4, some .null] [] (.null :: st) h Q) ∧
  (∀ (l0 l1 l3 l4 l5 : Option Value) (st : List Value) (h : pb_H) (Q : Option Value → pb_H → Prop) (x : Int32), pb_R 123 84 [l0, l1, some (.int x), l3, l4, l5] [] st h Q ↔ pb_R 123 85 [l0, l1, some (.int x), l3, l4, l5] [] (.int x :: st) h Q) ∧
  (∀ (L : pb_L) (J : pb_J) (h : pb_H) (Q : Option Value → pb_H → Prop) (x0 : Int32) (x1 : Nat) (x2 : Nat) (x3 : Nat) (x4 : Nat) (x5 : Nat), pb_R 123 85 L J [.int x0, .ref x1, .ref x2, .ref x3, .ref x4, .ref x5] h Q ↔ pb_call 89 [.ref x3, .ref x2, .ref x1, .int x0] h (fun v t => pb_R 123 88 L J (v.toList ++ [.ref x4, .ref x5]) t Q)) ∧
  (∀ (L : pb_L) (J : pb_J) (st : List Value) (h : pb_H) (Q : Option Value → pb_H → Prop) (a : Nat) (x : Nat), pb_R 123 88 L J (.ref x :: .ref a :: st) h Q ↔ pb_o (pb_pf (h.2 a) 11 4 (.ref x)) (fun c => pb_R 123 91 L J st (pb_set h a c) Q)) ∧
  (∀ (l1 l2 l3 l4 l5 : Option Value) (st : List Value) (h : pb_H) (Q : Option Value → pb_H → Prop) (x : Nat), pb_R 123 91 [some (.ref x), l1, l2, l3, l4, l5] [] st h Q ↔ pb_R 123 92 [some (.ref x), l1, l2, l3, l4, l5] [] (.ref x :: st) h Q) ∧
  (∀ (l1 l2 l3 l4 l5 : Option Value) (st : List Value) (h : pb_H) (Q : Option Value → pb_H → Prop), pb_R 123 91 [some .null, l1, l2, l3, l4, l5] [] st h Q ↔ pb_R 123 92 [some .null, l1, l2, l3, l4, l5] [] (.null :: st) h Q) ∧
  (∀ (L : pb_L) (J : pb_J) (st : List Value) (h : pb_H) (Q : Option Value → pb_H → Prop), pb_R 123 92 L J st h Q ↔ pb_R 123 95 L J (.ref h.1 :: st) (pb_new h (.inr (1, pb_df 1))) Q) ∧
  (∀ (L : pb_L) (J : pb_J) (st : List Value) (x : Nat) (h : pb_H) (Q : Option Value → pb_H → Prop), pb_R 123 95 L J (.ref x :: st) h Q ↔ pb_R 123 96 L J (.ref x :: .ref x :: st) h Q) ∧
  (∀ (l0 l1 l2 l3 l5 : Option Value) (st : List Value) (h : pb_H) (Q : Option Value → pb_H → Prop) (x : Nat), pb_R 123 96 [l0, l1, l2, l3, some (.ref x), l5] [] st h Q ↔ pb_R 123 98 [l0, l1, l2, l3, some (.ref x), l5] [] (.ref x :: st) h Q) ∧
  (∀ (l0 l1 l2 l3 l5 : Option Value) (st : List Value) (h : pb_H) (Q : Option Value → pb_H → Prop), pb_R 123 96 [l0, l1, l2, l3, some .null, l5] [] st h Q ↔ pb_R 123 98 [l0, l1, l2, l3, some .null, l5] [] (.null :: st) h Q) ∧
  (∀ (l0 l1 l2 l3 l4 : Option Value) (st : List Value) (h : pb_H) (Q : Option Value → pb_H → Prop) (x : Nat), pb_R 123 98 [l0, l1, l2, l3, l4, some (.ref x)] [] st h Q ↔ pb_R 123 100 [l0, l1, l2, l3, l4, some (.ref x)] [] (.ref x :: st) h Q) ∧
  (∀ (l0 l1 l2 l3 l4 : Option Value) (st : List Value) (h : pb_H) (Q : Option Value → pb_H → Prop), pb_R 123 98 [l0, l1, l2, l3, l4, some .null] [] st h Q ↔ pb_R 123 100 [l0, l1, l2, l3, l4, some .null] [] (.null :: st) h Q) ∧
  (∀ (l0 l1 l2 l4 l5 : Option Value) (st : List Value) (h : pb_H) (Q : Option Value → pb_H → Prop) (x : Nat), pb_R 123 100 [l0, l1, l2, some (.ref x), l4, l5] [] st h Q ↔ pb_R 123 101 [l0, l1, l2, some (.ref x), l4, l5] [] (.ref x :: st) h Q) ∧
  (∀ (l0 l1 l2 l4 l5 : Option Value) (st : List Value) (h : pb_H) (Q : Option Value → pb_H → Prop), pb_R 123 100 [l0, l1, l2, some .null, l4, l5] [] st h Q ↔ pb_R 123 101 [l0, l1, l2, some .null, l4, l5] [] (.null :: st) h Q) ∧
  (∀ (L : pb_L) (J : pb_J) (h : pb_H) (Q : Option Value → pb_H → Prop) (x0 : Nat) (x1 : Nat) (x2 : Nat) (x3 : Nat) (x4 : Nat) (x5 : Nat), pb_R 123 101 L J [.ref x0, .ref x1, .ref x2, .ref x3, .ref x4, .ref x5] h Q ↔ pb_call 14 [.ref x3, .ref x2, .ref x1, .ref x0] h (fun v t => pb_R 123 104 L J (v.toList ++ [.ref x4, .ref x5]) t Q)) ∧
  (∀ (L : pb_L) (J : pb_J) (st : List Value) (h : pb_H) (Q : Option Value → pb_H → Prop) (a : Nat) (x : Nat), pb_R 123 104 L J (.ref x :: .ref a :: st) h Q ↔ pb_o (pb_pf (h.2 a) 11 5 (.ref x)) (fun c => pb_R 123 107 L J st (pb_set h a c) Q)) ∧
  (∀ (l1 l2 l3 l4 l5 : Option Value) (st : List Value) (h : pb_H) (Q : Option Value → pb_H → Prop) (x : Nat), pb_R 123 107 [some (.ref x), l1, l2, l3, l4, l5] [] st h Q ↔ pb_R 123 108 [some (.ref x), l1, l2, l3, l4, l5] [] (.ref x :: st) h Q) ∧
  (∀ (l1 l2 l3 l4 l5 : Option Value) (st : List Value) (h : pb_H) (Q : Option Value → pb_H → Prop), pb_R 123 107 [some .null, l1, l2, l3, l4, l5] [] st h Q ↔ pb_R 123 108 [some .null, l1, l2, l3, l4, l5] [] (.null :: st) h Q) ∧
  (∀ (L : pb_L) (J : pb_J) (st : List Value) (h : pb_H) (Q : Option Value → pb_H → Prop), pb_R 123 108 L J st h Q ↔ pb_R 123 111 L J (.ref h.1 :: st) (pb_new h (.inr (6, pb_df 6))) Q) ∧
  (∀ (L : pb_L) (J : pb_J) (st : List Value) (x : Nat) (h : pb_H) (Q : Option Value → pb_H → Prop), pb_R 123 111 L J (.ref x :: st) h Q ↔ pb_R 123 112 L J (.ref x :: .ref x :: st) h Q) ∧
  (∀ (l0 l1 l2 l4 l5 : Option Value) (st : List Value) (h : pb_H) (Q : Option Value → pb_H → Prop) (x : Nat), pb_R 123 112 [l0, l1, l2, some (.ref x), l4, l5] [] st h Q ↔ pb_R 123 113 [l0, l1, l2, some (.ref x), l4, l5] [] (.ref x :: st) h Q) ∧
  (∀ (l0 l1 l2 l4 l5 : Option Value) (st : List Value) (h : pb_H) (Q : Option Value → pb_H → Prop), pb_R 123 112 [l0, l1, l2, some .null, l4, l5] [] st h Q ↔ pb_R 123 113 [l0, l1, l2, some .null, l4, l5] [] (.null :: st) h Q) ∧
  (∀ (L : pb_L) (J : pb_J) (h : pb_H) (Q : Option Value → pb_H → Prop) (x0 : Nat) (x1 : Nat) (x2 : Nat) (x3 : Nat), pb_R 123 113 L J [.ref x0, .ref x1, .ref x2, .ref x3] h Q ↔ pb_call 94 [.ref x1, .ref x0] h (fun v t => pb_R 123 116 L J (v.toList ++ [.ref x2, .ref x3]) t Q)) ∧
  (∀ (L : pb_L) (J : pb_J) (st : List Value) (h : pb_H) (Q : Option Value → pb_H → Prop) (a : Nat) (x : Nat), pb_R 123 116 L J (.ref x :: .ref a :: st) h Q ↔ pb_o (pb_pf (h.2 a) 11 6 (.ref x)) (fun c => pb_R 123 119 L J st (pb_set h a c) Q)) ∧
  (∀ (L : pb_L) (J : pb_J) (h : pb_H) (Q : Option Value → pb_H → Prop), pb_R 123 119 L J [] h Q ↔ Q none h) := ⟨
  fun l1 l2 l3 l4 l5 st h Q x => pf_S pb_u_123 rfl rfl,
  fun l1 l2 l3 l4 l5 st h Q => pf_S pb_u_123 rfl rfl,
  fun L J h Q a => pf_S pb_u_123 rfl rfl,
  fun L J st h Q => pf_S pb_u_123 rfl rfl,
  fun L J st h Q => pf_S pb_u_123 rfl rfl,
  fun l0 l2 l3 l4 l5 st h Q x => pf_S pb_u_123 rfl rfl,
  fun L J h Q x0 x1 x2 => pf_S pb_u_123 rfl rfl,
  fun L J h Q x0 x1 => pf_S pb_u_123 rfl rfl,
  fun l0 l1 l2 l3 l4 l5 st h Q x => pf_S pb_u_123 rfl rfl,
  fun L J st h Q => pf_S pb_u_123 rfl rfl,
  fun L J st x h Q => pf_S pb_u_123 rfl rfl,
  fun l0 l1 l3 l4 l5 st h Q x => pf_S pb_u_123 rfl rfl,
  fun L J h Q x0 x1 x2 => pf_kp pb_u_123 rfl rfl rfl rfl,
  fun l0 l1 l2 l3 l4 l5 st h Q x => pf_S pb_u_123 rfl rfl,
  fun l0 l1 l2 l3 l4 l5 st h Q => pf_S pb_u_123 rfl rfl,
  fun L J st h Q => pf_S pb_u_123 rfl rfl,
  fun L J st x h Q => pf_S pb_u_123 rfl rfl,
  fun L J h Q x0 x1 => pf_kp pb_u_123 rfl rfl rfl rfl,
  fun l0 l1 l2 l3 l4 l5 st h Q x => pf_S pb_u_123 rfl rfl,
  fun l0 l1 l2 l3 l4 l5 st h Q => pf_S pb_u_123 rfl rfl,
  fun L J st h Q => pf_S pb_u_123 rfl rfl,
  fun L J st x h Q => pf_S pb_u_123 rfl rfl,
  fun l0 l1 l2 l3 l5 st h Q x => pf_S pb_u_123 rfl rfl,
  fun l0 l1 l2 l3 l5 st h Q => pf_S pb_u_123 rfl rfl,
  fun l0 l1 l3 l4 l5 st h Q x => pf_S pb_u_123 rfl rfl,
  fun L J h Q x0 x1 x2 x3 => pf_kp pb_u_123 rfl rfl rfl rfl,
  fun l0 l1 l2 l3 l4 l5 st h Q x => pf_S pb_u_123 rfl rfl,
  fun l0 l1 l2 l3 l4 l5 st h Q => pf_S pb_u_123 rfl rfl,
  fun l1 l2 l3 l4 l5 st h Q x => pf_S pb_u_123 rfl rfl,
  fun l1 l2 l3 l4 l5 st h Q => pf_S pb_u_123 rfl rfl,
  fun l0 l1 l3 l4 l5 st h Q x => pf_S pb_u_123 rfl rfl,
  fun L J st h Q a x => pf_pf pb_u_123 rfl rfl,
  fun l1 l2 l3 l4 l5 st h Q x => pf_S pb_u_123 rfl rfl,
  fun l1 l2 l3 l4 l5 st h Q => pf_S pb_u_123 rfl rfl,
  fun L J st h Q => pf_S pb_u_123 rfl rfl,
  fun L J st x h Q => pf_S pb_u_123 rfl rfl,
  fun L J st h Q => pf_S pb_u_123 rfl rfl,
  fun L J h Q x0 x1 x2 x3 => pf_kp pb_u_123 rfl rfl rfl rfl,
  fun L J st h Q a x => pf_pf pb_u_123 rfl rfl,
  fun l1 l2 l3 l4 l5 st h Q x => pf_S pb_u_123 rfl rfl,
  fun l1 l2 l3 l4 l5 st h Q => pf_S pb_u_123 rfl rfl,
  fun l0 l1 l2 l4 l5 st h Q x => pf_S pb_u_123 rfl rfl,
  fun l0 l1 l2 l4 l5 st h Q => pf_S pb_u_123 rfl rfl,
  fun L J st h Q a x => pf_pf pb_u_123 rfl rfl,
  fun l1 l2 l3 l4 l5 st h Q x => pf_S pb_u_123 rfl rfl,
  fun l1 l2 l3 l4 l5 st h Q => pf_S pb_u_123 rfl rfl,
  fun l0 l1 l2 l3 l5 st h Q x => pf_S pb_u_123 rfl rfl,
  fun l0 l1 l2 l3 l5 st h Q => pf_S pb_u_123 rfl rfl,
  fun L J st h Q a x => pf_pf pb_u_123 rfl rfl,
  fun l1 l2 l3 l4 l5 st h Q x => pf_S pb_u_123 rfl rfl,
  fun l1 l2 l3 l4 l5 st h Q => pf_S pb_u_123 rfl rfl,
  fun L J st h Q => pf_S pb_u_123 rfl rfl,
  fun L J st x h Q => pf_S pb_u_123 rfl rfl,
  fun l0 l1 l2 l3 l5 st h Q x => pf_S pb_u_123 rfl rfl,
  fun l0 l1 l2 l3 l5 st h Q => pf_S pb_u_123 rfl rfl,
  fun l0 l1 l2 l3 l4 st h Q x => pf_S pb_u_123 rfl rfl,
  fun l0 l1 l2 l3 l4 st h Q => pf_S pb_u_123 rfl rfl,
  fun l0 l1 l3 l4 l5 st h Q x => pf_S pb_u_123 rfl rfl,
  fun L J h Q x0 x1 x2 x3 x4 x5 => pf_kp pb_u_123 rfl rfl rfl rfl,
  fun L J st h Q a x => pf_pf pb_u_123 rfl rfl,
  fun l1 l2 l3 l4 l5 st h Q x => pf_S pb_u_123 rfl rfl,
  fun l1 l2 l3 l4 l5 st h Q => pf_S pb_u_123 rfl rfl,
  fun L J st h Q => pf_S pb_u_123 rfl rfl,
  fun L J st x h Q => pf_S pb_u_123 rfl rfl,
  fun l0 l1 l2 l3 l5 st h Q x => pf_S pb_u_123 rfl rfl,
  fun l0 l1 l2 l3 l5 st h Q => pf_S pb_u_123 rfl rfl,
  fun l0 l1 l2 l3 l4 st h Q x => pf_S pb_u_123 rfl rfl,
  fun l0 l1 l2 l3 l4 st h Q => pf_S pb_u_123 rfl rfl,
  fun l0 l1 l2 l4 l5 st h Q x => pf_S pb_u_123 rfl rfl,
  fun l0 l1 l2 l4 l5 st h Q => pf_S pb_u_123 rfl rfl,
  fun L J h Q x0 x1 x2 x3 x4 x5 => pf_kp pb_u_123 rfl rfl rfl rfl,
  fun L J st h Q a x => pf_pf pb_u_123 rfl rfl,
  fun l1 l2 l3 l4 l5 st h Q x => pf_S pb_u_123 rfl rfl,
  fun l1 l2 l3 l4 l5 st h Q => pf_S pb_u_123 rfl rfl,
  fun L J st h Q => pf_S pb_u_123 rfl rfl,
  fun L J st x h Q => pf_S pb_u_123 rfl rfl,
  fun l0 l1 l2 l4 l5 st h Q x => pf_S pb_u_123 rfl rfl,
  fun l0 l1 l2 l4 l5 st h Q => pf_S pb_u_123 rfl rfl,
  fun L J h Q x0 x1 x2 x3 => pf_kp pb_u_123 rfl rfl rfl rfl,
  fun L J st h Q a x => pf_pf pb_u_123 rfl rfl,
  fun L J h Q => pf_rv pb_u_123 rfl rfl⟩
theorem pb_c123 (x0 : Nat) (x1 : Int32) (h : pb_H) (Q : Option Value → pb_H → Prop) : pb_call 123 [.ref x0, .int x1] h Q ↔ pb_R 123 0 [some (.ref x0), some (.int x1), none, none, none, none] [] [] h Q := Iff.rfl
/-! 124: PlaneBench.feed(IIIII)I -/
theorem pb_u_124 : pb_t 124 = pb_t124 := rfl
theorem pb_ci_124 : pb_ci 124 = 11 := by decide +kernel
set_option maxRecDepth 100000 in
theorem pb_e124 : (∀ (l1 l2 l3 l4 l5 : Option Value) (st : List Value) (h : pb_H) (Q : Option Value → pb_H → Prop) (x : Nat), pb_R 124 0 [some (.ref x), l1, l2, l3, l4, l5] [] st h Q ↔ pb_R 124 1 [some (.ref x), l1, l2, l3, l4, l5] [] (.ref x :: st) h Q) ∧
  (∀ (l1 l2 l3 l4 l5 : Option Value) (st : List Value) (h : pb_H) (Q : Option Value → pb_H → Prop), pb_R 124 0 [some .null, l1, l2, l3, l4, l5] [] st h Q ↔ pb_R 124 1 [some .null, l1, l2, l3, l4, l5] [] (.null :: st) h Q) ∧
  (∀ (L : pb_L) (J : pb_J) (st : List Value) (h : pb_H) (Q : Option Value → pb_H → Prop) (a : Nat), pb_R 124 1 L J (.ref a :: st) h Q ↔ pb_o (pb_gf (h.2 a) 11 1) (fun v => pb_R 124 4 L J (v :: st) h Q)) ∧
  (∀ (L : pb_L) (J : pb_J) (st : List Value) (h : pb_H) (Q : Option Value → pb_H → Prop) (a : Nat), pb_R 124 4 L J (.ref a :: st) h Q ↔ pb_o (pb_gf (h.2 a) 0 2) (fun v => pb_R 124 7 L J (v :: st) h Q)) ∧
  (∀ (L : pb_L) (J : pb_J) (st : List Value) (h : pb_H) (Q : Option Value → pb_H → Prop), pb_R 124 7 L J st h Q ↔ pb_R 124 10 L J (.int (3980 : Int32) :: st) h Q) ∧
  (∀ (L : pb_L) (J : pb_J) (st : List Value) (h : pb_H) (Q : Option Value → pb_H → Prop) (x y : Int32), pb_R 124 10 L J (.int y :: .int x :: st) h Q ↔ if x ≤ y then pb_R 124 15 L J st h Q else pb_R 124 13 L J st h Q) ∧
  (∀ (L : pb_L) (J : pb_J) (st : List Value) (h : pb_H) (Q : Option Value → pb_H → Prop), pb_R 124 13 L J st h Q ↔ pb_R 124 14 L J (.int (-1 : Int32) :: st) h Q) ∧
  (∀ (L : pb_L) (J : pb_J) (h : pb_H) (Q : Option Value → pb_H → Prop) (x : Int32), pb_R 124 14 L J [.int x] h Q ↔ Q (some (.int x)) h) ∧
  (∀ (l1 l2 l3 l4 l5 : Option Value) (st : List Value) (h : pb_H) (Q : Option Value → pb_H → Prop) (x : Nat), pb_R 124 15 [some (.ref x), l1, l2, l3, l4, l5] [] st h Q ↔ pb_R 124 16 [some (.ref x), l1, l2, l3, l4, l5] [] (.ref x :: st) h Q) ∧
  (∀ (l1 l2 l3 l4 l5 : Option Value) (st : List Value) (h : pb_H) (Q : Option Value → pb_H → Prop), pb_R 124 15 [some .null, l1, l2, l3, l4, l5] [] st h Q ↔ pb_R 124 16 [some .null, l1, l2, l3, l4, l5] [] (.null :: st) h Q) ∧
  (∀ (L : pb_L) (J : pb_J) (st : List Value) (h : pb_H) (Q : Option Value → pb_H → Prop) (a : Nat), pb_R 124 16 L J (.ref a :: st) h Q ↔ pb_o (pb_gf (h.2 a) 11 1) (fun v => pb_R 124 19 L J (v :: st) h Q)) ∧
  (∀ (l0 l2 l3 l4 l5 : Option Value) (st : List Value) (h : pb_H) (Q : Option Value → pb_H → Prop) (x : Int32), pb_R 124 19 [l0, some (.int x), l2, l3, l4, l5] [] st h Q ↔ pb_R 124 20 [l0, some (.int x), l2, l3, l4, l5] [] (.int x :: st) h Q) ∧
  (∀ (L : pb_L) (J : pb_J) (h : pb_H) (Q : Option Value → pb_H → Prop) (x0 : Int32) (x1 : Nat), pb_R 124 20 L J [.int x0, .ref x1] h Q ↔ pb_is0 (h.2 x1) 0 = true ∧ pb_call 3 [.ref x1, .int x0] h (fun v t => pb_R 124 23 L J (v.toList ++ []) t Q)) ∧
  (∀ (l1 l2 l3 l4 l5 : Option Value) (st : List Value) (h : pb_H) (Q : Option Value → pb_H → Prop) (x : Nat), pb_R 124 23 [some (.ref x), l1, l2, l3, l4, l5] [] st h Q ↔ pb_R 124 24 [some (.ref x), l1, l2, l3, l4, l5] [] (.ref x :: st) h Q) ∧
  (∀ (l1 l2 l3 l4 l5 : Option Value) (st : List Value) (h : pb_H) (Q : Option Value → pb_H → Prop), pb_R 124 23 [some .null, l1, l2, l3, l4, l5] [] st h Q ↔ pb_R 124 24 [some .null, l1, l2, l3, l4, l5] [] (.null :: st) h Q) ∧
  (∀ (L : pb_L) (J : pb_J) (st : List Value) (h : pb_H) (Q : Option Value → pb_H → Prop) (a : Nat), pb_R 124 24 L J (.ref a :: st) h Q ↔ pb_o (pb_gf (h.2 a) 11 1) (fun v => pb_R 124 27 L J (v :: st) h Q)) ∧
  (∀ (l0 l1 l3 l4 l5 : Option Value) (st : List Value) (h : pb_H) (Q : Option Value → pb_H → Prop) (x : Int32), pb_R 124 27 [l0, l1, some (.int x), l3, l4, l5] [] st h Q ↔ pb_R 124 28 [l0, l1, some (.int x), l3, l4, l5] [] (.int x :: st) h Q) ∧
  (∀ (L : pb_L) (J : pb_J) (h : pb_H) (Q : Option Value → pb_H → Prop) (x0 : Int32) (x1 : Nat), pb_R 124 28 L J [.int x0, .ref x1] h Q ↔ pb_is0 (h.2 x1) 0 = true ∧ pb_call 3 [.ref x1, .int x0] h (fun v t => pb_R 124 31 L J (v.toList ++ []) t Q)) ∧
  (∀ (l1 l2 l3 l4 l5 : Option Value) (st : List Value) (h : pb_H) (Q : Option Value → pb_H → Prop) (x : Nat), pb_R 124 31 [some (.ref x), l1, l2, l3, l4, l5] [] st h Q ↔ pb_R 124 32 [some (.ref x), l1, l2, l3, l4, l5] [] (.ref x :: st) h Q) ∧
  (∀ (l1 l2 l3 l4 l5 : Option Value) (st : List Value) (h : pb_H) (Q : Option Value → pb_H → Prop), pb_R 124 31 [some .null, l1, l2, l3, l4, l5] [] st h Q ↔ pb_R 124 32 [some .null, l1, l2, l3, l4, l5] [] (.null :: st) h Q) ∧
  (∀ (L : pb_L) (J : pb_J) (st : List Value) (h : pb_H) (Q : Option Value → pb_H → Prop) (a : Nat), pb_R 124 32 L J (.ref a :: st) h Q ↔ pb_o (pb_gf (h.2 a) 11 1) (fun v => pb_R 124 35 L J (v :: st) h Q)) ∧
  (∀ (l0 l1 l2 l4 l5 : Option Value) (st : List Value) (h : pb_H) (Q : Option Value → pb_H → Prop) (x : Int32), pb_R 124 35 [l0, l1, l2, some (.int x), l4, l5] [] st h Q ↔ pb_R 124 36 [l0, l1, l2, some (.int x), l4, l5] [] (.int x :: st) h Q) ∧
  (∀ (L : pb_L) (J : pb_J) (h : pb_H) (Q : Option Value → pb_H → Prop) (x0 : Int32) (x1 : Nat), pb_R 124 36 L J [.int x0, .ref x1] h Q ↔ pb_is0 (h.2 x1) 0 = true ∧ pb_call 3 [.ref x1, .int x0] h (fun v t => pb_R 124 39 L J (v.toList ++ []) t Q)) ∧
  (∀ (l1 l2 l3 l4 l5 : Option Value) (st : List Value) (h : pb_H) (Q : Option Value → pb_H → Prop) (x : Nat), pb_R 124 39 [some (.ref x), l1, l2, l3, l4, l5] [] st h Q ↔ pb_R 124 40 [some (.ref x), l1, l2, l3, l4, l5] [] (.ref x :: st) h Q) ∧
  (∀ (l1 l2 l3 l4 l5 : Option Value) (st : List Value) (h : pb_H) (Q : Option Value → pb_H → Prop), pb_R 124 39 [some .null, l1, l2, l3, l4, l5] [] st h Q ↔ pb_R 124 40 [some .null, l1, l2, l3, l4, l5] [] (.null :: st) h Q) ∧
  (∀ (L : pb_L) (J : pb_J) (st : List Value) (h : pb_H) (Q : Option Value → pb_H → Prop) (a : Nat), pb_R 124 40 L J (.ref a :: st) h Q ↔ pb_o (pb_gf (h.2 a) 11 1) (fun v => pb_R 124 43 L J (v :: st) h Q)) ∧
  (∀ (l0 l1 l2 l3 l5 : Option Value) (st : List Value) (h : pb_H) (Q : Option Value → pb_H → Prop) (x : Int32), pb_R 124 43 [l0, l1, l2, l3, some (.int x), l5] [] st h Q ↔ pb_R 124 45 [l0, l1, l2, l3, some (.int x), l5] [] (.int x :: st) h Q) ∧
  (∀ (L : pb_L) (J : pb_J) (h : pb_H) (Q : Option Value → pb_H → Prop) (x0 : Int32) (x1 : Nat), pb_R 124 45 L J [.int x0, .ref x1] h Q ↔ pb_is0 (h.2 x1) 0 = true ∧ pb_call 3 [.ref x1, .int x0] h (fun v t => pb_R 124 48 L J (v.toList ++ []) t Q)) ∧
  (∀ (l1 l2 l3 l4 l5 : Option Value) (st : List Value) (h : pb_H) (Q : Option Value → pb_H → Prop) (x : Nat), pb_R 124 48 [some (.ref x), l1, l2, l3, l4, l5] [] st h Q ↔ pb_R 124 49 [some (.ref x), l1, l2, l3, l4, l5] [] (.ref x :: st) h Q) ∧
  (∀ (l1 l2 l3 l4 l5 : Option Value) (st : List Value) (h : pb_H) (Q : Option Value → pb_H → Prop), pb_R 124 48 [some .null, l1, l2, l3, l4, l5] [] st h Q ↔ pb_R 124 49 [some .null, l1, l2, l3, l4, l5] [] (.null :: st) h Q) ∧
  (∀ (L : pb_L) (J : pb_J) (st : List Value) (h : pb_H) (Q : Option Value → pb_H → Prop) (a : Nat), pb_R 124 49 L J (.ref a :: st) h Q ↔ pb_o (pb_gf (h.2 a) 11 1) (fun v => pb_R 124 52 L J (v :: st) h Q)) ∧
  (∀ (l0 l1 l2 l3 l4 : Option Value) (st : List Value) (h : pb_H) (Q : Option Value → pb_H → Prop) (x : Int32), pb_R 124 52 [l0, l1, l2, l3, l4, some (.int x)] [] st h Q ↔ pb_R 124 54 [l0, l1, l2, l3, l4, some (.int x)] [] (.int x :: st) h Q) ∧
  (∀ (L : pb_L) (J : pb_J) (h : pb_H) (Q : Option Value → pb_H → Prop) (x0 : Int32) (x1 : Nat), pb_R 124 54 L J [.int x0, .ref x1] h Q ↔ pb_is0 (h.2 x1) 0 = true ∧ pb_call 3 [.ref x1, .int x0] h (fun v t => pb_R 124 57 L J (v.toList ++ []) t Q)) ∧
  (∀ (l1 l2 l3 l4 l5 : Option Value) (st : List Value) (h : pb_H) (Q : Option Value → pb_H → Prop) (x : Nat), pb_R 124 57 [some (.ref x), l1, l2, l3, l4, l5] [] st h Q ↔ pb_R 124 58 [some (.ref x), l1, l2, l3, l4, l5] [] (.ref x :: st) h Q) ∧
  (∀ (l1 l2 l3 l4 l5 : Option Value) (st : List Value) (h : pb_H) (Q : Option Value → pb_H → Prop), pb_R 124 57 [some .null, l1, l2, l3, l4, l5] [] st h Q ↔ pb_R 124 58 [some .null, l1, l2, l3, l4, l5] [] (.null :: st) h Q) ∧
  (∀ (L : pb_L) (J : pb_J) (st : List Value) (h : pb_H) (Q : Option Value → pb_H → Prop) (a : Nat), pb_R 124 58 L J (.ref a :: st) h Q ↔ pb_o (pb_gf (h.2 a) 11 1) (fun v => pb_R 124 61 L J (v :: st) h Q)) ∧
  (∀ (L : pb_L) (J : pb_J) (st : List Value) (h : pb_H) (Q : Option Value → pb_H → Prop) (a : Nat), pb_R 124 61 L J (.ref a :: st) h Q ↔ pb_o (pb_gf (h.2 a) 0 2) (fun v => pb_R 124 64 L J (v :: st) h Q)) ∧
  (∀ (L : pb_L) (J : pb_J) (h : pb_H) (Q : Option Value → pb_H → Prop) (x : Int32), pb_R 124 64 L J [.int x] h Q ↔ Q (some (.int x)) h) := ⟨
  fun l1 l2 l3 l4 l5 st h Q x => pf_S pb_u_124 rfl rfl,
  fun l1 l2 l3 l4 l5 st h Q => pf_S pb_u_124 rfl rfl,
  fun L J st h Q a => pf_gf pb_u_124 rfl rfl,
  fun L J st h Q a => pf_gf pb_u_124 rfl rfl,
  fun L J st h Q => pf_S pb_u_124 rfl rfl,
  fun L J st h Q x y => pf_ic pb_u_124 rfl rfl rfl,
  fun L J st h Q => pf_S pb_u_124 rfl rfl,
  fun L J h Q x => pf_ri pb_u_124 rfl rfl,
  fun l1 l2 l3 l4 l5 st h Q x => pf_S pb_u_124 rfl rfl,
  fun l1 l2 l3 l4 l5 st h Q => pf_S pb_u_124 rfl rfl,
  fun L J st h Q a => pf_gf pb_u_124 rfl rfl,
  fun l0 l2 l3 l4 l5 st h Q x => pf_S pb_u_124 rfl rfl,
  fun L J h Q x0 x1 => pf_kv pb_u_124 rfl pb_ci_3 rfl ⟨Nat.le_of_ble_eq_true rfl, Nat.le_of_ble_eq_true rfl, Nat.le_of_ble_eq_true rfl, Nat.le_of_ble_eq_true rfl, rfl⟩ rfl rfl,
  fun l1 l2 l3 l4 l5 st h Q x => pf_S pb_u_124 rfl rfl,
  fun l1 l2 l3 l4 l5 st h Q => pf_S pb_u_124 rfl rfl,
  fun L J st h Q a => pf_gf pb_u_124 rfl rfl,
  fun l0 l1 l3 l4 l5 st h Q x => pf_S pb_u_124 rfl rfl,
  fun L J h Q x0 x1 => pf_kv pb_u_124 rfl pb_ci_3 rfl ⟨Nat.le_of_ble_eq_true rfl, Nat.le_of_ble_eq_true rfl, Nat.le_of_ble_eq_true rfl, Nat.le_of_ble_eq_true rfl, rfl⟩ rfl rfl,
  fun l1 l2 l3 l4 l5 st h Q x => pf_S pb_u_124 rfl rfl,
  fun l1 l2 l3 l4 l5 st h Q => pf_S pb_u_124 rfl rfl,
  fun L J st h Q a => pf_gf pb_u_124 rfl rfl,
  fun l0 l1 l2 l4 l5 st h Q x => pf_S pb_u_124 rfl rfl,
  fun L J h Q x0 x1 => pf_kv pb_u_124 rfl pb_ci_3 rfl ⟨Nat.le_of_ble_eq_true rfl, Nat.le_of_ble_eq_true rfl, Nat.le_of_ble_eq_true rfl, Nat.le_of_ble_eq_true rfl, rfl⟩ rfl rfl,
  fun l1 l2 l3 l4 l5 st h Q x => pf_S pb_u_124 rfl rfl,
  fun l1 l2 l3 l4 l5 st h Q => pf_S pb_u_124 rfl rfl,
  fun L J st h Q a => pf_gf pb_u_124 rfl rfl,
  fun l0 l1 l2 l3 l5 st h Q x => pf_S pb_u_124 rfl rfl,
  fun L J h Q x0 x1 => pf_kv pb_u_124 rfl pb_ci_3 rfl ⟨Nat.le_of_ble_eq_true rfl, Nat.le_of_ble_eq_true rfl, Nat.le_of_ble_eq_true rfl, Nat.le_of_ble_eq_true rfl, rfl⟩ rfl rfl,
  fun l1 l2 l3 l4 l5 st h Q x => pf_S pb_u_124 rfl rfl,
  fun l1 l2 l3 l4 l5 st h Q => pf_S pb_u_124 rfl rfl,
  fun L J st h Q a => pf_gf pb_u_124 rfl rfl,
  fun l0 l1 l2 l3 l4 st h Q x => pf_S pb_u_124 rfl rfl,
  fun L J h Q x0 x1 => pf_kv pb_u_124 rfl pb_ci_3 rfl ⟨Nat.le_of_ble_eq_true rfl, Nat.le_of_ble_eq_true rfl, Nat.le_of_ble_eq_true rfl, Nat.le_of_ble_eq_true rfl, rfl⟩ rfl rfl,
  fun l1 l2 l3 l4 l5 st h Q x => pf_S pb_u_124 rfl rfl,
  fun l1 l2 l3 l4 l5 st h Q => pf_S pb_u_124 rfl rfl,
  fun L J st h Q a => pf_gf pb_u_124 rfl rfl,
  fun L J st h Q a => pf_gf pb_u_124 rfl rfl,
  fun L J h Q x => pf_ri pb_u_124 rfl rfl⟩
theorem pb_c124 (x0 : Nat) (x1 : Int32) (x2 : Int32) (x3 : Int32) (x4 : Int32) (x5 : Int32) (h : pb_H) (Q : Option Value → pb_H → Prop) : pb_call 124 [.ref x0, .int x1, .int x2, .int x3, .int x4, .int x5] h Q ↔ pb_R 124 0 [some (.ref x0), some (.int x1), some (.int x2), some (.int x3), some (.int x4), some (.int x5)] [] [] h Q := Iff.rfl
/-! 125: PlaneBench.back(I)I -/
theorem pb_u_125 : pb_t 125 = pb_t125 := rfl
theorem pb_ci_125 : pb_ci 125 = 11 := by decide +kernel
set_option maxRecDepth 100000 in
theorem pb_e125 : (∀ (l0 : Option Value) (st : List Value) (h : pb_H) (Q : Option Value → pb_H → Prop) (x : Int32), pb_R 125 0 [l0, some (.int x)] [] st h Q ↔ pb_R 125 1 [l0, some (.int x)] [] (.int x :: st) h Q) ∧
  (∀ (L : pb_L) (J : pb_J) (st : List Value) (h : pb_H) (Q : Option Value → pb_H → Prop) (x : Int32), pb_R 125 1 L J (.int x :: st) h Q ↔ if x < 0 then pb_R 125 15 L J st h Q else pb_R 125 4 L J st h Q) ∧
  (∀ (l0 : Option Value) (st : List Value) (h : pb_H) (Q : Option Value → pb_H → Prop) (x : Int32), pb_R 125 4 [l0, some (.int x)] [] st h Q ↔ pb_R 125 5 [l0, some (.int x)] [] (.int x :: st) h Q) ∧
  (∀ (l1 : Option Value) (st : List Value) (h : pb_H) (Q : Option Value → pb_H → Prop) (x : Nat), pb_R 125 5 [some (.ref x), l1] [] st h Q ↔ pb_R 125 6 [some (.ref x), l1] [] (.ref x :: st) h Q) ∧
  (∀ (l1 : Option Value) (st : List Value) (h : pb_H) (Q : Option Value → pb_H → Prop), pb_R 125 5 [some .null, l1] [] st h Q ↔ pb_R 125 6 [some .null, l1] [] (.null :: st) h Q) ∧
  (∀ (L : pb_L) (J : pb_J) (st : List Value) (h : pb_H) (Q : Option Value → pb_H → Prop) (a : Nat), pb_R 125 6 L J (.ref a :: st) h Q ↔ pb_o (pb_gf (h.2 a) 11 1) (fun v => pb_R 125 9 L J (v :: st) h Q)) ∧
  (∀ (L : pb_L) (J : pb_J) (st : List Value) (h : pb_H) (Q : Option Value → pb_H → Prop) (a : Nat), pb_R 125 9 L J (.ref a :: st) h Q ↔ pb_o (pb_gf (h.2 a) 0 2) (fun v => pb_R 125 12 L J (v :: st) h Q)) ∧
  (∀ (L : pb_L) (J : pb_J) (st : List Value) (h : pb_H) (Q : Option Value → pb_H → Prop) (x y : Int32), pb_R 125 12 L J (.int y :: .int x :: st) h Q ↔ if x ≤ y then pb_R 125 17 L J st h Q else pb_R 125 15 L J st h Q) ∧
  (∀ (L : pb_L) (J : pb_J) (st : List Value) (h : pb_H) (Q : Option Value → pb_H → Prop), pb_R 125 15 L J st h Q ↔ pb_R 125 16 L J (.int (-1 : Int32) :: st) h Q) ∧
  (∀ (L : pb_L) (J : pb_J) (h : pb_H) (Q : Option Value → pb_H → Prop) (x : Int32), pb_R 125 16 L J [.int x] h Q ↔ Q (some (.int x)) h) ∧
  (∀ (l1 : Option Value) (st : List Value) (h : pb_H) (Q : Option Value → pb_H → Prop) (x : Nat), pb_R 125 17 [some (.ref x), l1] [] st h Q ↔ pb_R 125 18 [some (.ref x), l1] [] (.ref x :: st) h Q) ∧
  (∀ (l1 : Option Value) (st : List Value) (h : pb_H) (Q : Option Value → pb_H → Prop), pb_R 125 17 [some .null, l1] [] st h Q ↔ pb_R 125 18 [some .null, l1] [] (.null :: st) h Q) ∧
  (∀ (L : pb_L) (J : pb_J) (st : List Value) (h : pb_H) (Q : Option Value → pb_H → Prop) (a : Nat), pb_R 125 18 L J (.ref a :: st) h Q ↔ pb_o (pb_gf (h.2 a) 11 1) (fun v => pb_R 125 21 L J (v :: st) h Q)) ∧
  (∀ (l1 : Option Value) (st : List Value) (h : pb_H) (Q : Option Value → pb_H → Prop) (x : Nat), pb_R 125 21 [some (.ref x), l1] [] st h Q ↔ pb_R 125 22 [some (.ref x), l1] [] (.ref x :: st) h Q) ∧
  (∀ (l1 : Option Value) (st : List Value) (h : pb_H) (Q : Option Value → pb_H → Prop), pb_R 125 21 [some .null, l1] [] st h Q ↔ pb_R 125 22 [some .null, l1] [] (.null :: st) h Q) ∧
  (∀ (L : pb_L) (J : pb_J) (st : List Value) (h : pb_H) (Q : Option Value → pb_H → Prop) (a : Nat), pb_R 125 22 L J (.ref a :: st) h Q ↔ pb_o (pb_gf (h.2 a) 11 1) (fun v => pb_R 125 25 L J (v :: st) h Q)) ∧
  (∀ (L : pb_L) (J : pb_J) (st : List Value) (h : pb_H) (Q : Option Value → pb_H → Prop) (a : Nat), pb_R 125 25 L J (.ref a :: st) h Q ↔ pb_o (pb_gf (h.2 a) 0 2) (fun v => pb_R 125 28 L J (v :: st) h Q)) ∧
  (∀ (l0 : Option Value) (st : List Value) (h : pb_H) (Q : Option Value → pb_H → Prop) (x : Int32), pb_R 125 28 [l0, some (.int x)] [] st h Q ↔ pb_R 125 29 [l0, some (.int x)] [] (.int x :: st) h Q) ∧
  (∀ (L : pb_L) (J : pb_J) (st : List Value) (x y : Int32) (h : pb_H) (Q : Option Value → pb_H → Prop), pb_R 125 29 L J (.int y :: .int x :: st) h Q ↔ pb_R 125 30 L J (.int (x - y) :: st) h Q) ∧
  (∀ (L : pb_L) (J : pb_J) (h : pb_H) (Q : Option Value → pb_H → Prop) (x0 : Int32) (x1 : Nat), pb_R 125 30 L J [.int x0, .ref x1] h Q ↔ pb_is0 (h.2 x1) 0 = true ∧ pb_call 10 [.ref x1, .int x0] h (fun v t => pb_R 125 33 L J (v.toList ++ []) t Q)) ∧
  (∀ (l1 : Option Value) (st : List Value) (h : pb_H) (Q : Option Value → pb_H → Prop) (x : Nat), pb_R 125 33 [some (.ref x), l1] [] st h Q ↔ pb_R 125 34 [some (.ref x), l1] [] (.ref x :: st) h Q) ∧
  (∀ (l1 : Option Value) (st : List Value) (h : pb_H) (Q : Option Value → pb_H → Prop), pb_R 125 33 [some .null, l1] [] st h Q ↔ pb_R 125 34 [some .null, l1] [] (.null :: st) h Q) ∧
  (∀ (L : pb_L) (J : pb_J) (st : List Value) (h : pb_H) (Q : Option Value → pb_H → Prop) (a : Nat), pb_R 125 34 L J (.ref a :: st) h Q ↔ pb_o (pb_gf (h.2 a) 11 1) (fun v => pb_R 125 37 L J (v :: st) h Q)) ∧
  (∀ (L : pb_L) (J : pb_J) (st : List Value) (h : pb_H) (Q : Option Value → pb_H → Prop) (a : Nat), pb_R 125 37 L J (.ref a :: st) h Q ↔ pb_o (pb_gf (h.2 a) 0 2) (fun v => pb_R 125 40 L J (v :: st) h Q)) ∧
  (∀ (L : pb_L) (J : pb_J) (h : pb_H) (Q : Option Value → pb_H → Prop) (x : Int32), pb_R 125 40 L J [.int x] h Q ↔ Q (some (.int x)) h) := ⟨
  fun l0 st h Q x => pf_S pb_u_125 rfl rfl,
  fun L J st h Q x => pf_ii pb_u_125 rfl rfl rfl,
  fun l0 st h Q x => pf_S pb_u_125 rfl rfl,
  fun l1 st h Q x => pf_S pb_u_125 rfl rfl,
  fun l1 st h Q => pf_S pb_u_125 rfl rfl,
  fun L J st h Q a => pf_gf pb_u_125 rfl rfl,
  fun L J st h Q a => pf_gf pb_u_125 rfl rfl,
  fun L J st h Q x y => pf_ic pb_u_125 rfl rfl rfl,
  fun L J st h Q => pf_S pb_u_125 rfl rfl,
  fun L J h Q x => pf_ri pb_u_125 rfl rfl,
  fun l1 st h Q x => pf_S pb_u_125 rfl rfl,
  fun l1 st h Q => pf_S pb_u_125 rfl rfl,
  fun L J st h Q a => pf_gf pb_u_125 rfl rfl,
  fun l1 st h Q x => pf_S pb_u_125 rfl rfl,
  fun l1 st h Q => pf_S pb_u_125 rfl rfl,
  fun L J st h Q a => pf_gf pb_u_125 rfl rfl,
  fun L J st h Q a => pf_gf pb_u_125 rfl rfl,
  fun l0 st h Q x => pf_S pb_u_125 rfl rfl,
  fun L J st x y h Q => pf_S pb_u_125 rfl rfl,
  fun L J h Q x0 x1 => pf_kv pb_u_125 rfl pb_ci_10 rfl ⟨Nat.le_of_ble_eq_true rfl, Nat.le_of_ble_eq_true rfl, Nat.le_of_ble_eq_true rfl, Nat.le_of_ble_eq_true rfl, rfl⟩ rfl rfl,
  fun l1 st h Q x => pf_S pb_u_125 rfl rfl,
  fun l1 st h Q => pf_S pb_u_125 rfl rfl,
  fun L J st h Q a => pf_gf pb_u_125 rfl rfl,
  fun L J st h Q a => pf_gf pb_u_125 rfl rfl,
  fun L J h Q x => pf_ri pb_u_125 rfl rfl⟩
theorem pb_c125 (x0 : Nat) (x1 : Int32) (h : pb_H) (Q : Option Value → pb_H → Prop) : pb_call 125 [.ref x0, .int x1] h Q ↔ pb_R 125 0 [some (.ref x0), some (.int x1)] [] [] h Q := Iff.rfl
/-! 126: PlaneBench.load()I -/
theorem pb_u_126 : pb_t 126 = pb_t126 := rfl
theorem pb_ci_126 : pb_ci 126 = 11 := by decide +kernel
set_option maxRecDepth 100000 in
theorem pb_e126 : (∀ (l1 : Option Value) (st : List Value) (h : pb_H) (Q : Option Value → pb_H → Prop) (x : Nat), pb_R 126 0 [some (.ref x), l1] [] st h Q ↔ pb_R 126 1 [some (.ref x), l1] [] (.ref x :: st) h Q) ∧
  (∀ (l1 : Option Value) (st : List Value) (h : pb_H) (Q : Option Value → pb_H → Prop), pb_R 126 0 [some .null, l1] [] st h Q ↔ pb_R 126 1 [some .null, l1] [] (.null :: st) h Q) ∧
  (∀ (L : pb_L) (J : pb_J) (st : List Value) (h : pb_H) (Q : Option Value → pb_H → Prop) (a : Nat), pb_R 126 1 L J (.ref a :: st) h Q ↔ pb_o (pb_gf (h.2 a) 11 3) (fun v => pb_R 126 4 L J (v :: st) h Q)) ∧
  (∀ (l1 : Option Value) (st : List Value) (h : pb_H) (Q : Option Value → pb_H → Prop) (x : Nat), pb_R 126 4 [some (.ref x), l1] [] st h Q ↔ pb_R 126 5 [some (.ref x), l1] [] (.ref x :: st) h Q) ∧
  (∀ (l1 : Option Value) (st : List Value) (h : pb_H) (Q : Option Value → pb_H → Prop), pb_R 126 4 [some .null, l1] [] st h Q ↔ pb_R 126 5 [some .null, l1] [] (.null :: st) h Q) ∧
  (∀ (L : pb_L) (J : pb_J) (st : List Value) (h : pb_H) (Q : Option Value → pb_H → Prop) (a : Nat), pb_R 126 5 L J (.ref a :: st) h Q ↔ pb_o (pb_gf (h.2 a) 11 1) (fun v => pb_R 126 8 L J (v :: st) h Q)) ∧
  (∀ (L : pb_L) (J : pb_J) (h : pb_H) (Q : Option Value → pb_H → Prop) (x0 : Nat) (x1 : Nat), pb_R 126 8 L J [.ref x0, .ref x1] h Q ↔ pb_is0 (h.2 x1) 8 = true ∧ pb_call 121 [.ref x1, .ref x0] h (fun v t => pb_R 126 11 L J (v.toList ++ []) t Q)) ∧
  (∀ (l1 : Option Value) (st : List Value) (h : pb_H) (Q : Option Value → pb_H → Prop) (x : Nat), pb_R 126 11 [some (.ref x), l1] [] st h Q ↔ pb_R 126 12 [some (.ref x), l1] [] (.ref x :: st) h Q) ∧
  (∀ (l1 : Option Value) (st : List Value) (h : pb_H) (Q : Option Value → pb_H → Prop), pb_R 126 11 [some .null, l1] [] st h Q ↔ pb_R 126 12 [some .null, l1] [] (.null :: st) h Q) ∧
  (∀ (L : pb_L) (J : pb_J) (st : List Value) (h : pb_H) (Q : Option Value → pb_H → Prop) (a : Nat), pb_R 126 12 L J (.ref a :: st) h Q ↔ pb_o (pb_gf (h.2 a) 11 4) (fun v => pb_R 126 15 L J (v :: st) h Q)) ∧
  (∀ (L : pb_L) (J : pb_J) (h : pb_H) (Q : Option Value → pb_H → Prop) (x0 : Nat), pb_R 126 15 L J [.ref x0] h Q ↔ pb_is0 (h.2 x0) 5 = true ∧ pb_call 92 [.ref x0] h (fun v t => pb_R 126 18 L J (v.toList ++ []) t Q)) ∧
  (∀ (l0 l1 : Option Value) (st : List Value) (h : pb_H) (Q : Option Value → pb_H → Prop) (x : Int32), pb_R 126 18 [l0, l1] [] (.int x :: st) h Q ↔ pb_R 126 19 [l0, some (.int x)] [] st h Q) ∧
  (∀ (l1 : Option Value) (st : List Value) (h : pb_H) (Q : Option Value → pb_H → Prop) (x : Nat), pb_R 126 19 [some (.ref x), l1] [] st h Q ↔ pb_R 126 20 [some (.ref x), l1] [] (.ref x :: st) h Q) ∧
  (∀ (l1 : Option Value) (st : List Value) (h : pb_H) (Q : Option Value → pb_H → Prop), pb_R 126 19 [some .null, l1] [] st h Q ↔ pb_R 126 20 [some .null, l1] [] (.null :: st) h Q) ∧
  (∀ (L : pb_L) (J : pb_J) (st : List Value) (h : pb_H) (Q : Option Value → pb_H → Prop) (a : Nat), pb_R 126 20 L J (.ref a :: st) h Q ↔ pb_o (pb_gf (h.2 a) 11 1) (fun v => pb_R 126 23 L J (v :: st) h Q)) ∧
  (∀ (L : pb_L) (J : pb_J) (st : List Value) (h : pb_H) (Q : Option Value → pb_H → Prop), pb_R 126 23 L J st h Q ↔ pb_R 126 24 L J (.int (0 : Int32) :: st) h Q) ∧
  (∀ (L : pb_L) (J : pb_J) (h : pb_H) (Q : Option Value → pb_H → Prop) (x0 : Int32) (x1 : Nat), pb_R 126 24 L J [.int x0, .ref x1] h Q ↔ pb_is0 (h.2 x1) 0 = true ∧ pb_call 10 [.ref x1, .int x0] h (fun v t => pb_R 126 27 L J (v.toList ++ []) t Q)) ∧
  (∀ (l0 : Option Value) (st : List Value) (h : pb_H) (Q : Option Value → pb_H → Prop) (x : Int32), pb_R 126 27 [l0, some (.int x)] [] st h Q ↔ pb_R 126 28 [l0, some (.int x)] [] (.int x :: st) h Q) ∧
  (∀ (L : pb_L) (J : pb_J) (st : List Value) (h : pb_H) (Q : Option Value → pb_H → Prop) (x : Int32), pb_R 126 28 L J (.int x :: st) h Q ↔ if ¬ x = 0 then pb_R 126 33 L J st h Q else pb_R 126 31 L J st h Q) ∧
  (∀ (L : pb_L) (J : pb_J) (st : List Value) (h : pb_H) (Q : Option Value → pb_H → Prop), pb_R 126 31 L J st h Q ↔ pb_R 126 32 L J (.int (-1 : Int32) :: st) h Q) ∧
  (∀ (L : pb_L) (J : pb_J) (h : pb_H) (Q : Option Value → pb_H → Prop) (x : Int32), pb_R 126 32 L J [.int x] h Q ↔ Q (some (.int x)) h) ∧
  (∀ (l1 : Option Value) (st : List Value) (h : pb_H) (Q : Option Value → pb_H → Prop) (x : Nat), pb_R 126 33 [some (.ref x), l1] [] st h Q ↔ pb_R 126 34 [some (.ref x), l1] [] (.ref x :: st) h Q) ∧
  (∀ (l1 : Option Value) (st : List Value) (h : pb_H) (Q : Option Value → pb_H → Prop), pb_R 126 33 [some .null, l1] [] st h Q ↔ pb_R 126 34 [some .null, l1] [] (.null :: st) h Q) ∧
  (∀ (L : pb_L) (J : pb_J) (st : List Value) (h : pb_H) (Q : Option Value → pb_H → Prop) (a : Nat), pb_R 126 34 L J (.ref a :: st) h Q ↔ pb_o (pb_gf (h.2 a) 11 2) (fun v => pb_R 126 37 L J (v :: st) h Q)) ∧
  (∀ (l1 : Option Value) (st : List Value) (h : pb_H) (Q : Option Value → pb_H → Prop) (x : Nat), pb_R 126 37 [some (.ref x), l1] [] st h Q ↔ pb_R 126 38 [some (.ref x), l1] [] (.ref x :: st) h Q) ∧
  (∀ (l1 : Option Value) (st : List Value) (h : pb_H) (Q : Option Value → pb_H → Prop), pb_R 126 37 [some .null, l1] [] st h Q ↔ pb_R 126 38 [some .null, l1] [] (.null :: st) h Q) ∧
  (∀ (L : pb_L) (J : pb_J) (st : List Value) (h : pb_H) (Q : Option Value → pb_H → Prop) (a : Nat), pb_R 126 38 L J (.ref a :: st) h Q ↔ pb_o (pb_gf (h.2 a) 11 4) (fun v => pb_R 126 41 L J (v :: st) h Q)) ∧
  (∀ (L : pb_L) (J : pb_J) (st : List Value) (h : pb_H) (Q : Option Value → pb_H → Prop) (a : Nat), pb_R 126 41 L J (.ref a :: st) h Q ↔ pb_o (pb_gf (h.2 a) 5 3) (fun v => pb_R 126 44 L J (v :: st) h Q)) ∧
  (∀ (l1 : Option Value) (st : List Value) (h : pb_H) (Q : Option Value → pb_H → Prop) (x : Nat), pb_R 126 44 [some (.ref x), l1] [] st h Q ↔ pb_R 126 45 [some (.ref x), l1] [] (.ref x :: st) h Q) ∧
  (∀ (l1 : Option Value) (st : List Value) (h : pb_H) (Q : Option Value → pb_H → Prop), pb_R 126 44 [some .null, l1] [] st h Q ↔ pb_R 126 45 [some .null, l1] [] (.null :: st) h Q) ∧
  (∀ (L : pb_L) (J : pb_J) (st : List Value) (h : pb_H) (Q : Option Value → pb_H → Prop) (a : Nat), pb_R 126 45 L J (.ref a :: st) h Q ↔ pb_o (pb_gf (h.2 a) 11 4) (fun v => pb_R 126 48 L J (v :: st) h Q)) ∧
  (∀ (L : pb_L) (J : pb_J) (st : List Value) (h : pb_H) (Q : Option Value → pb_H → Prop) (a : Nat), pb_R 126 48 L J (.ref a :: st) h Q ↔ pb_o (pb_gf (h.2 a) 5 4) (fun v => pb_R 126 51 L J (v :: st) h Q)) ∧
  (∀ (L : pb_L) (J : pb_J) (h : pb_H) (Q : Option Value → pb_H → Prop) (x0 : Int32) (x1 : Nat) (x2 : Nat), pb_R 126 51 L J [.int x0, .ref x1, .ref x2] h Q ↔ pb_is0 (h.2 x2) 7 = true ∧ pb_call 119 [.ref x2, .ref x1, .int x0] h (fun v t => pb_R 126 54 L J (v.toList ++ []) t Q)) ∧
  (∀ (l1 : Option Value) (st : List Value) (h : pb_H) (Q : Option Value → pb_H → Prop) (x : Nat), pb_R 126 54 [some (.ref x), l1] [] st h Q ↔ pb_R 126 55 [some (.ref x), l1] [] (.ref x :: st) h Q) ∧
  (∀ (l1 : Option Value) (st : List Value) (h : pb_H) (Q : Option Value → pb_H → Prop), pb_R 126 54 [some .null, l1] [] st h Q ↔ pb_R 126 55 [some .null, l1] [] (.null :: st) h Q) ∧
  (∀ (L : pb_L) (J : pb_J) (st : List Value) (h : pb_H) (Q : Option Value → pb_H → Prop) (a : Nat), pb_R 126 55 L J (.ref a :: st) h Q ↔ pb_o (pb_gf (h.2 a) 11 6) (fun v => pb_R 126 58 L J (v :: st) h Q)) ∧
  (∀ (L : pb_L) (J : pb_J) (h : pb_H) (Q : Option Value → pb_H → Prop) (x0 : Nat), pb_R 126 58 L J [.ref x0] h Q ↔ pb_is0 (h.2 x0) 6 = true ∧ pb_call 96 [.ref x0] h (fun v t => pb_R 126 61 L J (v.toList ++ []) t Q)) ∧
  (∀ (l1 : Option Value) (st : List Value) (h : pb_H) (Q : Option Value → pb_H → Prop) (x : Nat), pb_R 126 61 [some (.ref x), l1] [] st h Q ↔ pb_R 126 62 [some (.ref x), l1] [] (.ref x :: st) h Q) ∧
  (∀ (l1 : Option Value) (st : List Value) (h : pb_H) (Q : Option Value → pb_H → Prop), pb_R 126 61 [some .null, l1] [] st h Q ↔ pb_R 126 62 [some .null, l1] [] (.null :: st) h Q) ∧
  (∀ (L : pb_L) (J : pb_J) (st : List Value) (h : pb_H) (Q : Option Value → pb_H → Prop) (a : Nat), pb_R 126 62 L J (.ref a :: st) h Q ↔ pb_o (pb_gf (h.2 a) 11 2) (fun v => pb_R 126 65 L J (v :: st) h Q)) ∧
  (∀ (L : pb_L) (J : pb_J) (st : List Value) (h : pb_H) (Q : Option Value → pb_H → Prop) (a : Nat), pb_R 126 65 L J (.ref a :: st) h Q ↔ pb_o (pb_gf (h.2 a) 7 2) (fun v => pb_R 126 68 L J (v :: st) h Q)) ∧
  (∀ (L : pb_L) (J : pb_J) (h : pb_H) (Q : Option Value → pb_H → Prop) (x : Int32), pb_R 126 68 L J [.int x] h Q ↔ Q (some (.int x)) h) := ⟨
  fun l1 st h Q x => pf_S pb_u_126 rfl rfl,
  fun l1 st h Q => pf_S pb_u_126 rfl rfl,
  fun L J st h Q a => pf_gf pb_u_126 rfl rfl,
  fun l1 st h Q x => pf_S pb_u_126 rfl rfl,
  fun l1 st h Q => pf_S pb_u_126 rfl rfl,
  fun L J st h Q a => pf_gf pb_u_126 rfl rfl,
  fun L J h Q x0 x1 => pf_kv pb_u_126 rfl pb_ci_121 rfl ⟨Nat.le_of_ble_eq_true rfl, Nat.le_of_ble_eq_true rfl, Nat.le_of_ble_eq_true rfl, Nat.le_of_ble_eq_true rfl, rfl⟩ rfl rfl,
  fun l1 st h Q x => pf_S pb_u_126 rfl rfl,
  fun l1 st h Q => pf_S pb_u_126 rfl rfl,
  fun L J st h Q a => pf_gf pb_u_126 rfl rfl,
  fun L J h Q x0 => pf_kv pb_u_126 rfl pb_ci_92 rfl ⟨Nat.le_of_ble_eq_true rfl, Nat.le_of_ble_eq_true rfl, Nat.le_of_ble_eq_true rfl, Nat.le_of_ble_eq_true rfl, rfl⟩ rfl rfl,
  fun l0 l1 st h Q x => pf_S pb_u_126 rfl rfl,
  fun l1 st h Q x => pf_S pb_u_126 rfl rfl,
  fun l1 st h Q => pf_S pb_u_126 rfl rfl,
  fun L J st h Q a => pf_gf pb_u_126 rfl rfl,
  fun L J st h Q => pf_S pb_u_126 rfl rfl,
  fun L J h Q x0 x1 => pf_kv pb_u_126 rfl pb_ci_10 rfl ⟨Nat.le_of_ble_eq_true rfl, Nat.le_of_ble_eq_true rfl, Nat.le_of_ble_eq_true rfl, Nat.le_of_ble_eq_true rfl, rfl⟩ rfl rfl,
  fun l0 st h Q x => pf_S pb_u_126 rfl rfl,
  fun L J st h Q x => pf_ii pb_u_126 rfl rfl pf_ne,
  fun L J st h Q => pf_S pb_u_126 rfl rfl,
  fun L J h Q x => pf_ri pb_u_126 rfl rfl,
  fun l1 st h Q x => pf_S pb_u_126 rfl rfl,
  fun l1 st h Q => pf_S pb_u_126 rfl rfl,
  fun L J st h Q a => pf_gf pb_u_126 rfl rfl,
  fun l1 st h Q x => pf_S pb_u_126 rfl rfl,
  fun l1 st h Q => pf_S pb_u_126 rfl rfl,
  fun L J st h Q a => pf_gf pb_u_126 rfl rfl,
  fun L J st h Q a => pf_gf pb_u_126 rfl rfl,
  fun l1 st h Q x => pf_S pb_u_126 rfl rfl,
  fun l1 st h Q => pf_S pb_u_126 rfl rfl,
  fun L J st h Q a => pf_gf pb_u_126 rfl rfl,
  fun L J st h Q a => pf_gf pb_u_126 rfl rfl,
  fun L J h Q x0 x1 x2 => pf_kv pb_u_126 rfl pb_ci_119 rfl ⟨Nat.le_of_ble_eq_true rfl, Nat.le_of_ble_eq_true rfl, Nat.le_of_ble_eq_true rfl, Nat.le_of_ble_eq_true rfl, rfl⟩ rfl rfl,
  fun l1 st h Q x => pf_S pb_u_126 rfl rfl,
  fun l1 st h Q => pf_S pb_u_126 rfl rfl,
  fun L J st h Q a => pf_gf pb_u_126 rfl rfl,
  fun L J h Q x0 => pf_kv pb_u_126 rfl pb_ci_96 rfl ⟨Nat.le_of_ble_eq_true rfl, Nat.le_of_ble_eq_true rfl, Nat.le_of_ble_eq_true rfl, Nat.le_of_ble_eq_true rfl, rfl⟩ rfl rfl,
  fun l1 st h Q x => pf_S pb_u_126 rfl rfl,
  fun l1 st h Q => pf_S pb_u_126 rfl rfl,
  fun L J st h Q a => pf_gf pb_u_126 rfl rfl,
  fun L J st h Q a => pf_gf pb_u_126 rfl rfl,
  fun L J h Q x => pf_ri pb_u_126 rfl rfl⟩
theorem pb_c126 (x0 : Nat) (h : pb_H) (Q : Option Value → pb_H → Prop) : pb_call 126 [.ref x0] h Q ↔ pb_R 126 0 [some (.ref x0), none] [] [] h Q := Iff.rfl
/-! 127: PlaneBench.check()I -/
theorem pb_u_127 : pb_t 127 = pb_t127 := rfl
theorem pb_ci_127 : pb_ci 127 = 11 := by decide +kernel
set_option maxRecDepth 100000 in
theorem pb_e127 : (∀ (l1 : Option Value) (st : List Value) (h : pb_H) (Q : Option Value → pb_H → Prop) (x : Nat), pb_R 127 0 [some (.ref x), l1] [] st h Q ↔ pb_R 127 1 [some (.ref x), l1] [] (.ref x :: st) h Q) ∧
  (∀ (l1 : Option Value) (st : List Value) (h : pb_H) (Q : Option Value → pb_H → Prop), pb_R 127 0 [some .null, l1] [] st h Q ↔ pb_R 127 1 [some .null, l1] [] (.null :: st) h Q) ∧
  (∀ (L : pb_L) (J : pb_J) (st : List Value) (h : pb_H) (Q : Option Value → pb_H → Prop) (a : Nat), pb_R 127 1 L J (.ref a :: st) h Q ↔ pb_o (pb_gf (h.2 a) 11 3) (fun v => pb_R 127 4 L J (v :: st) h Q)) ∧
  (∀ (l1 : Option Value) (st : List Value) (h : pb_H) (Q : Option Value → pb_H → Prop) (x : Nat), pb_R 127 4 [some (.ref x), l1] [] st h Q ↔ pb_R 127 5 [some (.ref x), l1] [] (.ref x :: st) h Q) ∧
  (∀ (l1 : Option Value) (st : List Value) (h : pb_H) (Q : Option Value → pb_H → Prop), pb_R 127 4 [some .null, l1] [] st h Q ↔ pb_R 127 5 [some .null, l1] [] (.null :: st) h Q) ∧
  (∀ (L : pb_L) (J : pb_J) (st : List Value) (h : pb_H) (Q : Option Value → pb_H → Prop) (a : Nat), pb_R 127 5 L J (.ref a :: st) h Q ↔ pb_o (pb_gf (h.2 a) 11 1) (fun v => pb_R 127 8 L J (v :: st) h Q)) ∧
  (∀ (L : pb_L) (J : pb_J) (h : pb_H) (Q : Option Value → pb_H → Prop) (x0 : Nat) (x1 : Nat), pb_R 127 8 L J [.ref x0, .ref x1] h Q ↔ pb_is0 (h.2 x1) 8 = true ∧ pb_call 121 [.ref x1, .ref x0] h (fun v t => pb_R 127 11 L J (v.toList ++ []) t Q)) ∧
  (∀ (l1 : Option Value) (st : List Value) (h : pb_H) (Q : Option Value → pb_H → Prop) (x : Nat), pb_R 127 11 [some (.ref x), l1] [] st h Q ↔ pb_R 127 12 [some (.ref x), l1] [] (.ref x :: st) h Q) ∧
  (∀ (l1 : Option Value) (st : List Value) (h : pb_H) (Q : Option Value → pb_H → Prop), pb_R 127 11 [some .null, l1] [] st h Q ↔ pb_R 127 12 [some .null, l1] [] (.null :: st) h Q) ∧
  (∀ (L : pb_L) (J : pb_J) (st : List Value) (h : pb_H) (Q : Option Value → pb_H → Prop) (a : Nat), pb_R 127 12 L J (.ref a :: st) h Q ↔ pb_o (pb_gf (h.2 a) 11 5) (fun v => pb_R 127 15 L J (v :: st) h Q)) ∧
  (∀ (L : pb_L) (J : pb_J) (h : pb_H) (Q : Option Value → pb_H → Prop) (x0 : Nat), pb_R 127 15 L J [.ref x0] h Q ↔ pb_is0 (h.2 x0) 1 = true ∧ pb_call 87 [.ref x0] h (fun v t => pb_R 127 18 L J (v.toList ++ []) t Q)) ∧
  (∀ (l0 l1 : Option Value) (st : List Value) (h : pb_H) (Q : Option Value → pb_H → Prop) (x : Int32), pb_R 127 18 [l0, l1] [] (.int x :: st) h Q ↔ pb_R 127 19 [l0, some (.int x)] [] st h Q) ∧
  (∀ (l1 : Option Value) (st : List Value) (h : pb_H) (Q : Option Value → pb_H → Prop) (x : Nat), pb_R 127 19 [some (.ref x), l1] [] st h Q ↔ pb_R 127 20 [some (.ref x), l1] [] (.ref x :: st) h Q) ∧
  (∀ (l1 : Option Value) (st : List Value) (h : pb_H) (Q : Option Value → pb_H → Prop), pb_R 127 19 [some .null, l1] [] st h Q ↔ pb_R 127 20 [some .null, l1] [] (.null :: st) h Q) ∧
  (∀ (L : pb_L) (J : pb_J) (st : List Value) (h : pb_H) (Q : Option Value → pb_H → Prop) (a : Nat), pb_R 127 20 L J (.ref a :: st) h Q ↔ pb_o (pb_gf (h.2 a) 11 1) (fun v => pb_R 127 23 L J (v :: st) h Q)) ∧
  (∀ (L : pb_L) (J : pb_J) (st : List Value) (h : pb_H) (Q : Option Value → pb_H → Prop), pb_R 127 23 L J st h Q ↔ pb_R 127 24 L J (.int (0 : Int32) :: st) h Q) ∧
  (∀ (L : pb_L) (J : pb_J) (h : pb_H) (Q : Option Value → pb_H → Prop) (x0 : Int32) (x1 : Nat), pb_R 127 24 L J [.int x0, .ref x1] h Q ↔ pb_is0 (h.2 x1) 0 = true ∧ pb_call 10 [.ref x1, .int x0] h (fun v t => pb_R 127 27 L J (v.toList ++ []) t Q)) ∧
  (∀ (l0 : Option Value) (st : List Value) (h : pb_H) (Q : Option Value → pb_H → Prop) (x : Int32), pb_R 127 27 [l0, some (.int x)] [] st h Q ↔ pb_R 127 28 [l0, some (.int x)] [] (.int x :: st) h Q) ∧
  (∀ (L : pb_L) (J : pb_J) (h : pb_H) (Q : Option Value → pb_H → Prop) (x : Int32), pb_R 127 28 L J [.int x] h Q ↔ Q (some (.int x)) h) := ⟨
  fun l1 st h Q x => pf_S pb_u_127 rfl rfl,
  fun l1 st h Q => pf_S pb_u_127 rfl rfl,
  fun L J st h Q a => pf_gf pb_u_127 rfl rfl,
  fun l1 st h Q x => pf_S pb_u_127 rfl rfl,
  fun l1 st h Q => pf_S pb_u_127 rfl rfl,
  fun L J st h Q a => pf_gf pb_u_127 rfl rfl,
  fun L J h Q x0 x1 => pf_kv pb_u_127 rfl pb_ci_121 rfl ⟨Nat.le_of_ble_eq_true rfl, Nat.le_of_ble_eq_true rfl, Nat.le_of_ble_eq_true rfl, Nat.le_of_ble_eq_true rfl, rfl⟩ rfl rfl,
  fun l1 st h Q x => pf_S pb_u_127 rfl rfl,
  fun l1 st h Q => pf_S pb_u_127 rfl rfl,
  fun L J st h Q a => pf_gf pb_u_127 rfl rfl,
  fun L J h Q x0 => pf_kv pb_u_127 rfl pb_ci_87 rfl ⟨Nat.le_of_ble_eq_true rfl, Nat.le_of_ble_eq_true rfl, Nat.le_of_ble_eq_true rfl, Nat.le_of_ble_eq_true rfl, rfl⟩ rfl rfl,
  fun l0 l1 st h Q x => pf_S pb_u_127 rfl rfl,
  fun l1 st h Q x => pf_S pb_u_127 rfl rfl,
  fun l1 st h Q => pf_S pb_u_127 rfl rfl,
  fun L J st h Q a => pf_gf pb_u_127 rfl rfl,
  fun L J st h Q => pf_S pb_u_127 rfl rfl,
  fun L J h Q x0 x1 => pf_kv pb_u_127 rfl pb_ci_10 rfl ⟨Nat.le_of_ble_eq_true rfl, Nat.le_of_ble_eq_true rfl, Nat.le_of_ble_eq_true rfl, Nat.le_of_ble_eq_true rfl, rfl⟩ rfl rfl,
  fun l0 st h Q x => pf_S pb_u_127 rfl rfl,
  fun L J h Q x => pf_ri pb_u_127 rfl rfl⟩
theorem pb_c127 (x0 : Nat) (h : pb_H) (Q : Option Value → pb_H → Prop) : pb_call 127 [.ref x0] h Q ↔ pb_R 127 0 [some (.ref x0), none] [] [] h Q := Iff.rfl
/-! 128: PlaneBench.fault(I)I -/
theorem pb_u_128 : pb_t 128 = pb_t128 := rfl
theorem pb_ci_128 : pb_ci 128 = 11 := by decide +kernel
set_option maxRecDepth 100000 in
theorem pb_q128_1 (L : pb_L) (J : pb_J) (st : List Value) (h : pb_H) (Q : Option Value → pb_H → Prop) (x : Int32) : pb_R 128 1 L J (.int x :: st) h Q ↔ if x = 0 then pb_R 128 28 L J st h Q else (if x = 1 then pb_R 128 36 L J st h Q else (pb_R 128 44 L J st h Q)) := by
  by_cases c0 : x = 0
  · subst c0
    rw [if_pos rfl]
    exact pf_S pb_u_128 rfl rfl
  rw [if_neg c0]
  by_cases c1 : x = 1
  · subst c1
    rw [if_pos rfl]
    exact pf_S pb_u_128 rfl rfl
  rw [if_neg c1]
  have ic0 : ¬ x.toInt = 0 := pf_ni (k := 0) (fun e => c0 (e.trans rfl))
  have ic1 : ¬ x.toInt = 1 := pf_ni (k := 1) (fun e => c1 (e.trans rfl))
  have hoff : Op.lookupswitch.offset [(0, 27), (1, 35)] 43 x.toInt = 43 := by simp [Op.lookupswitch.offset_cons, Op.lookupswitch.offset_nil, Ne.symm ic0, Ne.symm ic1]
  exact pf_ls pb_u_128 rfl (by decide) hoff rfl
set_option maxRecDepth 100000 in
theorem pb_e128 : (∀ (l0 : Option Value) (st : List Value) (h : pb_H) (Q : Option Value → pb_H → Prop) (x : Int32), pb_R 128 0 [l0, some (.int x)] [] st h Q ↔ pb_R 128 1 [l0, some (.int x)] [] (.int x :: st) h Q) ∧
  (∀ (L : pb_L) (J : pb_J) (st : List Value) (h : pb_H) (Q : Option Value → pb_H → Prop) (x : Int32), pb_R 128 1 L J (.int x :: st) h Q ↔ if x = 0 then pb_R 128 28 L J st h Q else (if x = 1 then pb_R 128 36 L J st h Q else (pb_R 128 44 L J st h Q))) ∧
  (∀ (l1 : Option Value) (st : List Value) (h : pb_H) (Q : Option Value → pb_H → Prop) (x : Nat), pb_R 128 28 [some (.ref x), l1] [] st h Q ↔ pb_R 128 29 [some (.ref x), l1] [] (.ref x :: st) h Q) ∧
  (∀ (l1 : Option Value) (st : List Value) (h : pb_H) (Q : Option Value → pb_H → Prop), pb_R 128 28 [some .null, l1] [] st h Q ↔ pb_R 128 29 [some .null, l1] [] (.null :: st) h Q) ∧
  (∀ (L : pb_L) (J : pb_J) (st : List Value) (h : pb_H) (Q : Option Value → pb_H → Prop) (a : Nat), pb_R 128 29 L J (.ref a :: st) h Q ↔ pb_o (pb_gf (h.2 a) 11 3) (fun v => pb_R 128 32 L J (v :: st) h Q)) ∧
  (∀ (L : pb_L) (J : pb_J) (st : List Value) (h : pb_H) (Q : Option Value → pb_H → Prop) (a : Nat), pb_R 128 32 L J (.ref a :: st) h Q ↔ pb_o (pb_gf (h.2 a) 8 7) (fun v => pb_R 128 35 L J (v :: st) h Q)) ∧
  (∀ (L : pb_L) (J : pb_J) (h : pb_H) (Q : Option Value → pb_H → Prop) (x : Int32), pb_R 128 35 L J [.int x] h Q ↔ Q (some (.int x)) h) ∧
  (∀ (l1 : Option Value) (st : List Value) (h : pb_H) (Q : Option Value → pb_H → Prop) (x : Nat), pb_R 128 36 [some (.ref x), l1] [] st h Q ↔ pb_R 128 37 [some (.ref x), l1] [] (.ref x :: st) h Q) ∧
  (∀ (l1 : Option Value) (st : List Value) (h : pb_H) (Q : Option Value → pb_H → Prop), pb_R 128 36 [some .null, l1] [] st h Q ↔ pb_R 128 37 [some .null, l1] [] (.null :: st) h Q) ∧
  (∀ (L : pb_L) (J : pb_J) (st : List Value) (h : pb_H) (Q : Option Value → pb_H → Prop) (a : Nat), pb_R 128 37 L J (.ref a :: st) h Q ↔ pb_o (pb_gf (h.2 a) 11 3) (fun v => pb_R 128 40 L J (v :: st) h Q)) ∧
  (∀ (L : pb_L) (J : pb_J) (st : List Value) (h : pb_H) (Q : Option Value → pb_H → Prop) (a : Nat), pb_R 128 40 L J (.ref a :: st) h Q ↔ pb_o (pb_gf (h.2 a) 8 8) (fun v => pb_R 128 43 L J (v :: st) h Q)) ∧
  (∀ (L : pb_L) (J : pb_J) (h : pb_H) (Q : Option Value → pb_H → Prop) (x : Int32), pb_R 128 43 L J [.int x] h Q ↔ Q (some (.int x)) h) ∧
  (∀ (L : pb_L) (J : pb_J) (st : List Value) (h : pb_H) (Q : Option Value → pb_H → Prop), pb_R 128 44 L J st h Q ↔ pb_R 128 45 L J (.int (-1 : Int32) :: st) h Q) ∧
  (∀ (L : pb_L) (J : pb_J) (h : pb_H) (Q : Option Value → pb_H → Prop) (x : Int32), pb_R 128 45 L J [.int x] h Q ↔ Q (some (.int x)) h) := ⟨
  fun l0 st h Q x => pf_S pb_u_128 rfl rfl,
  fun L J st h Q x => pb_q128_1 L J st h Q x,
  fun l1 st h Q x => pf_S pb_u_128 rfl rfl,
  fun l1 st h Q => pf_S pb_u_128 rfl rfl,
  fun L J st h Q a => pf_gf pb_u_128 rfl rfl,
  fun L J st h Q a => pf_gf pb_u_128 rfl rfl,
  fun L J h Q x => pf_ri pb_u_128 rfl rfl,
  fun l1 st h Q x => pf_S pb_u_128 rfl rfl,
  fun l1 st h Q => pf_S pb_u_128 rfl rfl,
  fun L J st h Q a => pf_gf pb_u_128 rfl rfl,
  fun L J st h Q a => pf_gf pb_u_128 rfl rfl,
  fun L J h Q x => pf_ri pb_u_128 rfl rfl,
  fun L J st h Q => pf_S pb_u_128 rfl rfl,
  fun L J h Q x => pf_ri pb_u_128 rfl rfl⟩
theorem pb_c128 (x0 : Nat) (x1 : Int32) (h : pb_H) (Q : Option Value → pb_H → Prop) : pb_call 128 [.ref x0, .int x1] h Q ↔ pb_R 128 0 [some (.ref x0), some (.int x1)] [] [] h Q := Iff.rfl
/-! 129: PlaneBench.literal(II)I -/
theorem pb_u_129 : pb_t 129 = pb_t129 := rfl
theorem pb_ci_129 : pb_ci 129 = 11 := by decide +kernel
set_option maxRecDepth 100000 in
theorem pb_e129 : (∀ (l1 l2 l3 : Option Value) (st : List Value) (h : pb_H) (Q : Option Value → pb_H → Prop) (x : Nat), pb_R 129 0 [some (.ref x), l1, l2, l3] [] st h Q ↔ pb_R 129 1 [some (.ref x), l1, l2, l3] [] (.ref x :: st) h Q) ∧
  (∀ (l1 l2 l3 : Option Value) (st : List Value) (h : pb_H) (Q : Option Value → pb_H → Prop), pb_R 129 0 [some .null, l1, l2, l3] [] st h Q ↔ pb_R 129 1 [some .null, l1, l2, l3] [] (.null :: st) h Q) ∧
  (∀ (L : pb_L) (J : pb_J) (st : List Value) (h : pb_H) (Q : Option Value → pb_H → Prop) (a : Nat), pb_R 129 1 L J (.ref a :: st) h Q ↔ pb_o (pb_gf (h.2 a) 11 2) (fun v => pb_R 129 4 L J (v :: st) h Q)) ∧
  (∀ (l0 l2 l3 : Option Value) (st : List Value) (h : pb_H) (Q : Option Value → pb_H → Prop) (x : Int32), pb_R 129 4 [l0, some (.int x), l2, l3] [] st h Q ↔ pb_R 129 5 [l0, some (.int x), l2, l3] [] (.int x :: st) h Q) ∧
  (∀ (L : pb_L) (J : pb_J) (h : pb_H) (Q : Option Value → pb_H → Prop) (x0 : Int32) (x1 : Nat), pb_R 129 5 L J [.int x0, .ref x1] h Q ↔ pb_is0 (h.2 x1) 7 = true ∧ pb_call 46 [.ref x1, .int x0] h (fun v t => pb_R 129 8 L J (v.toList ++ []) t Q)) ∧
  (∀ (l0 l1 l2 l3 : Option Value) (st : List Value) (h : pb_H) (Q : Option Value → pb_H → Prop) (x : Nat), pb_R 129 8 [l0, l1, l2, l3] [] (.ref x :: st) h Q ↔ pb_R 129 9 [l0, l1, l2, some (.ref x)] [] st h Q) ∧
  (∀ (l0 l1 l2 l3 : Option Value) (st : List Value) (h : pb_H) (Q : Option Value → pb_H → Prop), pb_R 129 8 [l0, l1, l2, l3] [] (.null :: st) h Q ↔ pb_R 129 9 [l0, l1, l2, some .null] [] st h Q) ∧
  (∀ (l0 l1 l2 : Option Value) (st : List Value) (h : pb_H) (Q : Option Value → pb_H → Prop) (x : Nat), pb_R 129 9 [l0, l1, l2, some (.ref x)] [] st h Q ↔ pb_R 129 10 [l0, l1, l2, some (.ref x)] [] (.ref x :: st) h Q) ∧
  (∀ (l0 l1 l2 : Option Value) (st : List Value) (h : pb_H) (Q : Option Value → pb_H → Prop), pb_R 129 9 [l0, l1, l2, some .null] [] st h Q ↔ pb_R 129 10 [l0, l1, l2, some .null] [] (.null :: st) h Q) ∧
  (∀ (L : pb_L) (J : pb_J) (st : List Value) (h : pb_H) (Q : Option Value → pb_H → Prop), pb_R 129 10 L J (.null :: st) h Q ↔ pb_R 129 26 L J st h Q) ∧
  (∀ (L : pb_L) (J : pb_J) (st : List Value) (h : pb_H) (Q : Option Value → pb_H → Prop) (x : Nat), pb_R 129 10 L J (.ref x :: st) h Q ↔ pb_R 129 13 L J st h Q) ∧
  (∀ (l0 l1 l3 : Option Value) (st : List Value) (h : pb_H) (Q : Option Value → pb_H → Prop) (x : Int32), pb_R 129 13 [l0, l1, some (.int x), l3] [] st h Q ↔ pb_R 129 14 [l0, l1, some (.int x), l3] [] (.int x :: st) h Q) ∧
  (∀ (L : pb_L) (J : pb_J) (st : List Value) (h : pb_H) (Q : Option Value → pb_H → Prop), pb_R 129 14 L J st h Q ↔ pb_R 129 15 L J (.int (1 : Int32) :: st) h Q) ∧
  (∀ (L : pb_L) (J : pb_J) (st : List Value) (h : pb_H) (Q : Option Value → pb_H → Prop) (x y : Int32), pb_R 129 15 L J (.int y :: .int x :: st) h Q ↔ if x < y then pb_R 129 26 L J st h Q else pb_R 129 18 L J st h Q) ∧
  (∀ (l0 l1 l3 : Option Value) (st : List Value) (h : pb_H) (Q : Option Value → pb_H → Prop) (x : Int32), pb_R 129 18 [l0, l1, some (.int x), l3] [] st h Q ↔ pb_R 129 19 [l0, l1, some (.int x), l3] [] (.int x :: st) h Q) ∧
  (∀ (l1 l2 l3 : Option Value) (st : List Value) (h : pb_H) (Q : Option Value → pb_H → Prop) (x : Nat), pb_R 129 19 [some (.ref x), l1, l2, l3] [] st h Q ↔ pb_R 129 20 [some (.ref x), l1, l2, l3] [] (.ref x :: st) h Q) ∧
  (∀ (l1 l2 l3 : Option Value) (st : List Value) (h : pb_H) (Q : Option Value → pb_H → Prop), pb_R 129 19 [some .null, l1, l2, l3] [] st h Q ↔ pb_R 129 20 [some .null, l1, l2, l3] [] (.null :: st) h Q) ∧
  (∀ (L : pb_L) (J : pb_J) (st : List Value) (h : pb_H) (Q : Option Value → pb_H → Prop) (a : Nat), pb_R 129 20 L J (.ref a :: st) h Q ↔ pb_o (pb_gf (h.2 a) 11 0) (fun v => pb_R 129 23 L J (v :: st) h Q)) ∧
  (∀ (L : pb_L) (J : pb_J) (st : List Value) (h : pb_H) (Q : Option Value → pb_H → Prop) (x y : Int32), pb_R 129 23 L J (.int y :: .int x :: st) h Q ↔ if x ≤ y then pb_R 129 28 L J st h Q else pb_R 129 26 L J st h Q) ∧
  (∀ (L : pb_L) (J : pb_J) (st : List Value) (h : pb_H) (Q : Option Value → pb_H → Prop), pb_R 129 26 L J st h Q ↔ pb_R 129 27 L J (.int (-1 : Int32) :: st) h Q) ∧
  (∀ (L : pb_L) (J : pb_J) (h : pb_H) (Q : Option Value → pb_H → Prop) (x : Int32), pb_R 129 27 L J [.int x] h Q ↔ Q (some (.int x)) h) ∧
  (∀ (l0 l1 l2 : Option Value) (st : List Value) (h : pb_H) (Q : Option Value → pb_H → Prop) (x : Nat), pb_R 129 28 [l0, l1, l2, some (.ref x)] [] st h Q ↔ pb_R 129 29 [l0, l1, l2, some (.ref x)] [] (.ref x :: st) h Q) ∧
  (∀ (l0 l1 l2 : Option Value) (st : List Value) (h : pb_H) (Q : Option Value → pb_H → Prop), pb_R 129 28 [l0, l1, l2, some .null] [] st h Q ↔ pb_R 129 29 [l0, l1, l2, some .null] [] (.null :: st) h Q) ∧
  (∀ (l0 l1 l3 : Option Value) (st : List Value) (h : pb_H) (Q : Option Value → pb_H → Prop) (x : Int32), pb_R 129 29 [l0, l1, some (.int x), l3] [] st h Q ↔ pb_R 129 30 [l0, l1, some (.int x), l3] [] (.int x :: st) h Q) ∧
  (∀ (L : pb_L) (J : pb_J) (h : pb_H) (Q : Option Value → pb_H → Prop) (x0 : Int32) (x1 : Nat), pb_R 129 30 L J [.int x0, .ref x1] h Q ↔ pb_is0 (h.2 x1) 4 = true ∧ pb_call 60 [.ref x1, .int x0] h (fun v t => pb_R 129 33 L J (v.toList ++ []) t Q)) ∧
  (∀ (L : pb_L) (J : pb_J) (h : pb_H) (Q : Option Value → pb_H → Prop) (x : Int32), pb_R 129 33 L J [.int x] h Q ↔ Q (some (.int x)) h) := ⟨
  fun l1 l2 l3 st h Q x => pf_S pb_u_129 rfl rfl,
  fun l1 l2 l3 st h Q => pf_S pb_u_129 rfl rfl,
  fun L J st h Q a => pf_gf pb_u_129 rfl rfl,
  fun l0 l2 l3 st h Q x => pf_S pb_u_129 rfl rfl,
  fun L J h Q x0 x1 => pf_kv pb_u_129 rfl pb_ci_46 rfl ⟨Nat.le_of_ble_eq_true rfl, Nat.le_of_ble_eq_true rfl, Nat.le_of_ble_eq_true rfl, Nat.le_of_ble_eq_true rfl, rfl⟩ rfl rfl,
  fun l0 l1 l2 l3 st h Q x => pf_S pb_u_129 rfl rfl,
  fun l0 l1 l2 l3 st h Q => pf_S pb_u_129 rfl rfl,
  fun l0 l1 l2 st h Q x => pf_S pb_u_129 rfl rfl,
  fun l0 l1 l2 st h Q => pf_S pb_u_129 rfl rfl,
  fun L J st h Q => pf_S pb_u_129 rfl rfl,
  fun L J st h Q x => pf_S pb_u_129 rfl rfl,
  fun l0 l1 l3 st h Q x => pf_S pb_u_129 rfl rfl,
  fun L J st h Q => pf_S pb_u_129 rfl rfl,
  fun L J st h Q x y => pf_ic pb_u_129 rfl rfl rfl,
  fun l0 l1 l3 st h Q x => pf_S pb_u_129 rfl rfl,
  fun l1 l2 l3 st h Q x => pf_S pb_u_129 rfl rfl,
  fun l1 l2 l3 st h Q => pf_S pb_u_129 rfl rfl,
  fun L J st h Q a => pf_gf pb_u_129 rfl rfl,
  fun L J st h Q x y => pf_ic pb_u_129 rfl rfl rfl,
  fun L J st h Q => pf_S pb_u_129 rfl rfl,
  fun L J h Q x => pf_ri pb_u_129 rfl rfl,
  fun l0 l1 l2 st h Q x => pf_S pb_u_129 rfl rfl,
  fun l0 l1 l2 st h Q => pf_S pb_u_129 rfl rfl,
  fun l0 l1 l3 st h Q x => pf_S pb_u_129 rfl rfl,
  fun L J h Q x0 x1 => pf_kv pb_u_129 rfl pb_ci_60 rfl ⟨Nat.le_of_ble_eq_true rfl, Nat.le_of_ble_eq_true rfl, Nat.le_of_ble_eq_true rfl, Nat.le_of_ble_eq_true rfl, rfl⟩ rfl rfl,
  fun L J h Q x => pf_ri pb_u_129 rfl rfl⟩
theorem pb_c129 (x0 : Nat) (x1 : Int32) (x2 : Int32) (h : pb_H) (Q : Option Value → pb_H → Prop) : pb_call 129 [.ref x0, .int x1, .int x2] h Q ↔ pb_R 129 0 [some (.ref x0), some (.int x1), some (.int x2), none] [] [] h Q := Iff.rfl
/-! 130: PlaneBench.piece(III)I -/
theorem pb_u_130 : pb_t 130 = pb_t130 := rfl
theorem pb_ci_130 : pb_ci 130 = 11 := by decide +kernel
set_option maxRecDepth 100000 in
theorem pb_e130 : (∀ (l1 l2 l3 l4 : Option Value) (st : List Value) (h : pb_H) (Q : Option Value → pb_H → Prop) (x : Nat), pb_R 130 0 [some (.ref x), l1, l2, l3, l4] [] st h Q ↔ pb_R 130 1 [some (.ref x), l1, l2, l3, l4] [] (.ref x :: st) h Q) ∧
  (∀ (l1 l2 l3 l4 : Option Value) (st : List Value) (h : pb_H) (Q : Option Value → pb_H → Prop), pb_R 130 0 [some .null, l1, l2, l3, l4] [] st h Q ↔ pb_R 130 1 [some .null, l1, l2, l3, l4] [] (.null :: st) h Q) ∧
  (∀ (L : pb_L) (J : pb_J) (st : List Value) (h : pb_H) (Q : Option Value → pb_H → Prop) (a : Nat), pb_R 130 1 L J (.ref a :: st) h Q ↔ pb_o (pb_gf (h.2 a) 11 2) (fun v => pb_R 130 4 L J (v :: st) h Q)) ∧
  (∀ (l0 l2 l3 l4 : Option Value) (st : List Value) (h : pb_H) (Q : Option Value → pb_H → Prop) (x : Int32), pb_R 130 4 [l0, some (.int x), l2, l3, l4] [] st h Q ↔ pb_R 130 5 [l0, some (.int x), l2, l3, l4] [] (.int x :: st) h Q) ∧
  (∀ (L : pb_L) (J : pb_J) (h : pb_H) (Q : Option Value → pb_H → Prop) (x0 : Int32) (x1 : Nat), pb_R 130 5 L J [.int x0, .ref x1] h Q ↔ pb_is0 (h.2 x1) 7 = true ∧ pb_call 46 [.ref x1, .int x0] h (fun v t => pb_R 130 8 L J (v.toList ++ []) t Q)) ∧
  (∀ (l0 l1 l2 l3 l4 : Option Value) (st : List Value) (h : pb_H) (Q : Option Value → pb_H → Prop) (x : Nat), pb_R 130 8 [l0, l1, l2, l3, l4] [] (.ref x :: st) h Q ↔ pb_R 130 10 [l0, l1, l2, l3, some (.ref x)] [] st h Q) ∧
  (∀ (l0 l1 l2 l3 l4 : Option Value) (st : List Value) (h : pb_H) (Q : Option Value → pb_H → Prop), pb_R 130 8 [l0, l1, l2, l3, l4] [] (.null :: st) h Q ↔ pb_R 130 10 [l0, l1, l2, l3, some .null] [] st h Q) ∧
  (∀ (l0 l1 l2 l3 : Option Value) (st : List Value) (h : pb_H) (Q : Option Value → pb_H → Prop) (x : Nat), pb_R 130 10 [l0, l1, l2, l3, some (.ref x)] [] st h Q ↔ pb_R 130 12 [l0, l1, l2, l3, some (.ref x)] [] (.ref x :: st) h Q) ∧
  (∀ (l0 l1 l2 l3 : Option Value) (st : List Value) (h : pb_H) (Q : Option Value → pb_H → Prop), pb_R 130 10 [l0, l1, l2, l3, some .null] [] st h Q ↔ pb_R 130 12 [l0, l1, l2, l3, some .null] [] (.null :: st) h Q) ∧
  (∀ (L : pb_L) (J : pb_J) (st : List Value) (h : pb_H) (Q : Option Value → pb_H → Prop), pb_R 130 12 L J (.null :: st) h Q ↔ pb_R 130 37 L J st h Q) ∧
  (∀ (L : pb_L) (J : pb_J) (st : List Value) (h : pb_H) (Q : Option Value → pb_H → Prop) (x : Nat), pb_R 130 12 L J (.ref x :: st) h Q ↔ pb_R 130 15 L J st h Q) ∧
  (∀ (l0 l1 l3 l4 : Option Value) (st : List Value) (h : pb_H) (Q : Option Value → pb_H → Prop) (x : Int32), pb_R 130 15 [l0, l1, some (.int x), l3, l4] [] st h Q ↔ pb_R 130 16 [l0, l1, some (.int x), l3, l4] [] (.int x :: st) h Q) ∧
  (∀ (L : pb_L) (J : pb_J) (st : List Value) (h : pb_H) (Q : Option Value → pb_H → Prop) (x : Int32), pb_R 130 16 L J (.int x :: st) h Q ↔ if x < 0 then pb_R 130 37 L J st h Q else pb_R 130 19 L J st h Q) ∧
  (∀ (l0 l1 l3 l4 : Option Value) (st : List Value) (h : pb_H) (Q : Option Value → pb_H → Prop) (x : Int32), pb_R 130 19 [l0, l1, some (.int x), l3, l4] [] st h Q ↔ pb_R 130 20 [l0, l1, some (.int x), l3, l4] [] (.int x :: st) h Q) ∧
  (∀ (l1 l2 l3 l4 : Option Value) (st : List Value) (h : pb_H) (Q : Option Value → pb_H → Prop) (x : Nat), pb_R 130 20 [some (.ref x), l1, l2, l3, l4] [] st h Q ↔ pb_R 130 21 [some (.ref x), l1, l2, l3, l4] [] (.ref x :: st) h Q) ∧
  (∀ (l1 l2 l3 l4 : Option Value) (st : List Value) (h : pb_H) (Q : Option Value → pb_H → Prop), pb_R 130 20 [some .null, l1, l2, l3, l4] [] st h Q ↔ pb_R 130 21 [some .null, l1, l2, l3, l4] [] (.null :: st) h Q) ∧
  (∀ (L : pb_L) (J : pb_J) (st : List Value) (h : pb_H) (Q : Option Value → pb_H → Prop) (a : Nat), pb_R 130 21 L J (.ref a :: st) h Q ↔ pb_o (pb_gf (h.2 a) 11 0) (fun v => pb_R 130 24 L J (v :: st) h Q)) ∧
  (∀ (L : pb_L) (J : pb_J) (st : List Value) (h : pb_H) (Q : Option Value → pb_H → Prop) (x y : Int32), pb_R 130 24 L J (.int y :: .int x :: st) h Q ↔ if y < x then pb_R 130 37 L J st h Q else pb_R 130 27 L J st h Q) ∧
  (∀ (l0 l1 l2 l4 : Option Value) (st : List Value) (h : pb_H) (Q : Option Value → pb_H → Prop) (x : Int32), pb_R 130 27 [l0, l1, l2, some (.int x), l4] [] st h Q ↔ pb_R 130 28 [l0, l1, l2, some (.int x), l4] [] (.int x :: st) h Q) ∧
  (∀ (L : pb_L) (J : pb_J) (st : List Value) (h : pb_H) (Q : Option Value → pb_H → Prop) (x : Int32), pb_R 130 28 L J (.int x :: st) h Q ↔ if x < 0 then pb_R 130 37 L J st h Q else pb_R 130 31 L J st h Q) ∧
  (∀ (l0 l1 l2 l4 : Option Value) (st : List Value) (h : pb_H) (Q : Option Value → pb_H → Prop) (x : Int32), pb_R 130 31 [l0, l1, l2, some (.int x), l4] [] st h Q ↔ pb_R 130 32 [l0, l1, l2, some (.int x), l4] [] (.int x :: st) h Q) ∧
  (∀ (L : pb_L) (J : pb_J) (st : List Value) (h : pb_H) (Q : Option Value → pb_H → Prop), pb_R 130 32 L J st h Q ↔ pb_R 130 34 L J (.int (8 : Int32) :: st) h Q) ∧
  (∀ (L : pb_L) (J : pb_J) (st : List Value) (h : pb_H) (Q : Option Value → pb_H → Prop) (x y : Int32), pb_R 130 34 L J (.int y :: .int x :: st) h Q ↔ if x < y then pb_R 130 39 L J st h Q else pb_R 130 37 L J st h Q) ∧
  (∀ (L : pb_L) (J : pb_J) (st : List Value) (h : pb_H) (Q : Option Value → pb_H → Prop), pb_R 130 37 L J st h Q ↔ pb_R 130 38 L J (.int (0 : Int32) :: st) h Q) ∧
  (∀ (L : pb_L) (J : pb_J) (h : pb_H) (Q : Option Value → pb_H → Prop) (x : Int32), pb_R 130 38 L J [.int x] h Q ↔ Q (some (.int x)) h) ∧
  (∀ (l0 l1 l2 l3 : Option Value) (st : List Value) (h : pb_H) (Q : Option Value → pb_H → Prop) (x : Nat), pb_R 130 39 [l0, l1, l2, l3, some (.ref x)] [] st h Q ↔ pb_R 130 41 [l0, l1, l2, l3, some (.ref x)] [] (.ref x :: st) h Q) ∧
  (∀ (l0 l1 l2 l3 : Option Value) (st : List Value) (h : pb_H) (Q : Option Value → pb_H → Prop), pb_R 130 39 [l0, l1, l2, l3, some .null] [] st h Q ↔ pb_R 130 41 [l0, l1, l2, l3, some .null] [] (.null :: st) h Q) ∧
  (∀ (L : pb_L) (J : pb_J) (st : List Value) (h : pb_H) (Q : Option Value → pb_H → Prop) (a : Nat), pb_R 130 41 L J (.ref a :: st) h Q ↔ pb_o (pb_gf (h.2 a) 4 1) (fun v => pb_R 130 44 L J (v :: st) h Q)) ∧
  (∀ (l0 l1 l3 l4 : Option Value) (st : List Value) (h : pb_H) (Q : Option Value → pb_H → Prop) (x : Int32), pb_R 130 44 [l0, l1, some (.int x), l3, l4] [] st h Q ↔ pb_R 130 45 [l0, l1, some (.int x), l3, l4] [] (.int x :: st) h Q) ∧
  (∀ (L : pb_L) (J : pb_J) (st : List Value) (h : pb_H) (Q : Option Value → pb_H → Prop), pb_R 130 45 L J st h Q ↔ pb_R 130 47 L J (.int (8 : Int32) :: st) h Q) ∧
  (∀ (L : pb_L) (J : pb_J) (st : List Value) (x y : Int32) (h : pb_H) (Q : Option Value → pb_H → Prop), pb_R 130 47 L J (.int y :: .int x :: st) h Q ↔ pb_R 130 48 L J (.int (x * y) :: st) h Q) ∧
  (∀ (l0 l1 l2 l4 : Option Value) (st : List Value) (h : pb_H) (Q : Option Value → pb_H → Prop) (x : Int32), pb_R 130 48 [l0, l1, l2, some (.int x), l4] [] st h Q ↔ pb_R 130 49 [l0, l1, l2, some (.int x), l4] [] (.int x :: st) h Q) ∧
  (∀ (L : pb_L) (J : pb_J) (st : List Value) (x y : Int32) (h : pb_H) (Q : Option Value → pb_H → Prop), pb_R 130 49 L J (.int y :: .int x :: st) h Q ↔ pb_R 130 50 L J (.int (x + y) :: st) h Q) ∧
  (∀ (L : pb_L) (J : pb_J) (st : List Value) (h : pb_H) (Q : Option Value → pb_H → Prop) (a : Nat) (i : Int32), pb_R 130 50 L J (.int i :: .ref a :: st) h Q ↔ pb_o (pb_ai (h.2 a) i) (fun v => pb_R 130 51 L J (.int v :: st) h Q)) ∧
  (∀ (L : pb_L) (J : pb_J) (h : pb_H) (Q : Option Value → pb_H → Prop) (x : Int32), pb_R 130 51 L J [.int x] h Q ↔ Q (some (.int x)) h) := ⟨
  fun l1 l2 l3 l4 st h Q x => pf_S pb_u_130 rfl rfl,
  fun l1 l2 l3 l4 st h Q => pf_S pb_u_130 rfl rfl,
  fun L J st h Q a => pf_gf pb_u_130 rfl rfl,
  fun l0 l2 l3 l4 st h Q x => pf_S pb_u_130 rfl rfl,
  fun L J h Q x0 x1 => pf_kv pb_u_130 rfl pb_ci_46 rfl ⟨Nat.le_of_ble_eq_true rfl, Nat.le_of_ble_eq_true rfl, Nat.le_of_ble_eq_true rfl, Nat.le_of_ble_eq_true rfl, rfl⟩ rfl rfl,
  fun l0 l1 l2 l3 l4 st h Q x => pf_S pb_u_130 rfl rfl,
  fun l0 l1 l2 l3 l4 st h Q => pf_S pb_u_130 rfl rfl,
  fun l0 l1 l2 l3 st h Q x => pf_S pb_u_130 rfl rfl,
  fun l0 l1 l2 l3 st h Q => pf_S pb_u_130 rfl rfl,
  fun L J st h Q => pf_S pb_u_130 rfl rfl,
  fun L J st h Q x => pf_S pb_u_130 rfl rfl,
  fun l0 l1 l3 l4 st h Q x => pf_S pb_u_130 rfl rfl,
  fun L J st h Q x => pf_ii pb_u_130 rfl rfl rfl,
  fun l0 l1 l3 l4 st h Q x => pf_S pb_u_130 rfl rfl,
  fun l1 l2 l3 l4 st h Q x => pf_S pb_u_130 rfl rfl,
  fun l1 l2 l3 l4 st h Q => pf_S pb_u_130 rfl rfl,
  fun L J st h Q a => pf_gf pb_u_130 rfl rfl,
  fun L J st h Q x y => pf_ic pb_u_130 rfl rfl rfl,
  fun l0 l1 l2 l4 st h Q x => pf_S pb_u_130 rfl rfl,
  fun L J st h Q x => pf_ii pb_u_130 rfl rfl rfl,
  fun l0 l1 l2 l4 st h Q x => pf_S pb_u_130 rfl rfl,
  fun L J st h Q => pf_S pb_u_130 rfl rfl,
  fun L J st h Q x y => pf_ic pb_u_130 rfl rfl rfl,
  fun L J st h Q => pf_S pb_u_130 rfl rfl,
  fun L J h Q x => pf_ri pb_u_130 rfl rfl,
  fun l0 l1 l2 l3 st h Q x => pf_S pb_u_130 rfl rfl,
  fun l0 l1 l2 l3 st h Q => pf_S pb_u_130 rfl rfl,
  fun L J st h Q a => pf_gf pb_u_130 rfl rfl,
  fun l0 l1 l3 l4 st h Q x => pf_S pb_u_130 rfl rfl,
  fun L J st h Q => pf_S pb_u_130 rfl rfl,
  fun L J st x y h Q => pf_S pb_u_130 rfl rfl,
  fun l0 l1 l2 l4 st h Q x => pf_S pb_u_130 rfl rfl,
  fun L J st x y h Q => pf_S pb_u_130 rfl rfl,
  fun L J st h Q a i => pf_ai pb_u_130 rfl rfl,
  fun L J h Q x => pf_ri pb_u_130 rfl rfl⟩
theorem pb_c130 (x0 : Nat) (x1 : Int32) (x2 : Int32) (x3 : Int32) (h : pb_H) (Q : Option Value → pb_H → Prop) : pb_call 130 [.ref x0, .int x1, .int x2, .int x3] h Q ↔ pb_R 130 0 [some (.ref x0), some (.int x1), some (.int x2), some (.int x3), none] [] [] h Q := Iff.rfl
/-! 131: PlaneBench.holds(II)Z -/
theorem pb_u_131 : pb_t 131 = pb_t131 := rfl
theorem pb_ci_131 : pb_ci 131 = 11 := by decide +kernel
set_option maxRecDepth 100000 in
theorem pb_e131 : (∀ (l1 l2 l3 : Option Value) (st : List Value) (h : pb_H) (Q : Option Value → pb_H → Prop) (x : Nat), pb_R 131 0 [some (.ref x), l1, l2, l3] [] st h Q ↔ pb_R 131 1 [some (.ref x), l1, l2, l3] [] (.ref x :: st) h Q) ∧
  (∀ (l1 l2 l3 : Option Value) (st : List Value) (h : pb_H) (Q : Option Value → pb_H → Prop), pb_R 131 0 [some .null, l1, l2, l3] [] st h Q ↔ pb_R 131 1 [some .null, l1, l2, l3] [] (.null :: st) h Q) ∧
  (∀ (L : pb_L) (J : pb_J) (st : List Value) (h : pb_H) (Q : Option Value → pb_H → Prop) (a : Nat), pb_R 131 1 L J (.ref a :: st) h Q ↔ pb_o (pb_gf (h.2 a) 11 2) (fun v => pb_R 131 4 L J (v :: st) h Q)) ∧
  (∀ (l0 l2 l3 : Option Value) (st : List Value) (h : pb_H) (Q : Option Value → pb_H → Prop) (x : Int32), pb_R 131 4 [l0, some (.int x), l2, l3] [] st h Q ↔ pb_R 131 5 [l0, some (.int x), l2, l3] [] (.int x :: st) h Q) ∧
  (∀ (L : pb_L) (J : pb_J) (h : pb_H) (Q : Option Value → pb_H → Prop) (x0 : Int32) (x1 : Nat), pb_R 131 5 L J [.int x0, .ref x1] h Q ↔ pb_is0 (h.2 x1) 7 = true ∧ pb_call 46 [.ref x1, .int x0] h (fun v t => pb_R 131 8 L J (v.toList ++ []) t Q)) ∧
  (∀ (l0 l1 l2 l3 : Option Value) (st : List Value) (h : pb_H) (Q : Option Value → pb_H → Prop) (x : Nat), pb_R 131 8 [l0, l1, l2, l3] [] (.ref x :: st) h Q ↔ pb_R 131 9 [l0, l1, l2, some (.ref x)] [] st h Q) ∧
  (∀ (l0 l1 l2 l3 : Option Value) (st : List Value) (h : pb_H) (Q : Option Value → pb_H → Prop), pb_R 131 8 [l0, l1, l2, l3] [] (.null :: st) h Q ↔ pb_R 131 9 [l0, l1, l2, some .null] [] st h Q) ∧
  (∀ (l0 l1 l2 : Option Value) (st : List Value) (h : pb_H) (Q : Option Value → pb_H → Prop) (x : Nat), pb_R 131 9 [l0, l1, l2, some (.ref x)] [] st h Q ↔ pb_R 131 10 [l0, l1, l2, some (.ref x)] [] (.ref x :: st) h Q) ∧
  (∀ (l0 l1 l2 : Option Value) (st : List Value) (h : pb_H) (Q : Option Value → pb_H → Prop), pb_R 131 9 [l0, l1, l2, some .null] [] st h Q ↔ pb_R 131 10 [l0, l1, l2, some .null] [] (.null :: st) h Q) ∧
  (∀ (L : pb_L) (J : pb_J) (st : List Value) (h : pb_H) (Q : Option Value → pb_H → Prop), pb_R 131 10 L J (.null :: st) h Q ↔ pb_R 131 36 L J st h Q) ∧
  (∀ (L : pb_L) (J : pb_J) (st : List Value) (h : pb_H) (Q : Option Value → pb_H → Prop) (x : Nat), pb_R 131 10 L J (.ref x :: st) h Q ↔ pb_R 131 13 L J st h Q) ∧
  (∀ (l0 l1 l2 : Option Value) (st : List Value) (h : pb_H) (Q : Option Value → pb_H → Prop) (x : Nat), pb_R 131 13 [l0, l1, l2, some (.ref x)] [] st h Q ↔ pb_R 131 14 [l0, l1, l2, some (.ref x)] [] (.ref x :: st) h Q) ∧
  (∀ (l0 l1 l2 : Option Value) (st : List Value) (h : pb_H) (Q : Option Value → pb_H → Prop), pb_R 131 13 [l0, l1, l2, some .null] [] st h Q ↔ pb_R 131 14 [l0, l1, l2, some .null] [] (.null :: st) h Q) ∧
  (∀ (l0 l1 l3 : Option Value) (st : List Value) (h : pb_H) (Q : Option Value → pb_H → Prop) (x : Int32), pb_R 131 14 [l0, l1, some (.int x), l3] [] st h Q ↔ pb_R 131 15 [l0, l1, some (.int x), l3] [] (.int x :: st) h Q) ∧
  (∀ (l0 l1 l3 : Option Value) (st : List Value) (h : pb_H) (Q : Option Value → pb_H → Prop) (x : Int32), pb_R 131 15 [l0, l1, some (.int x), l3] [] st h Q ↔ pb_R 131 16 [l0, l1, some (.int x), l3] [] (.int x :: st) h Q) ∧
  (∀ (L : pb_L) (J : pb_J) (st : List Value) (h : pb_H) (Q : Option Value → pb_H → Prop), pb_R 131 16 L J st h Q ↔ pb_R 131 17 L J (.int (-1 : Int32) :: st) h Q) ∧
  (∀ (L : pb_L) (J : pb_J) (st : List Value) (x y : Int32) (h : pb_H) (Q : Option Value → pb_H → Prop), pb_R 131 17 L J (.int y :: .int x :: st) h Q ↔ pb_R 131 18 L J (.int (x ^^^ y) :: st) h Q) ∧
  (∀ (l1 l2 l3 : Option Value) (st : List Value) (h : pb_H) (Q : Option Value → pb_H → Prop) (x : Nat), pb_R 131 18 [some (.ref x), l1, l2, l3] [] st h Q ↔ pb_R 131 19 [some (.ref x), l1, l2, l3] [] (.ref x :: st) h Q) ∧
  (∀ (l1 l2 l3 : Option Value) (st : List Value) (h : pb_H) (Q : Option Value → pb_H → Prop), pb_R 131 18 [some .null, l1, l2, l3] [] st h Q ↔ pb_R 131 19 [some .null, l1, l2, l3] [] (.null :: st) h Q) ∧
  (∀ (L : pb_L) (J : pb_J) (st : List Value) (h : pb_H) (Q : Option Value → pb_H → Prop) (a : Nat), pb_R 131 19 L J (.ref a :: st) h Q ↔ pb_o (pb_gf (h.2 a) 11 2) (fun v => pb_R 131 22 L J (v :: st) h Q)) ∧
  (∀ (L : pb_L) (J : pb_J) (st : List Value) (h : pb_H) (Q : Option Value → pb_H → Prop) (a : Nat), pb_R 131 22 L J (.ref a :: st) h Q ↔ pb_o (pb_gf (h.2 a) 7 1) (fun v => pb_R 131 25 L J (v :: st) h Q)) ∧
  (∀ (L : pb_L) (J : pb_J) (h : pb_H) (Q : Option Value → pb_H → Prop) (x0 : Nat) (x1 : Int32) (x2 : Int32) (x3 : Nat), pb_R 131 25 L J [.ref x0, .int x1, .int x2, .ref x3] h Q ↔ pb_is0 (h.2 x3) 4 = true ∧ pb_call 71 [.ref x3, .int x2, .int x1, .ref x0] h (fun v t => pb_R 131 28 L J (v.toList ++ []) t Q)) ∧
  (∀ (L : pb_L) (J : pb_J) (st : List Value) (h : pb_H) (Q : Option Value → pb_H → Prop), pb_R 131 28 L J st h Q ↔ pb_R 131 29 L J (.int (-1 : Int32) :: st) h Q) ∧
  (∀ (L : pb_L) (J : pb_J) (st : List Value) (h : pb_H) (Q : Option Value → pb_H → Prop) (x y : Int32), pb_R 131 29 L J (.int y :: .int x :: st) h Q ↔ if x = y then pb_R 131 36 L J st h Q else pb_R 131 32 L J st h Q) ∧
  (∀ (L : pb_L) (J : pb_J) (st : List Value) (h : pb_H) (Q : Option Value → pb_H → Prop), pb_R 131 32 L J st h Q ↔ pb_R 131 33 L J (.int (1 : Int32) :: st) h Q) ∧
  (∀ (L : pb_L) (J : pb_J) (st : List Value) (h : pb_H) (Q : Option Value → pb_H → Prop), pb_R 131 33 L J st h Q ↔ pb_R 131 37 L J st h Q) ∧
  (∀ (L : pb_L) (J : pb_J) (st : List Value) (h : pb_H) (Q : Option Value → pb_H → Prop), pb_R 131 36 L J st h Q ↔ pb_R 131 37 L J (.int (0 : Int32) :: st) h Q) ∧
  (∀ (L : pb_L) (J : pb_J) (h : pb_H) (Q : Option Value → pb_H → Prop) (x : Int32), pb_R 131 37 L J [.int x] h Q ↔ narrow .boolean (.int x) = .int x ∧ Q (some (.int x)) h) := ⟨
  fun l1 l2 l3 st h Q x => pf_S pb_u_131 rfl rfl,
  fun l1 l2 l3 st h Q => pf_S pb_u_131 rfl rfl,
  fun L J st h Q a => pf_gf pb_u_131 rfl rfl,
  fun l0 l2 l3 st h Q x => pf_S pb_u_131 rfl rfl,
  fun L J h Q x0 x1 => pf_kv pb_u_131 rfl pb_ci_46 rfl ⟨Nat.le_of_ble_eq_true rfl, Nat.le_of_ble_eq_true rfl, Nat.le_of_ble_eq_true rfl, Nat.le_of_ble_eq_true rfl, rfl⟩ rfl rfl,
  fun l0 l1 l2 l3 st h Q x => pf_S pb_u_131 rfl rfl,
  fun l0 l1 l2 l3 st h Q => pf_S pb_u_131 rfl rfl,
  fun l0 l1 l2 st h Q x => pf_S pb_u_131 rfl rfl,
  fun l0 l1 l2 st h Q => pf_S pb_u_131 rfl rfl,
  fun L J st h Q => pf_S pb_u_131 rfl rfl,
  fun L J st h Q x => pf_S pb_u_131 rfl rfl,
  fun l0 l1 l2 st h Q x => pf_S pb_u_131 rfl rfl,
  fun l0 l1 l2 st h Q => pf_S pb_u_131 rfl rfl,
  fun l0 l1 l3 st h Q x => pf_S pb_u_131 rfl rfl,
  fun l0 l1 l3 st h Q x => pf_S pb_u_131 rfl rfl,
  fun L J st h Q => pf_S pb_u_131 rfl rfl,
  fun L J st x y h Q => pf_S pb_u_131 rfl rfl,
  fun l1 l2 l3 st h Q x => pf_S pb_u_131 rfl rfl,
  fun l1 l2 l3 st h Q => pf_S pb_u_131 rfl rfl,
  fun L J st h Q a => pf_gf pb_u_131 rfl rfl,
  fun L J st h Q a => pf_gf pb_u_131 rfl rfl,
  fun L J h Q x0 x1 x2 x3 => pf_kv pb_u_131 rfl pb_ci_71 rfl ⟨Nat.le_of_ble_eq_true rfl, Nat.le_of_ble_eq_true rfl, Nat.le_of_ble_eq_true rfl, Nat.le_of_ble_eq_true rfl, rfl⟩ rfl rfl,
  fun L J st h Q => pf_S pb_u_131 rfl rfl,
  fun L J st h Q x y => pf_ic pb_u_131 rfl rfl rfl,
  fun L J st h Q => pf_S pb_u_131 rfl rfl,
  fun L J st h Q => pf_S pb_u_131 rfl rfl,
  fun L J st h Q => pf_S pb_u_131 rfl rfl,
  fun L J h Q x => pf_rz pb_u_131 rfl rfl⟩
theorem pb_c131 (x0 : Nat) (x1 : Int32) (x2 : Int32) (h : pb_H) (Q : Option Value → pb_H → Prop) : pb_call 131 [.ref x0, .int x1, .int x2] h Q ↔ pb_R 131 0 [some (.ref x0), some (.int x1), some (.int x2), none] [] [] h Q := Iff.rfl
/-! 132: PlaneBench.origin(I)I -/
theorem pb_u_132 : pb_t 132 = pb_t132 := rfl
theorem pb_ci_132 : pb_ci 132 = 11 := by decide +kernel
set_option maxRecDepth 100000 in
theorem pb_e132 : (∀ (l1 l2 : Option Value) (st : List Value) (h : pb_H) (Q : Option Value → pb_H → Prop) (x : Nat), pb_R 132 0 [some (.ref x), l1, l2] [] st h Q ↔ pb_R 132 1 [some (.ref x), l1, l2] [] (.ref x :: st) h Q) ∧
  (∀ (l1 l2 : Option Value) (st : List Value) (h : pb_H) (Q : Option Value → pb_H → Prop), pb_R 132 0 [some .null, l1, l2] [] st h Q ↔ pb_R 132 1 [some .null, l1, l2] [] (.null :: st) h Q) ∧
  (∀ (L : pb_L) (J : pb_J) (st : List Value) (h : pb_H) (Q : Option Value → pb_H → Prop) (a : Nat), pb_R 132 1 L J (.ref a :: st) h Q ↔ pb_o (pb_gf (h.2 a) 11 2) (fun v => pb_R 132 4 L J (v :: st) h Q)) ∧
  (∀ (l0 l2 : Option Value) (st : List Value) (h : pb_H) (Q : Option Value → pb_H → Prop) (x : Int32), pb_R 132 4 [l0, some (.int x), l2] [] st h Q ↔ pb_R 132 5 [l0, some (.int x), l2] [] (.int x :: st) h Q) ∧
  (∀ (L : pb_L) (J : pb_J) (h : pb_H) (Q : Option Value → pb_H → Prop) (x0 : Int32) (x1 : Nat), pb_R 132 5 L J [.int x0, .ref x1] h Q ↔ pb_is0 (h.2 x1) 7 = true ∧ pb_call 46 [.ref x1, .int x0] h (fun v t => pb_R 132 8 L J (v.toList ++ []) t Q)) ∧
  (∀ (l0 l1 l2 : Option Value) (st : List Value) (h : pb_H) (Q : Option Value → pb_H → Prop) (x : Nat), pb_R 132 8 [l0, l1, l2] [] (.ref x :: st) h Q ↔ pb_R 132 9 [l0, l1, some (.ref x)] [] st h Q) ∧
  (∀ (l0 l1 l2 : Option Value) (st : List Value) (h : pb_H) (Q : Option Value → pb_H → Prop), pb_R 132 8 [l0, l1, l2] [] (.null :: st) h Q ↔ pb_R 132 9 [l0, l1, some .null] [] st h Q) ∧
  (∀ (l0 l1 : Option Value) (st : List Value) (h : pb_H) (Q : Option Value → pb_H → Prop) (x : Nat), pb_R 132 9 [l0, l1, some (.ref x)] [] st h Q ↔ pb_R 132 10 [l0, l1, some (.ref x)] [] (.ref x :: st) h Q) ∧
  (∀ (l0 l1 : Option Value) (st : List Value) (h : pb_H) (Q : Option Value → pb_H → Prop), pb_R 132 9 [l0, l1, some .null] [] st h Q ↔ pb_R 132 10 [l0, l1, some .null] [] (.null :: st) h Q) ∧
  (∀ (L : pb_L) (J : pb_J) (st : List Value) (h : pb_H) (Q : Option Value → pb_H → Prop), pb_R 132 10 L J (.null :: st) h Q ↔ pb_R 132 13 L J st h Q) ∧
  (∀ (L : pb_L) (J : pb_J) (st : List Value) (h : pb_H) (Q : Option Value → pb_H → Prop) (x : Nat), pb_R 132 10 L J (.ref x :: st) h Q ↔ pb_R 132 17 L J st h Q) ∧
  (∀ (L : pb_L) (J : pb_J) (st : List Value) (h : pb_H) (Q : Option Value → pb_H → Prop), pb_R 132 13 L J st h Q ↔ pb_R 132 14 L J (.int (0 : Int32) :: st) h Q) ∧
  (∀ (L : pb_L) (J : pb_J) (st : List Value) (h : pb_H) (Q : Option Value → pb_H → Prop), pb_R 132 14 L J st h Q ↔ pb_R 132 21 L J st h Q) ∧
  (∀ (l0 l1 : Option Value) (st : List Value) (h : pb_H) (Q : Option Value → pb_H → Prop) (x : Nat), pb_R 132 17 [l0, l1, some (.ref x)] [] st h Q ↔ pb_R 132 18 [l0, l1, some (.ref x)] [] (.ref x :: st) h Q) ∧
  (∀ (l0 l1 : Option Value) (st : List Value) (h : pb_H) (Q : Option Value → pb_H → Prop), pb_R 132 17 [l0, l1, some .null] [] st h Q ↔ pb_R 132 18 [l0, l1, some .null] [] (.null :: st) h Q) ∧
  (∀ (L : pb_L) (J : pb_J) (st : List Value) (h : pb_H) (Q : Option Value → pb_H → Prop) (a : Nat), pb_R 132 18 L J (.ref a :: st) h Q ↔ pb_o (pb_gf (h.2 a) 4 5) (fun v => pb_R 132 21 L J (v :: st) h Q)) ∧
  (∀ (L : pb_L) (J : pb_J) (h : pb_H) (Q : Option Value → pb_H → Prop) (x : Int32), pb_R 132 21 L J [.int x] h Q ↔ Q (some (.int x)) h) := ⟨
  fun l1 l2 st h Q x => pf_S pb_u_132 rfl rfl,
  fun l1 l2 st h Q => pf_S pb_u_132 rfl rfl,
  fun L J st h Q a => pf_gf pb_u_132 rfl rfl,
  fun l0 l2 st h Q x => pf_S pb_u_132 rfl rfl,
  fun L J h Q x0 x1 => pf_kv pb_u_132 rfl pb_ci_46 rfl ⟨Nat.le_of_ble_eq_true rfl, Nat.le_of_ble_eq_true rfl, Nat.le_of_ble_eq_true rfl, Nat.le_of_ble_eq_true rfl, rfl⟩ rfl rfl,
  fun l0 l1 l2 st h Q x => pf_S pb_u_132 rfl rfl,
  fun l0 l1 l2 st h Q => pf_S pb_u_132 rfl rfl,
  fun l0 l1 st h Q x => pf_S pb_u_132 rfl rfl,
  fun l0 l1 st h Q => pf_S pb_u_132 rfl rfl,
  fun L J st h Q => pf_S pb_u_132 rfl rfl,
  fun L J st h Q x => pf_S pb_u_132 rfl rfl,
  fun L J st h Q => pf_S pb_u_132 rfl rfl,
  fun L J st h Q => pf_S pb_u_132 rfl rfl,
  fun l0 l1 st h Q x => pf_S pb_u_132 rfl rfl,
  fun l0 l1 st h Q => pf_S pb_u_132 rfl rfl,
  fun L J st h Q a => pf_gf pb_u_132 rfl rfl,
  fun L J h Q x => pf_ri pb_u_132 rfl rfl⟩
theorem pb_c132 (x0 : Nat) (x1 : Int32) (h : pb_H) (Q : Option Value → pb_H → Prop) : pb_call 132 [.ref x0, .int x1] h Q ↔ pb_R 132 0 [some (.ref x0), some (.int x1), none] [] [] h Q := Iff.rfl
/-! 133: PlaneBench.begin()Z -/
theorem pb_u_133 : pb_t 133 = pb_t133 := rfl
theorem pb_ci_133 : pb_ci 133 = 11 := by decide +kernel
set_option maxRecDepth 100000 in
theorem pb_e133 : (∀ (st : List Value) (h : pb_H) (Q : Option Value → pb_H → Prop) (x : Nat), pb_R 133 0 [some (.ref x)] [] st h Q ↔ pb_R 133 1 [some (.ref x)] [] (.ref x :: st) h Q) ∧
  (∀ (st : List Value) (h : pb_H) (Q : Option Value → pb_H → Prop), pb_R 133 0 [some .null] [] st h Q ↔ pb_R 133 1 [some .null] [] (.null :: st) h Q) ∧
  (∀ (L : pb_L) (J : pb_J) (st : List Value) (h : pb_H) (Q : Option Value → pb_H → Prop) (a : Nat), pb_R 133 1 L J (.ref a :: st) h Q ↔ pb_o (pb_gf (h.2 a) 11 6) (fun v => pb_R 133 4 L J (v :: st) h Q)) ∧
  (∀ (L : pb_L) (J : pb_J) (h : pb_H) (Q : Option Value → pb_H → Prop) (x0 : Nat), pb_R 133 4 L J [.ref x0] h Q ↔ pb_is0 (h.2 x0) 6 = true ∧ pb_call 97 [.ref x0] h (fun v t => pb_R 133 7 L J (v.toList ++ []) t Q)) ∧
  (∀ (L : pb_L) (J : pb_J) (st : List Value) (h : pb_H) (Q : Option Value → pb_H → Prop), pb_R 133 7 L J st h Q ↔ pb_R 133 8 L J (.int (1 : Int32) :: st) h Q) ∧
  (∀ (L : pb_L) (J : pb_J) (h : pb_H) (Q : Option Value → pb_H → Prop) (x : Int32), pb_R 133 8 L J [.int x] h Q ↔ narrow .boolean (.int x) = .int x ∧ Q (some (.int x)) h) := ⟨
  fun st h Q x => pf_S pb_u_133 rfl rfl,
  fun st h Q => pf_S pb_u_133 rfl rfl,
  fun L J st h Q a => pf_gf pb_u_133 rfl rfl,
  fun L J h Q x0 => pf_kv pb_u_133 rfl pb_ci_97 rfl ⟨Nat.le_of_ble_eq_true rfl, Nat.le_of_ble_eq_true rfl, Nat.le_of_ble_eq_true rfl, Nat.le_of_ble_eq_true rfl, rfl⟩ rfl rfl,
  fun L J st h Q => pf_S pb_u_133 rfl rfl,
  fun L J h Q x => pf_rz pb_u_133 rfl rfl⟩
theorem pb_c133 (x0 : Nat) (h : pb_H) (Q : Option Value → pb_H → Prop) : pb_call 133 [.ref x0] h Q ↔ pb_R 133 0 [some (.ref x0)] [] [] h Q := Iff.rfl
/-! 134: PlaneBench.run(I)I -/
theorem pb_u_134 : pb_t 134 = pb_t134 := rfl
theorem pb_ci_134 : pb_ci 134 = 11 := by decide +kernel
set_option maxRecDepth 100000 in
theorem pb_q134_25 (l0 l1 : Option Value) (st : List Value) (h : pb_H) (Q : Option Value → pb_H → Prop) (x : Int32) : pb_R 134 25 [l0, l1, some (.int x)] [] st h Q ↔ pb_R 134 26 [l0, l1, some (.int x)] [] (.int x :: st) h Q := pf_S pb_u_134 rfl rfl
set_option maxRecDepth 100000 in
theorem pb_e134 : (∀ (l1 l2 : Option Value) (st : List Value) (h : pb_H) (Q : Option Value → pb_H → Prop) (x : Nat), pb_R 134 0 [some (.ref x), l1, l2] [] st h Q ↔ pb_R 134 1 [some (.ref x), l1, l2] [] (.ref x :: st) h Q) ∧
  (∀ (l1 l2 : Option Value) (st : List Value) (h : pb_H) (Q : Option Value → pb_H → Prop), pb_R 134 0 [some .null, l1, l2] [] st h Q ↔ pb_R 134 1 [some .null, l1, l2] [] (.null :: st) h Q) ∧
  (∀ (L : pb_L) (J : pb_J) (st : List Value) (h : pb_H) (Q : Option Value → pb_H → Prop) (a : Nat), pb_R 134 1 L J (.ref a :: st) h Q ↔ pb_o (pb_gf (h.2 a) 11 6) (fun v => pb_R 134 4 L J (v :: st) h Q)) ∧
  (∀ (L : pb_L) (J : pb_J) (st : List Value) (h : pb_H) (Q : Option Value → pb_H → Prop) (a : Nat), pb_R 134 4 L J (.ref a :: st) h Q ↔ pb_o (pb_gf (h.2 a) 6 3) (fun v => pb_R 134 7 L J (v :: st) h Q)) ∧
  (∀ (L : pb_L) (J : pb_J) (st : List Value) (h : pb_H) (Q : Option Value → pb_H → Prop) (x : Int32), pb_R 134 7 L J (.int x :: st) h Q ↔ if x = 0 then pb_R 134 21 L J st h Q else pb_R 134 10 L J st h Q) ∧
  (∀ (l0 l2 : Option Value) (st : List Value) (h : pb_H) (Q : Option Value → pb_H → Prop) (x : Int32), pb_R 134 10 [l0, some (.int x), l2] [] st h Q ↔ pb_R 134 11 [l0, some (.int x), l2] [] (.int x :: st) h Q) ∧
  (∀ (L : pb_L) (J : pb_J) (st : List Value) (h : pb_H) (Q : Option Value → pb_H → Prop) (x : Int32), pb_R 134 11 L J (.int x :: st) h Q ↔ if x < 0 then pb_R 134 21 L J st h Q else pb_R 134 14 L J st h Q) ∧
  (∀ (l0 l2 : Option Value) (st : List Value) (h : pb_H) (Q : Option Value → pb_H → Prop) (x : Int32), pb_R 134 14 [l0, some (.int x), l2] [] st h Q ↔ pb_R 134 15 [l0, some (.int x), l2] [] (.int x :: st) h Q) ∧
  (∀ (L : pb_L) (J : pb_J) (st : List Value) (h : pb_H) (Q : Option Value → pb_H → Prop), pb_R 134 15 L J st h Q ↔ pb_R 134 18 L J (.int (500 : Int32) :: st) h Q) ∧
  (∀ (L : pb_L) (J : pb_J) (st : List Value) (h : pb_H) (Q : Option Value → pb_H → Prop) (x y : Int32), pb_R 134 18 L J (.int y :: .int x :: st) h Q ↔ if x ≤ y then pb_R 134 23 L J st h Q else pb_R 134 21 L J st h Q) ∧
  (∀ (L : pb_L) (J : pb_J) (st : List Value) (h : pb_H) (Q : Option Value → pb_H → Prop), pb_R 134 21 L J st h Q ↔ pb_R 134 22 L J (.int (-1 : Int32) :: st) h Q) ∧
  (∀ (L : pb_L) (J : pb_J) (h : pb_H) (Q : Option Value → pb_H → Prop) (x : Int32), pb_R 134 22 L J [.int x] h Q ↔ Q (some (.int x)) h) ∧
  (∀ (L : pb_L) (J : pb_J) (st : List Value) (h : pb_H) (Q : Option Value → pb_H → Prop), pb_R 134 23 L J st h Q ↔ pb_R 134 24 L J (.int (0 : Int32) :: st) h Q) ∧
  (∀ (l0 l1 l2 : Option Value) (st : List Value) (h : pb_H) (Q : Option Value → pb_H → Prop) (x : Int32), pb_R 134 24 [l0, l1, l2] [] (.int x :: st) h Q ↔ pb_R 134 25 [l0, l1, some (.int x)] [] st h Q) ∧
  (∀ (l0 l2 : Option Value) (st : List Value) (h : pb_H) (Q : Option Value → pb_H → Prop) (x : Int32), pb_R 134 26 [l0, some (.int x), l2] [] st h Q ↔ pb_R 134 27 [l0, some (.int x), l2] [] (.int x :: st) h Q) ∧
  (∀ (L : pb_L) (J : pb_J) (st : List Value) (h : pb_H) (Q : Option Value → pb_H → Prop) (x y : Int32), pb_R 134 27 L J (.int y :: .int x :: st) h Q ↔ if y ≤ x then pb_R 134 54 L J st h Q else pb_R 134 30 L J st h Q) ∧
  (∀ (l1 l2 : Option Value) (st : List Value) (h : pb_H) (Q : Option Value → pb_H → Prop) (x : Nat), pb_R 134 30 [some (.ref x), l1, l2] [] st h Q ↔ pb_R 134 31 [some (.ref x), l1, l2] [] (.ref x :: st) h Q) ∧
  (∀ (l1 l2 : Option Value) (st : List Value) (h : pb_H) (Q : Option Value → pb_H → Prop), pb_R 134 30 [some .null, l1, l2] [] st h Q ↔ pb_R 134 31 [some .null, l1, l2] [] (.null :: st) h Q) ∧
  (∀ (L : pb_L) (J : pb_J) (st : List Value) (h : pb_H) (Q : Option Value → pb_H → Prop) (a : Nat), pb_R 134 31 L J (.ref a :: st) h Q ↔ pb_o (pb_gf (h.2 a) 11 6) (fun v => pb_R 134 34 L J (v :: st) h Q)) ∧
  (∀ (L : pb_L) (J : pb_J) (st : List Value) (h : pb_H) (Q : Option Value → pb_H → Prop) (a : Nat), pb_R 134 34 L J (.ref a :: st) h Q ↔ pb_o (pb_gf (h.2 a) 6 3) (fun v => pb_R 134 37 L J (v :: st) h Q)) ∧
  (∀ (L : pb_L) (J : pb_J) (st : List Value) (h : pb_H) (Q : Option Value → pb_H → Prop), pb_R 134 37 L J st h Q ↔ pb_R 134 38 L J (.int (1 : Int32) :: st) h Q) ∧
  (∀ (L : pb_L) (J : pb_J) (st : List Value) (h : pb_H) (Q : Option Value → pb_H → Prop) (x y : Int32), pb_R 134 38 L J (.int y :: .int x :: st) h Q ↔ if ¬ x = y then pb_R 134 54 L J st h Q else pb_R 134 41 L J st h Q) ∧
  (∀ (l1 l2 : Option Value) (st : List Value) (h : pb_H) (Q : Option Value → pb_H → Prop) (x : Nat), pb_R 134 41 [some (.ref x), l1, l2] [] st h Q ↔ pb_R 134 42 [some (.ref x), l1, l2] [] (.ref x :: st) h Q) ∧
  (∀ (l1 l2 : Option Value) (st : List Value) (h : pb_H) (Q : Option Value → pb_H → Prop), pb_R 134 41 [some .null, l1, l2] [] st h Q ↔ pb_R 134 42 [some .null, l1, l2] [] (.null :: st) h Q) ∧
  (∀ (L : pb_L) (J : pb_J) (st : List Value) (h : pb_H) (Q : Option Value → pb_H → Prop) (a : Nat), pb_R 134 42 L J (.ref a :: st) h Q ↔ pb_o (pb_gf (h.2 a) 11 6) (fun v => pb_R 134 45 L J (v :: st) h Q)) ∧
  (∀ (L : pb_L) (J : pb_J) (h : pb_H) (Q : Option Value → pb_H → Prop) (x0 : Nat), pb_R 134 45 L J [.ref x0] h Q ↔ pb_is0 (h.2 x0) 6 = true ∧ pb_call 117 [.ref x0] h (fun v t => pb_R 134 48 L J (v.toList ++ []) t Q)) ∧
  (∀ (l0 l1 : Option Value) (st : List Value) (h : pb_H) (Q : Option Value → pb_H → Prop) (x : Int32), pb_R 134 48 [l0, l1, some (.int x)] [] st h Q ↔ pb_R 134 51 [l0, l1, some (.int (x + (1 : Int32)))] [] st h Q) ∧
  (∀ (L : pb_L) (J : pb_J) (st : List Value) (h : pb_H) (Q : Option Value → pb_H → Prop), pb_R 134 51 L J st h Q ↔ pb_R 134 25 L J st h Q) ∧
  (∀ (l0 l1 : Option Value) (st : List Value) (h : pb_H) (Q : Option Value → pb_H → Prop) (x : Int32), pb_R 134 54 [l0, l1, some (.int x)] [] st h Q ↔ pb_R 134 55 [l0, l1, some (.int x)] [] (.int x :: st) h Q) ∧
  (∀ (L : pb_L) (J : pb_J) (h : pb_H) (Q : Option Value → pb_H → Prop) (x : Int32), pb_R 134 55 L J [.int x] h Q ↔ Q (some (.int x)) h) := ⟨
  fun l1 l2 st h Q x => pf_S pb_u_134 rfl rfl,
  fun l1 l2 st h Q => pf_S pb_u_134 rfl rfl,
  fun L J st h Q a => pf_gf pb_u_134 rfl rfl,
  fun L J st h Q a => pf_gf pb_u_134 rfl rfl,
  fun L J st h Q x => pf_ii pb_u_134 rfl rfl rfl,
  fun l0 l2 st h Q x => pf_S pb_u_134 rfl rfl,
  fun L J st h Q x => pf_ii pb_u_134 rfl rfl rfl,
  fun l0 l2 st h Q x => pf_S pb_u_134 rfl rfl,
  fun L J st h Q => pf_S pb_u_134 rfl rfl,
  fun L J st h Q x y => pf_ic pb_u_134 rfl rfl rfl,
  fun L J st h Q => pf_S pb_u_134 rfl rfl,
  fun L J h Q x => pf_ri pb_u_134 rfl rfl,
  fun L J st h Q => pf_S pb_u_134 rfl rfl,
  fun l0 l1 l2 st h Q x => pf_S pb_u_134 rfl rfl,
  fun l0 l2 st h Q x => pf_S pb_u_134 rfl rfl,
  fun L J st h Q x y => pf_ic pb_u_134 rfl rfl rfl,
  fun l1 l2 st h Q x => pf_S pb_u_134 rfl rfl,
  fun l1 l2 st h Q => pf_S pb_u_134 rfl rfl,
  fun L J st h Q a => pf_gf pb_u_134 rfl rfl,
  fun L J st h Q a => pf_gf pb_u_134 rfl rfl,
  fun L J st h Q => pf_S pb_u_134 rfl rfl,
  fun L J st h Q x y => pf_ic pb_u_134 rfl rfl pf_ne,
  fun l1 l2 st h Q x => pf_S pb_u_134 rfl rfl,
  fun l1 l2 st h Q => pf_S pb_u_134 rfl rfl,
  fun L J st h Q a => pf_gf pb_u_134 rfl rfl,
  fun L J h Q x0 => pf_kv pb_u_134 rfl pb_ci_117 rfl ⟨Nat.le_of_ble_eq_true rfl, Nat.le_of_ble_eq_true rfl, Nat.le_of_ble_eq_true rfl, Nat.le_of_ble_eq_true rfl, rfl⟩ rfl rfl,
  fun l0 l1 st h Q x => pf_S pb_u_134 rfl rfl,
  fun L J st h Q => pf_S pb_u_134 rfl rfl,
  fun l0 l1 st h Q x => pf_S pb_u_134 rfl rfl,
  fun L J h Q x => pf_ri pb_u_134 rfl rfl⟩
theorem pb_c134 (x0 : Nat) (x1 : Int32) (h : pb_H) (Q : Option Value → pb_H → Prop) : pb_call 134 [.ref x0, .int x1] h Q ↔ pb_R 134 0 [some (.ref x0), some (.int x1), none] [] [] h Q := Iff.rfl
/-! 135: PlaneBench.value(I)I -/
theorem pb_u_135 : pb_t 135 = pb_t135 := rfl
theorem pb_ci_135 : pb_ci 135 = 11 := by decide +kernel
set_option maxRecDepth 100000 in
theorem pb_e135 : (∀ (l0 : Option Value) (st : List Value) (h : pb_H) (Q : Option Value → pb_H → Prop) (x : Int32), pb_R 135 0 [l0, some (.int x)] [] st h Q ↔ pb_R 135 1 [l0, some (.int x)] [] (.int x :: st) h Q) ∧
  (∀ (L : pb_L) (J : pb_J) (st : List Value) (h : pb_H) (Q : Option Value → pb_H → Prop), pb_R 135 1 L J st h Q ↔ pb_R 135 2 L J (.int (1 : Int32) :: st) h Q) ∧
  (∀ (L : pb_L) (J : pb_J) (st : List Value) (h : pb_H) (Q : Option Value → pb_H → Prop) (x y : Int32), pb_R 135 2 L J (.int y :: .int x :: st) h Q ↔ if x < y then pb_R 135 13 L J st h Q else pb_R 135 5 L J st h Q) ∧
  (∀ (l0 : Option Value) (st : List Value) (h : pb_H) (Q : Option Value → pb_H → Prop) (x : Int32), pb_R 135 5 [l0, some (.int x)] [] st h Q ↔ pb_R 135 6 [l0, some (.int x)] [] (.int x :: st) h Q) ∧
  (∀ (l1 : Option Value) (st : List Value) (h : pb_H) (Q : Option Value → pb_H → Prop) (x : Nat), pb_R 135 6 [some (.ref x), l1] [] st h Q ↔ pb_R 135 7 [some (.ref x), l1] [] (.ref x :: st) h Q) ∧
  (∀ (l1 : Option Value) (st : List Value) (h : pb_H) (Q : Option Value → pb_H → Prop), pb_R 135 6 [some .null, l1] [] st h Q ↔ pb_R 135 7 [some .null, l1] [] (.null :: st) h Q) ∧
  (∀ (L : pb_L) (J : pb_J) (st : List Value) (h : pb_H) (Q : Option Value → pb_H → Prop) (a : Nat), pb_R 135 7 L J (.ref a :: st) h Q ↔ pb_o (pb_gf (h.2 a) 11 0) (fun v => pb_R 135 10 L J (v :: st) h Q)) ∧
  (∀ (L : pb_L) (J : pb_J) (st : List Value) (h : pb_H) (Q : Option Value → pb_H → Prop) (x y : Int32), pb_R 135 10 L J (.int y :: .int x :: st) h Q ↔ if x ≤ y then pb_R 135 15 L J st h Q else pb_R 135 13 L J st h Q) ∧
  (∀ (L : pb_L) (J : pb_J) (st : List Value) (h : pb_H) (Q : Option Value → pb_H → Prop), pb_R 135 13 L J st h Q ↔ pb_R 135 14 L J (.int (-1 : Int32) :: st) h Q) ∧
  (∀ (L : pb_L) (J : pb_J) (h : pb_H) (Q : Option Value → pb_H → Prop) (x : Int32), pb_R 135 14 L J [.int x] h Q ↔ Q (some (.int x)) h) ∧
  (∀ (l1 : Option Value) (st : List Value) (h : pb_H) (Q : Option Value → pb_H → Prop) (x : Nat), pb_R 135 15 [some (.ref x), l1] [] st h Q ↔ pb_R 135 16 [some (.ref x), l1] [] (.ref x :: st) h Q) ∧
  (∀ (l1 : Option Value) (st : List Value) (h : pb_H) (Q : Option Value → pb_H → Prop), pb_R 135 15 [some .null, l1] [] st h Q ↔ pb_R 135 16 [some .null, l1] [] (.null :: st) h Q) ∧
  (∀ (L : pb_L) (J : pb_J) (st : List Value) (h : pb_H) (Q : Option Value → pb_H → Prop) (a : Nat), pb_R 135 16 L J (.ref a :: st) h Q ↔ pb_o (pb_gf (h.2 a) 11 6) (fun v => pb_R 135 19 L J (v :: st) h Q)) ∧
  (∀ (L : pb_L) (J : pb_J) (st : List Value) (h : pb_H) (Q : Option Value → pb_H → Prop) (a : Nat), pb_R 135 19 L J (.ref a :: st) h Q ↔ pb_o (pb_gf (h.2 a) 6 1) (fun v => pb_R 135 22 L J (v :: st) h Q)) ∧
  (∀ (l0 : Option Value) (st : List Value) (h : pb_H) (Q : Option Value → pb_H → Prop) (x : Int32), pb_R 135 22 [l0, some (.int x)] [] st h Q ↔ pb_R 135 23 [l0, some (.int x)] [] (.int x :: st) h Q) ∧
  (∀ (L : pb_L) (J : pb_J) (h : pb_H) (Q : Option Value → pb_H → Prop) (x0 : Int32) (x1 : Nat), pb_R 135 23 L J [.int x0, .ref x1] h Q ↔ pb_is0 (h.2 x1) 9 = true ∧ pb_call 122 [.ref x1, .int x0] h (fun v t => pb_R 135 26 L J (v.toList ++ []) t Q)) ∧
  (∀ (L : pb_L) (J : pb_J) (h : pb_H) (Q : Option Value → pb_H → Prop) (x : Int32), pb_R 135 26 L J [.int x] h Q ↔ Q (some (.int x)) h) := ⟨
  fun l0 st h Q x => pf_S pb_u_135 rfl rfl,
  fun L J st h Q => pf_S pb_u_135 rfl rfl,
  fun L J st h Q x y => pf_ic pb_u_135 rfl rfl rfl,
  fun l0 st h Q x => pf_S pb_u_135 rfl rfl,
  fun l1 st h Q x => pf_S pb_u_135 rfl rfl,
  fun l1 st h Q => pf_S pb_u_135 rfl rfl,
  fun L J st h Q a => pf_gf pb_u_135 rfl rfl,
  fun L J st h Q x y => pf_ic pb_u_135 rfl rfl rfl,
  fun L J st h Q => pf_S pb_u_135 rfl rfl,
  fun L J h Q x => pf_ri pb_u_135 rfl rfl,
  fun l1 st h Q x => pf_S pb_u_135 rfl rfl,
  fun l1 st h Q => pf_S pb_u_135 rfl rfl,
  fun L J st h Q a => pf_gf pb_u_135 rfl rfl,
  fun L J st h Q a => pf_gf pb_u_135 rfl rfl,
  fun l0 st h Q x => pf_S pb_u_135 rfl rfl,
  fun L J h Q x0 x1 => pf_kv pb_u_135 rfl pb_ci_122 rfl ⟨Nat.le_of_ble_eq_true rfl, Nat.le_of_ble_eq_true rfl, Nat.le_of_ble_eq_true rfl, Nat.le_of_ble_eq_true rfl, rfl⟩ rfl rfl,
  fun L J h Q x => pf_ri pb_u_135 rfl rfl⟩
theorem pb_c135 (x0 : Nat) (x1 : Int32) (h : pb_H) (Q : Option Value → pb_H → Prop) : pb_call 135 [.ref x0, .int x1] h Q ↔ pb_R 135 0 [some (.ref x0), some (.int x1)] [] [] h Q := Iff.rfl
/-! 136: PlaneBench.trail(II)I -/
theorem pb_u_136 : pb_t 136 = pb_t136 := rfl
theorem pb_ci_136 : pb_ci 136 = 11 := by decide +kernel
set_option maxRecDepth 100000 in
theorem pb_q136_21 (L : pb_L) (J : pb_J) (st : List Value) (h : pb_H) (Q : Option Value → pb_H → Prop) (x : Int32) : pb_R 136 21 L J (.int x :: st) h Q ↔ if x = 0 then pb_R 136 48 L J st h Q else (if x = 1 then pb_R 136 61 L J st h Q else (if x = 2 then pb_R 136 74 L J st h Q else (pb_R 136 87 L J st h Q))) := by
  by_cases c0 : x = 0
  · subst c0
    rw [if_pos rfl]
    exact pf_S pb_u_136 rfl rfl
  rw [if_neg c0]
  by_cases c1 : x = 1
  · subst c1
    rw [if_pos rfl]
    exact pf_S pb_u_136 rfl rfl
  rw [if_neg c1]
  by_cases c2 : x = 2
  · subst c2
    rw [if_pos rfl]
    exact pf_S pb_u_136 rfl rfl
  rw [if_neg c2]
  refine pf_S pb_u_136 rfl ?_
  have hout : x.toInt < 0 ∨ 2 < x.toInt := by
    apply Classical.byContradiction
    intro hc
    have h2 : x.toInt = 0 ∨ x.toInt = 1 ∨ x.toInt = 2 := by omega
    rcases h2 with h2 | h2 | h2
    · exact pf_ni (k := 0) (fun e => c0 (e.trans rfl)) h2
    · exact pf_ni (k := 1) (fun e => c1 (e.trans rfl)) h2
    · exact pf_ni (k := 2) (fun e => c2 (e.trans rfl)) h2
  simp only [pb_S, pb_A, pb_B, pb_C, if_pos hout]
  rfl
set_option maxRecDepth 100000 in
theorem pb_e136 : (∀ (l0 l2 : Option Value) (st : List Value) (h : pb_H) (Q : Option Value → pb_H → Prop) (x : Int32), pb_R 136 0 [l0, some (.int x), l2] [] st h Q ↔ pb_R 136 1 [l0, some (.int x), l2] [] (.int x :: st) h Q) ∧
  (∀ (L : pb_L) (J : pb_J) (st : List Value) (h : pb_H) (Q : Option Value → pb_H → Prop) (x : Int32), pb_R 136 1 L J (.int x :: st) h Q ↔ if x < 0 then pb_R 136 18 L J st h Q else pb_R 136 4 L J st h Q) ∧
  (∀ (l0 l2 : Option Value) (st : List Value) (h : pb_H) (Q : Option Value → pb_H → Prop) (x : Int32), pb_R 136 4 [l0, some (.int x), l2] [] st h Q ↔ pb_R 136 5 [l0, some (.int x), l2] [] (.int x :: st) h Q) ∧
  (∀ (l1 l2 : Option Value) (st : List Value) (h : pb_H) (Q : Option Value → pb_H → Prop) (x : Nat), pb_R 136 5 [some (.ref x), l1, l2] [] st h Q ↔ pb_R 136 6 [some (.ref x), l1, l2] [] (.ref x :: st) h Q) ∧
  (∀ (l1 l2 : Option Value) (st : List Value) (h : pb_H) (Q : Option Value → pb_H → Prop), pb_R 136 5 [some .null, l1, l2] [] st h Q ↔ pb_R 136 6 [some .null, l1, l2] [] (.null :: st) h Q) ∧
  (∀ (L : pb_L) (J : pb_J) (st : List Value) (h : pb_H) (Q : Option Value → pb_H → Prop) (a : Nat), pb_R 136 6 L J (.ref a :: st) h Q ↔ pb_o (pb_gf (h.2 a) 11 6) (fun v => pb_R 136 9 L J (v :: st) h Q)) ∧
  (∀ (L : pb_L) (J : pb_J) (st : List Value) (h : pb_H) (Q : Option Value → pb_H → Prop) (a : Nat), pb_R 136 9 L J (.ref a :: st) h Q ↔ pb_o (pb_gf (h.2 a) 6 1) (fun v => pb_R 136 12 L J (v :: st) h Q)) ∧
  (∀ (L : pb_L) (J : pb_J) (st : List Value) (h : pb_H) (Q : Option Value → pb_H → Prop) (a : Nat), pb_R 136 12 L J (.ref a :: st) h Q ↔ pb_o (pb_gf (h.2 a) 9 4) (fun v => pb_R 136 15 L J (v :: st) h Q)) ∧
  (∀ (L : pb_L) (J : pb_J) (st : List Value) (h : pb_H) (Q : Option Value → pb_H → Prop) (x y : Int32), pb_R 136 15 L J (.int y :: .int x :: st) h Q ↔ if x < y then pb_R 136 20 L J st h Q else pb_R 136 18 L J st h Q) ∧
  (∀ (L : pb_L) (J : pb_J) (st : List Value) (h : pb_H) (Q : Option Value → pb_H → Prop), pb_R 136 18 L J st h Q ↔ pb_R 136 19 L J (.int (0 : Int32) :: st) h Q) ∧
  (∀ (L : pb_L) (J : pb_J) (h : pb_H) (Q : Option Value → pb_H → Prop) (x : Int32), pb_R 136 19 L J [.int x] h Q ↔ Q (some (.int x)) h) ∧
  (∀ (l0 l1 : Option Value) (st : List Value) (h : pb_H) (Q : Option Value → pb_H → Prop) (x : Int32), pb_R 136 20 [l0, l1, some (.int x)] [] st h Q ↔ pb_R 136 21 [l0, l1, some (.int x)] [] (.int x :: st) h Q) ∧
  (∀ (L : pb_L) (J : pb_J) (st : List Value) (h : pb_H) (Q : Option Value → pb_H → Prop) (x : Int32), pb_R 136 21 L J (.int x :: st) h Q ↔ if x = 0 then pb_R 136 48 L J st h Q else (if x = 1 then pb_R 136 61 L J st h Q else (if x = 2 then pb_R 136 74 L J st h Q else (pb_R 136 87 L J st h Q)))) ∧
  (∀ (l1 l2 : Option Value) (st : List Value) (h : pb_H) (Q : Option Value → pb_H → Prop) (x : Nat), pb_R 136 48 [some (.ref x), l1, l2] [] st h Q ↔ pb_R 136 49 [some (.ref x), l1, l2] [] (.ref x :: st) h Q) ∧
  (∀ (l1 l2 : Option Value) (st : List Value) (h : pb_H) (Q : Option Value → pb_H → Prop), pb_R 136 48 [some .null, l1, l2] [] st h Q ↔ pb_R 136 49 [some .null, l1, l2] [] (.null :: st) h Q) ∧
  (∀ (L : pb_L) (J : pb_J) (st : List Value) (h : pb_H) (Q : Option Value → pb_H → Prop) (a : Nat), pb_R 136 49 L J (.ref a :: st) h Q ↔ pb_o (pb_gf (h.2 a) 11 6) (fun v => pb_R 136 52 L J (v :: st) h Q)) ∧
  (∀ (L : pb_L) (J : pb_J) (st : List Value) (h : pb_H) (Q : Option Value → pb_H → Prop) (a : Nat), pb_R 136 52 L J (.ref a :: st) h Q ↔ pb_o (pb_gf (h.2 a) 6 1) (fun v => pb_R 136 55 L J (v :: st) h Q)) ∧
  (∀ (L : pb_L) (J : pb_J) (st : List Value) (h : pb_H) (Q : Option Value → pb_H → Prop) (a : Nat), pb_R 136 55 L J (.ref a :: st) h Q ↔ pb_o (pb_gf (h.2 a) 9 1) (fun v => pb_R 136 58 L J (v :: st) h Q)) ∧
  (∀ (l0 l2 : Option Value) (st : List Value) (h : pb_H) (Q : Option Value → pb_H → Prop) (x : Int32), pb_R 136 58 [l0, some (.int x), l2] [] st h Q ↔ pb_R 136 59 [l0, some (.int x), l2] [] (.int x :: st) h Q) ∧
  (∀ (L : pb_L) (J : pb_J) (st : List Value) (h : pb_H) (Q : Option Value → pb_H → Prop) (a : Nat) (i : Int32), pb_R 136 59 L J (.int i :: .ref a :: st) h Q ↔ pb_o (pb_ai (h.2 a) i) (fun v => pb_R 136 60 L J (.int v :: st) h Q)) ∧
  (∀ (L : pb_L) (J : pb_J) (h : pb_H) (Q : Option Value → pb_H → Prop) (x : Int32), pb_R 136 60 L J [.int x] h Q ↔ Q (some (.int x)) h) ∧
  (∀ (l1 l2 : Option Value) (st : List Value) (h : pb_H) (Q : Option Value → pb_H → Prop) (x : Nat), pb_R 136 61 [some (.ref x), l1, l2] [] st h Q ↔ pb_R 136 62 [some (.ref x), l1, l2] [] (.ref x :: st) h Q) ∧
  (∀ (l1 l2 : Option Value) (st : List Value) (h : pb_H) (Q : Option Value → pb_H → Prop), pb_R 136 61 [some .null, l1, l2] [] st h Q ↔ pb_R 136 62 [some .null, l1, l2] [] (.null :: st) h Q) ∧
  (∀ (L : pb_L) (J : pb_J) (st : List Value) (h : pb_H) (Q : Option Value → pb_H → Prop) (a : Nat), pb_R 136 62 L J (.ref a :: st) h Q ↔ pb_o (pb_gf (h.2 a) 11 6) (fun v => pb_R 136 65 L J (v :: st) h Q)) ∧
  (∀ (L : pb_L) (J : pb_J) (st : List Value) (h : pb_H) (Q : Option Value → pb_H → Prop) (a : Nat), pb_R 136 65 L J (.ref a :: st) h Q ↔ pb_o (pb_gf (h.2 a) 6 1) (fun v => pb_R 136 68 L J (v :: st) h Q)) ∧
  (∀ (L : pb_L) (J : pb_J) (st : List Value) (h : pb_H) (Q : Option Value → pb_H → Prop) (a : Nat), pb_R 136 68 L J (.ref a :: st) h Q ↔ pb_o (pb_gf (h.2 a) 9 2) (fun v => pb_R 136 71 L J (v :: st) h Q)) ∧
  (∀ (l0 l2 : Option Value) (st : List Value) (h : pb_H) (Q : Option Value → pb_H → Prop) (x : Int32), pb_R 136 71 [l0, some (.int x), l2] [] st h Q ↔ pb_R 136 72 [l0, some (.int x), l2] [] (.int x :: st) h Q) ∧
  (∀ (L : pb_L) (J : pb_J) (st : List Value) (h : pb_H) (Q : Option Value → pb_H → Prop) (a : Nat) (i : Int32), pb_R 136 72 L J (.int i :: .ref a :: st) h Q ↔ pb_o (pb_ai (h.2 a) i) (fun v => pb_R 136 73 L J (.int v :: st) h Q)) ∧
  (∀ (L : pb_L) (J : pb_J) (h : pb_H) (Q : Option Value → pb_H → Prop) (x : Int32), pb_R 136 73 L J [.int x] h Q ↔ Q (some (.int x)) h) ∧
  (∀ (l1 l2 : Option Value) (st : List Value) (h : pb_H) (Q : Option Value → pb_H → Prop) (x : Nat), pb_R 136 74 [some (.ref x), l1, l2] [] st h Q ↔ pb_R 136 75 [some (.ref x), l1, l2] [] (.ref x :: st) h Q) ∧
  (∀ (l1 l2 : Option Value) (st : List Value) (h : pb_H) (Q : Option Value → pb_H → Prop), pb_R 136 74 [some .null, l1, l2] [] st h Q ↔ pb_R 136 75 [some .null, l1, l2] [] (.null :: st) h Q) ∧
  (∀ (L : pb_L) (J : pb_J) (st : List Value) (h : pb_H) (Q : Option Value → pb_H → Prop) (a : Nat), pb_R 136 75 L J (.ref a :: st) h Q ↔ pb_o (pb_gf (h.2 a) 11 6) (fun v => pb_R 136 78 L J (v :: st) h Q)) ∧
  (∀ (L : pb_L) (J : pb_J) (st : List Value) (h : pb_H) (Q : Option Value → pb_H → Prop) (a : Nat), pb_R 136 78 L J (.ref a :: st) h Q ↔ pb_o (pb_gf (h.2 a) 6 1) (fun v => pb_R 136 81 L J (v :: st) h Q)) ∧
  (∀ (L : pb_L) (J : pb_J) (st : List Value) (h : pb_H) (Q : Option Value → pb_H → Prop) (a : Nat), pb_R 136 81 L J (.ref a :: st) h Q ↔ pb_o (pb_gf (h.2 a) 9 3) (fun v => pb_R 136 84 L J (v :: st) h Q)) ∧
  (∀ (l0 l2 : Option Value) (st : List Value) (h : pb_H) (Q : Option Value → pb_H → Prop) (x : Int32), pb_R 136 84 [l0, some (.int x), l2] [] st h Q ↔ pb_R 136 85 [l0, some (.int x), l2] [] (.int x :: st) h Q) ∧
  (∀ (L : pb_L) (J : pb_J) (st : List Value) (h : pb_H) (Q : Option Value → pb_H → Prop) (a : Nat) (i : Int32), pb_R 136 85 L J (.int i :: .ref a :: st) h Q ↔ pb_o (pb_ai (h.2 a) i) (fun v => pb_R 136 86 L J (.int v :: st) h Q)) ∧
  (∀ (L : pb_L) (J : pb_J) (h : pb_H) (Q : Option Value → pb_H → Prop) (x : Int32), pb_R 136 86 L J [.int x] h Q ↔ Q (some (.int x)) h) ∧
  (∀ (L : pb_L) (J : pb_J) (st : List Value) (h : pb_H) (Q : Option Value → pb_H → Prop), pb_R 136 87 L J st h Q ↔ pb_R 136 88 L J (.int (0 : Int32) :: st) h Q) ∧
  (∀ (L : pb_L) (J : pb_J) (h : pb_H) (Q : Option Value → pb_H → Prop) (x : Int32), pb_R 136 88 L J [.int x] h Q ↔ Q (some (.int x)) h) := ⟨
  fun l0 l2 st h Q x => pf_S pb_u_136 rfl rfl,
  fun L J st h Q x => pf_ii pb_u_136 rfl rfl rfl,
  fun l0 l2 st h Q x => pf_S pb_u_136 rfl rfl,
  fun l1 l2 st h Q x => pf_S pb_u_136 rfl rfl,
  fun l1 l2 st h Q => pf_S pb_u_136 rfl rfl,
  fun L J st h Q a => pf_gf pb_u_136 rfl rfl,
  fun L J st h Q a => pf_gf pb_u_136 rfl rfl,
  fun L J st h Q a => pf_gf pb_u_136 rfl rfl,
  fun L J st h Q x y => pf_ic pb_u_136 rfl rfl rfl,
  fun L J st h Q => pf_S pb_u_136 rfl rfl,
  fun L J h Q x => pf_ri pb_u_136 rfl rfl,
  fun l0 l1 st h Q x => pf_S pb_u_136 rfl rfl,
  fun L J st h Q x => pb_q136_21 L J st h Q x,
  fun l1 l2 st h Q x => pf_S pb_u_136 rfl rfl,
  fun l1 l2 st h Q => pf_S pb_u_136 rfl rfl,
  fun L J st h Q a => pf_gf pb_u_136 rfl rfl,
  fun L J st h Q a => pf_gf pb_u_136 rfl rfl,
  fun L J st h Q a => pf_gf pb_u_136 rfl rfl,
  fun l0 l2 st h Q x => pf_S pb_u_136 rfl rfl,
  fun L J st h Q a i => pf_ai pb_u_136 rfl rfl,
  fun L J h Q x => pf_ri pb_u_136 rfl rfl,
  fun l1 l2 st h Q x => pf_S pb_u_136 rfl rfl,
  fun l1 l2 st h Q => pf_S pb_u_136 rfl rfl,
  fun L J st h Q a => pf_gf pb_u_136 rfl rfl,
  fun L J st h Q a => pf_gf pb_u_136 rfl rfl,
  fun L J st h Q a => pf_gf pb_u_136 rfl rfl,
  fun l0 l2 st h Q x => pf_S pb_u_136 rfl rfl,
  fun L J st h Q a i => pf_ai pb_u_136 rfl rfl,
  fun L J h Q x => pf_ri pb_u_136 rfl rfl,
  fun l1 l2 st h Q x => pf_S pb_u_136 rfl rfl,
  fun l1 l2 st h Q => pf_S pb_u_136 rfl rfl,
  fun L J st h Q a => pf_gf pb_u_136 rfl rfl,
  fun L J st h Q a => pf_gf pb_u_136 rfl rfl,
  fun L J st h Q a => pf_gf pb_u_136 rfl rfl,
  fun l0 l2 st h Q x => pf_S pb_u_136 rfl rfl,
  fun L J st h Q a i => pf_ai pb_u_136 rfl rfl,
  fun L J h Q x => pf_ri pb_u_136 rfl rfl,
  fun L J st h Q => pf_S pb_u_136 rfl rfl,
  fun L J h Q x => pf_ri pb_u_136 rfl rfl⟩
theorem pb_c136 (x0 : Nat) (x1 : Int32) (x2 : Int32) (h : pb_H) (Q : Option Value → pb_H → Prop) : pb_call 136 [.ref x0, .int x1, .int x2] h Q ↔ pb_R 136 0 [some (.ref x0), some (.int x1), some (.int x2)] [] [] h Q := Iff.rfl
/-! 137: PlaneBench.proof(I)I -/
theorem pb_u_137 : pb_t 137 = pb_t137 := rfl
theorem pb_ci_137 : pb_ci 137 = 11 := by decide +kernel
set_option maxRecDepth 100000 in
theorem pb_e137 : (∀ (l1 : Option Value) (st : List Value) (h : pb_H) (Q : Option Value → pb_H → Prop) (x : Nat), pb_R 137 0 [some (.ref x), l1] [] st h Q ↔ pb_R 137 1 [some (.ref x), l1] [] (.ref x :: st) h Q) ∧
  (∀ (l1 : Option Value) (st : List Value) (h : pb_H) (Q : Option Value → pb_H → Prop), pb_R 137 0 [some .null, l1] [] st h Q ↔ pb_R 137 1 [some .null, l1] [] (.null :: st) h Q) ∧
  (∀ (L : pb_L) (J : pb_J) (st : List Value) (h : pb_H) (Q : Option Value → pb_H → Prop) (a : Nat), pb_R 137 1 L J (.ref a :: st) h Q ↔ pb_o (pb_gf (h.2 a) 11 6) (fun v => pb_R 137 4 L J (v :: st) h Q)) ∧
  (∀ (L : pb_L) (J : pb_J) (st : List Value) (h : pb_H) (Q : Option Value → pb_H → Prop) (a : Nat), pb_R 137 4 L J (.ref a :: st) h Q ↔ pb_o (pb_gf (h.2 a) 6 2) (fun v => pb_R 137 7 L J (v :: st) h Q)) ∧
  (∀ (l0 : Option Value) (st : List Value) (h : pb_H) (Q : Option Value → pb_H → Prop) (x : Int32), pb_R 137 7 [l0, some (.int x)] [] st h Q ↔ pb_R 137 8 [l0, some (.int x)] [] (.int x :: st) h Q) ∧
  (∀ (L : pb_L) (J : pb_J) (h : pb_H) (Q : Option Value → pb_H → Prop) (x0 : Int32) (x1 : Nat), pb_R 137 8 L J [.int x0, .ref x1] h Q ↔ pb_is0 (h.2 x1) 0 = true ∧ pb_call 11 [.ref x1, .int x0] h (fun v t => pb_R 137 11 L J (v.toList ++ []) t Q)) ∧
  (∀ (L : pb_L) (J : pb_J) (h : pb_H) (Q : Option Value → pb_H → Prop) (x : Int32), pb_R 137 11 L J [.int x] h Q ↔ Q (some (.int x)) h) := ⟨
  fun l1 st h Q x => pf_S pb_u_137 rfl rfl,
  fun l1 st h Q => pf_S pb_u_137 rfl rfl,
  fun L J st h Q a => pf_gf pb_u_137 rfl rfl,
  fun L J st h Q a => pf_gf pb_u_137 rfl rfl,
  fun l0 st h Q x => pf_S pb_u_137 rfl rfl,
  fun L J h Q x0 x1 => pf_kv pb_u_137 rfl pb_ci_11 rfl ⟨Nat.le_of_ble_eq_true rfl, Nat.le_of_ble_eq_true rfl, Nat.le_of_ble_eq_true rfl, Nat.le_of_ble_eq_true rfl, rfl⟩ rfl rfl,
  fun L J h Q x => pf_ri pb_u_137 rfl rfl⟩
theorem pb_c137 (x0 : Nat) (x1 : Int32) (h : pb_H) (Q : Option Value → pb_H → Prop) : pb_call 137 [.ref x0, .int x1] h Q ↔ pb_R 137 0 [some (.ref x0), some (.int x1)] [] [] h Q := Iff.rfl
/-! 138: PlaneBench.count(I)I -/
theorem pb_u_138 : pb_t 138 = pb_t138 := rfl
theorem pb_ci_138 : pb_ci 138 = 11 := by decide +kernel
set_option maxRecDepth 100000 in
theorem pb_q138_1 (L : pb_L) (J : pb_J) (st : List Value) (h : pb_H) (Q : Option Value → pb_H → Prop) (x : Int32) : pb_R 138 1 L J (.int x :: st) h Q ↔ if x = 0 then pb_R 138 60 L J st h Q else (if x = 1 then pb_R 138 68 L J st h Q else (if x = 2 then pb_R 138 76 L J st h Q else (if x = 3 then pb_R 138 87 L J st h Q else (if x = 4 then pb_R 138 95 L J st h Q else (if x = 5 then pb_R 138 106 L J st h Q else (if x = 6 then pb_R 138 114 L J st h Q else (if x = 7 then pb_R 138 122 L J st h Q else (if x = 8 then pb_R 138 130 L J st h Q else (if x = 9 then pb_R 138 138 L J st h Q else (if x = 10 then pb_R 138 146 L J st h Q else (pb_R 138 154 L J st h Q))))))))))) := by
  by_cases c0 : x = 0
  · subst c0
    rw [if_pos rfl]
    exact pf_S pb_u_138 rfl rfl
  rw [if_neg c0]
  by_cases c1 : x = 1
  · subst c1
    rw [if_pos rfl]
    exact pf_S pb_u_138 rfl rfl
  rw [if_neg c1]
  by_cases c2 : x = 2
  · subst c2
    rw [if_pos rfl]
    exact pf_S pb_u_138 rfl rfl
  rw [if_neg c2]
  by_cases c3 : x = 3
  · subst c3
    rw [if_pos rfl]
    exact pf_S pb_u_138 rfl rfl
  rw [if_neg c3]
  by_cases c4 : x = 4
  · subst c4
    rw [if_pos rfl]
    exact pf_S pb_u_138 rfl rfl
  rw [if_neg c4]
  by_cases c5 : x = 5
  · subst c5
    rw [if_pos rfl]
    exact pf_S pb_u_138 rfl rfl
  rw [if_neg c5]
  by_cases c6 : x = 6
  · subst c6
    rw [if_pos rfl]
    exact pf_S pb_u_138 rfl rfl
  rw [if_neg c6]
  by_cases c7 : x = 7
  · subst c7
    rw [if_pos rfl]
    exact pf_S pb_u_138 rfl rfl
  rw [if_neg c7]
  by_cases c8 : x = 8
  · subst c8
    rw [if_pos rfl]
    exact pf_S pb_u_138 rfl rfl
  rw [if_neg c8]
  by_cases c9 : x = 9
  · subst c9
    rw [if_pos rfl]
    exact pf_S pb_u_138 rfl rfl
  rw [if_neg c9]
  by_cases c10 : x = 10
  · subst c10
    rw [if_pos rfl]
    exact pf_S pb_u_138 rfl rfl
  rw [if_neg c10]
  refine pf_S pb_u_138 rfl ?_
  have hout : x.toInt < 0 ∨ 10 < x.toInt := by
    apply Classical.byContradiction
    intro hc
    have h2 : x.toInt = 0 ∨ x.toInt = 1 ∨ x.toInt = 2 ∨ x.toInt = 3 ∨ x.toInt = 4 ∨ x.toInt = 5 ∨ x.toInt = 6 ∨ x.toInt = 7 ∨ x.toInt = 8 ∨ x.toInt = 9 ∨ x.toInt = 10 := by omega
    rcases h2 with h2 | h2 | h2 | h2 | h2 | h2 | h2 | h2 | h2 | h2 | h2
    · exact pf_ni (k := 0) (fun e => c0 (e.trans rfl)) h2
    · exact pf_ni (k := 1) (fun e => c1 (e.trans rfl)) h2
    · exact pf_ni (k := 2) (fun e => c2 (e.trans rfl)) h2
    · exact pf_ni (k := 3) (fun e => c3 (e.trans rfl)) h2
    · exact pf_ni (k := 4) (fun e => c4 (e.trans rfl)) h2
    · exact pf_ni (k := 5) (fun e => c5 (e.trans rfl)) h2
    · exact pf_ni (k := 6) (fun e => c6 (e.trans rfl)) h2
    · exact pf_ni (k := 7) (fun e => c7 (e.trans rfl)) h2
    · exact pf_ni (k := 8) (fun e => c8 (e.trans rfl)) h2
    · exact pf_ni (k := 9) (fun e => c9 (e.trans rfl)) h2
    · exact pf_ni (k := 10) (fun e => c10 (e.trans rfl)) h2
  simp only [pb_S, pb_A, pb_B, pb_C, if_pos hout]
  rfl
set_option maxRecDepth 100000 in
theorem pb_e138 : (∀ (l0 : Option Value) (st : List Value) (h : pb_H) (Q : Option Value → pb_H → Prop) (x : Int32), pb_R 138 0 [l0, some (.int x)] [] st h Q ↔ pb_R 138 1 [l0, some (.int x)] [] (.int x :: st) h Q) ∧
  (∀ (L : pb_L) (J : pb_J) (st : List Value) (h : pb_H) (Q : Option Value → pb_H → Prop) (x : Int32), pb_R 138 1 L J (.int x :: st) h Q ↔ if x = 0 then pb_R 138 60 L J st h Q else (if x = 1 then pb_R 138 68 L J st h Q else (if x = 2 then pb_R 138 76 L J st h Q else (if x = 3 then pb_R 138 87 L J st h Q else (if x = 4 then pb_R 138 95 L J st h Q else (if x = 5 then pb_R 138 106 L J st h Q else (if x = 6 then pb_R 138 114 L J st h Q else (if x = 7 then pb_R 138 122 L J st h Q else (if x = 8 then pb_R 138 130 L J st h Q else (if x = 9 then pb_R 138 138 L J st h Q else (if x = 10 then pb_R 138 146 L J st h Q else (pb_R 138 154 L J st h Q)))))))))))) ∧
  (∀ (l1 : Option Value) (st : List Value) (h : pb_H) (Q : Option Value → pb_H → Prop) (x : Nat), pb_R 138 60 [some (.ref x), l1] [] st h Q ↔ pb_R 138 61 [some (.ref x), l1] [] (.ref x :: st) h Q) ∧
  (∀ (l1 : Option Value) (st : List Value) (h : pb_H) (Q : Option Value → pb_H → Prop), pb_R 138 60 [some .null, l1] [] st h Q ↔ pb_R 138 61 [some .null, l1] [] (.null :: st) h Q) ∧
  (∀ (L : pb_L) (J : pb_J) (st : List Value) (h : pb_H) (Q : Option Value → pb_H → Prop) (a : Nat), pb_R 138 61 L J (.ref a :: st) h Q ↔ pb_o (pb_gf (h.2 a) 11 2) (fun v => pb_R 138 64 L J (v :: st) h Q)) ∧
  (∀ (L : pb_L) (J : pb_J) (st : List Value) (h : pb_H) (Q : Option Value → pb_H → Prop) (a : Nat), pb_R 138 64 L J (.ref a :: st) h Q ↔ pb_o (pb_gf (h.2 a) 7 2) (fun v => pb_R 138 67 L J (v :: st) h Q)) ∧
  (∀ (L : pb_L) (J : pb_J) (h : pb_H) (Q : Option Value → pb_H → Prop) (x : Int32), pb_R 138 67 L J [.int x] h Q ↔ Q (some (.int x)) h) ∧
  (∀ (l1 : Option Value) (st : List Value) (h : pb_H) (Q : Option Value → pb_H → Prop) (x : Nat), pb_R 138 68 [some (.ref x), l1] [] st h Q ↔ pb_R 138 69 [some (.ref x), l1] [] (.ref x :: st) h Q) ∧
  (∀ (l1 : Option Value) (st : List Value) (h : pb_H) (Q : Option Value → pb_H → Prop), pb_R 138 68 [some .null, l1] [] st h Q ↔ pb_R 138 69 [some .null, l1] [] (.null :: st) h Q) ∧
  (∀ (L : pb_L) (J : pb_J) (st : List Value) (h : pb_H) (Q : Option Value → pb_H → Prop) (a : Nat), pb_R 138 69 L J (.ref a :: st) h Q ↔ pb_o (pb_gf (h.2 a) 11 2) (fun v => pb_R 138 72 L J (v :: st) h Q)) ∧
  (∀ (L : pb_L) (J : pb_J) (st : List Value) (h : pb_H) (Q : Option Value → pb_H → Prop) (a : Nat), pb_R 138 72 L J (.ref a :: st) h Q ↔ pb_o (pb_gf (h.2 a) 7 3) (fun v => pb_R 138 75 L J (v :: st) h Q)) ∧
  (∀ (L : pb_L) (J : pb_J) (h : pb_H) (Q : Option Value → pb_H → Prop) (x : Int32), pb_R 138 75 L J [.int x] h Q ↔ Q (some (.int x)) h) ∧
  (∀ (l1 : Option Value) (st : List Value) (h : pb_H) (Q : Option Value → pb_H → Prop) (x : Nat), pb_R 138 76 [some (.ref x), l1] [] st h Q ↔ pb_R 138 77 [some (.ref x), l1] [] (.ref x :: st) h Q) ∧
  (∀ (l1 : Option Value) (st : List Value) (h : pb_H) (Q : Option Value → pb_H → Prop), pb_R 138 76 [some .null, l1] [] st h Q ↔ pb_R 138 77 [some .null, l1] [] (.null :: st) h Q) ∧
  (∀ (L : pb_L) (J : pb_J) (st : List Value) (h : pb_H) (Q : Option Value → pb_H → Prop) (a : Nat), pb_R 138 77 L J (.ref a :: st) h Q ↔ pb_o (pb_gf (h.2 a) 11 6) (fun v => pb_R 138 80 L J (v :: st) h Q)) ∧
  (∀ (L : pb_L) (J : pb_J) (st : List Value) (h : pb_H) (Q : Option Value → pb_H → Prop) (a : Nat), pb_R 138 80 L J (.ref a :: st) h Q ↔ pb_o (pb_gf (h.2 a) 6 2) (fun v => pb_R 138 83 L J (v :: st) h Q)) ∧
  (∀ (L : pb_L) (J : pb_J) (st : List Value) (h : pb_H) (Q : Option Value → pb_H → Prop) (a : Nat), pb_R 138 83 L J (.ref a :: st) h Q ↔ pb_o (pb_gf (h.2 a) 0 2) (fun v => pb_R 138 86 L J (v :: st) h Q)) ∧
  (∀ (L : pb_L) (J : pb_J) (h : pb_H) (Q : Option Value → pb_H → Prop) (x : Int32), pb_R 138 86 L J [.int x] h Q ↔ Q (some (.int x)) h) ∧
  (∀ (l1 : Option Value) (st : List Value) (h : pb_H) (Q : Option Value → pb_H → Prop) (x : Nat), pb_R 138 87 [some (.ref x), l1] [] st h Q ↔ pb_R 138 88 [some (.ref x), l1] [] (.ref x :: st) h Q) ∧
  (∀ (l1 : Option Value) (st : List Value) (h : pb_H) (Q : Option Value → pb_H → Prop), pb_R 138 87 [some .null, l1] [] st h Q ↔ pb_R 138 88 [some .null, l1] [] (.null :: st) h Q) ∧
  (∀ (L : pb_L) (J : pb_J) (st : List Value) (h : pb_H) (Q : Option Value → pb_H → Prop) (a : Nat), pb_R 138 88 L J (.ref a :: st) h Q ↔ pb_o (pb_gf (h.2 a) 11 6) (fun v => pb_R 138 91 L J (v :: st) h Q)) ∧
  (∀ (L : pb_L) (J : pb_J) (st : List Value) (h : pb_H) (Q : Option Value → pb_H → Prop) (a : Nat), pb_R 138 91 L J (.ref a :: st) h Q ↔ pb_o (pb_gf (h.2 a) 6 3) (fun v => pb_R 138 94 L J (v :: st) h Q)) ∧
  (∀ (L : pb_L) (J : pb_J) (h : pb_H) (Q : Option Value → pb_H → Prop) (x : Int32), pb_R 138 94 L J [.int x] h Q ↔ Q (some (.int x)) h) ∧
  (∀ (l1 : Option Value) (st : List Value) (h : pb_H) (Q : Option Value → pb_H → Prop) (x : Nat), pb_R 138 95 [some (.ref x), l1] [] st h Q ↔ pb_R 138 96 [some (.ref x), l1] [] (.ref x :: st) h Q) ∧
  (∀ (l1 : Option Value) (st : List Value) (h : pb_H) (Q : Option Value → pb_H → Prop), pb_R 138 95 [some .null, l1] [] st h Q ↔ pb_R 138 96 [some .null, l1] [] (.null :: st) h Q) ∧
  (∀ (L : pb_L) (J : pb_J) (st : List Value) (h : pb_H) (Q : Option Value → pb_H → Prop) (a : Nat), pb_R 138 96 L J (.ref a :: st) h Q ↔ pb_o (pb_gf (h.2 a) 11 6) (fun v => pb_R 138 99 L J (v :: st) h Q)) ∧
  (∀ (L : pb_L) (J : pb_J) (st : List Value) (h : pb_H) (Q : Option Value → pb_H → Prop) (a : Nat), pb_R 138 99 L J (.ref a :: st) h Q ↔ pb_o (pb_gf (h.2 a) 6 1) (fun v => pb_R 138 102 L J (v :: st) h Q)) ∧
  (∀ (L : pb_L) (J : pb_J) (st : List Value) (h : pb_H) (Q : Option Value → pb_H → Prop) (a : Nat), pb_R 138 102 L J (.ref a :: st) h Q ↔ pb_o (pb_gf (h.2 a) 9 4) (fun v => pb_R 138 105 L J (v :: st) h Q)) ∧
  (∀ (L : pb_L) (J : pb_J) (h : pb_H) (Q : Option Value → pb_H → Prop) (x : Int32), pb_R 138 105 L J [.int x] h Q ↔ Q (some (.int x)) h) ∧
  (∀ (l1 : Option Value) (st : List Value) (h : pb_H) (Q : Option Value → pb_H → Prop) (x : Nat), pb_R 138 106 [some (.ref x), l1] [] st h Q ↔ pb_R 138 107 [some (.ref x), l1] [] (.ref x :: st) h Q) ∧
  (∀ (l1 : Option Value) (st : List Value) (h : pb_H) (Q : Option Value → pb_H → Prop), pb_R 138 106 [some .null, l1] [] st h Q ↔ pb_R 138 107 [some .null, l1] [] (.null :: st) h Q) ∧
  (∀ (L : pb_L) (J : pb_J) (st : List Value) (h : pb_H) (Q : Option Value → pb_H → Prop) (a : Nat), pb_R 138 107 L J (.ref a :: st) h Q ↔ pb_o (pb_gf (h.2 a) 11 6) (fun v => pb_R 138 110 L J (v :: st) h Q)) ∧
  (∀ (L : pb_L) (J : pb_J) (st : List Value) (h : pb_H) (Q : Option Value → pb_H → Prop) (a : Nat), pb_R 138 110 L J (.ref a :: st) h Q ↔ pb_o (pb_gf (h.2 a) 6 4) (fun v => pb_R 138 113 L J (v :: st) h Q)) ∧
  (∀ (L : pb_L) (J : pb_J) (h : pb_H) (Q : Option Value → pb_H → Prop) (x : Int32), pb_R 138 113 L J [.int x] h Q ↔ Q (some (.int x)) h) ∧
  (∀ (l1 : Option Value) (st : List Value) (h : pb_H) (Q : Option Value → pb_H → Prop) (x : Nat), pb_R 138 114 [some (.ref x), l1] [] st h Q ↔ pb_R 138 115 [some (.ref x), l1] [] (.ref x :: st) h Q) ∧
  (∀ (l1 : Option Value) (st : List Value) (h : pb_H) (Q : Option Value → pb_H → Prop), pb_R 138 114 [some .null, l1] [] st h Q ↔ pb_R 138 115 [some .null, l1] [] (.null :: st) h Q) ∧
  (∀ (L : pb_L) (J : pb_J) (st : List Value) (h : pb_H) (Q : Option Value → pb_H → Prop) (a : Nat), pb_R 138 115 L J (.ref a :: st) h Q ↔ pb_o (pb_gf (h.2 a) 11 6) (fun v => pb_R 138 118 L J (v :: st) h Q)) ∧
  (∀ (L : pb_L) (J : pb_J) (st : List Value) (h : pb_H) (Q : Option Value → pb_H → Prop) (a : Nat), pb_R 138 118 L J (.ref a :: st) h Q ↔ pb_o (pb_gf (h.2 a) 6 5) (fun v => pb_R 138 121 L J (v :: st) h Q)) ∧
  (∀ (L : pb_L) (J : pb_J) (h : pb_H) (Q : Option Value → pb_H → Prop) (x : Int32), pb_R 138 121 L J [.int x] h Q ↔ Q (some (.int x)) h) ∧
  (∀ (l1 : Option Value) (st : List Value) (h : pb_H) (Q : Option Value → pb_H → Prop) (x : Nat), pb_R 138 122 [some (.ref x), l1] [] st h Q ↔ pb_R 138 123 [some (.ref x), l1] [] (.ref x :: st) h Q) ∧
  (∀ (l1 : Option Value) (st : List Value) (h : pb_H) (Q : Option Value → pb_H → Prop), pb_R 138 122 [some .null, l1] [] st h Q ↔ pb_R 138 123 [some .null, l1] [] (.null :: st) h Q) ∧
  (∀ (L : pb_L) (J : pb_J) (st : List Value) (h : pb_H) (Q : Option Value → pb_H → Prop) (a : Nat), pb_R 138 123 L J (.ref a :: st) h Q ↔ pb_o (pb_gf (h.2 a) 11 6) (fun v => pb_R 138 126 L J (v :: st) h Q)) ∧
  (∀ (L : pb_L) (J : pb_J) (st : List Value) (h : pb_H) (Q : Option Value → pb_H → Prop) (a : Nat), pb_R 138 126 L J (.ref a :: st) h Q ↔ pb_o (pb_gf (h.2 a) 6 6) (fun v => pb_R 138 129 L J (v :: st) h Q)) ∧
  (∀ (L : pb_L) (J : pb_J) (h : pb_H) (Q : Option Value → pb_H → Prop) (x : Int32), pb_R 138 129 L J [.int x] h Q ↔ Q (some (.int x)) h) ∧
  (∀ (l1 : Option Value) (st : List Value) (h : pb_H) (Q : Option Value → pb_H → Prop) (x : Nat), pb_R 138 130 [some (.ref x), l1] [] st h Q ↔ pb_R 138 131 [some (.ref x), l1] [] (.ref x :: st) h Q) ∧
  (∀ (l1 : Option Value) (st : List Value) (h : pb_H) (Q : Option Value → pb_H → Prop), pb_R 138 130 [some .null, l1] [] st h Q ↔ pb_R 138 131 [some .null, l1] [] (.null :: st) h Q) ∧
  (∀ (L : pb_L) (J : pb_J) (st : List Value) (h : pb_H) (Q : Option Value → pb_H → Prop) (a : Nat), pb_R 138 131 L J (.ref a :: st) h Q ↔ pb_o (pb_gf (h.2 a) 11 6) (fun v => pb_R 138 134 L J (v :: st) h Q)) ∧
  (∀ (L : pb_L) (J : pb_J) (st : List Value) (h : pb_H) (Q : Option Value → pb_H → Prop) (a : Nat), pb_R 138 134 L J (.ref a :: st) h Q ↔ pb_o (pb_gf (h.2 a) 6 7) (fun v => pb_R 138 137 L J (v :: st) h Q)) ∧
  (∀ (L : pb_L) (J : pb_J) (h : pb_H) (Q : Option Value → pb_H → Prop) (x : Int32), pb_R 138 137 L J [.int x] h Q ↔ Q (some (.int x)) h) ∧
  (∀ (l1 : Option Value) (st : List Value) (h : pb_H) (Q : Option Value → pb_H → Prop) (x : Nat), pb_R 138 138 [some (.ref x), l1] [] st h Q ↔ pb_R 138 139 [some (.ref x), l1] [] (.ref x :: st) h Q) ∧
  (∀ (l1 : Option Value) (st : List Value) (h : pb_H) (Q : Option Value → pb_H → Prop), pb_R 138 138 [some .null, l1] [] st h Q ↔ pb_R 138 139 [some .null, l1] [] (.null :: st) h Q) ∧
  (∀ (L : pb_L) (J : pb_J) (st : List Value) (h : pb_H) (Q : Option Value → pb_H → Prop) (a : Nat), pb_R 138 139 L J (.ref a :: st) h Q ↔ pb_o (pb_gf (h.2 a) 11 2) (fun v => pb_R 138 142 L J (v :: st) h Q)) ∧
  (∀ (L : pb_L) (J : pb_J) (st : List Value) (h : pb_H) (Q : Option Value → pb_H → Prop) (a : Nat), pb_R 138 142 L J (.ref a :: st) h Q ↔ pb_o (pb_gf (h.2 a) 7 4) (fun v => pb_R 138 145 L J (v :: st) h Q)) ∧
  (∀ (L : pb_L) (J : pb_J) (h : pb_H) (Q : Option Value → pb_H → Prop) (x : Int32), pb_R 138 145 L J [.int x] h Q ↔ Q (some (.int x)) h) ∧
  (∀ (l1 : Option Value) (st : List Value) (h : pb_H) (Q : Option Value → pb_H → Prop) (x : Nat), pb_R 138 146 [some (.ref x), l1] [] st h Q ↔ pb_R 138 147 [some (.ref x), l1] [] (.ref x :: st) h Q) ∧
  (∀ (l1 : Option Value) (st : List Value) (h : pb_H) (Q : Option Value → pb_H → Prop), pb_R 138 146 [some .null, l1] [] st h Q ↔ pb_R 138 147 [some .null, l1] [] (.null :: st) h Q) ∧
  (∀ (L : pb_L) (J : pb_J) (st : List Value) (h : pb_H) (Q : Option Value → pb_H → Prop) (a : Nat), pb_R 138 147 L J (.ref a :: st) h Q ↔ pb_o (pb_gf (h.2 a) 11 1) (fun v => pb_R 138 150 L J (v :: st) h Q)) ∧
  (∀ (L : pb_L) (J : pb_J) (st : List Value) (h : pb_H) (Q : Option Value → pb_H → Prop) (a : Nat), pb_R 138 150 L J (.ref a :: st) h Q ↔ pb_o (pb_gf (h.2 a) 0 2) (fun v => pb_R 138 153 L J (v :: st) h Q)) ∧
  (∀ (L : pb_L) (J : pb_J) (h : pb_H) (Q : Option Value → pb_H → Prop) (x : Int32), pb_R 138 153 L J [.int x] h Q ↔ Q (some (.int x)) h) ∧
  (∀ (L : pb_L) (J : pb_J) (st : List Value) (h : pb_H) (Q : Option Value → pb_H → Prop), pb_R 138 154 L J st h Q ↔ pb_R 138 155 L J (.int (-1 : Int32) :: st) h Q) ∧
  (∀ (L : pb_L) (J : pb_J) (h : pb_H) (Q : Option Value → pb_H → Prop) (x : Int32), pb_R 138 155 L J [.int x] h Q ↔ Q (some (.int x)) h) := ⟨
  fun l0 st h Q x => pf_S pb_u_138 rfl rfl,
  fun L J st h Q x => pb_q138_1 L J st h Q x,
  fun l1 st h Q x => pf_S pb_u_138 rfl rfl,
  fun l1 st h Q => pf_S pb_u_138 rfl rfl,
  fun L J st h Q a => pf_gf pb_u_138 rfl rfl,
  fun L J st h Q a => pf_gf pb_u_138 rfl rfl,
  fun L J h Q x => pf_ri pb_u_138 rfl rfl,
  fun l1 st h Q x => pf_S pb_u_138 rfl rfl,
  fun l1 st h Q => pf_S pb_u_138 rfl rfl,
  fun L J st h Q a => pf_gf pb_u_138 rfl rfl,
  fun L J st h Q a => pf_gf pb_u_138 rfl rfl,
  fun L J h Q x => pf_ri pb_u_138 rfl rfl,
  fun l1 st h Q x => pf_S pb_u_138 rfl rfl,
  fun l1 st h Q => pf_S pb_u_138 rfl rfl,
  fun L J st h Q a => pf_gf pb_u_138 rfl rfl,
  fun L J st h Q a => pf_gf pb_u_138 rfl rfl,
  fun L J st h Q a => pf_gf pb_u_138 rfl rfl,
  fun L J h Q x => pf_ri pb_u_138 rfl rfl,
  fun l1 st h Q x => pf_S pb_u_138 rfl rfl,
  fun l1 st h Q => pf_S pb_u_138 rfl rfl,
  fun L J st h Q a => pf_gf pb_u_138 rfl rfl,
  fun L J st h Q a => pf_gf pb_u_138 rfl rfl,
  fun L J h Q x => pf_ri pb_u_138 rfl rfl,
  fun l1 st h Q x => pf_S pb_u_138 rfl rfl,
  fun l1 st h Q => pf_S pb_u_138 rfl rfl,
  fun L J st h Q a => pf_gf pb_u_138 rfl rfl,
  fun L J st h Q a => pf_gf pb_u_138 rfl rfl,
  fun L J st h Q a => pf_gf pb_u_138 rfl rfl,
  fun L J h Q x => pf_ri pb_u_138 rfl rfl,
  fun l1 st h Q x => pf_S pb_u_138 rfl rfl,
  fun l1 st h Q => pf_S pb_u_138 rfl rfl,
  fun L J st h Q a => pf_gf pb_u_138 rfl rfl,
  fun L J st h Q a => pf_gf pb_u_138 rfl rfl,
  fun L J h Q x => pf_ri pb_u_138 rfl rfl,
  fun l1 st h Q x => pf_S pb_u_138 rfl rfl,
  fun l1 st h Q => pf_S pb_u_138 rfl rfl,
  fun L J st h Q a => pf_gf pb_u_138 rfl rfl,
  fun L J st h Q a => pf_gf pb_u_138 rfl rfl,
  fun L J h Q x => pf_ri pb_u_138 rfl rfl,
  fun l1 st h Q x => pf_S pb_u_138 rfl rfl,
  fun l1 st h Q => pf_S pb_u_138 rfl rfl,
  fun L J st h Q a => pf_gf pb_u_138 rfl rfl,
  fun L J st h Q a => pf_gf pb_u_138 rfl rfl,
  fun L J h Q x => pf_ri pb_u_138 rfl rfl,
  fun l1 st h Q x => pf_S pb_u_138 rfl rfl,
  fun l1 st h Q => pf_S pb_u_138 rfl rfl,
  fun L J st h Q a => pf_gf pb_u_138 rfl rfl,
  fun L J st h Q a => pf_gf pb_u_138 rfl rfl,
  fun L J h Q x => pf_ri pb_u_138 rfl rfl,
  fun l1 st h Q x => pf_S pb_u_138 rfl rfl,
  fun l1 st h Q => pf_S pb_u_138 rfl rfl,
  fun L J st h Q a => pf_gf pb_u_138 rfl rfl,
  fun L J st h Q a => pf_gf pb_u_138 rfl rfl,
  fun L J h Q x => pf_ri pb_u_138 rfl rfl,
  fun l1 st h Q x => pf_S pb_u_138 rfl rfl,
  fun l1 st h Q => pf_S pb_u_138 rfl rfl,
  fun L J st h Q a => pf_gf pb_u_138 rfl rfl,
  fun L J st h Q a => pf_gf pb_u_138 rfl rfl,
  fun L J h Q x => pf_ri pb_u_138 rfl rfl,
  fun L J st h Q => pf_S pb_u_138 rfl rfl,
  fun L J h Q x => pf_ri pb_u_138 rfl rfl⟩
theorem pb_c138 (x0 : Nat) (x1 : Int32) (h : pb_H) (Q : Option Value → pb_H → Prop) : pb_call 138 [.ref x0, .int x1] h Q ↔ pb_R 138 0 [some (.ref x0), some (.int x1)] [] [] h Q := Iff.rfl
/-! 139: PlaneBenchModel.<init>(I)V -/
theorem pb_u_139 : pb_t 139 = pb_t139 := rfl
set_option maxRecDepth 100000 in
theorem pb_q139_176 (l0 l1 : Option Value) (st : List Value) (h : pb_H) (Q : Option Value → pb_H → Prop) (x : Int32) : pb_R 139 176 [l0, l1, some (.int x)] [] st h Q ↔ pb_R 139 177 [l0, l1, some (.int x)] [] (.int x :: st) h Q := pf_S pb_u_139 rfl rfl
set_option maxRecDepth 100000 in
theorem pb_e139 : (∀ (l1 l2 : Option Value) (st : List Value) (h : pb_H) (Q : Option Value → pb_H → Prop) (x : Nat), pb_R 139 0 [some (.ref x), l1, l2] [] st h Q ↔ pb_R 139 1 [some (.ref x), l1, l2] [] (.ref x :: st) h Q) ∧
  (∀ (l1 l2 : Option Value) (st : List Value) (h : pb_H) (Q : Option Value → pb_H → Prop), pb_R 139 0 [some .null, l1, l2] [] st h Q ↔ pb_R 139 1 [some .null, l1, l2] [] (.null :: st) h Q) ∧
  (∀ (L : pb_L) (J : pb_J) (h : pb_H) (Q : Option Value → pb_H → Prop) (a : Nat), pb_R 139 1 L J [.ref a] h Q ↔ pb_R 139 4 L J [] h Q) ∧
  (∀ (l1 l2 : Option Value) (st : List Value) (h : pb_H) (Q : Option Value → pb_H → Prop) (x : Nat), pb_R 139 4 [some (.ref x), l1, l2] [] st h Q ↔ pb_R 139 5 [some (.ref x), l1, l2] [] (.ref x :: st) h Q) ∧
  (∀ (l1 l2 : Option Value) (st : List Value) (h : pb_H) (Q : Option Value → pb_H → Prop), pb_R 139 4 [some .null, l1, l2] [] st h Q ↔ pb_R 139 5 [some .null, l1, l2] [] (.null :: st) h Q) ∧
  (∀ (L : pb_L) (J : pb_J) (st : List Value) (h : pb_H) (Q : Option Value → pb_H → Prop), pb_R 139 5 L J st h Q ↔ pb_R 139 7 L J (.int (123420 : Int32) :: st) h Q) ∧
  (∀ (L : pb_L) (J : pb_J) (st : List Value) (h : pb_H) (Q : Option Value → pb_H → Prop) (n : Int32), pb_R 139 7 L J (.int n :: st) h Q ↔ (¬ n < 0 ∧ n.toNatClampNeg ≤ 1000000) ∧ pb_R 139 9 L J (.ref h.1 :: st) (pb_new h (.inl (0, n.toNatClampNeg, .inl (fun _ => 0)))) Q) ∧
  (∀ (L : pb_L) (J : pb_J) (st : List Value) (h : pb_H) (Q : Option Value → pb_H → Prop) (a : Nat) (x : Nat), pb_R 139 9 L J (.ref x :: .ref a :: st) h Q ↔ pb_o (pb_pf (h.2 a) 12 0 (.ref x)) (fun c => pb_R 139 12 L J st (pb_set h a c) Q)) ∧
  (∀ (l1 l2 : Option Value) (st : List Value) (h : pb_H) (Q : Option Value → pb_H → Prop) (x : Nat), pb_R 139 12 [some (.ref x), l1, l2] [] st h Q ↔ pb_R 139 13 [some (.ref x), l1, l2] [] (.ref x :: st) h Q) ∧
  (∀ (l1 l2 : Option Value) (st : List Value) (h : pb_H) (Q : Option Value → pb_H → Prop), pb_R 139 12 [some .null, l1, l2] [] st h Q ↔ pb_R 139 13 [some .null, l1, l2] [] (.null :: st) h Q) ∧
  (∀ (L : pb_L) (J : pb_J) (st : List Value) (h : pb_H) (Q : Option Value → pb_H → Prop), pb_R 139 13 L J st h Q ↔ pb_R 139 16 L J (.int (6171 : Int32) :: st) h Q) ∧
  (∀ (L : pb_L) (J : pb_J) (st : List Value) (h : pb_H) (Q : Option Value → pb_H → Prop) (n : Int32), pb_R 139 16 L J (.int n :: st) h Q ↔ (¬ n < 0 ∧ n.toNatClampNeg ≤ 1000000) ∧ pb_R 139 18 L J (.ref h.1 :: st) (pb_new h (.inl (0, n.toNatClampNeg, .inl (fun _ => 0)))) Q) ∧
  (∀ (L : pb_L) (J : pb_J) (st : List Value) (h : pb_H) (Q : Option Value → pb_H → Prop) (a : Nat) (x : Nat), pb_R 139 18 L J (.ref x :: .ref a :: st) h Q ↔ pb_o (pb_pf (h.2 a) 12 1 (.ref x)) (fun c => pb_R 139 21 L J st (pb_set h a c) Q)) ∧
  (∀ (l1 l2 : Option Value) (st : List Value) (h : pb_H) (Q : Option Value → pb_H → Prop) (x : Nat), pb_R 139 21 [some (.ref x), l1, l2] [] st h Q ↔ pb_R 139 22 [some (.ref x), l1, l2] [] (.ref x :: st) h Q) ∧
  (∀ (l1 l2 : Option Value) (st : List Value) (h : pb_H) (Q : Option Value → pb_H → Prop), pb_R 139 21 [some .null, l1, l2] [] st h Q ↔ pb_R 139 22 [some .null, l1, l2] [] (.null :: st) h Q) ∧
  (∀ (L : pb_L) (J : pb_J) (st : List Value) (h : pb_H) (Q : Option Value → pb_H → Prop), pb_R 139 22 L J st h Q ↔ pb_R 139 25 L J (.int (301 : Int32) :: st) h Q) ∧
  (∀ (L : pb_L) (J : pb_J) (st : List Value) (h : pb_H) (Q : Option Value → pb_H → Prop) (n : Int32), pb_R 139 25 L J (.int n :: st) h Q ↔ (¬ n < 0 ∧ n.toNatClampNeg ≤ 1000000) ∧ pb_R 139 27 L J (.ref h.1 :: st) (pb_new h (.inl (0, n.toNatClampNeg, .inl (fun _ => 0)))) Q) ∧
  (∀ (L : pb_L) (J : pb_J) (st : List Value) (h : pb_H) (Q : Option Value → pb_H → Prop) (a : Nat) (x : Nat), pb_R 139 27 L J (.ref x :: .ref a :: st) h Q ↔ pb_o (pb_pf (h.2 a) 12 2 (.ref x)) (fun c => pb_R 139 30 L J st (pb_set h a c) Q)) ∧
  (∀ (l1 l2 : Option Value) (st : List Value) (h : pb_H) (Q : Option Value → pb_H → Prop) (x : Nat), pb_R 139 30 [some (.ref x), l1, l2] [] st h Q ↔ pb_R 139 31 [some (.ref x), l1, l2] [] (.ref x :: st) h Q) ∧
  (∀ (l1 l2 : Option Value) (st : List Value) (h : pb_H) (Q : Option Value → pb_H → Prop), pb_R 139 30 [some .null, l1, l2] [] st h Q ↔ pb_R 139 31 [some .null, l1, l2] [] (.null :: st) h Q) ∧
  (∀ (L : pb_L) (J : pb_J) (st : List Value) (h : pb_H) (Q : Option Value → pb_H → Prop), pb_R 139 31 L J st h Q ↔ pb_R 139 34 L J (.int (4000 : Int32) :: st) h Q) ∧
  (∀ (L : pb_L) (J : pb_J) (st : List Value) (h : pb_H) (Q : Option Value → pb_H → Prop) (n : Int32), pb_R 139 34 L J (.int n :: st) h Q ↔ (¬ n < 0 ∧ n.toNatClampNeg ≤ 1000000) ∧ pb_R 139 36 L J (.ref h.1 :: st) (pb_new h (.inl (1, n.toNatClampNeg, .inl (fun _ => 0)))) Q) ∧
  (∀ (L : pb_L) (J : pb_J) (st : List Value) (h : pb_H) (Q : Option Value → pb_H → Prop) (a : Nat) (x : Nat), pb_R 139 36 L J (.ref x :: .ref a :: st) h Q ↔ pb_o (pb_pf (h.2 a) 12 6 (.ref x)) (fun c => pb_R 139 39 L J st (pb_set h a c) Q)) ∧
  (∀ (l1 l2 : Option Value) (st : List Value) (h : pb_H) (Q : Option Value → pb_H → Prop) (x : Nat), pb_R 139 39 [some (.ref x), l1, l2] [] st h Q ↔ pb_R 139 40 [some (.ref x), l1, l2] [] (.ref x :: st) h Q) ∧
  (∀ (l1 l2 : Option Value) (st : List Value) (h : pb_H) (Q : Option Value → pb_H → Prop), pb_R 139 39 [some .null, l1, l2] [] st h Q ↔ pb_R 139 40 [some .null, l1, l2] [] (.null :: st) h Q) ∧
  (∀ (L : pb_L) (J : pb_J) (st : List Value) (h : pb_H) (Q : Option Value → pb_H → Prop), pb_R 139 40 L J st h Q ↔ pb_R 139 41 L J (.int (-1 : Int32) :: st) h Q) ∧
  (∀ (L : pb_L) (J : pb_J) (st : List Value) (h : pb_H) (Q : Option Value → pb_H → Prop) (a : Nat) (x : Int32), pb_R 139 41 L J (.int x :: .ref a :: st) h Q ↔ pb_o (pb_pf (h.2 a) 12 9 (.int x)) (fun c => pb_R 139 44 L J st (pb_set h a c) Q)) ∧
  (∀ (l1 l2 : Option Value) (st : List Value) (h : pb_H) (Q : Option Value → pb_H → Prop) (x : Nat), pb_R 139 44 [some (.ref x), l1, l2] [] st h Q ↔ pb_R 139 45 [some (.ref x), l1, l2] [] (.ref x :: st) h Q) ∧
  (∀ (l1 l2 : Option Value) (st : List Value) (h : pb_H) (Q : Option Value → pb_H → Prop), pb_R 139 44 [some .null, l1, l2] [] st h Q ↔ pb_R 139 45 [some .null, l1, l2] [] (.null :: st) h Q) ∧
  (∀ (L : pb_L) (J : pb_J) (st : List Value) (h : pb_H) (Q : Option Value → pb_H → Prop), pb_R 139 45 L J st h Q ↔ pb_R 139 47 L J (.int (42 : Int32) :: st) h Q) ∧
  (∀ (L : pb_L) (J : pb_J) (st : List Value) (h : pb_H) (Q : Option Value → pb_H → Prop) (n : Int32), pb_R 139 47 L J (.int n :: st) h Q ↔ (¬ n < 0 ∧ n.toNatClampNeg ≤ 1000000) ∧ pb_R 139 49 L J (.ref h.1 :: st) (pb_new h (.inl (0, n.toNatClampNeg, .inl (fun _ => 0)))) Q) ∧
  (∀ (L : pb_L) (J : pb_J) (st : List Value) (h : pb_H) (Q : Option Value → pb_H → Prop) (a : Nat) (x : Nat), pb_R 139 49 L J (.ref x :: .ref a :: st) h Q ↔ pb_o (pb_pf (h.2 a) 12 10 (.ref x)) (fun c => pb_R 139 52 L J st (pb_set h a c) Q)) ∧
  (∀ (l1 l2 : Option Value) (st : List Value) (h : pb_H) (Q : Option Value → pb_H → Prop) (x : Nat), pb_R 139 52 [some (.ref x), l1, l2] [] st h Q ↔ pb_R 139 53 [some (.ref x), l1, l2] [] (.ref x :: st) h Q) ∧
  (∀ (l1 l2 : Option Value) (st : List Value) (h : pb_H) (Q : Option Value → pb_H → Prop), pb_R 139 52 [some .null, l1, l2] [] st h Q ↔ pb_R 139 53 [some .null, l1, l2] [] (.null :: st) h Q) ∧
  (∀ (L : pb_L) (J : pb_J) (st : List Value) (h : pb_H) (Q : Option Value → pb_H → Prop), pb_R 139 53 L J st h Q ↔ pb_R 139 55 L J (.int (21 : Int32) :: st) h Q) ∧
  (∀ (L : pb_L) (J : pb_J) (st : List Value) (h : pb_H) (Q : Option Value → pb_H → Prop) (n : Int32), pb_R 139 55 L J (.int n :: st) h Q ↔ (¬ n < 0 ∧ n.toNatClampNeg ≤ 1000000) ∧ pb_R 139 57 L J (.ref h.1 :: st) (pb_new h (.inl (0, n.toNatClampNeg, .inl (fun _ => 0)))) Q) ∧
  (∀ (L : pb_L) (J : pb_J) (st : List Value) (h : pb_H) (Q : Option Value → pb_H → Prop) (a : Nat) (x : Nat), pb_R 139 57 L J (.ref x :: .ref a :: st) h Q ↔ pb_o (pb_pf (h.2 a) 12 11 (.ref x)) (fun c => pb_R 139 60 L J st (pb_set h a c) Q)) ∧
  (∀ (l1 l2 : Option Value) (st : List Value) (h : pb_H) (Q : Option Value → pb_H → Prop) (x : Nat), pb_R 139 60 [some (.ref x), l1, l2] [] st h Q ↔ pb_R 139 61 [some (.ref x), l1, l2] [] (.ref x :: st) h Q) ∧
  (∀ (l1 l2 : Option Value) (st : List Value) (h : pb_H) (Q : Option Value → pb_H → Prop), pb_R 139 60 [some .null, l1, l2] [] st h Q ↔ pb_R 139 61 [some .null, l1, l2] [] (.null :: st) h Q) ∧
  (∀ (L : pb_L) (J : pb_J) (st : List Value) (h : pb_H) (Q : Option Value → pb_H → Prop), pb_R 139 61 L J st h Q ↔ pb_R 139 63 L J (.int (22 : Int32) :: st) h Q) ∧
  (∀ (L : pb_L) (J : pb_J) (st : List Value) (h : pb_H) (Q : Option Value → pb_H → Prop) (n : Int32), pb_R 139 63 L J (.int n :: st) h Q ↔ (¬ n < 0 ∧ n.toNatClampNeg ≤ 1000000) ∧ pb_R 139 65 L J (.ref h.1 :: st) (pb_new h (.inl (0, n.toNatClampNeg, .inl (fun _ => 0)))) Q) ∧
  (∀ (L : pb_L) (J : pb_J) (st : List Value) (h : pb_H) (Q : Option Value → pb_H → Prop) (a : Nat) (x : Nat), pb_R 139 65 L J (.ref x :: .ref a :: st) h Q ↔ pb_o (pb_pf (h.2 a) 12 12 (.ref x)) (fun c => pb_R 139 68 L J st (pb_set h a c) Q)) ∧
  (∀ (l1 l2 : Option Value) (st : List Value) (h : pb_H) (Q : Option Value → pb_H → Prop) (x : Nat), pb_R 139 68 [some (.ref x), l1, l2] [] st h Q ↔ pb_R 139 69 [some (.ref x), l1, l2] [] (.ref x :: st) h Q) ∧
  (∀ (l1 l2 : Option Value) (st : List Value) (h : pb_H) (Q : Option Value → pb_H → Prop), pb_R 139 68 [some .null, l1, l2] [] st h Q ↔ pb_R 139 69 [some .null, l1, l2] [] (.null :: st) h Q) ∧
  (∀ (L : pb_L) (J : pb_J) (st : List Value) (h : pb_H) (Q : Option Value → pb_H → Prop), pb_R 139 69 L J st h Q ↔ pb_R 139 71 L J (.int (21 : Int32) :: st) h Q) ∧
  (∀ (L : pb_L) (J : pb_J) (st : List Value) (h : pb_H) (Q : Option Value → pb_H → Prop) (n : Int32), pb_R 139 71 L J (.int n :: st) h Q ↔ (¬ n < 0 ∧ n.toNatClampNeg ≤ 1000000) ∧ pb_R 139 73 L J (.ref h.1 :: st) (pb_new h (.inl (0, n.toNatClampNeg, .inl (fun _ => 0)))) Q) ∧
  (∀ (L : pb_L) (J : pb_J) (st : List Value) (h : pb_H) (Q : Option Value → pb_H → Prop) (a : Nat) (x : Nat), pb_R 139 73 L J (.ref x :: .ref a :: st) h Q ↔ pb_o (pb_pf (h.2 a) 12 13 (.ref x)) (fun c => pb_R 139 76 L J st (pb_set h a c) Q)) ∧
  (∀ (l1 l2 : Option Value) (st : List Value) (h : pb_H) (Q : Option Value → pb_H → Prop) (x : Nat), pb_R 139 76 [some (.ref x), l1, l2] [] st h Q ↔ pb_R 139 77 [some (.ref x), l1, l2] [] (.ref x :: st) h Q) ∧
  (∀ (l1 l2 : Option Value) (st : List Value) (h : pb_H) (Q : Option Value → pb_H → Prop), pb_R 139 76 [some .null, l1, l2] [] st h Q ↔ pb_R 139 77 [some .null, l1, l2] [] (.null :: st) h Q) ∧
  (∀ (L : pb_L) (J : pb_J) (st : List Value) (h : pb_H) (Q : Option Value → pb_H → Prop), pb_R 139 77 L J st h Q ↔ pb_R 139 79 L J (.int (17 : Int32) :: st) h Q) ∧
  (∀ (L : pb_L) (J : pb_J) (st : List Value) (h : pb_H) (Q : Option Value → pb_H → Prop) (n : Int32), pb_R 139 79 L J (.int n :: st) h Q ↔ (¬ n < 0 ∧ n.toNatClampNeg ≤ 1000000) ∧ pb_R 139 81 L J (.ref h.1 :: st) (pb_new h (.inl (0, n.toNatClampNeg, .inl (fun _ => 0)))) Q) ∧
  (∀ (L : pb_L) (J : pb_J) (st : List Value) (h : pb_H) (Q : Option Value → pb_H → Prop) (a : Nat) (x : Nat), pb_R 139 81 L J (.ref x :: .ref a :: st) h Q ↔ pb_o (pb_pf (h.2 a) 12 21 (.ref x)) (fun c => pb_R 139 84 L J st (pb_set h a c) Q)) ∧
  (∀ (l1 l2 : Option Value) (st : List Value) (h : pb_H) (Q : Option Value → pb_H → Prop) (x : Nat), pb_R 139 84 [some (.ref x), l1, l2] [] st h Q ↔ pb_R 139 85 [some (.ref x), l1, l2] [] (.ref x :: st) h Q) ∧
  (∀ (l1 l2 : Option Value) (st : List Value) (h : pb_H) (Q : Option Value → pb_H → Prop), pb_R 139 84 [some .null, l1, l2] [] st h Q ↔ pb_R 139 85 [some .null, l1, l2] [] (.null :: st) h Q) ∧
  (∀ (L : pb_L) (J : pb_J) (st : List Value) (h : pb_H) (Q : Option Value → pb_H → Prop), pb_R 139 85 L J st h Q ↔ pb_R 139 87 L J (.int (17 : Int32) :: st) h Q) ∧
  (∀ (L : pb_L) (J : pb_J) (st : List Value) (h : pb_H) (Q : Option Value → pb_H → Prop) (n : Int32), pb_R 139 87 L J (.int n :: st) h Q ↔ (¬ n < 0 ∧ n.toNatClampNeg ≤ 1000000) ∧ pb_R 139 89 L J (.ref h.1 :: st) (pb_new h (.inl (0, n.toNatClampNeg, .inl (fun _ => 0)))) Q) ∧
  (∀ (L : pb_L) (J : pb_J) (st : List Value) (h : pb_H) (Q : Option Value → pb_H → Prop) (a : Nat) (x : Nat), pb_R 139 89 L J (.ref x :: .ref a :: st) h Q ↔ pb_o (pb_pf (h.2 a) 12 28 (.ref x)) (fun c => pb_R 139 92 L J st (pb_set h a c) Q)) ∧
  (∀ (l1 l2 : Option Value) (st : List Value) (h : pb_H) (Q : Option Value → pb_H → Prop) (x : Nat), pb_R 139 92 [some (.ref x), l1, l2] [] st h Q ↔ pb_R 139 93 [some (.ref x), l1, l2] [] (.ref x :: st) h Q) ∧
  (∀ (l1 l2 : Option Value) (st : List Value) (h : pb_H) (Q : Option Value → pb_H → Prop), pb_R 139 92 [some .null, l1, l2] [] st h Q ↔ pb_R 139 93 [some .null, l1, l2] [] (.null :: st) h Q) ∧
  (∀ (L : pb_L) (J : pb_J) (st : List Value) (h : pb_H) (Q : Option Value → pb_H → Prop), pb_R 139 93 L J st h Q ↔ pb_R 139 95 L J (.int (17 : Int32) :: st) h Q) ∧
  (∀ (L : pb_L) (J : pb_J) (st : List Value) (h : pb_H) (Q : Option Value → pb_H → Prop) (n : Int32), pb_R 139 95 L J (.int n :: st) h Q ↔ (¬ n < 0 ∧ n.toNatClampNeg ≤ 1000000) ∧ pb_R 139 97 L J (.ref h.1 :: st) (pb_new h (.inl (0, n.toNatClampNeg, .inl (fun _ => 0)))) Q) ∧
  (∀ (L : pb_L) (J : pb_J) (st : List Value) (h : pb_H) (Q : Option Value → pb_H → Prop) (a : Nat) (x : Nat), pb_R 139 97 L J (.ref x :: .ref a :: st) h Q ↔ pb_o (pb_pf (h.2 a) 12 29 (.ref x)) (fun c => pb_R 139 100 L J st (pb_set h a c) Q)) ∧
  (∀ (l1 l2 : Option Value) (st : List Value) (h : pb_H) (Q : Option Value → pb_H → Prop) (x : Nat), pb_R 139 100 [some (.ref x), l1, l2] [] st h Q ↔ pb_R 139 101 [some (.ref x), l1, l2] [] (.ref x :: st) h Q) ∧
  (∀ (l1 l2 : Option Value) (st : List Value) (h : pb_H) (Q : Option Value → pb_H → Prop), pb_R 139 100 [some .null, l1, l2] [] st h Q ↔ pb_R 139 101 [some .null, l1, l2] [] (.null :: st) h Q) ∧
  (∀ (L : pb_L) (J : pb_J) (st : List Value) (h : pb_H) (Q : Option Value → pb_H → Prop), pb_R 139 101 L J st h Q ↔ pb_R 139 103 L J (.int (17 : Int32) :: st) h Q) ∧
  (∀ (L : pb_L) (J : pb_J) (st : List Value) (h : pb_H) (Q : Option Value → pb_H → Prop) (n : Int32), pb_R 139 103 L J (.int n :: st) h Q ↔ (¬ n < 0 ∧ n.toNatClampNeg ≤ 1000000) ∧ pb_R 139 105 L J (.ref h.1 :: st) (pb_new h (.inl (0, n.toNatClampNeg, .inl (fun _ => 0)))) Q) ∧
  (∀ (L : pb_L) (J : pb_J) (st : List Value) (h : pb_H) (Q : Option Value → pb_H → Prop) (a : Nat) (x : Nat), pb_R 139 105 L J (.ref x :: .ref a :: st) h Q ↔ pb_o (pb_pf (h.2 a) 12 30 (.ref x)) (fun c => pb_R 139 108 L J st (pb_set h a c) Q)) ∧
  (∀ (l1 l2 : Option Value) (st : List Value) (h : pb_H) (Q : Option Value → pb_H → Prop) (x : Nat), pb_R 139 108 [some (.ref x), l1, l2] [] st h Q ↔ pb_R 139 109 [some (.ref x), l1, l2] [] (.ref x :: st) h Q) ∧
  (∀ (l1 l2 : Option Value) (st : List Value) (h : pb_H) (Q : Option Value → pb_H → Prop), pb_R 139 108 [some .null, l1, l2] [] st h Q ↔ pb_R 139 109 [some .null, l1, l2] [] (.null :: st) h Q) ∧
  (∀ (L : pb_L) (J : pb_J) (st : List Value) (h : pb_H) (Q : Option Value → pb_H → Prop), pb_R 139 109 L J st h Q ↔ pb_R 139 111 L J (.int (17 : Int32) :: st) h Q) ∧
  (∀ (L : pb_L) (J : pb_J) (st : List Value) (h : pb_H) (Q : Option Value → pb_H → Prop) (n : Int32), pb_R 139 111 L J (.int n :: st) h Q ↔ (¬ n < 0 ∧ n.toNatClampNeg ≤ 1000000) ∧ pb_R 139 113 L J (.ref h.1 :: st) (pb_new h (.inl (0, n.toNatClampNeg, .inl (fun _ => 0)))) Q) ∧
  (∀ (L : pb_L) (J : pb_J) (st : List Value) (h : pb_H) (Q : Option Value → pb_H → Prop) (a : Nat) (x : Nat), pb_R 139 113 L J (.ref x :: .ref a :: st) h Q ↔ pb_o (pb_pf (h.2 a) 12 31 (.ref x)) (fun c => pb_R 139 116 L J st (pb_set h a c) Q)) ∧
  (∀ (l1 l2 : Option Value) (st : List Value) (h : pb_H) (Q : Option Value → pb_H → Prop) (x : Nat), pb_R 139 116 [some (.ref x), l1, l2] [] st h Q ↔ pb_R 139 117 [some (.ref x), l1, l2] [] (.ref x :: st) h Q) ∧
  (∀ (l1 l2 : Option Value) (st : List Value) (h : pb_H) (Q : Option Value → pb_H → Prop), pb_R 139 116 [some .null, l1, l2] [] st h Q ↔ pb_R 139 117 [some .null, l1, l2] [] (.null :: st) h Q) ∧
  (∀ (L : pb_L) (J : pb_J) (st : List Value) (h : pb_H) (Q : Option Value → pb_H → Prop), pb_R 139 117 L J st h Q ↔ pb_R 139 119 L J (.int (17 : Int32) :: st) h Q) ∧
  (∀ (L : pb_L) (J : pb_J) (st : List Value) (h : pb_H) (Q : Option Value → pb_H → Prop) (n : Int32), pb_R 139 119 L J (.int n :: st) h Q ↔ (¬ n < 0 ∧ n.toNatClampNeg ≤ 1000000) ∧ pb_R 139 121 L J (.ref h.1 :: st) (pb_new h (.inl (0, n.toNatClampNeg, .inl (fun _ => 0)))) Q) ∧
  (∀ (L : pb_L) (J : pb_J) (st : List Value) (h : pb_H) (Q : Option Value → pb_H → Prop) (a : Nat) (x : Nat), pb_R 139 121 L J (.ref x :: .ref a :: st) h Q ↔ pb_o (pb_pf (h.2 a) 12 32 (.ref x)) (fun c => pb_R 139 124 L J st (pb_set h a c) Q)) ∧
  (∀ (l1 l2 : Option Value) (st : List Value) (h : pb_H) (Q : Option Value → pb_H → Prop) (x : Nat), pb_R 139 124 [some (.ref x), l1, l2] [] st h Q ↔ pb_R 139 125 [some (.ref x), l1, l2] [] (.ref x :: st) h Q) ∧
  (∀ (l1 l2 : Option Value) (st : List Value) (h : pb_H) (Q : Option Value → pb_H → Prop), pb_R 139 124 [some .null, l1, l2] [] st h Q ↔ pb_R 139 125 [some .null, l1, l2] [] (.null :: st) h Q) ∧
  (∀ (L : pb_L) (J : pb_J) (st : List Value) (h : pb_H) (Q : Option Value → pb_H → Prop), pb_R 139 125 L J st h Q ↔ pb_R 139 128 L J (.int (20000 : Int32) :: st) h Q) ∧
  (∀ (L : pb_L) (J : pb_J) (st : List Value) (h : pb_H) (Q : Option Value → pb_H → Prop) (n : Int32), pb_R 139 128 L J (.int n :: st) h Q ↔ (¬ n < 0 ∧ n.toNatClampNeg ≤ 1000000) ∧ pb_R 139 130 L J (.ref h.1 :: st) (pb_new h (.inl (1, n.toNatClampNeg, .inl (fun _ => 0)))) Q) ∧
  (∀ (L : pb_L) (J : pb_J) (st : List Value) (h : pb_H) (Q : Option Value → pb_H → Prop) (a : Nat) (x : Nat), pb_R 139 130 L J (.ref x :: .ref a :: st) h Q ↔ pb_o (pb_pf (h.2 a) 12 33 (.ref x)) (fun c => pb_R 139 133 L J st (pb_set h a c) Q)) ∧
  (∀ (l1 l2 : Option Value) (st : List Value) (h : pb_H) (Q : Option Value → pb_H → Prop) (x : Nat), pb_R 139 133 [some (.ref x), l1, l2] [] st h Q ↔ pb_R 139 134 [some (.ref x), l1, l2] [] (.ref x :: st) h Q) ∧
  (∀ (l1 l2 : Option Value) (st : List Value) (h : pb_H) (Q : Option Value → pb_H → Prop), pb_R 139 133 [some .null, l1, l2] [] st h Q ↔ pb_R 139 134 [some .null, l1, l2] [] (.null :: st) h Q) ∧
  (∀ (L : pb_L) (J : pb_J) (st : List Value) (h : pb_H) (Q : Option Value → pb_H → Prop), pb_R 139 134 L J st h Q ↔ pb_R 139 136 L J (.int (17 : Int32) :: st) h Q) ∧
  (∀ (L : pb_L) (J : pb_J) (st : List Value) (h : pb_H) (Q : Option Value → pb_H → Prop) (n : Int32), pb_R 139 136 L J (.int n :: st) h Q ↔ (¬ n < 0 ∧ n.toNatClampNeg ≤ 1000000) ∧ pb_R 139 138 L J (.ref h.1 :: st) (pb_new h (.inl (0, n.toNatClampNeg, .inl (fun _ => 0)))) Q) ∧
  (∀ (L : pb_L) (J : pb_J) (st : List Value) (h : pb_H) (Q : Option Value → pb_H → Prop) (a : Nat) (x : Nat), pb_R 139 138 L J (.ref x :: .ref a :: st) h Q ↔ pb_o (pb_pf (h.2 a) 12 36 (.ref x)) (fun c => pb_R 139 141 L J st (pb_set h a c) Q)) ∧
  (∀ (l1 l2 : Option Value) (st : List Value) (h : pb_H) (Q : Option Value → pb_H → Prop) (x : Nat), pb_R 139 141 [some (.ref x), l1, l2] [] st h Q ↔ pb_R 139 142 [some (.ref x), l1, l2] [] (.ref x :: st) h Q) ∧
  (∀ (l1 l2 : Option Value) (st : List Value) (h : pb_H) (Q : Option Value → pb_H → Prop), pb_R 139 141 [some .null, l1, l2] [] st h Q ↔ pb_R 139 142 [some .null, l1, l2] [] (.null :: st) h Q) ∧
  (∀ (L : pb_L) (J : pb_J) (st : List Value) (h : pb_H) (Q : Option Value → pb_H → Prop), pb_R 139 142 L J st h Q ↔ pb_R 139 144 L J (.int (110 : Int32) :: st) h Q) ∧
  (∀ (L : pb_L) (J : pb_J) (st : List Value) (h : pb_H) (Q : Option Value → pb_H → Prop) (n : Int32), pb_R 139 144 L J (.int n :: st) h Q ↔ (¬ n < 0 ∧ n.toNatClampNeg ≤ 1000000) ∧ pb_R 139 146 L J (.ref h.1 :: st) (pb_new h (.inl (0, n.toNatClampNeg, .inl (fun _ => 0)))) Q) ∧
  (∀ (L : pb_L) (J : pb_J) (st : List Value) (h : pb_H) (Q : Option Value → pb_H → Prop) (a : Nat) (x : Nat), pb_R 139 146 L J (.ref x :: .ref a :: st) h Q ↔ pb_o (pb_pf (h.2 a) 12 37 (.ref x)) (fun c => pb_R 139 149 L J st (pb_set h a c) Q)) ∧
  (∀ (l1 l2 : Option Value) (st : List Value) (h : pb_H) (Q : Option Value → pb_H → Prop) (x : Nat), pb_R 139 149 [some (.ref x), l1, l2] [] st h Q ↔ pb_R 139 150 [some (.ref x), l1, l2] [] (.ref x :: st) h Q) ∧
  (∀ (l1 l2 : Option Value) (st : List Value) (h : pb_H) (Q : Option Value → pb_H → Prop), pb_R 139 149 [some .null, l1, l2] [] st h Q ↔ pb_R 139 150 [some .null, l1, l2] [] (.null :: st) h Q) ∧
  (∀ (l0 l2 : Option Value) (st : List Value) (h : pb_H) (Q : Option Value → pb_H → Prop) (x : Int32), pb_R 139 150 [l0, some (.int x), l2] [] st h Q ↔ pb_R 139 151 [l0, some (.int x), l2] [] (.int x :: st) h Q) ∧
  (∀ (L : pb_L) (J : pb_J) (st : List Value) (h : pb_H) (Q : Option Value → pb_H → Prop), pb_R 139 151 L J st h Q ↔ pb_R 139 152 L J (.int (1 : Int32) :: st) h Q) ∧
  (∀ (L : pb_L) (J : pb_J) (st : List Value) (h : pb_H) (Q : Option Value → pb_H → Prop) (x y : Int32), pb_R 139 152 L J (.int y :: .int x :: st) h Q ↔ if y ≤ x then pb_R 139 159 L J st h Q else pb_R 139 155 L J st h Q) ∧
  (∀ (L : pb_L) (J : pb_J) (st : List Value) (h : pb_H) (Q : Option Value → pb_H → Prop), pb_R 139 155 L J st h Q ↔ pb_R 139 156 L J (.int (1 : Int32) :: st) h Q) ∧
  (∀ (L : pb_L) (J : pb_J) (st : List Value) (h : pb_H) (Q : Option Value → pb_H → Prop), pb_R 139 156 L J st h Q ↔ pb_R 139 171 L J st h Q) ∧
  (∀ (l0 l2 : Option Value) (st : List Value) (h : pb_H) (Q : Option Value → pb_H → Prop) (x : Int32), pb_R 139 159 [l0, some (.int x), l2] [] st h Q ↔ pb_R 139 160 [l0, some (.int x), l2] [] (.int x :: st) h Q) ∧
  (∀ (L : pb_L) (J : pb_J) (st : List Value) (h : pb_H) (Q : Option Value → pb_H → Prop), pb_R 139 160 L J st h Q ↔ pb_R 139 162 L J (.int (16 : Int32) :: st) h Q) ∧
  (∀ (L : pb_L) (J : pb_J) (st : List Value) (h : pb_H) (Q : Option Value → pb_H → Prop) (x y : Int32), pb_R 139 162 L J (.int y :: .int x :: st) h Q ↔ if x ≤ y then pb_R 139 170 L J st h Q else pb_R 139 165 L J st h Q) ∧
  (∀ (L : pb_L) (J : pb_J) (st : List Value) (h : pb_H) (Q : Option Value → pb_H → Prop), pb_R 139 165 L J st h Q ↔ pb_R 139 167 L J (.int (16 : Int32) :: st) h Q) ∧
  (∀ (L : pb_L) (J : pb_J) (st : List Value) (h : pb_H) (Q : Option Value → pb_H → Prop), pb_R 139 167 L J st h Q ↔ pb_R 139 171 L J st h Q) ∧
  (∀ (l0 l2 : Option Value) (st : List Value) (h : pb_H) (Q : Option Value → pb_H → Prop) (x : Int32), pb_R 139 170 [l0, some (.int x), l2] [] st h Q ↔ pb_R 139 171 [l0, some (.int x), l2] [] (.int x :: st) h Q) ∧
  (∀ (L : pb_L) (J : pb_J) (st : List Value) (h : pb_H) (Q : Option Value → pb_H → Prop) (a : Nat) (x : Int32), pb_R 139 171 L J (.int x :: .ref a :: st) h Q ↔ pb_o (pb_pf (h.2 a) 12 3 (.int x)) (fun c => pb_R 139 174 L J st (pb_set h a c) Q)) ∧
  (∀ (L : pb_L) (J : pb_J) (st : List Value) (h : pb_H) (Q : Option Value → pb_H → Prop), pb_R 139 174 L J st h Q ↔ pb_R 139 175 L J (.int (0 : Int32) :: st) h Q) ∧
  (∀ (l0 l1 l2 : Option Value) (st : List Value) (h : pb_H) (Q : Option Value → pb_H → Prop) (x : Int32), pb_R 139 175 [l0, l1, l2] [] (.int x :: st) h Q ↔ pb_R 139 176 [l0, l1, some (.int x)] [] st h Q) ∧
  (∀ (L : pb_L) (J : pb_J) (st : List Value) (h : pb_H) (Q : Option Value → pb_H → Prop), pb_R 139 177 L J st h Q ↔ pb_R 139 179 L J (.int (17 : Int32) :: st) h Q) ∧
  (∀ (L : pb_L) (J : pb_J) (st : List Value) (h : pb_H) (Q : Option Value → pb_H → Prop) (x y : Int32), pb_R 139 179 L J (.int y :: .int x :: st) h Q ↔ if y ≤ x then pb_R 139 195 L J st h Q else pb_R 139 182 L J st h Q) ∧
  (∀ (l1 l2 : Option Value) (st : List Value) (h : pb_H) (Q : Option Value → pb_H → Prop) (x : Nat), pb_R 139 182 [some (.ref x), l1, l2] [] st h Q ↔ pb_R 139 183 [some (.ref x), l1, l2] [] (.ref x :: st) h Q) ∧
  (∀ (l1 l2 : Option Value) (st : List Value) (h : pb_H) (Q : Option Value → pb_H → Prop), pb_R 139 182 [some .null, l1, l2] [] st h Q ↔ pb_R 139 183 [some .null, l1, l2] [] (.null :: st) h Q) ∧
  (∀ (L : pb_L) (J : pb_J) (st : List Value) (h : pb_H) (Q : Option Value → pb_H → Prop) (a : Nat), pb_R 139 183 L J (.ref a :: st) h Q ↔ pb_o (pb_gf (h.2 a) 12 28) (fun v => pb_R 139 186 L J (v :: st) h Q)) ∧
  (∀ (l0 l1 : Option Value) (st : List Value) (h : pb_H) (Q : Option Value → pb_H → Prop) (x : Int32), pb_R 139 186 [l0, l1, some (.int x)] [] st h Q ↔ pb_R 139 187 [l0, l1, some (.int x)] [] (.int x :: st) h Q) ∧
  (∀ (L : pb_L) (J : pb_J) (st : List Value) (h : pb_H) (Q : Option Value → pb_H → Prop), pb_R 139 187 L J st h Q ↔ pb_R 139 188 L J (.int (-1 : Int32) :: st) h Q) ∧
  (∀ (L : pb_L) (J : pb_J) (st : List Value) (h : pb_H) (Q : Option Value → pb_H → Prop) (a : Nat) (i x : Int32), pb_R 139 188 L J (.int x :: .int i :: .ref a :: st) h Q ↔ pb_o (pb_si (h.2 a) i x) (fun c => pb_R 139 189 L J st (pb_set h a c) Q)) ∧
  (∀ (l0 l1 : Option Value) (st : List Value) (h : pb_H) (Q : Option Value → pb_H → Prop) (x : Int32), pb_R 139 189 [l0, l1, some (.int x)] [] st h Q ↔ pb_R 139 192 [l0, l1, some (.int (x + (1 : Int32)))] [] st h Q) ∧
  (∀ (L : pb_L) (J : pb_J) (st : List Value) (h : pb_H) (Q : Option Value → pb_H → Prop), pb_R 139 192 L J st h Q ↔ pb_R 139 176 L J st h Q) ∧
  (∀ (L : pb_L) (J : pb_J) (h : pb_H) (Q : Option Value → pb_H → Prop), pb_R 139 195 L J [] h Q ↔ Q none h) := ⟨
  fun l1 l2 st h Q x => pf_S pb_u_139 rfl rfl,
  fun l1 l2 st h Q => pf_S pb_u_139 rfl rfl,
  fun L J h Q a => pf_S pb_u_139 rfl rfl,
  fun l1 l2 st h Q x => pf_S pb_u_139 rfl rfl,
  fun l1 l2 st h Q => pf_S pb_u_139 rfl rfl,
  fun L J st h Q => pf_S pb_u_139 rfl rfl,
  fun L J st h Q n => pf_nI pb_u_139 rfl rfl,
  fun L J st h Q a x => pf_pf pb_u_139 rfl rfl,
  fun l1 l2 st h Q x => pf_S pb_u_139 rfl rfl,
  fun l1 l2 st h Q => pf_S pb_u_139 rfl rfl,
  fun L J st h Q => pf_S pb_u_139 rfl rfl,
  fun L J st h Q n => pf_nI pb_u_139 rfl rfl,
  fun L J st h Q a x => pf_pf pb_u_139 rfl rfl,
  fun l1 l2 st h Q x => pf_S pb_u_139 rfl rfl,
  fun l1 l2 st h Q => pf_S pb_u_139 rfl rfl,
  fun L J st h Q => pf_S pb_u_139 rfl rfl,
  fun L J st h Q n => pf_nI pb_u_139 rfl rfl,
  fun L J st h Q a x => pf_pf pb_u_139 rfl rfl,
  fun l1 l2 st h Q x => pf_S pb_u_139 rfl rfl,
  fun l1 l2 st h Q => pf_S pb_u_139 rfl rfl,
  fun L J st h Q => pf_S pb_u_139 rfl rfl,
  fun L J st h Q n => pf_nB pb_u_139 rfl rfl,
  fun L J st h Q a x => pf_pf pb_u_139 rfl rfl,
  fun l1 l2 st h Q x => pf_S pb_u_139 rfl rfl,
  fun l1 l2 st h Q => pf_S pb_u_139 rfl rfl,
  fun L J st h Q => pf_S pb_u_139 rfl rfl,
  fun L J st h Q a x => pf_pf pb_u_139 rfl rfl,
  fun l1 l2 st h Q x => pf_S pb_u_139 rfl rfl,
  fun l1 l2 st h Q => pf_S pb_u_139 rfl rfl,
  fun L J st h Q => pf_S pb_u_139 rfl rfl,
  fun L J st h Q n => pf_nI pb_u_139 rfl rfl,
  fun L J st h Q a x => pf_pf pb_u_139 rfl rfl,
  fun l1 l2 st h Q x => pf_S pb_u_139 rfl rfl,
  fun l1 l2 st h Q => pf_S pb_u_139 rfl rfl,
  fun L J st h Q => pf_S pb_u_139 rfl rfl,
  fun L J st h Q n => pf_nI pb_u_139 rfl rfl,
  fun L J st h Q a x => pf_pf pb_u_139 rfl rfl,
  fun l1 l2 st h Q x => pf_S pb_u_139 rfl rfl,
  fun l1 l2 st h Q => pf_S pb_u_139 rfl rfl,
  fun L J st h Q => pf_S pb_u_139 rfl rfl,
  fun L J st h Q n => pf_nI pb_u_139 rfl rfl,
  fun L J st h Q a x => pf_pf pb_u_139 rfl rfl,
  fun l1 l2 st h Q x => pf_S pb_u_139 rfl rfl,
  fun l1 l2 st h Q => pf_S pb_u_139 rfl rfl,
  fun L J st h Q => pf_S pb_u_139 rfl rfl,
  fun L J st h Q n => pf_nI pb_u_139 rfl rfl,
  fun L J st h Q a x => pf_pf pb_u_139 rfl rfl,
  fun l1 l2 st h Q x => pf_S pb_u_139 rfl rfl,
  fun l1 l2 st h Q => pf_S pb_u_139 rfl rfl,
  fun L J st h Q => pf_S pb_u_139 rfl rfl,
  fun L J st h Q n => pf_nI pb_u_139 rfl rfl,
  fun L J st h Q a x => pf_pf pb_u_139 rfl rfl,
  fun l1 l2 st h Q x => pf_S pb_u_139 rfl rfl,
  fun l1 l2 st h Q => pf_S pb_u_139 rfl rfl,
  fun L J st h Q => pf_S pb_u_139 rfl rfl,
  fun L J st h Q n => pf_nI pb_u_139 rfl rfl,
  fun L J st h Q a x => pf_pf pb_u_139 rfl rfl,
  fun l1 l2 st h Q x => pf_S pb_u_139 rfl rfl,
  fun l1 l2 st h Q => pf_S pb_u_139 rfl rfl,
  fun L J st h Q => pf_S pb_u_139 rfl rfl,
  fun L J st h Q n => pf_nI pb_u_139 rfl rfl,
  fun L J st h Q a x => pf_pf pb_u_139 rfl rfl,
  fun l1 l2 st h Q x => pf_S pb_u_139 rfl rfl,
  fun l1 l2 st h Q => pf_S pb_u_139 rfl rfl,
  fun L J st h Q => pf_S pb_u_139 rfl rfl,
  fun L J st h Q n => pf_nI pb_u_139 rfl rfl,
  fun L J st h Q a x => pf_pf pb_u_139 rfl rfl,
  fun l1 l2 st h Q x => pf_S pb_u_139 rfl rfl,
  fun l1 l2 st h Q => pf_S pb_u_139 rfl rfl,
  fun L J st h Q => pf_S pb_u_139 rfl rfl,
  fun L J st h Q n => pf_nI pb_u_139 rfl rfl,
  fun L J st h Q a x => pf_pf pb_u_139 rfl rfl,
  fun l1 l2 st h Q x => pf_S pb_u_139 rfl rfl,
  fun l1 l2 st h Q => pf_S pb_u_139 rfl rfl,
  fun L J st h Q => pf_S pb_u_139 rfl rfl,
  fun L J st h Q n => pf_nI pb_u_139 rfl rfl,
  fun L J st h Q a x => pf_pf pb_u_139 rfl rfl,
  fun l1 l2 st h Q x => pf_S pb_u_139 rfl rfl,
  fun l1 l2 st h Q => pf_S pb_u_139 rfl rfl,
  fun L J st h Q => pf_S pb_u_139 rfl rfl,
  fun L J st h Q n => pf_nB pb_u_139 rfl rfl,
  fun L J st h Q a x => pf_pf pb_u_139 rfl rfl,
  fun l1 l2 st h Q x => pf_S pb_u_139 rfl rfl,
  fun l1 l2 st h Q => pf_S pb_u_139 rfl rfl,
  fun L J st h Q => pf_S pb_u_139 rfl rfl,
  fun L J st h Q n => pf_nI pb_u_139 rfl rfl,
  fun L J st h Q a x => pf_pf pb_u_139 rfl rfl,
  fun l1 l2 st h Q x => pf_S pb_u_139 rfl rfl,
  fun l1 l2 st h Q => pf_S pb_u_139 rfl rfl,
  fun L J st h Q => pf_S pb_u_139 rfl rfl,
  fun L J st h Q n => pf_nI pb_u_139 rfl rfl,
  fun L J st h Q a x => pf_pf pb_u_139 rfl rfl,
  fun l1 l2 st h Q x => pf_S pb_u_139 rfl rfl,
  fun l1 l2 st h Q => pf_S pb_u_139 rfl rfl,
  fun l0 l2 st h Q x => pf_S pb_u_139 rfl rfl,
  fun L J st h Q => pf_S pb_u_139 rfl rfl,
  fun L J st h Q x y => pf_ic pb_u_139 rfl rfl rfl,
  fun L J st h Q => pf_S pb_u_139 rfl rfl,
  fun L J st h Q => pf_S pb_u_139 rfl rfl,
  fun l0 l2 st h Q x => pf_S pb_u_139 rfl rfl,
  fun L J st h Q => pf_S pb_u_139 rfl rfl,
  fun L J st h Q x y => pf_ic pb_u_139 rfl rfl rfl,
  fun L J st h Q => pf_S pb_u_139 rfl rfl,
  fun L J st h Q => pf_S pb_u_139 rfl rfl,
  fun l0 l2 st h Q x => pf_S pb_u_139 rfl rfl,
  fun L J st h Q a x => pf_pf pb_u_139 rfl rfl,
  fun L J st h Q => pf_S pb_u_139 rfl rfl,
  fun l0 l1 l2 st h Q x => pf_S pb_u_139 rfl rfl,
  fun L J st h Q => pf_S pb_u_139 rfl rfl,
  fun L J st h Q x y => pf_ic pb_u_139 rfl rfl rfl,
  fun l1 l2 st h Q x => pf_S pb_u_139 rfl rfl,
  fun l1 l2 st h Q => pf_S pb_u_139 rfl rfl,
  fun L J st h Q a => pf_gf pb_u_139 rfl rfl,
  fun l0 l1 st h Q x => pf_S pb_u_139 rfl rfl,
  fun L J st h Q => pf_S pb_u_139 rfl rfl,
  fun L J st h Q a i x => pf_si pb_u_139 rfl rfl,
  fun l0 l1 st h Q x => pf_S pb_u_139 rfl rfl,
  fun L J st h Q => pf_S pb_u_139 rfl rfl,
  fun L J h Q => pf_rv pb_u_139 rfl rfl⟩
theorem pb_c139 (x0 : Nat) (x1 : Int32) (h : pb_H) (Q : Option Value → pb_H → Prop) : pb_call 139 [.ref x0, .int x1] h Q ↔ pb_R 139 0 [some (.ref x0), some (.int x1), none] [] [] h Q := Iff.rfl
/-! 140: PlaneBenchModel.word(I)V -/
theorem pb_u_140 : pb_t 140 = pb_t140 := rfl
theorem pb_ci_140 : pb_ci 140 = 12 := by decide +kernel
set_option maxRecDepth 100000 in
theorem pb_q140_2 (l0 l1 : Option Value) (st : List Value) (h : pb_H) (Q : Option Value → pb_H → Prop) (x : Int32) : pb_R 140 2 [l0, l1, some (.int x)] [] st h Q ↔ pb_R 140 3 [l0, l1, some (.int x)] [] (.int x :: st) h Q := pf_S pb_u_140 rfl rfl
set_option maxRecDepth 100000 in
theorem pb_e140 : (∀ (L : pb_L) (J : pb_J) (st : List Value) (h : pb_H) (Q : Option Value → pb_H → Prop), pb_R 140 0 L J st h Q ↔ pb_R 140 1 L J (.int (3 : Int32) :: st) h Q) ∧
  (∀ (l0 l1 l2 : Option Value) (st : List Value) (h : pb_H) (Q : Option Value → pb_H → Prop) (x : Int32), pb_R 140 1 [l0, l1, l2] [] (.int x :: st) h Q ↔ pb_R 140 2 [l0, l1, some (.int x)] [] st h Q) ∧
  (∀ (L : pb_L) (J : pb_J) (st : List Value) (h : pb_H) (Q : Option Value → pb_H → Prop) (x : Int32), pb_R 140 3 L J (.int x :: st) h Q ↔ if x < 0 then pb_R 140 38 L J st h Q else pb_R 140 6 L J st h Q) ∧
  (∀ (l1 l2 : Option Value) (st : List Value) (h : pb_H) (Q : Option Value → pb_H → Prop) (x : Nat), pb_R 140 6 [some (.ref x), l1, l2] [] st h Q ↔ pb_R 140 7 [some (.ref x), l1, l2] [] (.ref x :: st) h Q) ∧
  (∀ (l1 l2 : Option Value) (st : List Value) (h : pb_H) (Q : Option Value → pb_H → Prop), pb_R 140 6 [some .null, l1, l2] [] st h Q ↔ pb_R 140 7 [some .null, l1, l2] [] (.null :: st) h Q) ∧
  (∀ (L : pb_L) (J : pb_J) (st : List Value) (h : pb_H) (Q : Option Value → pb_H → Prop) (a : Nat), pb_R 140 7 L J (.ref a :: st) h Q ↔ pb_o (pb_gf (h.2 a) 12 6) (fun v => pb_R 140 10 L J (v :: st) h Q)) ∧
  (∀ (l1 l2 : Option Value) (st : List Value) (h : pb_H) (Q : Option Value → pb_H → Prop) (x : Nat), pb_R 140 10 [some (.ref x), l1, l2] [] st h Q ↔ pb_R 140 11 [some (.ref x), l1, l2] [] (.ref x :: st) h Q) ∧
  (∀ (l1 l2 : Option Value) (st : List Value) (h : pb_H) (Q : Option Value → pb_H → Prop), pb_R 140 10 [some .null, l1, l2] [] st h Q ↔ pb_R 140 11 [some .null, l1, l2] [] (.null :: st) h Q) ∧
  (∀ (L : pb_L) (J : pb_J) (st : List Value) (h : pb_H) (Q : Option Value → pb_H → Prop) (a : Nat), pb_R 140 11 L J (.ref a :: st) h Q ↔ pb_o (pb_gf (h.2 a) 12 7) (fun v => pb_R 140 14 L J (v :: st) h Q)) ∧
  (∀ (l0 l2 : Option Value) (st : List Value) (h : pb_H) (Q : Option Value → pb_H → Prop) (x : Int32), pb_R 140 14 [l0, some (.int x), l2] [] st h Q ↔ pb_R 140 15 [l0, some (.int x), l2] [] (.int x :: st) h Q) ∧
  (∀ (L : pb_L) (J : pb_J) (st : List Value) (h : pb_H) (Q : Option Value → pb_H → Prop), pb_R 140 15 L J st h Q ↔ pb_R 140 17 L J (.int (8 : Int32) :: st) h Q) ∧
  (∀ (l0 l1 : Option Value) (st : List Value) (h : pb_H) (Q : Option Value → pb_H → Prop) (x : Int32), pb_R 140 17 [l0, l1, some (.int x)] [] st h Q ↔ pb_R 140 18 [l0, l1, some (.int x)] [] (.int x :: st) h Q) ∧
  (∀ (L : pb_L) (J : pb_J) (st : List Value) (x y : Int32) (h : pb_H) (Q : Option Value → pb_H → Prop), pb_R 140 18 L J (.int y :: .int x :: st) h Q ↔ pb_R 140 19 L J (.int (x * y) :: st) h Q) ∧
  (∀ (L : pb_L) (J : pb_J) (st : List Value) (x y : Int32) (h : pb_H) (Q : Option Value → pb_H → Prop), pb_R 140 19 L J (.int y :: .int x :: st) h Q ↔ pb_R 140 20 L J (.int (x.toUInt32 >>> (y.toUInt32 &&& Int32.toUInt32 31)).toInt32 :: st) h Q) ∧
  (∀ (L : pb_L) (J : pb_J) (st : List Value) (x : Int32) (h : pb_H) (Q : Option Value → pb_H → Prop), pb_R 140 20 L J (.int x :: st) h Q ↔ pb_R 140 21 L J (.int x.toInt8.toInt32 :: st) h Q) ∧
  (∀ (L : pb_L) (J : pb_J) (st : List Value) (h : pb_H) (Q : Option Value → pb_H → Prop) (a : Nat) (i x : Int32), pb_R 140 21 L J (.int x :: .int i :: .ref a :: st) h Q ↔ pb_o (pb_sb (h.2 a) i x) (fun c => pb_R 140 22 L J st (pb_set h a c) Q)) ∧
  (∀ (l1 l2 : Option Value) (st : List Value) (h : pb_H) (Q : Option Value → pb_H → Prop) (x : Nat), pb_R 140 22 [some (.ref x), l1, l2] [] st h Q ↔ pb_R 140 23 [some (.ref x), l1, l2] [] (.ref x :: st) h Q) ∧
  (∀ (l1 l2 : Option Value) (st : List Value) (h : pb_H) (Q : Option Value → pb_H → Prop), pb_R 140 22 [some .null, l1, l2] [] st h Q ↔ pb_R 140 23 [some .null, l1, l2] [] (.null :: st) h Q) ∧
  (∀ (L : pb_L) (J : pb_J) (st : List Value) (x : Nat) (h : pb_H) (Q : Option Value → pb_H → Prop), pb_R 140 23 L J (.ref x :: st) h Q ↔ pb_R 140 24 L J (.ref x :: .ref x :: st) h Q) ∧
  (∀ (L : pb_L) (J : pb_J) (st : List Value) (h : pb_H) (Q : Option Value → pb_H → Prop) (a : Nat), pb_R 140 24 L J (.ref a :: st) h Q ↔ pb_o (pb_gf (h.2 a) 12 7) (fun v => pb_R 140 27 L J (v :: st) h Q)) ∧
  (∀ (L : pb_L) (J : pb_J) (st : List Value) (h : pb_H) (Q : Option Value → pb_H → Prop), pb_R 140 27 L J st h Q ↔ pb_R 140 28 L J (.int (1 : Int32) :: st) h Q) ∧
  (∀ (L : pb_L) (J : pb_J) (st : List Value) (x y : Int32) (h : pb_H) (Q : Option Value → pb_H → Prop), pb_R 140 28 L J (.int y :: .int x :: st) h Q ↔ pb_R 140 29 L J (.int (x + y) :: st) h Q) ∧
  (∀ (L : pb_L) (J : pb_J) (st : List Value) (h : pb_H) (Q : Option Value → pb_H → Prop) (a : Nat) (x : Int32), pb_R 140 29 L J (.int x :: .ref a :: st) h Q ↔ pb_o (pb_pf (h.2 a) 12 7 (.int x)) (fun c => pb_R 140 32 L J st (pb_set h a c) Q)) ∧
  (∀ (l0 l1 : Option Value) (st : List Value) (h : pb_H) (Q : Option Value → pb_H → Prop) (x : Int32), pb_R 140 32 [l0, l1, some (.int x)] [] st h Q ↔ pb_R 140 35 [l0, l1, some (.int (x + (-1 : Int32)))] [] st h Q) ∧
  (∀ (L : pb_L) (J : pb_J) (st : List Value) (h : pb_H) (Q : Option Value → pb_H → Prop), pb_R 140 35 L J st h Q ↔ pb_R 140 2 L J st h Q) ∧
  (∀ (L : pb_L) (J : pb_J) (h : pb_H) (Q : Option Value → pb_H → Prop), pb_R 140 38 L J [] h Q ↔ Q none h) := ⟨
  fun L J st h Q => pf_S pb_u_140 rfl rfl,
  fun l0 l1 l2 st h Q x => pf_S pb_u_140 rfl rfl,
  fun L J st h Q x => pf_ii pb_u_140 rfl rfl rfl,
  fun l1 l2 st h Q x => pf_S pb_u_140 rfl rfl,
  fun l1 l2 st h Q => pf_S pb_u_140 rfl rfl,
  fun L J st h Q a => pf_gf pb_u_140 rfl rfl,
  fun l1 l2 st h Q x => pf_S pb_u_140 rfl rfl,
  fun l1 l2 st h Q => pf_S pb_u_140 rfl rfl,
  fun L J st h Q a => pf_gf pb_u_140 rfl rfl,
  fun l0 l2 st h Q x => pf_S pb_u_140 rfl rfl,
  fun L J st h Q => pf_S pb_u_140 rfl rfl,
  fun l0 l1 st h Q x => pf_S pb_u_140 rfl rfl,
  fun L J st x y h Q => pf_S pb_u_140 rfl rfl,
  fun L J st x y h Q => pf_S pb_u_140 rfl rfl,
  fun L J st x h Q => pf_S pb_u_140 rfl rfl,
  fun L J st h Q a i x => pf_sb pb_u_140 rfl rfl,
  fun l1 l2 st h Q x => pf_S pb_u_140 rfl rfl,
  fun l1 l2 st h Q => pf_S pb_u_140 rfl rfl,
  fun L J st x h Q => pf_S pb_u_140 rfl rfl,
  fun L J st h Q a => pf_gf pb_u_140 rfl rfl,
  fun L J st h Q => pf_S pb_u_140 rfl rfl,
  fun L J st x y h Q => pf_S pb_u_140 rfl rfl,
  fun L J st h Q a x => pf_pf pb_u_140 rfl rfl,
  fun l0 l1 st h Q x => pf_S pb_u_140 rfl rfl,
  fun L J st h Q => pf_S pb_u_140 rfl rfl,
  fun L J h Q => pf_rv pb_u_140 rfl rfl⟩
theorem pb_c140 (x0 : Nat) (x1 : Int32) (h : pb_H) (Q : Option Value → pb_H → Prop) : pb_call 140 [.ref x0, .int x1] h Q ↔ pb_R 140 0 [some (.ref x0), some (.int x1), none] [] [] h Q := Iff.rfl
/-! 141: PlaneBenchModel.feed(IIIII)I -/
theorem pb_u_141 : pb_t 141 = pb_t141 := rfl
theorem pb_ci_141 : pb_ci 141 = 12 := by decide +kernel
set_option maxRecDepth 100000 in
theorem pb_e141 : (∀ (l1 l2 l3 l4 l5 : Option Value) (st : List Value) (h : pb_H) (Q : Option Value → pb_H → Prop) (x : Nat), pb_R 141 0 [some (.ref x), l1, l2, l3, l4, l5] [] st h Q ↔ pb_R 141 1 [some (.ref x), l1, l2, l3, l4, l5] [] (.ref x :: st) h Q) ∧
  (∀ (l1 l2 l3 l4 l5 : Option Value) (st : List Value) (h : pb_H) (Q : Option Value → pb_H → Prop), pb_R 141 0 [some .null, l1, l2, l3, l4, l5] [] st h Q ↔ pb_R 141 1 [some .null, l1, l2, l3, l4, l5] [] (.null :: st) h Q) ∧
  (∀ (L : pb_L) (J : pb_J) (st : List Value) (h : pb_H) (Q : Option Value → pb_H → Prop) (a : Nat), pb_R 141 1 L J (.ref a :: st) h Q ↔ pb_o (pb_gf (h.2 a) 12 7) (fun v => pb_R 141 4 L J (v :: st) h Q)) ∧
  (∀ (L : pb_L) (J : pb_J) (st : List Value) (h : pb_H) (Q : Option Value → pb_H → Prop), pb_R 141 4 L J st h Q ↔ pb_R 141 6 L J (.int (20 : Int32) :: st) h Q) ∧
  (∀ (L : pb_L) (J : pb_J) (st : List Value) (x y : Int32) (h : pb_H) (Q : Option Value → pb_H → Prop), pb_R 141 6 L J (.int y :: .int x :: st) h Q ↔ pb_R 141 7 L J (.int (x + y) :: st) h Q) ∧
  (∀ (L : pb_L) (J : pb_J) (st : List Value) (h : pb_H) (Q : Option Value → pb_H → Prop), pb_R 141 7 L J st h Q ↔ pb_R 141 10 L J (.int (4000 : Int32) :: st) h Q) ∧
  (∀ (L : pb_L) (J : pb_J) (st : List Value) (h : pb_H) (Q : Option Value → pb_H → Prop) (x y : Int32), pb_R 141 10 L J (.int y :: .int x :: st) h Q ↔ if x ≤ y then pb_R 141 15 L J st h Q else pb_R 141 13 L J st h Q) ∧
  (∀ (L : pb_L) (J : pb_J) (st : List Value) (h : pb_H) (Q : Option Value → pb_H → Prop), pb_R 141 13 L J st h Q ↔ pb_R 141 14 L J (.int (-1 : Int32) :: st) h Q) ∧
  (∀ (L : pb_L) (J : pb_J) (h : pb_H) (Q : Option Value → pb_H → Prop) (x : Int32), pb_R 141 14 L J [.int x] h Q ↔ Q (some (.int x)) h) ∧
  (∀ (l1 l2 l3 l4 l5 : Option Value) (st : List Value) (h : pb_H) (Q : Option Value → pb_H → Prop) (x : Nat), pb_R 141 15 [some (.ref x), l1, l2, l3, l4, l5] [] st h Q ↔ pb_R 141 16 [some (.ref x), l1, l2, l3, l4, l5] [] (.ref x :: st) h Q) ∧
  (∀ (l1 l2 l3 l4 l5 : Option Value) (st : List Value) (h : pb_H) (Q : Option Value → pb_H → Prop), pb_R 141 15 [some .null, l1, l2, l3, l4, l5] [] st h Q ↔ pb_R 141 16 [some .null, l1, l2, l3, l4, l5] [] (.null :: st) h Q) ∧
  (∀ (l0 l2 l3 l4 l5 : Option Value) (st : List Value) (h : pb_H) (Q : Option Value → pb_H → Prop) (x : Int32), pb_R 141 16 [l0, some (.int x), l2, l3, l4, l5] [] st h Q ↔ pb_R 141 17 [l0, some (.int x), l2, l3, l4, l5] [] (.int x :: st) h Q) ∧
  (∀ (L : pb_L) (J : pb_J) (h : pb_H) (Q : Option Value → pb_H → Prop) (x0 : Int32) (x1 : Nat), pb_R 141 17 L J [.int x0, .ref x1] h Q ↔ pb_is0 (h.2 x1) 12 = true ∧ pb_call 140 [.ref x1, .int x0] h (fun v t => pb_R 141 20 L J (v.toList ++ []) t Q)) ∧
  (∀ (l1 l2 l3 l4 l5 : Option Value) (st : List Value) (h : pb_H) (Q : Option Value → pb_H → Prop) (x : Nat), pb_R 141 20 [some (.ref x), l1, l2, l3, l4, l5] [] st h Q ↔ pb_R 141 21 [some (.ref x), l1, l2, l3, l4, l5] [] (.ref x :: st) h Q) ∧
  (∀ (l1 l2 l3 l4 l5 : Option Value) (st : List Value) (h : pb_H) (Q : Option Value → pb_H → Prop), pb_R 141 20 [some .null, l1, l2, l3, l4, l5] [] st h Q ↔ pb_R 141 21 [some .null, l1, l2, l3, l4, l5] [] (.null :: st) h Q) ∧
  (∀ (l0 l1 l3 l4 l5 : Option Value) (st : List Value) (h : pb_H) (Q : Option Value → pb_H → Prop) (x : Int32), pb_R 141 21 [l0, l1, some (.int x), l3, l4, l5] [] st h Q ↔ pb_R 141 22 [l0, l1, some (.int x), l3, l4, l5] [] (.int x :: st) h Q) ∧
  (∀ (L : pb_L) (J : pb_J) (h : pb_H) (Q : Option Value → pb_H → Prop) (x0 : Int32) (x1 : Nat), pb_R 141 22 L J [.int x0, .ref x1] h Q ↔ pb_is0 (h.2 x1) 12 = true ∧ pb_call 140 [.ref x1, .int x0] h (fun v t => pb_R 141 25 L J (v.toList ++ []) t Q)) ∧
  (∀ (l1 l2 l3 l4 l5 : Option Value) (st : List Value) (h : pb_H) (Q : Option Value → pb_H → Prop) (x : Nat), pb_R 141 25 [some (.ref x), l1, l2, l3, l4, l5] [] st h Q ↔ pb_R 141 26 [some (.ref x), l1, l2, l3, l4, l5] [] (.ref x :: st) h Q) ∧
  (∀ (l1 l2 l3 l4 l5 : Option Value) (st : List Value) (h : pb_H) (Q : Option Value → pb_H → Prop), pb_R 141 25 [some .null, l1, l2, l3, l4, l5] [] st h Q ↔ pb_R 141 26 [some .null, l1, l2, l3, l4, l5] [] (.null :: st) h Q) ∧
  (∀ (l0 l1 l2 l4 l5 : Option Value) (st : List Value) (h : pb_H) (Q : Option Value → pb_H → Prop) (x : Int32), pb_R 141 26 [l0, l1, l2, some (.int x), l4, l5] [] st h Q ↔ pb_R 141 27 [l0, l1, l2, some (.int x), l4, l5] [] (.int x :: st) h Q) ∧
  (∀ (L : pb_L) (J : pb_J) (h : pb_H) (Q : Option Value → pb_H → Prop) (x0 : Int32) (x1 : Nat), pb_R 141 27 L J [.int x0, .ref x1] h Q ↔ pb_is0 (h.2 x1) 12 = true ∧ pb_call 140 [.ref x1, .int x0] h (fun v t => pb_R 141 30 L J (v.toList ++ []) t Q)) ∧
  (∀ (l1 l2 l3 l4 l5 : Option Value) (st : List Value) (h : pb_H) (Q : Option Value → pb_H → Prop) (x : Nat), pb_R 141 30 [some (.ref x), l1, l2, l3, l4, l5] [] st h Q ↔ pb_R 141 31 [some (.ref x), l1, l2, l3, l4, l5] [] (.ref x :: st) h Q) ∧
  (∀ (l1 l2 l3 l4 l5 : Option Value) (st : List Value) (h : pb_H) (Q : Option Value → pb_H → Prop), pb_R 141 30 [some .null, l1, l2, l3, l4, l5] [] st h Q ↔ pb_R 141 31 [some .null, l1, l2, l3, l4, l5] [] (.null :: st) h Q) ∧
  (∀ (l0 l1 l2 l3 l5 : Option Value) (st : List Value) (h : pb_H) (Q : Option Value → pb_H → Prop) (x : Int32), pb_R 141 31 [l0, l1, l2, l3, some (.int x), l5] [] st h Q ↔ pb_R 141 33 [l0, l1, l2, l3, some (.int x), l5] [] (.int x :: st) h Q) ∧
  (∀ (L : pb_L) (J : pb_J) (h : pb_H) (Q : Option Value → pb_H → Prop) (x0 : Int32) (x1 : Nat), pb_R 141 33 L J [.int x0, .ref x1] h Q ↔ pb_is0 (h.2 x1) 12 = true ∧ pb_call 140 [.ref x1, .int x0] h (fun v t => pb_R 141 36 L J (v.toList ++ []) t Q)) ∧
  (∀ (l1 l2 l3 l4 l5 : Option Value) (st : List Value) (h : pb_H) (Q : Option Value → pb_H → Prop) (x : Nat), pb_R 141 36 [some (.ref x), l1, l2, l3, l4, l5] [] st h Q ↔ pb_R 141 37 [some (.ref x), l1, l2, l3, l4, l5] [] (.ref x :: st) h Q) ∧
  (∀ (l1 l2 l3 l4 l5 : Option Value) (st : List Value) (h : pb_H) (Q : Option Value → pb_H → Prop), pb_R 141 36 [some .null, l1, l2, l3, l4, l5] [] st h Q ↔ pb_R 141 37 [some .null, l1, l2, l3, l4, l5] [] (.null :: st) h Q) ∧
  (∀ (l0 l1 l2 l3 l4 : Option Value) (st : List Value) (h : pb_H) (Q : Option Value → pb_H → Prop) (x : Int32), pb_R 141 37 [l0, l1, l2, l3, l4, some (.int x)] [] st h Q ↔ pb_R 141 39 [l0, l1, l2, l3, l4, some (.int x)] [] (.int x :: st) h Q) ∧
  (∀ (L : pb_L) (J : pb_J) (h : pb_H) (Q : Option Value → pb_H → Prop) (x0 : Int32) (x1 : Nat), pb_R 141 39 L J [.int x0, .ref x1] h Q ↔ pb_is0 (h.2 x1) 12 = true ∧ pb_call 140 [.ref x1, .int x0] h (fun v t => pb_R 141 42 L J (v.toList ++ []) t Q)) ∧
  (∀ (l1 l2 l3 l4 l5 : Option Value) (st : List Value) (h : pb_H) (Q : Option Value → pb_H → Prop) (x : Nat), pb_R 141 42 [some (.ref x), l1, l2, l3, l4, l5] [] st h Q ↔ pb_R 141 43 [some (.ref x), l1, l2, l3, l4, l5] [] (.ref x :: st) h Q) ∧
  (∀ (l1 l2 l3 l4 l5 : Option Value) (st : List Value) (h : pb_H) (Q : Option Value → pb_H → Prop), pb_R 141 42 [some .null, l1, l2, l3, l4, l5] [] st h Q ↔ pb_R 141 43 [some .null, l1, l2, l3, l4, l5] [] (.null :: st) h Q) ∧
  (∀ (L : pb_L) (J : pb_J) (st : List Value) (h : pb_H) (Q : Option Value → pb_H → Prop) (a : Nat), pb_R 141 43 L J (.ref a :: st) h Q ↔ pb_o (pb_gf (h.2 a) 12 7) (fun v => pb_R 141 46 L J (v :: st) h Q)) ∧
  (∀ (L : pb_L) (J : pb_J) (h : pb_H) (Q : Option Value → pb_H → Prop) (x : Int32), pb_R 141 46 L J [.int x] h Q ↔ Q (some (.int x)) h) := ⟨
  fun l1 l2 l3 l4 l5 st h Q x => pf_S pb_u_141 rfl rfl,
  fun l1 l2 l3 l4 l5 st h Q => pf_S pb_u_141 rfl rfl,
  fun L J st h Q a => pf_gf pb_u_141 rfl rfl,
  fun L J st h Q => pf_S pb_u_141 rfl rfl,
  fun L J st x y h Q => pf_S pb_u_141 rfl rfl,
  fun L J st h Q => pf_S pb_u_141 rfl rfl,
  fun L J st h Q x y => pf_ic pb_u_141 rfl rfl rfl,
  fun L J st h Q => pf_S pb_u_141 rfl rfl,
  fun L J h Q x => pf_ri pb_u_141 rfl rfl,
  fun l1 l2 l3 l4 l5 st h Q x => pf_S pb_u_141 rfl rfl,
  fun l1 l2 l3 l4 l5 st h Q => pf_S pb_u_141 rfl rfl,
  fun l0 l2 l3 l4 l5 st h Q x => pf_S pb_u_141 rfl rfl,
  fun L J h Q x0 x1 => pf_kv pb_u_141 rfl pb_ci_140 rfl ⟨Nat.le_of_ble_eq_true rfl, Nat.le_of_ble_eq_true rfl, Nat.le_of_ble_eq_true rfl, Nat.le_of_ble_eq_true rfl, rfl⟩ rfl rfl,
  fun l1 l2 l3 l4 l5 st h Q x => pf_S pb_u_141 rfl rfl,
  fun l1 l2 l3 l4 l5 st h Q => pf_S pb_u_141 rfl rfl,
  fun l0 l1 l3 l4 l5 st h Q x => pf_S pb_u_141 rfl rfl,
  fun L J h Q x0 x1 => pf_kv pb_u_141 rfl pb_ci_140 rfl ⟨Nat.le_of_ble_eq_true rfl, Nat.le_of_ble_eq_true rfl, Nat.le_of_ble_eq_true rfl, Nat.le_of_ble_eq_true rfl, rfl⟩ rfl rfl,
  fun l1 l2 l3 l4 l5 st h Q x => pf_S pb_u_141 rfl rfl,
  fun l1 l2 l3 l4 l5 st h Q => pf_S pb_u_141 rfl rfl,
  fun l0 l1 l2 l4 l5 st h Q x => pf_S pb_u_141 rfl rfl,
  fun L J h Q x0 x1 => pf_kv pb_u_141 rfl pb_ci_140 rfl ⟨Nat.le_of_ble_eq_true rfl, Nat.le_of_ble_eq_true rfl, Nat.le_of_ble_eq_true rfl, Nat.le_of_ble_eq_true rfl, rfl⟩ rfl rfl,
  fun l1 l2 l3 l4 l5 st h Q x => pf_S pb_u_141 rfl rfl,
  fun l1 l2 l3 l4 l5 st h Q => pf_S pb_u_141 rfl rfl,
  fun l0 l1 l2 l3 l5 st h Q x => pf_S pb_u_141 rfl rfl,
  fun L J h Q x0 x1 => pf_kv pb_u_141 rfl pb_ci_140 rfl ⟨Nat.le_of_ble_eq_true rfl, Nat.le_of_ble_eq_true rfl, Nat.le_of_ble_eq_true rfl, Nat.le_of_ble_eq_true rfl, rfl⟩ rfl rfl,
  fun l1 l2 l3 l4 l5 st h Q x => pf_S pb_u_141 rfl rfl,
  fun l1 l2 l3 l4 l5 st h Q => pf_S pb_u_141 rfl rfl,
  fun l0 l1 l2 l3 l4 st h Q x => pf_S pb_u_141 rfl rfl,
  fun L J h Q x0 x1 => pf_kv pb_u_141 rfl pb_ci_140 rfl ⟨Nat.le_of_ble_eq_true rfl, Nat.le_of_ble_eq_true rfl, Nat.le_of_ble_eq_true rfl, Nat.le_of_ble_eq_true rfl, rfl⟩ rfl rfl,
  fun l1 l2 l3 l4 l5 st h Q x => pf_S pb_u_141 rfl rfl,
  fun l1 l2 l3 l4 l5 st h Q => pf_S pb_u_141 rfl rfl,
  fun L J st h Q a => pf_gf pb_u_141 rfl rfl,
  fun L J h Q x => pf_ri pb_u_141 rfl rfl⟩
theorem pb_c141 (x0 : Nat) (x1 : Int32) (x2 : Int32) (x3 : Int32) (x4 : Int32) (x5 : Int32) (h : pb_H) (Q : Option Value → pb_H → Prop) : pb_call 141 [.ref x0, .int x1, .int x2, .int x3, .int x4, .int x5] h Q ↔ pb_R 141 0 [some (.ref x0), some (.int x1), some (.int x2), some (.int x3), some (.int x4), some (.int x5)] [] [] h Q := Iff.rfl
/-! 142: PlaneBenchModel.back(I)I -/
theorem pb_u_142 : pb_t 142 = pb_t142 := rfl
theorem pb_ci_142 : pb_ci 142 = 12 := by decide +kernel
set_option maxRecDepth 100000 in
theorem pb_e142 : (∀ (l0 : Option Value) (st : List Value) (h : pb_H) (Q : Option Value → pb_H → Prop) (x : Int32), pb_R 142 0 [l0, some (.int x)] [] st h Q ↔ pb_R 142 1 [l0, some (.int x)] [] (.int x :: st) h Q) ∧
  (∀ (L : pb_L) (J : pb_J) (st : List Value) (h : pb_H) (Q : Option Value → pb_H → Prop) (x : Int32), pb_R 142 1 L J (.int x :: st) h Q ↔ if x < 0 then pb_R 142 12 L J st h Q else pb_R 142 4 L J st h Q) ∧
  (∀ (l0 : Option Value) (st : List Value) (h : pb_H) (Q : Option Value → pb_H → Prop) (x : Int32), pb_R 142 4 [l0, some (.int x)] [] st h Q ↔ pb_R 142 5 [l0, some (.int x)] [] (.int x :: st) h Q) ∧
  (∀ (l1 : Option Value) (st : List Value) (h : pb_H) (Q : Option Value → pb_H → Prop) (x : Nat), pb_R 142 5 [some (.ref x), l1] [] st h Q ↔ pb_R 142 6 [some (.ref x), l1] [] (.ref x :: st) h Q) ∧
  (∀ (l1 : Option Value) (st : List Value) (h : pb_H) (Q : Option Value → pb_H → Prop), pb_R 142 5 [some .null, l1] [] st h Q ↔ pb_R 142 6 [some .null, l1] [] (.null :: st) h Q) ∧
  (∀ (L : pb_L) (J : pb_J) (st : List Value) (h : pb_H) (Q : Option Value → pb_H → Prop) (a : Nat), pb_R 142 6 L J (.ref a :: st) h Q ↔ pb_o (pb_gf (h.2 a) 12 7) (fun v => pb_R 142 9 L J (v :: st) h Q)) ∧
  (∀ (L : pb_L) (J : pb_J) (st : List Value) (h : pb_H) (Q : Option Value → pb_H → Prop) (x y : Int32), pb_R 142 9 L J (.int y :: .int x :: st) h Q ↔ if x ≤ y then pb_R 142 14 L J st h Q else pb_R 142 12 L J st h Q) ∧
  (∀ (L : pb_L) (J : pb_J) (st : List Value) (h : pb_H) (Q : Option Value → pb_H → Prop), pb_R 142 12 L J st h Q ↔ pb_R 142 13 L J (.int (-1 : Int32) :: st) h Q) ∧
  (∀ (L : pb_L) (J : pb_J) (h : pb_H) (Q : Option Value → pb_H → Prop) (x : Int32), pb_R 142 13 L J [.int x] h Q ↔ Q (some (.int x)) h) ∧
  (∀ (l1 : Option Value) (st : List Value) (h : pb_H) (Q : Option Value → pb_H → Prop) (x : Nat), pb_R 142 14 [some (.ref x), l1] [] st h Q ↔ pb_R 142 15 [some (.ref x), l1] [] (.ref x :: st) h Q) ∧
  (∀ (l1 : Option Value) (st : List Value) (h : pb_H) (Q : Option Value → pb_H → Prop), pb_R 142 14 [some .null, l1] [] st h Q ↔ pb_R 142 15 [some .null, l1] [] (.null :: st) h Q) ∧
  (∀ (L : pb_L) (J : pb_J) (st : List Value) (x : Nat) (h : pb_H) (Q : Option Value → pb_H → Prop), pb_R 142 15 L J (.ref x :: st) h Q ↔ pb_R 142 16 L J (.ref x :: .ref x :: st) h Q) ∧
  (∀ (L : pb_L) (J : pb_J) (st : List Value) (h : pb_H) (Q : Option Value → pb_H → Prop) (a : Nat), pb_R 142 16 L J (.ref a :: st) h Q ↔ pb_o (pb_gf (h.2 a) 12 7) (fun v => pb_R 142 19 L J (v :: st) h Q)) ∧
  (∀ (l0 : Option Value) (st : List Value) (h : pb_H) (Q : Option Value → pb_H → Prop) (x : Int32), pb_R 142 19 [l0, some (.int x)] [] st h Q ↔ pb_R 142 20 [l0, some (.int x)] [] (.int x :: st) h Q) ∧
  (∀ (L : pb_L) (J : pb_J) (st : List Value) (x y : Int32) (h : pb_H) (Q : Option Value → pb_H → Prop), pb_R 142 20 L J (.int y :: .int x :: st) h Q ↔ pb_R 142 21 L J (.int (x - y) :: st) h Q) ∧
  (∀ (L : pb_L) (J : pb_J) (st : List Value) (h : pb_H) (Q : Option Value → pb_H → Prop) (a : Nat) (x : Int32), pb_R 142 21 L J (.int x :: .ref a :: st) h Q ↔ pb_o (pb_pf (h.2 a) 12 7 (.int x)) (fun c => pb_R 142 24 L J st (pb_set h a c) Q)) ∧
  (∀ (l1 : Option Value) (st : List Value) (h : pb_H) (Q : Option Value → pb_H → Prop) (x : Nat), pb_R 142 24 [some (.ref x), l1] [] st h Q ↔ pb_R 142 25 [some (.ref x), l1] [] (.ref x :: st) h Q) ∧
  (∀ (l1 : Option Value) (st : List Value) (h : pb_H) (Q : Option Value → pb_H → Prop), pb_R 142 24 [some .null, l1] [] st h Q ↔ pb_R 142 25 [some .null, l1] [] (.null :: st) h Q) ∧
  (∀ (L : pb_L) (J : pb_J) (st : List Value) (h : pb_H) (Q : Option Value → pb_H → Prop) (a : Nat), pb_R 142 25 L J (.ref a :: st) h Q ↔ pb_o (pb_gf (h.2 a) 12 7) (fun v => pb_R 142 28 L J (v :: st) h Q)) ∧
  (∀ (L : pb_L) (J : pb_J) (h : pb_H) (Q : Option Value → pb_H → Prop) (x : Int32), pb_R 142 28 L J [.int x] h Q ↔ Q (some (.int x)) h) := ⟨
  fun l0 st h Q x => pf_S pb_u_142 rfl rfl,
  fun L J st h Q x => pf_ii pb_u_142 rfl rfl rfl,
  fun l0 st h Q x => pf_S pb_u_142 rfl rfl,
  fun l1 st h Q x => pf_S pb_u_142 rfl rfl,
  fun l1 st h Q => pf_S pb_u_142 rfl rfl,
  fun L J st h Q a => pf_gf pb_u_142 rfl rfl,
  fun L J st h Q x y => pf_ic pb_u_142 rfl rfl rfl,
  fun L J st h Q => pf_S pb_u_142 rfl rfl,
  fun L J h Q x => pf_ri pb_u_142 rfl rfl,
  fun l1 st h Q x => pf_S pb_u_142 rfl rfl,
  fun l1 st h Q => pf_S pb_u_142 rfl rfl,
  fun L J st x h Q => pf_S pb_u_142 rfl rfl,
  fun L J st h Q a => pf_gf pb_u_142 rfl rfl,
  fun l0 st h Q x => pf_S pb_u_142 rfl rfl,
  fun L J st x y h Q => pf_S pb_u_142 rfl rfl,
  fun L J st h Q a x => pf_pf pb_u_142 rfl rfl,
  fun l1 st h Q x => pf_S pb_u_142 rfl rfl,
  fun l1 st h Q => pf_S pb_u_142 rfl rfl,
  fun L J st h Q a => pf_gf pb_u_142 rfl rfl,
  fun L J h Q x => pf_ri pb_u_142 rfl rfl⟩
theorem pb_c142 (x0 : Nat) (x1 : Int32) (h : pb_H) (Q : Option Value → pb_H → Prop) : pb_call 142 [.ref x0, .int x1] h Q ↔ pb_R 142 0 [some (.ref x0), some (.int x1)] [] [] h Q := Iff.rfl
/-! 143: PlaneBenchModel.at(II)I -/
theorem pb_u_143 : pb_t 143 = pb_t143 := rfl
set_option maxRecDepth 100000 in
theorem pb_e143 : (∀ (l1 : Option Value) (st : List Value) (h : pb_H) (Q : Option Value → pb_H → Prop) (x : Int32), pb_R 143 0 [some (.int x), l1] [] st h Q ↔ pb_R 143 1 [some (.int x), l1] [] (.int x :: st) h Q) ∧
  (∀ (L : pb_L) (J : pb_J) (st : List Value) (h : pb_H) (Q : Option Value → pb_H → Prop), pb_R 143 1 L J st h Q ↔ pb_R 143 3 L J (.int (17 : Int32) :: st) h Q) ∧
  (∀ (L : pb_L) (J : pb_J) (st : List Value) (x y : Int32) (h : pb_H) (Q : Option Value → pb_H → Prop), pb_R 143 3 L J (.int y :: .int x :: st) h Q ↔ pb_R 143 4 L J (.int (x * y) :: st) h Q) ∧
  (∀ (l0 : Option Value) (st : List Value) (h : pb_H) (Q : Option Value → pb_H → Prop) (x : Int32), pb_R 143 4 [l0, some (.int x)] [] st h Q ↔ pb_R 143 5 [l0, some (.int x)] [] (.int x :: st) h Q) ∧
  (∀ (L : pb_L) (J : pb_J) (st : List Value) (x y : Int32) (h : pb_H) (Q : Option Value → pb_H → Prop), pb_R 143 5 L J (.int y :: .int x :: st) h Q ↔ pb_R 143 6 L J (.int (x + y) :: st) h Q) ∧
  (∀ (L : pb_L) (J : pb_J) (st : List Value) (h : pb_H) (Q : Option Value → pb_H → Prop), pb_R 143 6 L J st h Q ↔ pb_R 143 8 L J (.int (20 : Int32) :: st) h Q) ∧
  (∀ (L : pb_L) (J : pb_J) (st : List Value) (x y : Int32) (h : pb_H) (Q : Option Value → pb_H → Prop), pb_R 143 8 L J (.int y :: .int x :: st) h Q ↔ pb_R 143 9 L J (.int (x * y) :: st) h Q) ∧
  (∀ (L : pb_L) (J : pb_J) (h : pb_H) (Q : Option Value → pb_H → Prop) (x : Int32), pb_R 143 9 L J [.int x] h Q ↔ Q (some (.int x)) h) := ⟨
  fun l1 st h Q x => pf_S pb_u_143 rfl rfl,
  fun L J st h Q => pf_S pb_u_143 rfl rfl,
  fun L J st x y h Q => pf_S pb_u_143 rfl rfl,
  fun l0 st h Q x => pf_S pb_u_143 rfl rfl,
  fun L J st x y h Q => pf_S pb_u_143 rfl rfl,
  fun L J st h Q => pf_S pb_u_143 rfl rfl,
  fun L J st x y h Q => pf_S pb_u_143 rfl rfl,
  fun L J h Q x => pf_ri pb_u_143 rfl rfl⟩
theorem pb_c143 (x0 : Int32) (x1 : Int32) (h : pb_H) (Q : Option Value → pb_H → Prop) : pb_call 143 [.int x0, .int x1] h Q ↔ pb_R 143 0 [some (.int x0), some (.int x1)] [] [] h Q := Iff.rfl
/-! 144: PlaneBenchModel.zero(I)V -/
theorem pb_u_144 : pb_t 144 = pb_t144 := rfl
theorem pb_ci_144 : pb_ci 144 = 12 := by decide +kernel
set_option maxRecDepth 100000 in
theorem pb_q144_2 (l0 l1 : Option Value) (st : List Value) (h : pb_H) (Q : Option Value → pb_H → Prop) (x : Int32) : pb_R 144 2 [l0, l1, some (.int x)] [] st h Q ↔ pb_R 144 3 [l0, l1, some (.int x)] [] (.int x :: st) h Q := pf_S pb_u_144 rfl rfl
set_option maxRecDepth 100000 in
theorem pb_e144 : (∀ (L : pb_L) (J : pb_J) (st : List Value) (h : pb_H) (Q : Option Value → pb_H → Prop), pb_R 144 0 L J st h Q ↔ pb_R 144 1 L J (.int (0 : Int32) :: st) h Q) ∧
  (∀ (l0 l1 l2 : Option Value) (st : List Value) (h : pb_H) (Q : Option Value → pb_H → Prop) (x : Int32), pb_R 144 1 [l0, l1, l2] [] (.int x :: st) h Q ↔ pb_R 144 2 [l0, l1, some (.int x)] [] st h Q) ∧
  (∀ (L : pb_L) (J : pb_J) (st : List Value) (h : pb_H) (Q : Option Value → pb_H → Prop), pb_R 144 3 L J st h Q ↔ pb_R 144 5 L J (.int (20 : Int32) :: st) h Q) ∧
  (∀ (L : pb_L) (J : pb_J) (st : List Value) (h : pb_H) (Q : Option Value → pb_H → Prop) (x y : Int32), pb_R 144 5 L J (.int y :: .int x :: st) h Q ↔ if y ≤ x then pb_R 144 23 L J st h Q else pb_R 144 8 L J st h Q) ∧
  (∀ (l1 l2 : Option Value) (st : List Value) (h : pb_H) (Q : Option Value → pb_H → Prop) (x : Nat), pb_R 144 8 [some (.ref x), l1, l2] [] st h Q ↔ pb_R 144 9 [some (.ref x), l1, l2] [] (.ref x :: st) h Q) ∧
  (∀ (l1 l2 : Option Value) (st : List Value) (h : pb_H) (Q : Option Value → pb_H → Prop), pb_R 144 8 [some .null, l1, l2] [] st h Q ↔ pb_R 144 9 [some .null, l1, l2] [] (.null :: st) h Q) ∧
  (∀ (L : pb_L) (J : pb_J) (st : List Value) (h : pb_H) (Q : Option Value → pb_H → Prop) (a : Nat), pb_R 144 9 L J (.ref a :: st) h Q ↔ pb_o (pb_gf (h.2 a) 12 0) (fun v => pb_R 144 12 L J (v :: st) h Q)) ∧
  (∀ (l0 l2 : Option Value) (st : List Value) (h : pb_H) (Q : Option Value → pb_H → Prop) (x : Int32), pb_R 144 12 [l0, some (.int x), l2] [] st h Q ↔ pb_R 144 13 [l0, some (.int x), l2] [] (.int x :: st) h Q) ∧
  (∀ (l0 l1 : Option Value) (st : List Value) (h : pb_H) (Q : Option Value → pb_H → Prop) (x : Int32), pb_R 144 13 [l0, l1, some (.int x)] [] st h Q ↔ pb_R 144 14 [l0, l1, some (.int x)] [] (.int x :: st) h Q) ∧
  (∀ (L : pb_L) (J : pb_J) (st : List Value) (x y : Int32) (h : pb_H) (Q : Option Value → pb_H → Prop), pb_R 144 14 L J (.int y :: .int x :: st) h Q ↔ pb_R 144 15 L J (.int (x + y) :: st) h Q) ∧
  (∀ (L : pb_L) (J : pb_J) (st : List Value) (h : pb_H) (Q : Option Value → pb_H → Prop), pb_R 144 15 L J st h Q ↔ pb_R 144 16 L J (.int (0 : Int32) :: st) h Q) ∧
  (∀ (L : pb_L) (J : pb_J) (st : List Value) (h : pb_H) (Q : Option Value → pb_H → Prop) (a : Nat) (i x : Int32), pb_R 144 16 L J (.int x :: .int i :: .ref a :: st) h Q ↔ pb_o (pb_si (h.2 a) i x) (fun c => pb_R 144 17 L J st (pb_set h a c) Q)) ∧
  (∀ (l0 l1 : Option Value) (st : List Value) (h : pb_H) (Q : Option Value → pb_H → Prop) (x : Int32), pb_R 144 17 [l0, l1, some (.int x)] [] st h Q ↔ pb_R 144 20 [l0, l1, some (.int (x + (1 : Int32)))] [] st h Q) ∧
  (∀ (L : pb_L) (J : pb_J) (st : List Value) (h : pb_H) (Q : Option Value → pb_H → Prop), pb_R 144 20 L J st h Q ↔ pb_R 144 2 L J st h Q) ∧
  (∀ (L : pb_L) (J : pb_J) (h : pb_H) (Q : Option Value → pb_H → Prop), pb_R 144 23 L J [] h Q ↔ Q none h) := ⟨
  fun L J st h Q => pf_S pb_u_144 rfl rfl,
  fun l0 l1 l2 st h Q x => pf_S pb_u_144 rfl rfl,
  fun L J st h Q => pf_S pb_u_144 rfl rfl,
  fun L J st h Q x y => pf_ic pb_u_144 rfl rfl rfl,
  fun l1 l2 st h Q x => pf_S pb_u_144 rfl rfl,
  fun l1 l2 st h Q => pf_S pb_u_144 rfl rfl,
  fun L J st h Q a => pf_gf pb_u_144 rfl rfl,
  fun l0 l2 st h Q x => pf_S pb_u_144 rfl rfl,
  fun l0 l1 st h Q x => pf_S pb_u_144 rfl rfl,
  fun L J st x y h Q => pf_S pb_u_144 rfl rfl,
  fun L J st h Q => pf_S pb_u_144 rfl rfl,
  fun L J st h Q a i x => pf_si pb_u_144 rfl rfl,
  fun l0 l1 st h Q x => pf_S pb_u_144 rfl rfl,
  fun L J st h Q => pf_S pb_u_144 rfl rfl,
  fun L J h Q => pf_rv pb_u_144 rfl rfl⟩
theorem pb_c144 (x0 : Nat) (x1 : Int32) (h : pb_H) (Q : Option Value → pb_H → Prop) : pb_call 144 [.ref x0, .int x1] h Q ↔ pb_R 144 0 [some (.ref x0), some (.int x1), none] [] [] h Q := Iff.rfl
/-! 145: PlaneBenchModel.small(II)V -/
theorem pb_u_145 : pb_t 145 = pb_t145 := rfl
theorem pb_ci_145 : pb_ci 145 = 12 := by decide +kernel
set_option maxRecDepth 100000 in
theorem pb_e145 : (∀ (l1 l2 : Option Value) (st : List Value) (h : pb_H) (Q : Option Value → pb_H → Prop) (x : Nat), pb_R 145 0 [some (.ref x), l1, l2] [] st h Q ↔ pb_R 145 1 [some (.ref x), l1, l2] [] (.ref x :: st) h Q) ∧
  (∀ (l1 l2 : Option Value) (st : List Value) (h : pb_H) (Q : Option Value → pb_H → Prop), pb_R 145 0 [some .null, l1, l2] [] st h Q ↔ pb_R 145 1 [some .null, l1, l2] [] (.null :: st) h Q) ∧
  (∀ (l0 l2 : Option Value) (st : List Value) (h : pb_H) (Q : Option Value → pb_H → Prop) (x : Int32), pb_R 145 1 [l0, some (.int x), l2] [] st h Q ↔ pb_R 145 2 [l0, some (.int x), l2] [] (.int x :: st) h Q) ∧
  (∀ (L : pb_L) (J : pb_J) (h : pb_H) (Q : Option Value → pb_H → Prop) (x0 : Int32) (x1 : Nat), pb_R 145 2 L J [.int x0, .ref x1] h Q ↔ pb_is0 (h.2 x1) 12 = true ∧ pb_call 144 [.ref x1, .int x0] h (fun v t => pb_R 145 5 L J (v.toList ++ []) t Q)) ∧
  (∀ (l1 l2 : Option Value) (st : List Value) (h : pb_H) (Q : Option Value → pb_H → Prop) (x : Nat), pb_R 145 5 [some (.ref x), l1, l2] [] st h Q ↔ pb_R 145 6 [some (.ref x), l1, l2] [] (.ref x :: st) h Q) ∧
  (∀ (l1 l2 : Option Value) (st : List Value) (h : pb_H) (Q : Option Value → pb_H → Prop), pb_R 145 5 [some .null, l1, l2] [] st h Q ↔ pb_R 145 6 [some .null, l1, l2] [] (.null :: st) h Q) ∧
  (∀ (L : pb_L) (J : pb_J) (st : List Value) (h : pb_H) (Q : Option Value → pb_H → Prop) (a : Nat), pb_R 145 6 L J (.ref a :: st) h Q ↔ pb_o (pb_gf (h.2 a) 12 0) (fun v => pb_R 145 9 L J (v :: st) h Q)) ∧
  (∀ (l0 l2 : Option Value) (st : List Value) (h : pb_H) (Q : Option Value → pb_H → Prop) (x : Int32), pb_R 145 9 [l0, some (.int x), l2] [] st h Q ↔ pb_R 145 10 [l0, some (.int x), l2] [] (.int x :: st) h Q) ∧
  (∀ (l0 l1 : Option Value) (st : List Value) (h : pb_H) (Q : Option Value → pb_H → Prop) (x : Int32), pb_R 145 10 [l0, l1, some (.int x)] [] st h Q ↔ pb_R 145 11 [l0, l1, some (.int x)] [] (.int x :: st) h Q) ∧
  (∀ (L : pb_L) (J : pb_J) (st : List Value) (h : pb_H) (Q : Option Value → pb_H → Prop) (a : Nat) (i x : Int32), pb_R 145 11 L J (.int x :: .int i :: .ref a :: st) h Q ↔ pb_o (pb_si (h.2 a) i x) (fun c => pb_R 145 12 L J st (pb_set h a c) Q)) ∧
  (∀ (L : pb_L) (J : pb_J) (h : pb_H) (Q : Option Value → pb_H → Prop), pb_R 145 12 L J [] h Q ↔ Q none h) := ⟨
  fun l1 l2 st h Q x => pf_S pb_u_145 rfl rfl,
  fun l1 l2 st h Q => pf_S pb_u_145 rfl rfl,
  fun l0 l2 st h Q x => pf_S pb_u_145 rfl rfl,
  fun L J h Q x0 x1 => pf_kv pb_u_145 rfl pb_ci_144 rfl ⟨Nat.le_of_ble_eq_true rfl, Nat.le_of_ble_eq_true rfl, Nat.le_of_ble_eq_true rfl, Nat.le_of_ble_eq_true rfl, rfl⟩ rfl rfl,
  fun l1 l2 st h Q x => pf_S pb_u_145 rfl rfl,
  fun l1 l2 st h Q => pf_S pb_u_145 rfl rfl,
  fun L J st h Q a => pf_gf pb_u_145 rfl rfl,
  fun l0 l2 st h Q x => pf_S pb_u_145 rfl rfl,
  fun l0 l1 st h Q x => pf_S pb_u_145 rfl rfl,
  fun L J st h Q a i x => pf_si pb_u_145 rfl rfl,
  fun L J h Q => pf_rv pb_u_145 rfl rfl⟩
theorem pb_c145 (x0 : Nat) (x1 : Int32) (x2 : Int32) (h : pb_H) (Q : Option Value → pb_H → Prop) : pb_call 145 [.ref x0, .int x1, .int x2] h Q ↔ pb_R 145 0 [some (.ref x0), some (.int x1), some (.int x2)] [] [] h Q := Iff.rfl
/-! 146: PlaneBenchModel.copy(II)V -/
theorem pb_u_146 : pb_t 146 = pb_t146 := rfl
theorem pb_ci_146 : pb_ci 146 = 12 := by decide +kernel
set_option maxRecDepth 100000 in
theorem pb_q146_2 (l0 l1 l2 : Option Value) (st : List Value) (h : pb_H) (Q : Option Value → pb_H → Prop) (x : Int32) : pb_R 146 2 [l0, l1, l2, some (.int x)] [] st h Q ↔ pb_R 146 3 [l0, l1, l2, some (.int x)] [] (.int x :: st) h Q := pf_S pb_u_146 rfl rfl
set_option maxRecDepth 100000 in
theorem pb_e146 : (∀ (L : pb_L) (J : pb_J) (st : List Value) (h : pb_H) (Q : Option Value → pb_H → Prop), pb_R 146 0 L J st h Q ↔ pb_R 146 1 L J (.int (0 : Int32) :: st) h Q) ∧
  (∀ (l0 l1 l2 l3 : Option Value) (st : List Value) (h : pb_H) (Q : Option Value → pb_H → Prop) (x : Int32), pb_R 146 1 [l0, l1, l2, l3] [] (.int x :: st) h Q ↔ pb_R 146 2 [l0, l1, l2, some (.int x)] [] st h Q) ∧
  (∀ (L : pb_L) (J : pb_J) (st : List Value) (h : pb_H) (Q : Option Value → pb_H → Prop), pb_R 146 3 L J st h Q ↔ pb_R 146 5 L J (.int (20 : Int32) :: st) h Q) ∧
  (∀ (L : pb_L) (J : pb_J) (st : List Value) (h : pb_H) (Q : Option Value → pb_H → Prop) (x y : Int32), pb_R 146 5 L J (.int y :: .int x :: st) h Q ↔ if y ≤ x then pb_R 146 30 L J st h Q else pb_R 146 8 L J st h Q) ∧
  (∀ (l1 l2 l3 : Option Value) (st : List Value) (h : pb_H) (Q : Option Value → pb_H → Prop) (x : Nat), pb_R 146 8 [some (.ref x), l1, l2, l3] [] st h Q ↔ pb_R 146 9 [some (.ref x), l1, l2, l3] [] (.ref x :: st) h Q) ∧
  (∀ (l1 l2 l3 : Option Value) (st : List Value) (h : pb_H) (Q : Option Value → pb_H → Prop), pb_R 146 8 [some .null, l1, l2, l3] [] st h Q ↔ pb_R 146 9 [some .null, l1, l2, l3] [] (.null :: st) h Q) ∧
  (∀ (L : pb_L) (J : pb_J) (st : List Value) (h : pb_H) (Q : Option Value → pb_H → Prop) (a : Nat), pb_R 146 9 L J (.ref a :: st) h Q ↔ pb_o (pb_gf (h.2 a) 12 0) (fun v => pb_R 146 12 L J (v :: st) h Q)) ∧
  (∀ (l0 l1 l3 : Option Value) (st : List Value) (h : pb_H) (Q : Option Value → pb_H → Prop) (x : Int32), pb_R 146 12 [l0, l1, some (.int x), l3] [] st h Q ↔ pb_R 146 13 [l0, l1, some (.int x), l3] [] (.int x :: st) h Q) ∧
  (∀ (l0 l1 l2 : Option Value) (st : List Value) (h : pb_H) (Q : Option Value → pb_H → Prop) (x : Int32), pb_R 146 13 [l0, l1, l2, some (.int x)] [] st h Q ↔ pb_R 146 14 [l0, l1, l2, some (.int x)] [] (.int x :: st) h Q) ∧
  (∀ (L : pb_L) (J : pb_J) (st : List Value) (x y : Int32) (h : pb_H) (Q : Option Value → pb_H → Prop), pb_R 146 14 L J (.int y :: .int x :: st) h Q ↔ pb_R 146 15 L J (.int (x + y) :: st) h Q) ∧
  (∀ (l1 l2 l3 : Option Value) (st : List Value) (h : pb_H) (Q : Option Value → pb_H → Prop) (x : Nat), pb_R 146 15 [some (.ref x), l1, l2, l3] [] st h Q ↔ pb_R 146 16 [some (.ref x), l1, l2, l3] [] (.ref x :: st) h Q) ∧
  (∀ (l1 l2 l3 : Option Value) (st : List Value) (h : pb_H) (Q : Option Value → pb_H → Prop), pb_R 146 15 [some .null, l1, l2, l3] [] st h Q ↔ pb_R 146 16 [some .null, l1, l2, l3] [] (.null :: st) h Q) ∧
  (∀ (L : pb_L) (J : pb_J) (st : List Value) (h : pb_H) (Q : Option Value → pb_H → Prop) (a : Nat), pb_R 146 16 L J (.ref a :: st) h Q ↔ pb_o (pb_gf (h.2 a) 12 0) (fun v => pb_R 146 19 L J (v :: st) h Q)) ∧
  (∀ (l0 l2 l3 : Option Value) (st : List Value) (h : pb_H) (Q : Option Value → pb_H → Prop) (x : Int32), pb_R 146 19 [l0, some (.int x), l2, l3] [] st h Q ↔ pb_R 146 20 [l0, some (.int x), l2, l3] [] (.int x :: st) h Q) ∧
  (∀ (l0 l1 l2 : Option Value) (st : List Value) (h : pb_H) (Q : Option Value → pb_H → Prop) (x : Int32), pb_R 146 20 [l0, l1, l2, some (.int x)] [] st h Q ↔ pb_R 146 21 [l0, l1, l2, some (.int x)] [] (.int x :: st) h Q) ∧
  (∀ (L : pb_L) (J : pb_J) (st : List Value) (x y : Int32) (h : pb_H) (Q : Option Value → pb_H → Prop), pb_R 146 21 L J (.int y :: .int x :: st) h Q ↔ pb_R 146 22 L J (.int (x + y) :: st) h Q) ∧
  (∀ (L : pb_L) (J : pb_J) (st : List Value) (h : pb_H) (Q : Option Value → pb_H → Prop) (a : Nat) (i : Int32), pb_R 146 22 L J (.int i :: .ref a :: st) h Q ↔ pb_o (pb_ai (h.2 a) i) (fun v => pb_R 146 23 L J (.int v :: st) h Q)) ∧
  (∀ (L : pb_L) (J : pb_J) (st : List Value) (h : pb_H) (Q : Option Value → pb_H → Prop) (a : Nat) (i x : Int32), pb_R 146 23 L J (.int x :: .int i :: .ref a :: st) h Q ↔ pb_o (pb_si (h.2 a) i x) (fun c => pb_R 146 24 L J st (pb_set h a c) Q)) ∧
  (∀ (l0 l1 l2 : Option Value) (st : List Value) (h : pb_H) (Q : Option Value → pb_H → Prop) (x : Int32), pb_R 146 24 [l0, l1, l2, some (.int x)] [] st h Q ↔ pb_R 146 27 [l0, l1, l2, some (.int (x + (1 : Int32)))] [] st h Q) ∧
  (∀ (L : pb_L) (J : pb_J) (st : List Value) (h : pb_H) (Q : Option Value → pb_H → Prop), pb_R 146 27 L J st h Q ↔ pb_R 146 2 L J st h Q) ∧
  (∀ (L : pb_L) (J : pb_J) (h : pb_H) (Q : Option Value → pb_H → Prop), pb_R 146 30 L J [] h Q ↔ Q none h) := ⟨
  fun L J st h Q => pf_S pb_u_146 rfl rfl,
  fun l0 l1 l2 l3 st h Q x => pf_S pb_u_146 rfl rfl,
  fun L J st h Q => pf_S pb_u_146 rfl rfl,
  fun L J st h Q x y => pf_ic pb_u_146 rfl rfl rfl,
  fun l1 l2 l3 st h Q x => pf_S pb_u_146 rfl rfl,
  fun l1 l2 l3 st h Q => pf_S pb_u_146 rfl rfl,
  fun L J st h Q a => pf_gf pb_u_146 rfl rfl,
  fun l0 l1 l3 st h Q x => pf_S pb_u_146 rfl rfl,
  fun l0 l1 l2 st h Q x => pf_S pb_u_146 rfl rfl,
  fun L J st x y h Q => pf_S pb_u_146 rfl rfl,
  fun l1 l2 l3 st h Q x => pf_S pb_u_146 rfl rfl,
  fun l1 l2 l3 st h Q => pf_S pb_u_146 rfl rfl,
  fun L J st h Q a => pf_gf pb_u_146 rfl rfl,
  fun l0 l2 l3 st h Q x => pf_S pb_u_146 rfl rfl,
  fun l0 l1 l2 st h Q x => pf_S pb_u_146 rfl rfl,
  fun L J st x y h Q => pf_S pb_u_146 rfl rfl,
  fun L J st h Q a i => pf_ai pb_u_146 rfl rfl,
  fun L J st h Q a i x => pf_si pb_u_146 rfl rfl,
  fun l0 l1 l2 st h Q x => pf_S pb_u_146 rfl rfl,
  fun L J st h Q => pf_S pb_u_146 rfl rfl,
  fun L J h Q => pf_rv pb_u_146 rfl rfl⟩
theorem pb_c146 (x0 : Nat) (x1 : Int32) (x2 : Int32) (h : pb_H) (Q : Option Value → pb_H → Prop) : pb_call 146 [.ref x0, .int x1, .int x2] h Q ↔ pb_R 146 0 [some (.ref x0), some (.int x1), some (.int x2), none] [] [] h Q := Iff.rfl
/-! 147: PlaneBenchModel.isZero(I)Z -/
theorem pb_u_147 : pb_t 147 = pb_t147 := rfl
theorem pb_ci_147 : pb_ci 147 = 12 := by decide +kernel
set_option maxRecDepth 100000 in
theorem pb_q147_2 (l0 l1 : Option Value) (st : List Value) (h : pb_H) (Q : Option Value → pb_H → Prop) (x : Int32) : pb_R 147 2 [l0, l1, some (.int x)] [] st h Q ↔ pb_R 147 3 [l0, l1, some (.int x)] [] (.int x :: st) h Q := pf_S pb_u_147 rfl rfl
set_option maxRecDepth 100000 in
theorem pb_e147 : (∀ (L : pb_L) (J : pb_J) (st : List Value) (h : pb_H) (Q : Option Value → pb_H → Prop), pb_R 147 0 L J st h Q ↔ pb_R 147 1 L J (.int (0 : Int32) :: st) h Q) ∧
  (∀ (l0 l1 l2 : Option Value) (st : List Value) (h : pb_H) (Q : Option Value → pb_H → Prop) (x : Int32), pb_R 147 1 [l0, l1, l2] [] (.int x :: st) h Q ↔ pb_R 147 2 [l0, l1, some (.int x)] [] st h Q) ∧
  (∀ (L : pb_L) (J : pb_J) (st : List Value) (h : pb_H) (Q : Option Value → pb_H → Prop), pb_R 147 3 L J st h Q ↔ pb_R 147 5 L J (.int (20 : Int32) :: st) h Q) ∧
  (∀ (L : pb_L) (J : pb_J) (st : List Value) (h : pb_H) (Q : Option Value → pb_H → Prop) (x y : Int32), pb_R 147 5 L J (.int y :: .int x :: st) h Q ↔ if y ≤ x then pb_R 147 27 L J st h Q else pb_R 147 8 L J st h Q) ∧
  (∀ (l1 l2 : Option Value) (st : List Value) (h : pb_H) (Q : Option Value → pb_H → Prop) (x : Nat), pb_R 147 8 [some (.ref x), l1, l2] [] st h Q ↔ pb_R 147 9 [some (.ref x), l1, l2] [] (.ref x :: st) h Q) ∧
  (∀ (l1 l2 : Option Value) (st : List Value) (h : pb_H) (Q : Option Value → pb_H → Prop), pb_R 147 8 [some .null, l1, l2] [] st h Q ↔ pb_R 147 9 [some .null, l1, l2] [] (.null :: st) h Q) ∧
  (∀ (L : pb_L) (J : pb_J) (st : List Value) (h : pb_H) (Q : Option Value → pb_H → Prop) (a : Nat), pb_R 147 9 L J (.ref a :: st) h Q ↔ pb_o (pb_gf (h.2 a) 12 0) (fun v => pb_R 147 12 L J (v :: st) h Q)) ∧
  (∀ (l0 l2 : Option Value) (st : List Value) (h : pb_H) (Q : Option Value → pb_H → Prop) (x : Int32), pb_R 147 12 [l0, some (.int x), l2] [] st h Q ↔ pb_R 147 13 [l0, some (.int x), l2] [] (.int x :: st) h Q) ∧
  (∀ (l0 l1 : Option Value) (st : List Value) (h : pb_H) (Q : Option Value → pb_H → Prop) (x : Int32), pb_R 147 13 [l0, l1, some (.int x)] [] st h Q ↔ pb_R 147 14 [l0, l1, some (.int x)] [] (.int x :: st) h Q) ∧
  (∀ (L : pb_L) (J : pb_J) (st : List Value) (x y : Int32) (h : pb_H) (Q : Option Value → pb_H → Prop), pb_R 147 14 L J (.int y :: .int x :: st) h Q ↔ pb_R 147 15 L J (.int (x + y) :: st) h Q) ∧
  (∀ (L : pb_L) (J : pb_J) (st : List Value) (h : pb_H) (Q : Option Value → pb_H → Prop) (a : Nat) (i : Int32), pb_R 147 15 L J (.int i :: .ref a :: st) h Q ↔ pb_o (pb_ai (h.2 a) i) (fun v => pb_R 147 16 L J (.int v :: st) h Q)) ∧
  (∀ (L : pb_L) (J : pb_J) (st : List Value) (h : pb_H) (Q : Option Value → pb_H → Prop) (x : Int32), pb_R 147 16 L J (.int x :: st) h Q ↔ if x = 0 then pb_R 147 21 L J st h Q else pb_R 147 19 L J st h Q) ∧
  (∀ (L : pb_L) (J : pb_J) (st : List Value) (h : pb_H) (Q : Option Value → pb_H → Prop), pb_R 147 19 L J st h Q ↔ pb_R 147 20 L J (.int (0 : Int32) :: st) h Q) ∧
  (∀ (L : pb_L) (J : pb_J) (h : pb_H) (Q : Option Value → pb_H → Prop) (x : Int32), pb_R 147 20 L J [.int x] h Q ↔ narrow .boolean (.int x) = .int x ∧ Q (some (.int x)) h) ∧
  (∀ (l0 l1 : Option Value) (st : List Value) (h : pb_H) (Q : Option Value → pb_H → Prop) (x : Int32), pb_R 147 21 [l0, l1, some (.int x)] [] st h Q ↔ pb_R 147 24 [l0, l1, some (.int (x + (1 : Int32)))] [] st h Q) ∧
  (∀ (L : pb_L) (J : pb_J) (st : List Value) (h : pb_H) (Q : Option Value → pb_H → Prop), pb_R 147 24 L J st h Q ↔ pb_R 147 2 L J st h Q) ∧
  (∀ (L : pb_L) (J : pb_J) (st : List Value) (h : pb_H) (Q : Option Value → pb_H → Prop), pb_R 147 27 L J st h Q ↔ pb_R 147 28 L J (.int (1 : Int32) :: st) h Q) ∧
  (∀ (L : pb_L) (J : pb_J) (h : pb_H) (Q : Option Value → pb_H → Prop) (x : Int32), pb_R 147 28 L J [.int x] h Q ↔ narrow .boolean (.int x) = .int x ∧ Q (some (.int x)) h) := ⟨
  fun L J st h Q => pf_S pb_u_147 rfl rfl,
  fun l0 l1 l2 st h Q x => pf_S pb_u_147 rfl rfl,
  fun L J st h Q => pf_S pb_u_147 rfl rfl,
  fun L J st h Q x y => pf_ic pb_u_147 rfl rfl rfl,
  fun l1 l2 st h Q x => pf_S pb_u_147 rfl rfl,
  fun l1 l2 st h Q => pf_S pb_u_147 rfl rfl,
  fun L J st h Q a => pf_gf pb_u_147 rfl rfl,
  fun l0 l2 st h Q x => pf_S pb_u_147 rfl rfl,
  fun l0 l1 st h Q x => pf_S pb_u_147 rfl rfl,
  fun L J st x y h Q => pf_S pb_u_147 rfl rfl,
  fun L J st h Q a i => pf_ai pb_u_147 rfl rfl,
  fun L J st h Q x => pf_ii pb_u_147 rfl rfl rfl,
  fun L J st h Q => pf_S pb_u_147 rfl rfl,
  fun L J h Q x => pf_rz pb_u_147 rfl rfl,
  fun l0 l1 st h Q x => pf_S pb_u_147 rfl rfl,
  fun L J st h Q => pf_S pb_u_147 rfl rfl,
  fun L J st h Q => pf_S pb_u_147 rfl rfl,
  fun L J h Q x => pf_rz pb_u_147 rfl rfl⟩
theorem pb_c147 (x0 : Nat) (x1 : Int32) (h : pb_H) (Q : Option Value → pb_H → Prop) : pb_call 147 [.ref x0, .int x1] h Q ↔ pb_R 147 0 [some (.ref x0), some (.int x1), none] [] [] h Q := Iff.rfl
/-! 148: PlaneBenchModel.limbs(I)I -/
theorem pb_u_148 : pb_t 148 = pb_t148 := rfl
theorem pb_ci_148 : pb_ci 148 = 12 := by decide +kernel
set_option maxRecDepth 100000 in
theorem pb_q148_3 (l0 l1 : Option Value) (st : List Value) (h : pb_H) (Q : Option Value → pb_H → Prop) (x : Int32) : pb_R 148 3 [l0, l1, some (.int x)] [] st h Q ↔ pb_R 148 4 [l0, l1, some (.int x)] [] (.int x :: st) h Q := pf_S pb_u_148 rfl rfl
set_option maxRecDepth 100000 in
theorem pb_e148 : (∀ (L : pb_L) (J : pb_J) (st : List Value) (h : pb_H) (Q : Option Value → pb_H → Prop), pb_R 148 0 L J st h Q ↔ pb_R 148 2 L J (.int (20 : Int32) :: st) h Q) ∧
  (∀ (l0 l1 l2 : Option Value) (st : List Value) (h : pb_H) (Q : Option Value → pb_H → Prop) (x : Int32), pb_R 148 2 [l0, l1, l2] [] (.int x :: st) h Q ↔ pb_R 148 3 [l0, l1, some (.int x)] [] st h Q) ∧
  (∀ (L : pb_L) (J : pb_J) (st : List Value) (h : pb_H) (Q : Option Value → pb_H → Prop) (x : Int32), pb_R 148 4 L J (.int x :: st) h Q ↔ if x ≤ 0 then pb_R 148 26 L J st h Q else pb_R 148 7 L J st h Q) ∧
  (∀ (l1 l2 : Option Value) (st : List Value) (h : pb_H) (Q : Option Value → pb_H → Prop) (x : Nat), pb_R 148 7 [some (.ref x), l1, l2] [] st h Q ↔ pb_R 148 8 [some (.ref x), l1, l2] [] (.ref x :: st) h Q) ∧
  (∀ (l1 l2 : Option Value) (st : List Value) (h : pb_H) (Q : Option Value → pb_H → Prop), pb_R 148 7 [some .null, l1, l2] [] st h Q ↔ pb_R 148 8 [some .null, l1, l2] [] (.null :: st) h Q) ∧
  (∀ (L : pb_L) (J : pb_J) (st : List Value) (h : pb_H) (Q : Option Value → pb_H → Prop) (a : Nat), pb_R 148 8 L J (.ref a :: st) h Q ↔ pb_o (pb_gf (h.2 a) 12 0) (fun v => pb_R 148 11 L J (v :: st) h Q)) ∧
  (∀ (l0 l2 : Option Value) (st : List Value) (h : pb_H) (Q : Option Value → pb_H → Prop) (x : Int32), pb_R 148 11 [l0, some (.int x), l2] [] st h Q ↔ pb_R 148 12 [l0, some (.int x), l2] [] (.int x :: st) h Q) ∧
  (∀ (l0 l1 : Option Value) (st : List Value) (h : pb_H) (Q : Option Value → pb_H → Prop) (x : Int32), pb_R 148 12 [l0, l1, some (.int x)] [] st h Q ↔ pb_R 148 13 [l0, l1, some (.int x)] [] (.int x :: st) h Q) ∧
  (∀ (L : pb_L) (J : pb_J) (st : List Value) (x y : Int32) (h : pb_H) (Q : Option Value → pb_H → Prop), pb_R 148 13 L J (.int y :: .int x :: st) h Q ↔ pb_R 148 14 L J (.int (x + y) :: st) h Q) ∧
  (∀ (L : pb_L) (J : pb_J) (st : List Value) (h : pb_H) (Q : Option Value → pb_H → Prop), pb_R 148 14 L J st h Q ↔ pb_R 148 15 L J (.int (1 : Int32) :: st) h Q) ∧
  (∀ (L : pb_L) (J : pb_J) (st : List Value) (x y : Int32) (h : pb_H) (Q : Option Value → pb_H → Prop), pb_R 148 15 L J (.int y :: .int x :: st) h Q ↔ pb_R 148 16 L J (.int (x - y) :: st) h Q) ∧
  (∀ (L : pb_L) (J : pb_J) (st : List Value) (h : pb_H) (Q : Option Value → pb_H → Prop) (a : Nat) (i : Int32), pb_R 148 16 L J (.int i :: .ref a :: st) h Q ↔ pb_o (pb_ai (h.2 a) i) (fun v => pb_R 148 17 L J (.int v :: st) h Q)) ∧
  (∀ (L : pb_L) (J : pb_J) (st : List Value) (h : pb_H) (Q : Option Value → pb_H → Prop) (x : Int32), pb_R 148 17 L J (.int x :: st) h Q ↔ if ¬ x = 0 then pb_R 148 26 L J st h Q else pb_R 148 20 L J st h Q) ∧
  (∀ (l0 l1 : Option Value) (st : List Value) (h : pb_H) (Q : Option Value → pb_H → Prop) (x : Int32), pb_R 148 20 [l0, l1, some (.int x)] [] st h Q ↔ pb_R 148 23 [l0, l1, some (.int (x + (-1 : Int32)))] [] st h Q) ∧
  (∀ (L : pb_L) (J : pb_J) (st : List Value) (h : pb_H) (Q : Option Value → pb_H → Prop), pb_R 148 23 L J st h Q ↔ pb_R 148 3 L J st h Q) ∧
  (∀ (l0 l1 : Option Value) (st : List Value) (h : pb_H) (Q : Option Value → pb_H → Prop) (x : Int32), pb_R 148 26 [l0, l1, some (.int x)] [] st h Q ↔ pb_R 148 27 [l0, l1, some (.int x)] [] (.int x :: st) h Q) ∧
  (∀ (L : pb_L) (J : pb_J) (h : pb_H) (Q : Option Value → pb_H → Prop) (x : Int32), pb_R 148 27 L J [.int x] h Q ↔ Q (some (.int x)) h) := ⟨
  fun L J st h Q => pf_S pb_u_148 rfl rfl,
  fun l0 l1 l2 st h Q x => pf_S pb_u_148 rfl rfl,
  fun L J st h Q x => pf_ii pb_u_148 rfl rfl rfl,
  fun l1 l2 st h Q x => pf_S pb_u_148 rfl rfl,
  fun l1 l2 st h Q => pf_S pb_u_148 rfl rfl,
  fun L J st h Q a => pf_gf pb_u_148 rfl rfl,
  fun l0 l2 st h Q x => pf_S pb_u_148 rfl rfl,
  fun l0 l1 st h Q x => pf_S pb_u_148 rfl rfl,
  fun L J st x y h Q => pf_S pb_u_148 rfl rfl,
  fun L J st h Q => pf_S pb_u_148 rfl rfl,
  fun L J st x y h Q => pf_S pb_u_148 rfl rfl,
  fun L J st h Q a i => pf_ai pb_u_148 rfl rfl,
  fun L J st h Q x => pf_ii pb_u_148 rfl rfl pf_ne,
  fun l0 l1 st h Q x => pf_S pb_u_148 rfl rfl,
  fun L J st h Q => pf_S pb_u_148 rfl rfl,
  fun l0 l1 st h Q x => pf_S pb_u_148 rfl rfl,
  fun L J h Q x => pf_ri pb_u_148 rfl rfl⟩
theorem pb_c148 (x0 : Nat) (x1 : Int32) (h : pb_H) (Q : Option Value → pb_H → Prop) : pb_call 148 [.ref x0, .int x1] h Q ↔ pb_R 148 0 [some (.ref x0), some (.int x1), none] [] [] h Q := Iff.rfl
/-! 149: PlaneBenchModel.isOne(I)Z -/
theorem pb_u_149 : pb_t 149 = pb_t149 := rfl
theorem pb_ci_149 : pb_ci 149 = 12 := by decide +kernel
set_option maxRecDepth 100000 in
theorem pb_e149 : (∀ (l1 : Option Value) (st : List Value) (h : pb_H) (Q : Option Value → pb_H → Prop) (x : Nat), pb_R 149 0 [some (.ref x), l1] [] st h Q ↔ pb_R 149 1 [some (.ref x), l1] [] (.ref x :: st) h Q) ∧
  (∀ (l1 : Option Value) (st : List Value) (h : pb_H) (Q : Option Value → pb_H → Prop), pb_R 149 0 [some .null, l1] [] st h Q ↔ pb_R 149 1 [some .null, l1] [] (.null :: st) h Q) ∧
  (∀ (L : pb_L) (J : pb_J) (st : List Value) (h : pb_H) (Q : Option Value → pb_H → Prop) (a : Nat), pb_R 149 1 L J (.ref a :: st) h Q ↔ pb_o (pb_gf (h.2 a) 12 0) (fun v => pb_R 149 4 L J (v :: st) h Q)) ∧
  (∀ (l0 : Option Value) (st : List Value) (h : pb_H) (Q : Option Value → pb_H → Prop) (x : Int32), pb_R 149 4 [l0, some (.int x)] [] st h Q ↔ pb_R 149 5 [l0, some (.int x)] [] (.int x :: st) h Q) ∧
  (∀ (L : pb_L) (J : pb_J) (st : List Value) (h : pb_H) (Q : Option Value → pb_H → Prop) (a : Nat) (i : Int32), pb_R 149 5 L J (.int i :: .ref a :: st) h Q ↔ pb_o (pb_ai (h.2 a) i) (fun v => pb_R 149 6 L J (.int v :: st) h Q)) ∧
  (∀ (L : pb_L) (J : pb_J) (st : List Value) (h : pb_H) (Q : Option Value → pb_H → Prop), pb_R 149 6 L J st h Q ↔ pb_R 149 7 L J (.int (1 : Int32) :: st) h Q) ∧
  (∀ (L : pb_L) (J : pb_J) (st : List Value) (h : pb_H) (Q : Option Value → pb_H → Prop) (x y : Int32), pb_R 149 7 L J (.int y :: .int x :: st) h Q ↔ if ¬ x = y then pb_R 149 23 L J st h Q else pb_R 149 10 L J st h Q) ∧
  (∀ (l1 : Option Value) (st : List Value) (h : pb_H) (Q : Option Value → pb_H → Prop) (x : Nat), pb_R 149 10 [some (.ref x), l1] [] st h Q ↔ pb_R 149 11 [some (.ref x), l1] [] (.ref x :: st) h Q) ∧
  (∀ (l1 : Option Value) (st : List Value) (h : pb_H) (Q : Option Value → pb_H → Prop), pb_R 149 10 [some .null, l1] [] st h Q ↔ pb_R 149 11 [some .null, l1] [] (.null :: st) h Q) ∧
  (∀ (l0 : Option Value) (st : List Value) (h : pb_H) (Q : Option Value → pb_H → Prop) (x : Int32), pb_R 149 11 [l0, some (.int x)] [] st h Q ↔ pb_R 149 12 [l0, some (.int x)] [] (.int x :: st) h Q) ∧
  (∀ (L : pb_L) (J : pb_J) (h : pb_H) (Q : Option Value → pb_H → Prop) (x0 : Int32) (x1 : Nat), pb_R 149 12 L J [.int x0, .ref x1] h Q ↔ pb_is0 (h.2 x1) 12 = true ∧ pb_call 148 [.ref x1, .int x0] h (fun v t => pb_R 149 15 L J (v.toList ++ []) t Q)) ∧
  (∀ (L : pb_L) (J : pb_J) (st : List Value) (h : pb_H) (Q : Option Value → pb_H → Prop), pb_R 149 15 L J st h Q ↔ pb_R 149 16 L J (.int (1 : Int32) :: st) h Q) ∧
  (∀ (L : pb_L) (J : pb_J) (st : List Value) (h : pb_H) (Q : Option Value → pb_H → Prop) (x y : Int32), pb_R 149 16 L J (.int y :: .int x :: st) h Q ↔ if ¬ x = y then pb_R 149 23 L J st h Q else pb_R 149 19 L J st h Q) ∧
  (∀ (L : pb_L) (J : pb_J) (st : List Value) (h : pb_H) (Q : Option Value → pb_H → Prop), pb_R 149 19 L J st h Q ↔ pb_R 149 20 L J (.int (1 : Int32) :: st) h Q) ∧
  (∀ (L : pb_L) (J : pb_J) (st : List Value) (h : pb_H) (Q : Option Value → pb_H → Prop), pb_R 149 20 L J st h Q ↔ pb_R 149 24 L J st h Q) ∧
  (∀ (L : pb_L) (J : pb_J) (st : List Value) (h : pb_H) (Q : Option Value → pb_H → Prop), pb_R 149 23 L J st h Q ↔ pb_R 149 24 L J (.int (0 : Int32) :: st) h Q) ∧
  (∀ (L : pb_L) (J : pb_J) (h : pb_H) (Q : Option Value → pb_H → Prop) (x : Int32), pb_R 149 24 L J [.int x] h Q ↔ narrow .boolean (.int x) = .int x ∧ Q (some (.int x)) h) := ⟨
  fun l1 st h Q x => pf_S pb_u_149 rfl rfl,
  fun l1 st h Q => pf_S pb_u_149 rfl rfl,
  fun L J st h Q a => pf_gf pb_u_149 rfl rfl,
  fun l0 st h Q x => pf_S pb_u_149 rfl rfl,
  fun L J st h Q a i => pf_ai pb_u_149 rfl rfl,
  fun L J st h Q => pf_S pb_u_149 rfl rfl,
  fun L J st h Q x y => pf_ic pb_u_149 rfl rfl pf_ne,
  fun l1 st h Q x => pf_S pb_u_149 rfl rfl,
  fun l1 st h Q => pf_S pb_u_149 rfl rfl,
  fun l0 st h Q x => pf_S pb_u_149 rfl rfl,
  fun L J h Q x0 x1 => pf_kv pb_u_149 rfl pb_ci_148 rfl ⟨Nat.le_of_ble_eq_true rfl, Nat.le_of_ble_eq_true rfl, Nat.le_of_ble_eq_true rfl, Nat.le_of_ble_eq_true rfl, rfl⟩ rfl rfl,
  fun L J st h Q => pf_S pb_u_149 rfl rfl,
  fun L J st h Q x y => pf_ic pb_u_149 rfl rfl pf_ne,
  fun L J st h Q => pf_S pb_u_149 rfl rfl,
  fun L J st h Q => pf_S pb_u_149 rfl rfl,
  fun L J st h Q => pf_S pb_u_149 rfl rfl,
  fun L J h Q x => pf_rz pb_u_149 rfl rfl⟩
theorem pb_c149 (x0 : Nat) (x1 : Int32) (h : pb_H) (Q : Option Value → pb_H → Prop) : pb_call 149 [.ref x0, .int x1] h Q ↔ pb_R 149 0 [some (.ref x0), some (.int x1)] [] [] h Q := Iff.rfl
