/-! 200: PlaneBenchModel.step()Z -/
theorem pb_u_200 : pb_t 200 = pb_t200 := rfl
theorem pb_ci_200 : pb_ci 200 = 12 := by decide +kernel
set_option maxRecDepth 100000 in
theorem pb_e200 : (∀ (l1 : Option Value) (st : List Value) (h : pb_H) (Q : Option Value → pb_H → Prop) (x : Nat), pb_R 200 0 [some (.ref x), l1] [] st h Q ↔ pb_R 200 1 [some (.ref x), l1] [] (.ref x :: st) h Q) ∧
  (∀ (l1 : Option Value) (st : List Value) (h : pb_H) (Q : Option Value → pb_H → Prop), pb_R 200 0 [some .null, l1] [] st h Q ↔ pb_R 200 1 [some .null, l1] [] (.null :: st) h Q) ∧
  (∀ (L : pb_L) (J : pb_J) (st : List Value) (h : pb_H) (Q : Option Value → pb_H → Prop), pb_R 200 1 L J st h Q ↔ pb_R 200 3 L J (.int (112 : Int32) :: st) h Q) ∧
  (∀ (L : pb_L) (J : pb_J) (h : pb_H) (Q : Option Value → pb_H → Prop) (x0 : Int32) (x1 : Nat), pb_R 200 3 L J [.int x0, .ref x1] h Q ↔ pb_is0 (h.2 x1) 12 = true ∧ pb_call 178 [.ref x1, .int x0] h (fun v t => pb_R 200 6 L J (v.toList ++ []) t Q)) ∧
  (∀ (L : pb_L) (J : pb_J) (st : List Value) (h : pb_H) (Q : Option Value → pb_H → Prop) (x : Int32), pb_R 200 6 L J (.int x :: st) h Q ↔ if x = 0 then pb_R 200 14 L J st h Q else pb_R 200 9 L J st h Q) ∧
  (∀ (l1 : Option Value) (st : List Value) (h : pb_H) (Q : Option Value → pb_H → Prop) (x : Nat), pb_R 200 9 [some (.ref x), l1] [] st h Q ↔ pb_R 200 10 [some (.ref x), l1] [] (.ref x :: st) h Q) ∧
  (∀ (l1 : Option Value) (st : List Value) (h : pb_H) (Q : Option Value → pb_H → Prop), pb_R 200 9 [some .null, l1] [] st h Q ↔ pb_R 200 10 [some .null, l1] [] (.null :: st) h Q) ∧
  (∀ (L : pb_L) (J : pb_J) (h : pb_H) (Q : Option Value → pb_H → Prop) (x0 : Nat), pb_R 200 10 L J [.ref x0] h Q ↔ pb_is0 (h.2 x0) 12 = true ∧ pb_call 197 [.ref x0] h (fun v t => pb_R 200 13 L J (v.toList ++ []) t Q)) ∧
  (∀ (L : pb_L) (J : pb_J) (h : pb_H) (Q : Option Value → pb_H → Prop) (x : Int32), pb_R 200 13 L J [.int x] h Q ↔ narrow .boolean (.int x) = .int x ∧ Q (some (.int x)) h) ∧
  (∀ (l1 : Option Value) (st : List Value) (h : pb_H) (Q : Option Value → pb_H → Prop) (x : Nat), pb_R 200 14 [some (.ref x), l1] [] st h Q ↔ pb_R 200 15 [some (.ref x), l1] [] (.ref x :: st) h Q) ∧
  (∀ (l1 : Option Value) (st : List Value) (h : pb_H) (Q : Option Value → pb_H → Prop), pb_R 200 14 [some .null, l1] [] st h Q ↔ pb_R 200 15 [some .null, l1] [] (.null :: st) h Q) ∧
  (∀ (L : pb_L) (J : pb_J) (st : List Value) (h : pb_H) (Q : Option Value → pb_H → Prop), pb_R 200 15 L J st h Q ↔ pb_R 200 17 L J (.int (117 : Int32) :: st) h Q) ∧
  (∀ (L : pb_L) (J : pb_J) (h : pb_H) (Q : Option Value → pb_H → Prop) (x0 : Int32) (x1 : Nat), pb_R 200 17 L J [.int x0, .ref x1] h Q ↔ pb_is0 (h.2 x1) 12 = true ∧ pb_call 178 [.ref x1, .int x0] h (fun v t => pb_R 200 20 L J (v.toList ++ []) t Q)) ∧
  (∀ (L : pb_L) (J : pb_J) (st : List Value) (h : pb_H) (Q : Option Value → pb_H → Prop) (x : Int32), pb_R 200 20 L J (.int x :: st) h Q ↔ if x = 0 then pb_R 200 28 L J st h Q else pb_R 200 23 L J st h Q) ∧
  (∀ (l1 : Option Value) (st : List Value) (h : pb_H) (Q : Option Value → pb_H → Prop) (x : Nat), pb_R 200 23 [some (.ref x), l1] [] st h Q ↔ pb_R 200 24 [some (.ref x), l1] [] (.ref x :: st) h Q) ∧
  (∀ (l1 : Option Value) (st : List Value) (h : pb_H) (Q : Option Value → pb_H → Prop), pb_R 200 23 [some .null, l1] [] st h Q ↔ pb_R 200 24 [some .null, l1] [] (.null :: st) h Q) ∧
  (∀ (L : pb_L) (J : pb_J) (h : pb_H) (Q : Option Value → pb_H → Prop) (x0 : Nat), pb_R 200 24 L J [.ref x0] h Q ↔ pb_is0 (h.2 x0) 12 = true ∧ pb_call 199 [.ref x0] h (fun v t => pb_R 200 27 L J (v.toList ++ []) t Q)) ∧
  (∀ (L : pb_L) (J : pb_J) (h : pb_H) (Q : Option Value → pb_H → Prop) (x : Int32), pb_R 200 27 L J [.int x] h Q ↔ narrow .boolean (.int x) = .int x ∧ Q (some (.int x)) h) ∧
  (∀ (l1 : Option Value) (st : List Value) (h : pb_H) (Q : Option Value → pb_H → Prop) (x : Nat), pb_R 200 28 [some (.ref x), l1] [] st h Q ↔ pb_R 200 29 [some (.ref x), l1] [] (.ref x :: st) h Q) ∧
  (∀ (l1 : Option Value) (st : List Value) (h : pb_H) (Q : Option Value → pb_H → Prop), pb_R 200 28 [some .null, l1] [] st h Q ↔ pb_R 200 29 [some .null, l1] [] (.null :: st) h Q) ∧
  (∀ (L : pb_L) (J : pb_J) (st : List Value) (h : pb_H) (Q : Option Value → pb_H → Prop), pb_R 200 29 L J st h Q ↔ pb_R 200 31 L J (.int (99 : Int32) :: st) h Q) ∧
  (∀ (L : pb_L) (J : pb_J) (h : pb_H) (Q : Option Value → pb_H → Prop) (x0 : Int32) (x1 : Nat), pb_R 200 31 L J [.int x0, .ref x1] h Q ↔ pb_is0 (h.2 x1) 12 = true ∧ pb_call 178 [.ref x1, .int x0] h (fun v t => pb_R 200 34 L J (v.toList ++ []) t Q)) ∧
  (∀ (L : pb_L) (J : pb_J) (st : List Value) (h : pb_H) (Q : Option Value → pb_H → Prop) (x : Int32), pb_R 200 34 L J (.int x :: st) h Q ↔ if ¬ x = 0 then pb_R 200 47 L J st h Q else pb_R 200 37 L J st h Q) ∧
  (∀ (l1 : Option Value) (st : List Value) (h : pb_H) (Q : Option Value → pb_H → Prop) (x : Nat), pb_R 200 37 [some (.ref x), l1] [] st h Q ↔ pb_R 200 38 [some (.ref x), l1] [] (.ref x :: st) h Q) ∧
  (∀ (l1 : Option Value) (st : List Value) (h : pb_H) (Q : Option Value → pb_H → Prop), pb_R 200 37 [some .null, l1] [] st h Q ↔ pb_R 200 38 [some .null, l1] [] (.null :: st) h Q) ∧
  (∀ (L : pb_L) (J : pb_J) (st : List Value) (h : pb_H) (Q : Option Value → pb_H → Prop), pb_R 200 38 L J st h Q ↔ pb_R 200 39 L J (.int (1 : Int32) :: st) h Q) ∧
  (∀ (l1 : Option Value) (st : List Value) (h : pb_H) (Q : Option Value → pb_H → Prop) (x : Nat), pb_R 200 39 [some (.ref x), l1] [] st h Q ↔ pb_R 200 40 [some (.ref x), l1] [] (.ref x :: st) h Q) ∧
  (∀ (l1 : Option Value) (st : List Value) (h : pb_H) (Q : Option Value → pb_H → Prop), pb_R 200 39 [some .null, l1] [] st h Q ↔ pb_R 200 40 [some .null, l1] [] (.null :: st) h Q) ∧
  (∀ (L : pb_L) (J : pb_J) (st : List Value) (h : pb_H) (Q : Option Value → pb_H → Prop) (a : Nat), pb_R 200 40 L J (.ref a :: st) h Q ↔ pb_o (pb_gf (h.2 a) 12 16) (fun v => pb_R 200 43 L J (v :: st) h Q)) ∧
  (∀ (L : pb_L) (J : pb_J) (h : pb_H) (Q : Option Value → pb_H → Prop) (x0 : Int32) (x1 : Int32) (x2 : Nat), pb_R 200 43 L J [.int x0, .int x1, .ref x2] h Q ↔ pb_is0 (h.2 x2) 12 = true ∧ pb_call 183 [.ref x2, .int x1, .int x0] h (fun v t => pb_R 200 46 L J (v.toList ++ []) t Q)) ∧
  (∀ (L : pb_L) (J : pb_J) (h : pb_H) (Q : Option Value → pb_H → Prop) (x : Int32), pb_R 200 46 L J [.int x] h Q ↔ narrow .boolean (.int x) = .int x ∧ Q (some (.int x)) h) ∧
  (∀ (l1 : Option Value) (st : List Value) (h : pb_H) (Q : Option Value → pb_H → Prop) (x : Nat), pb_R 200 47 [some (.ref x), l1] [] st h Q ↔ pb_R 200 48 [some (.ref x), l1] [] (.ref x :: st) h Q) ∧
  (∀ (l1 : Option Value) (st : List Value) (h : pb_H) (Q : Option Value → pb_H → Prop), pb_R 200 47 [some .null, l1] [] st h Q ↔ pb_R 200 48 [some .null, l1] [] (.null :: st) h Q) ∧
  (∀ (L : pb_L) (J : pb_J) (h : pb_H) (Q : Option Value → pb_H → Prop) (x0 : Nat), pb_R 200 48 L J [.ref x0] h Q ↔ pb_is0 (h.2 x0) 12 = true ∧ pb_call 177 [.ref x0] h (fun v t => pb_R 200 51 L J (v.toList ++ []) t Q)) ∧
  (∀ (l1 : Option Value) (st : List Value) (h : pb_H) (Q : Option Value → pb_H → Prop) (x : Nat), pb_R 200 51 [some (.ref x), l1] [] st h Q ↔ pb_R 200 52 [some (.ref x), l1] [] (.ref x :: st) h Q) ∧
  (∀ (l1 : Option Value) (st : List Value) (h : pb_H) (Q : Option Value → pb_H → Prop), pb_R 200 51 [some .null, l1] [] st h Q ↔ pb_R 200 52 [some .null, l1] [] (.null :: st) h Q) ∧
  (∀ (L : pb_L) (J : pb_J) (st : List Value) (h : pb_H) (Q : Option Value → pb_H → Prop) (a : Nat), pb_R 200 52 L J (.ref a :: st) h Q ↔ pb_o (pb_gf (h.2 a) 12 15) (fun v => pb_R 200 55 L J (v :: st) h Q)) ∧
  (∀ (L : pb_L) (J : pb_J) (st : List Value) (h : pb_H) (Q : Option Value → pb_H → Prop), pb_R 200 55 L J st h Q ↔ pb_R 200 56 L J (.int (1 : Int32) :: st) h Q) ∧
  (∀ (L : pb_L) (J : pb_J) (st : List Value) (h : pb_H) (Q : Option Value → pb_H → Prop) (x y : Int32), pb_R 200 56 L J (.int y :: .int x :: st) h Q ↔ if x = y then pb_R 200 69 L J st h Q else pb_R 200 59 L J st h Q) ∧
  (∀ (l1 : Option Value) (st : List Value) (h : pb_H) (Q : Option Value → pb_H → Prop) (x : Nat), pb_R 200 59 [some (.ref x), l1] [] st h Q ↔ pb_R 200 60 [some (.ref x), l1] [] (.ref x :: st) h Q) ∧
  (∀ (l1 : Option Value) (st : List Value) (h : pb_H) (Q : Option Value → pb_H → Prop), pb_R 200 59 [some .null, l1] [] st h Q ↔ pb_R 200 60 [some .null, l1] [] (.null :: st) h Q) ∧
  (∀ (L : pb_L) (J : pb_J) (st : List Value) (h : pb_H) (Q : Option Value → pb_H → Prop), pb_R 200 60 L J st h Q ↔ pb_R 200 61 L J (.int (1 : Int32) :: st) h Q) ∧
  (∀ (l1 : Option Value) (st : List Value) (h : pb_H) (Q : Option Value → pb_H → Prop) (x : Nat), pb_R 200 61 [some (.ref x), l1] [] st h Q ↔ pb_R 200 62 [some (.ref x), l1] [] (.ref x :: st) h Q) ∧
  (∀ (l1 : Option Value) (st : List Value) (h : pb_H) (Q : Option Value → pb_H → Prop), pb_R 200 61 [some .null, l1] [] st h Q ↔ pb_R 200 62 [some .null, l1] [] (.null :: st) h Q) ∧
  (∀ (L : pb_L) (J : pb_J) (st : List Value) (h : pb_H) (Q : Option Value → pb_H → Prop) (a : Nat), pb_R 200 62 L J (.ref a :: st) h Q ↔ pb_o (pb_gf (h.2 a) 12 16) (fun v => pb_R 200 65 L J (v :: st) h Q)) ∧
  (∀ (L : pb_L) (J : pb_J) (h : pb_H) (Q : Option Value → pb_H → Prop) (x0 : Int32) (x1 : Int32) (x2 : Nat), pb_R 200 65 L J [.int x0, .int x1, .ref x2] h Q ↔ pb_is0 (h.2 x2) 12 = true ∧ pb_call 183 [.ref x2, .int x1, .int x0] h (fun v t => pb_R 200 68 L J (v.toList ++ []) t Q)) ∧
  (∀ (L : pb_L) (J : pb_J) (h : pb_H) (Q : Option Value → pb_H → Prop) (x : Int32), pb_R 200 68 L J [.int x] h Q ↔ narrow .boolean (.int x) = .int x ∧ Q (some (.int x)) h) ∧
  (∀ (l1 : Option Value) (st : List Value) (h : pb_H) (Q : Option Value → pb_H → Prop) (x : Nat), pb_R 200 69 [some (.ref x), l1] [] st h Q ↔ pb_R 200 70 [some (.ref x), l1] [] (.ref x :: st) h Q) ∧
  (∀ (l1 : Option Value) (st : List Value) (h : pb_H) (Q : Option Value → pb_H → Prop), pb_R 200 69 [some .null, l1] [] st h Q ↔ pb_R 200 70 [some .null, l1] [] (.null :: st) h Q) ∧
  (∀ (l1 : Option Value) (st : List Value) (h : pb_H) (Q : Option Value → pb_H → Prop) (x : Nat), pb_R 200 70 [some (.ref x), l1] [] st h Q ↔ pb_R 200 71 [some (.ref x), l1] [] (.ref x :: st) h Q) ∧
  (∀ (l1 : Option Value) (st : List Value) (h : pb_H) (Q : Option Value → pb_H → Prop), pb_R 200 70 [some .null, l1] [] st h Q ↔ pb_R 200 71 [some .null, l1] [] (.null :: st) h Q) ∧
  (∀ (L : pb_L) (J : pb_J) (st : List Value) (h : pb_H) (Q : Option Value → pb_H → Prop) (a : Nat), pb_R 200 71 L J (.ref a :: st) h Q ↔ pb_o (pb_gf (h.2 a) 12 16) (fun v => pb_R 200 74 L J (v :: st) h Q)) ∧
  (∀ (l1 : Option Value) (st : List Value) (h : pb_H) (Q : Option Value → pb_H → Prop) (x : Nat), pb_R 200 74 [some (.ref x), l1] [] st h Q ↔ pb_R 200 75 [some (.ref x), l1] [] (.ref x :: st) h Q) ∧
  (∀ (l1 : Option Value) (st : List Value) (h : pb_H) (Q : Option Value → pb_H → Prop), pb_R 200 74 [some .null, l1] [] st h Q ↔ pb_R 200 75 [some .null, l1] [] (.null :: st) h Q) ∧
  (∀ (L : pb_L) (J : pb_J) (st : List Value) (h : pb_H) (Q : Option Value → pb_H → Prop) (a : Nat), pb_R 200 75 L J (.ref a :: st) h Q ↔ pb_o (pb_gf (h.2 a) 12 17) (fun v => pb_R 200 78 L J (v :: st) h Q)) ∧
  (∀ (L : pb_L) (J : pb_J) (h : pb_H) (Q : Option Value → pb_H → Prop) (x0 : Int32) (x1 : Int32) (x2 : Nat), pb_R 200 78 L J [.int x0, .int x1, .ref x2] h Q ↔ pb_is0 (h.2 x2) 12 = true ∧ pb_call 182 [.ref x2, .int x1, .int x0] h (fun v t => pb_R 200 81 L J (v.toList ++ []) t Q)) ∧
  (∀ (l0 l1 : Option Value) (st : List Value) (h : pb_H) (Q : Option Value → pb_H → Prop) (x : Int32), pb_R 200 81 [l0, l1] [] (.int x :: st) h Q ↔ pb_R 200 82 [l0, some (.int x)] [] st h Q) ∧
  (∀ (l0 : Option Value) (st : List Value) (h : pb_H) (Q : Option Value → pb_H → Prop) (x : Int32), pb_R 200 82 [l0, some (.int x)] [] st h Q ↔ pb_R 200 83 [l0, some (.int x)] [] (.int x :: st) h Q) ∧
  (∀ (L : pb_L) (J : pb_J) (st : List Value) (h : pb_H) (Q : Option Value → pb_H → Prop) (x : Int32), pb_R 200 83 L J (.int x :: st) h Q ↔ if ¬ x = 0 then pb_R 200 96 L J st h Q else pb_R 200 86 L J st h Q) ∧
  (∀ (l1 : Option Value) (st : List Value) (h : pb_H) (Q : Option Value → pb_H → Prop) (x : Nat), pb_R 200 86 [some (.ref x), l1] [] st h Q ↔ pb_R 200 87 [some (.ref x), l1] [] (.ref x :: st) h Q) ∧
  (∀ (l1 : Option Value) (st : List Value) (h : pb_H) (Q : Option Value → pb_H → Prop), pb_R 200 86 [some .null, l1] [] st h Q ↔ pb_R 200 87 [some .null, l1] [] (.null :: st) h Q) ∧
  (∀ (L : pb_L) (J : pb_J) (st : List Value) (h : pb_H) (Q : Option Value → pb_H → Prop), pb_R 200 87 L J st h Q ↔ pb_R 200 88 L J (.int (2 : Int32) :: st) h Q) ∧
  (∀ (l1 : Option Value) (st : List Value) (h : pb_H) (Q : Option Value → pb_H → Prop) (x : Nat), pb_R 200 88 [some (.ref x), l1] [] st h Q ↔ pb_R 200 89 [some (.ref x), l1] [] (.ref x :: st) h Q) ∧
  (∀ (l1 : Option Value) (st : List Value) (h : pb_H) (Q : Option Value → pb_H → Prop), pb_R 200 88 [some .null, l1] [] st h Q ↔ pb_R 200 89 [some .null, l1] [] (.null :: st) h Q) ∧
  (∀ (L : pb_L) (J : pb_J) (st : List Value) (h : pb_H) (Q : Option Value → pb_H → Prop) (a : Nat), pb_R 200 89 L J (.ref a :: st) h Q ↔ pb_o (pb_gf (h.2 a) 12 16) (fun v => pb_R 200 92 L J (v :: st) h Q)) ∧
  (∀ (L : pb_L) (J : pb_J) (h : pb_H) (Q : Option Value → pb_H → Prop) (x0 : Int32) (x1 : Int32) (x2 : Nat), pb_R 200 92 L J [.int x0, .int x1, .ref x2] h Q ↔ pb_is0 (h.2 x2) 12 = true ∧ pb_call 183 [.ref x2, .int x1, .int x0] h (fun v t => pb_R 200 95 L J (v.toList ++ []) t Q)) ∧
  (∀ (L : pb_L) (J : pb_J) (h : pb_H) (Q : Option Value → pb_H → Prop) (x : Int32), pb_R 200 95 L J [.int x] h Q ↔ narrow .boolean (.int x) = .int x ∧ Q (some (.int x)) h) ∧
  (∀ (l1 : Option Value) (st : List Value) (h : pb_H) (Q : Option Value → pb_H → Prop) (x : Nat), pb_R 200 96 [some (.ref x), l1] [] st h Q ↔ pb_R 200 97 [some (.ref x), l1] [] (.ref x :: st) h Q) ∧
  (∀ (l1 : Option Value) (st : List Value) (h : pb_H) (Q : Option Value → pb_H → Prop), pb_R 200 96 [some .null, l1] [] st h Q ↔ pb_R 200 97 [some .null, l1] [] (.null :: st) h Q) ∧
  (∀ (L : pb_L) (J : pb_J) (h : pb_H) (Q : Option Value → pb_H → Prop) (x0 : Nat), pb_R 200 97 L J [.ref x0] h Q ↔ pb_is0 (h.2 x0) 12 = true ∧ pb_call 177 [.ref x0] h (fun v t => pb_R 200 100 L J (v.toList ++ []) t Q)) ∧
  (∀ (l1 : Option Value) (st : List Value) (h : pb_H) (Q : Option Value → pb_H → Prop) (x : Nat), pb_R 200 100 [some (.ref x), l1] [] st h Q ↔ pb_R 200 101 [some (.ref x), l1] [] (.ref x :: st) h Q) ∧
  (∀ (l1 : Option Value) (st : List Value) (h : pb_H) (Q : Option Value → pb_H → Prop), pb_R 200 100 [some .null, l1] [] st h Q ↔ pb_R 200 101 [some .null, l1] [] (.null :: st) h Q) ∧
  (∀ (L : pb_L) (J : pb_J) (st : List Value) (h : pb_H) (Q : Option Value → pb_H → Prop), pb_R 200 101 L J st h Q ↔ pb_R 200 103 L J (.int (59 : Int32) :: st) h Q) ∧
  (∀ (L : pb_L) (J : pb_J) (h : pb_H) (Q : Option Value → pb_H → Prop) (x0 : Int32) (x1 : Nat), pb_R 200 103 L J [.int x0, .ref x1] h Q ↔ pb_is0 (h.2 x1) 12 = true ∧ pb_call 178 [.ref x1, .int x0] h (fun v t => pb_R 200 106 L J (v.toList ++ []) t Q)) ∧
  (∀ (L : pb_L) (J : pb_J) (st : List Value) (h : pb_H) (Q : Option Value → pb_H → Prop) (x : Int32), pb_R 200 106 L J (.int x :: st) h Q ↔ if ¬ x = 0 then pb_R 200 119 L J st h Q else pb_R 200 109 L J st h Q) ∧
  (∀ (l1 : Option Value) (st : List Value) (h : pb_H) (Q : Option Value → pb_H → Prop) (x : Nat), pb_R 200 109 [some (.ref x), l1] [] st h Q ↔ pb_R 200 110 [some (.ref x), l1] [] (.ref x :: st) h Q) ∧
  (∀ (l1 : Option Value) (st : List Value) (h : pb_H) (Q : Option Value → pb_H → Prop), pb_R 200 109 [some .null, l1] [] st h Q ↔ pb_R 200 110 [some .null, l1] [] (.null :: st) h Q) ∧
  (∀ (L : pb_L) (J : pb_J) (st : List Value) (h : pb_H) (Q : Option Value → pb_H → Prop), pb_R 200 110 L J st h Q ↔ pb_R 200 111 L J (.int (1 : Int32) :: st) h Q) ∧
  (∀ (l1 : Option Value) (st : List Value) (h : pb_H) (Q : Option Value → pb_H → Prop) (x : Nat), pb_R 200 111 [some (.ref x), l1] [] st h Q ↔ pb_R 200 112 [some (.ref x), l1] [] (.ref x :: st) h Q) ∧
  (∀ (l1 : Option Value) (st : List Value) (h : pb_H) (Q : Option Value → pb_H → Prop), pb_R 200 111 [some .null, l1] [] st h Q ↔ pb_R 200 112 [some .null, l1] [] (.null :: st) h Q) ∧
  (∀ (L : pb_L) (J : pb_J) (st : List Value) (h : pb_H) (Q : Option Value → pb_H → Prop) (a : Nat), pb_R 200 112 L J (.ref a :: st) h Q ↔ pb_o (pb_gf (h.2 a) 12 16) (fun v => pb_R 200 115 L J (v :: st) h Q)) ∧
  (∀ (L : pb_L) (J : pb_J) (h : pb_H) (Q : Option Value → pb_H → Prop) (x0 : Int32) (x1 : Int32) (x2 : Nat), pb_R 200 115 L J [.int x0, .int x1, .ref x2] h Q ↔ pb_is0 (h.2 x2) 12 = true ∧ pb_call 183 [.ref x2, .int x1, .int x0] h (fun v t => pb_R 200 118 L J (v.toList ++ []) t Q)) ∧
  (∀ (L : pb_L) (J : pb_J) (h : pb_H) (Q : Option Value → pb_H → Prop) (x : Int32), pb_R 200 118 L J [.int x] h Q ↔ narrow .boolean (.int x) = .int x ∧ Q (some (.int x)) h) ∧
  (∀ (l1 : Option Value) (st : List Value) (h : pb_H) (Q : Option Value → pb_H → Prop) (x : Nat), pb_R 200 119 [some (.ref x), l1] [] st h Q ↔ pb_R 200 120 [some (.ref x), l1] [] (.ref x :: st) h Q) ∧
  (∀ (l1 : Option Value) (st : List Value) (h : pb_H) (Q : Option Value → pb_H → Prop), pb_R 200 119 [some .null, l1] [] st h Q ↔ pb_R 200 120 [some .null, l1] [] (.null :: st) h Q) ∧
  (∀ (l0 : Option Value) (st : List Value) (h : pb_H) (Q : Option Value → pb_H → Prop) (x : Int32), pb_R 200 120 [l0, some (.int x)] [] st h Q ↔ pb_R 200 121 [l0, some (.int x)] [] (.int x :: st) h Q) ∧
  (∀ (L : pb_L) (J : pb_J) (h : pb_H) (Q : Option Value → pb_H → Prop) (x0 : Int32) (x1 : Nat), pb_R 200 121 L J [.int x0, .ref x1] h Q ↔ pb_is0 (h.2 x1) 12 = true ∧ pb_call 170 [.ref x1, .int x0] h (fun v t => pb_R 200 124 L J (v.toList ++ []) t Q)) ∧
  (∀ (L : pb_L) (J : pb_J) (st : List Value) (h : pb_H) (Q : Option Value → pb_H → Prop) (x : Int32), pb_R 200 124 L J (.int x :: st) h Q ↔ if ¬ x = 0 then pb_R 200 140 L J st h Q else pb_R 200 127 L J st h Q) ∧
  (∀ (l1 : Option Value) (st : List Value) (h : pb_H) (Q : Option Value → pb_H → Prop) (x : Nat), pb_R 200 127 [some (.ref x), l1] [] st h Q ↔ pb_R 200 128 [some (.ref x), l1] [] (.ref x :: st) h Q) ∧
  (∀ (l1 : Option Value) (st : List Value) (h : pb_H) (Q : Option Value → pb_H → Prop), pb_R 200 127 [some .null, l1] [] st h Q ↔ pb_R 200 128 [some .null, l1] [] (.null :: st) h Q) ∧
  (∀ (L : pb_L) (J : pb_J) (st : List Value) (h : pb_H) (Q : Option Value → pb_H → Prop), pb_R 200 128 L J st h Q ↔ pb_R 200 130 L J (.int (6 : Int32) :: st) h Q) ∧
  (∀ (l1 : Option Value) (st : List Value) (h : pb_H) (Q : Option Value → pb_H → Prop) (x : Nat), pb_R 200 130 [some (.ref x), l1] [] st h Q ↔ pb_R 200 131 [some (.ref x), l1] [] (.ref x :: st) h Q) ∧
  (∀ (l1 : Option Value) (st : List Value) (h : pb_H) (Q : Option Value → pb_H → Prop), pb_R 200 130 [some .null, l1] [] st h Q ↔ pb_R 200 131 [some .null, l1] [] (.null :: st) h Q) ∧
  (∀ (L : pb_L) (J : pb_J) (st : List Value) (h : pb_H) (Q : Option Value → pb_H → Prop) (a : Nat), pb_R 200 131 L J (.ref a :: st) h Q ↔ pb_o (pb_gf (h.2 a) 12 16) (fun v => pb_R 200 134 L J (v :: st) h Q)) ∧
  (∀ (L : pb_L) (J : pb_J) (h : pb_H) (Q : Option Value → pb_H → Prop) (x0 : Int32) (x1 : Int32) (x2 : Nat), pb_R 200 134 L J [.int x0, .int x1, .ref x2] h Q ↔ pb_is0 (h.2 x2) 12 = true ∧ pb_call 183 [.ref x2, .int x1, .int x0] h (fun v t => pb_R 200 137 L J (v.toList ++ []) t Q)) ∧
  (∀ (L : pb_L) (J : pb_J) (st : List Value) (h : pb_H) (Q : Option Value → pb_H → Prop) (x : Int32), pb_R 200 137 L J (.int x :: st) h Q ↔ if x = 0 then pb_R 200 144 L J st h Q else pb_R 200 140 L J st h Q) ∧
  (∀ (L : pb_L) (J : pb_J) (st : List Value) (h : pb_H) (Q : Option Value → pb_H → Prop), pb_R 200 140 L J st h Q ↔ pb_R 200 141 L J (.int (1 : Int32) :: st) h Q) ∧
  (∀ (L : pb_L) (J : pb_J) (st : List Value) (h : pb_H) (Q : Option Value → pb_H → Prop), pb_R 200 141 L J st h Q ↔ pb_R 200 145 L J st h Q) ∧
  (∀ (L : pb_L) (J : pb_J) (st : List Value) (h : pb_H) (Q : Option Value → pb_H → Prop), pb_R 200 144 L J st h Q ↔ pb_R 200 145 L J (.int (0 : Int32) :: st) h Q) ∧
  (∀ (L : pb_L) (J : pb_J) (h : pb_H) (Q : Option Value → pb_H → Prop) (x : Int32), pb_R 200 145 L J [.int x] h Q ↔ narrow .boolean (.int x) = .int x ∧ Q (some (.int x)) h) := ⟨
  fun l1 st h Q x => pf_S pb_u_200 rfl rfl,
  fun l1 st h Q => pf_S pb_u_200 rfl rfl,
  fun L J st h Q => pf_S pb_u_200 rfl rfl,
  fun L J h Q x0 x1 => pf_kv pb_u_200 rfl pb_ci_178 rfl ⟨Nat.le_of_ble_eq_true rfl, Nat.le_of_ble_eq_true rfl, Nat.le_of_ble_eq_true rfl, Nat.le_of_ble_eq_true rfl, rfl⟩ rfl rfl,
  fun L J st h Q x => pf_ii pb_u_200 rfl rfl rfl,
  fun l1 st h Q x => pf_S pb_u_200 rfl rfl,
  fun l1 st h Q => pf_S pb_u_200 rfl rfl,
  fun L J h Q x0 => pf_kv pb_u_200 rfl pb_ci_197 rfl ⟨Nat.le_of_ble_eq_true rfl, Nat.le_of_ble_eq_true rfl, Nat.le_of_ble_eq_true rfl, Nat.le_of_ble_eq_true rfl, rfl⟩ rfl rfl,
  fun L J h Q x => pf_rz pb_u_200 rfl rfl,
  fun l1 st h Q x => pf_S pb_u_200 rfl rfl,
  fun l1 st h Q => pf_S pb_u_200 rfl rfl,
  fun L J st h Q => pf_S pb_u_200 rfl rfl,
  fun L J h Q x0 x1 => pf_kv pb_u_200 rfl pb_ci_178 rfl ⟨Nat.le_of_ble_eq_true rfl, Nat.le_of_ble_eq_true rfl, Nat.le_of_ble_eq_true rfl, Nat.le_of_ble_eq_true rfl, rfl⟩ rfl rfl,
  fun L J st h Q x => pf_ii pb_u_200 rfl rfl rfl,
  fun l1 st h Q x => pf_S pb_u_200 rfl rfl,
  fun l1 st h Q => pf_S pb_u_200 rfl rfl,
  fun L J h Q x0 => pf_kv pb_u_200 rfl pb_ci_199 rfl ⟨Nat.le_of_ble_eq_true rfl, Nat.le_of_ble_eq_true rfl, Nat.le_of_ble_eq_true rfl, Nat.le_of_ble_eq_true rfl, rfl⟩ rfl rfl,
  fun L J h Q x => pf_rz pb_u_200 rfl rfl,
  fun l1 st h Q x => pf_S pb_u_200 rfl rfl,
  fun l1 st h Q => pf_S pb_u_200 rfl rfl,
  fun L J st h Q => pf_S pb_u_200 rfl rfl,
  fun L J h Q x0 x1 => pf_kv pb_u_200 rfl pb_ci_178 rfl ⟨Nat.le_of_ble_eq_true rfl, Nat.le_of_ble_eq_true rfl, Nat.le_of_ble_eq_true rfl, Nat.le_of_ble_eq_true rfl, rfl⟩ rfl rfl,
  fun L J st h Q x => pf_ii pb_u_200 rfl rfl pf_ne,
  fun l1 st h Q x => pf_S pb_u_200 rfl rfl,
  fun l1 st h Q => pf_S pb_u_200 rfl rfl,
  fun L J st h Q => pf_S pb_u_200 rfl rfl,
  fun l1 st h Q x => pf_S pb_u_200 rfl rfl,
  fun l1 st h Q => pf_S pb_u_200 rfl rfl,
  fun L J st h Q a => pf_gf pb_u_200 rfl rfl,
  fun L J h Q x0 x1 x2 => pf_kv pb_u_200 rfl pb_ci_183 rfl ⟨Nat.le_of_ble_eq_true rfl, Nat.le_of_ble_eq_true rfl, Nat.le_of_ble_eq_true rfl, Nat.le_of_ble_eq_true rfl, rfl⟩ rfl rfl,
  fun L J h Q x => pf_rz pb_u_200 rfl rfl,
  fun l1 st h Q x => pf_S pb_u_200 rfl rfl,
  fun l1 st h Q => pf_S pb_u_200 rfl rfl,
  fun L J h Q x0 => pf_kv pb_u_200 rfl pb_ci_177 rfl ⟨Nat.le_of_ble_eq_true rfl, Nat.le_of_ble_eq_true rfl, Nat.le_of_ble_eq_true rfl, Nat.le_of_ble_eq_true rfl, rfl⟩ rfl rfl,
  fun l1 st h Q x => pf_S pb_u_200 rfl rfl,
  fun l1 st h Q => pf_S pb_u_200 rfl rfl,
  fun L J st h Q a => pf_gf pb_u_200 rfl rfl,
  fun L J st h Q => pf_S pb_u_200 rfl rfl,
  fun L J st h Q x y => pf_ic pb_u_200 rfl rfl rfl,
  fun l1 st h Q x => pf_S pb_u_200 rfl rfl,
  fun l1 st h Q => pf_S pb_u_200 rfl rfl,
  fun L J st h Q => pf_S pb_u_200 rfl rfl,
  fun l1 st h Q x => pf_S pb_u_200 rfl rfl,
  fun l1 st h Q => pf_S pb_u_200 rfl rfl,
  fun L J st h Q a => pf_gf pb_u_200 rfl rfl,
  fun L J h Q x0 x1 x2 => pf_kv pb_u_200 rfl pb_ci_183 rfl ⟨Nat.le_of_ble_eq_true rfl, Nat.le_of_ble_eq_true rfl, Nat.le_of_ble_eq_true rfl, Nat.le_of_ble_eq_true rfl, rfl⟩ rfl rfl,
  fun L J h Q x => pf_rz pb_u_200 rfl rfl,
  fun l1 st h Q x => pf_S pb_u_200 rfl rfl,
  fun l1 st h Q => pf_S pb_u_200 rfl rfl,
  fun l1 st h Q x => pf_S pb_u_200 rfl rfl,
  fun l1 st h Q => pf_S pb_u_200 rfl rfl,
  fun L J st h Q a => pf_gf pb_u_200 rfl rfl,
  fun l1 st h Q x => pf_S pb_u_200 rfl rfl,
  fun l1 st h Q => pf_S pb_u_200 rfl rfl,
  fun L J st h Q a => pf_gf pb_u_200 rfl rfl,
  fun L J h Q x0 x1 x2 => pf_kv pb_u_200 rfl pb_ci_182 rfl ⟨Nat.le_of_ble_eq_true rfl, Nat.le_of_ble_eq_true rfl, Nat.le_of_ble_eq_true rfl, Nat.le_of_ble_eq_true rfl, rfl⟩ rfl rfl,
  fun l0 l1 st h Q x => pf_S pb_u_200 rfl rfl,
  fun l0 st h Q x => pf_S pb_u_200 rfl rfl,
  fun L J st h Q x => pf_ii pb_u_200 rfl rfl pf_ne,
  fun l1 st h Q x => pf_S pb_u_200 rfl rfl,
  fun l1 st h Q => pf_S pb_u_200 rfl rfl,
  fun L J st h Q => pf_S pb_u_200 rfl rfl,
  fun l1 st h Q x => pf_S pb_u_200 rfl rfl,
  fun l1 st h Q => pf_S pb_u_200 rfl rfl,
  fun L J st h Q a => pf_gf pb_u_200 rfl rfl,
  fun L J h Q x0 x1 x2 => pf_kv pb_u_200 rfl pb_ci_183 rfl ⟨Nat.le_of_ble_eq_true rfl, Nat.le_of_ble_eq_true rfl, Nat.le_of_ble_eq_true rfl, Nat.le_of_ble_eq_true rfl, rfl⟩ rfl rfl,
  fun L J h Q x => pf_rz pb_u_200 rfl rfl,
  fun l1 st h Q x => pf_S pb_u_200 rfl rfl,
  fun l1 st h Q => pf_S pb_u_200 rfl rfl,
  fun L J h Q x0 => pf_kv pb_u_200 rfl pb_ci_177 rfl ⟨Nat.le_of_ble_eq_true rfl, Nat.le_of_ble_eq_true rfl, Nat.le_of_ble_eq_true rfl, Nat.le_of_ble_eq_true rfl, rfl⟩ rfl rfl,
  fun l1 st h Q x => pf_S pb_u_200 rfl rfl,
  fun l1 st h Q => pf_S pb_u_200 rfl rfl,
  fun L J st h Q => pf_S pb_u_200 rfl rfl,
  fun L J h Q x0 x1 => pf_kv pb_u_200 rfl pb_ci_178 rfl ⟨Nat.le_of_ble_eq_true rfl, Nat.le_of_ble_eq_true rfl, Nat.le_of_ble_eq_true rfl, Nat.le_of_ble_eq_true rfl, rfl⟩ rfl rfl,
  fun L J st h Q x => pf_ii pb_u_200 rfl rfl pf_ne,
  fun l1 st h Q x => pf_S pb_u_200 rfl rfl,
  fun l1 st h Q => pf_S pb_u_200 rfl rfl,
  fun L J st h Q => pf_S pb_u_200 rfl rfl,
  fun l1 st h Q x => pf_S pb_u_200 rfl rfl,
  fun l1 st h Q => pf_S pb_u_200 rfl rfl,
  fun L J st h Q a => pf_gf pb_u_200 rfl rfl,
  fun L J h Q x0 x1 x2 => pf_kv pb_u_200 rfl pb_ci_183 rfl ⟨Nat.le_of_ble_eq_true rfl, Nat.le_of_ble_eq_true rfl, Nat.le_of_ble_eq_true rfl, Nat.le_of_ble_eq_true rfl, rfl⟩ rfl rfl,
  fun L J h Q x => pf_rz pb_u_200 rfl rfl,
  fun l1 st h Q x => pf_S pb_u_200 rfl rfl,
  fun l1 st h Q => pf_S pb_u_200 rfl rfl,
  fun l0 st h Q x => pf_S pb_u_200 rfl rfl,
  fun L J h Q x0 x1 => pf_kv pb_u_200 rfl pb_ci_170 rfl ⟨Nat.le_of_ble_eq_true rfl, Nat.le_of_ble_eq_true rfl, Nat.le_of_ble_eq_true rfl, Nat.le_of_ble_eq_true rfl, rfl⟩ rfl rfl,
  fun L J st h Q x => pf_ii pb_u_200 rfl rfl pf_ne,
  fun l1 st h Q x => pf_S pb_u_200 rfl rfl,
  fun l1 st h Q => pf_S pb_u_200 rfl rfl,
  fun L J st h Q => pf_S pb_u_200 rfl rfl,
  fun l1 st h Q x => pf_S pb_u_200 rfl rfl,
  fun l1 st h Q => pf_S pb_u_200 rfl rfl,
  fun L J st h Q a => pf_gf pb_u_200 rfl rfl,
  fun L J h Q x0 x1 x2 => pf_kv pb_u_200 rfl pb_ci_183 rfl ⟨Nat.le_of_ble_eq_true rfl, Nat.le_of_ble_eq_true rfl, Nat.le_of_ble_eq_true rfl, Nat.le_of_ble_eq_true rfl, rfl⟩ rfl rfl,
  fun L J st h Q x => pf_ii pb_u_200 rfl rfl rfl,
  fun L J st h Q => pf_S pb_u_200 rfl rfl,
  fun L J st h Q => pf_S pb_u_200 rfl rfl,
  fun L J st h Q => pf_S pb_u_200 rfl rfl,
  fun L J h Q x => pf_rz pb_u_200 rfl rfl⟩
theorem pb_c200 (x0 : Nat) (h : pb_H) (Q : Option Value → pb_H → Prop) : pb_call 200 [.ref x0] h Q ↔ pb_R 200 0 [some (.ref x0), none] [] [] h Q := Iff.rfl
/-! 201: PlaneBenchModel.check()I -/
theorem pb_u_201 : pb_t 201 = pb_t201 := rfl
theorem pb_ci_201 : pb_ci 201 = 12 := by decide +kernel
set_option maxRecDepth 100000 in
theorem pb_q201_26 (l1 : Option Value) (st : List Value) (h : pb_H) (Q : Option Value → pb_H → Prop) (x : Nat) : pb_R 201 26 [some (.ref x), l1] [] st h Q ↔ pb_R 201 27 [some (.ref x), l1] [] (.ref x :: st) h Q := pf_S pb_u_201 rfl rfl
set_option maxRecDepth 100000 in
theorem pb_q201_26n (l1 : Option Value) (st : List Value) (h : pb_H) (Q : Option Value → pb_H → Prop) : pb_R 201 26 [some .null, l1] [] st h Q ↔ pb_R 201 27 [some .null, l1] [] (.null :: st) h Q := pf_S pb_u_201 rfl rfl
set_option maxRecDepth 100000 in
theorem pb_e201 : (∀ (l1 : Option Value) (st : List Value) (h : pb_H) (Q : Option Value → pb_H → Prop) (x : Nat), pb_R 201 0 [some (.ref x), l1] [] st h Q ↔ pb_R 201 1 [some (.ref x), l1] [] (.ref x :: st) h Q) ∧
  (∀ (l1 : Option Value) (st : List Value) (h : pb_H) (Q : Option Value → pb_H → Prop), pb_R 201 0 [some .null, l1] [] st h Q ↔ pb_R 201 1 [some .null, l1] [] (.null :: st) h Q) ∧
  (∀ (L : pb_L) (J : pb_J) (st : List Value) (h : pb_H) (Q : Option Value → pb_H → Prop), pb_R 201 1 L J st h Q ↔ pb_R 201 2 L J (.int (0 : Int32) :: st) h Q) ∧
  (∀ (L : pb_L) (J : pb_J) (st : List Value) (h : pb_H) (Q : Option Value → pb_H → Prop) (a : Nat) (x : Int32), pb_R 201 2 L J (.int x :: .ref a :: st) h Q ↔ pb_o (pb_pf (h.2 a) 12 17 (.int x)) (fun c => pb_R 201 5 L J st (pb_set h a c) Q)) ∧
  (∀ (l1 : Option Value) (st : List Value) (h : pb_H) (Q : Option Value → pb_H → Prop) (x : Nat), pb_R 201 5 [some (.ref x), l1] [] st h Q ↔ pb_R 201 6 [some (.ref x), l1] [] (.ref x :: st) h Q) ∧
  (∀ (l1 : Option Value) (st : List Value) (h : pb_H) (Q : Option Value → pb_H → Prop), pb_R 201 5 [some .null, l1] [] st h Q ↔ pb_R 201 6 [some .null, l1] [] (.null :: st) h Q) ∧
  (∀ (L : pb_L) (J : pb_J) (st : List Value) (h : pb_H) (Q : Option Value → pb_H → Prop), pb_R 201 6 L J st h Q ↔ pb_R 201 7 L J (.int (0 : Int32) :: st) h Q) ∧
  (∀ (L : pb_L) (J : pb_J) (st : List Value) (h : pb_H) (Q : Option Value → pb_H → Prop) (a : Nat) (x : Int32), pb_R 201 7 L J (.int x :: .ref a :: st) h Q ↔ pb_o (pb_pf (h.2 a) 12 19 (.int x)) (fun c => pb_R 201 10 L J st (pb_set h a c) Q)) ∧
  (∀ (l1 : Option Value) (st : List Value) (h : pb_H) (Q : Option Value → pb_H → Prop) (x : Nat), pb_R 201 10 [some (.ref x), l1] [] st h Q ↔ pb_R 201 11 [some (.ref x), l1] [] (.ref x :: st) h Q) ∧
  (∀ (l1 : Option Value) (st : List Value) (h : pb_H) (Q : Option Value → pb_H → Prop), pb_R 201 10 [some .null, l1] [] st h Q ↔ pb_R 201 11 [some .null, l1] [] (.null :: st) h Q) ∧
  (∀ (L : pb_L) (J : pb_J) (st : List Value) (h : pb_H) (Q : Option Value → pb_H → Prop), pb_R 201 11 L J st h Q ↔ pb_R 201 12 L J (.int (0 : Int32) :: st) h Q) ∧
  (∀ (L : pb_L) (J : pb_J) (st : List Value) (h : pb_H) (Q : Option Value → pb_H → Prop) (a : Nat) (x : Int32), pb_R 201 12 L J (.int x :: .ref a :: st) h Q ↔ pb_o (pb_pf (h.2 a) 12 8 (.int x)) (fun c => pb_R 201 15 L J st (pb_set h a c) Q)) ∧
  (∀ (l1 : Option Value) (st : List Value) (h : pb_H) (Q : Option Value → pb_H → Prop) (x : Nat), pb_R 201 15 [some (.ref x), l1] [] st h Q ↔ pb_R 201 16 [some (.ref x), l1] [] (.ref x :: st) h Q) ∧
  (∀ (l1 : Option Value) (st : List Value) (h : pb_H) (Q : Option Value → pb_H → Prop), pb_R 201 15 [some .null, l1] [] st h Q ↔ pb_R 201 16 [some .null, l1] [] (.null :: st) h Q) ∧
  (∀ (L : pb_L) (J : pb_J) (st : List Value) (h : pb_H) (Q : Option Value → pb_H → Prop), pb_R 201 16 L J st h Q ↔ pb_R 201 17 L J (.int (-1 : Int32) :: st) h Q) ∧
  (∀ (L : pb_L) (J : pb_J) (st : List Value) (h : pb_H) (Q : Option Value → pb_H → Prop) (a : Nat) (x : Int32), pb_R 201 17 L J (.int x :: .ref a :: st) h Q ↔ pb_o (pb_pf (h.2 a) 12 9 (.int x)) (fun c => pb_R 201 20 L J st (pb_set h a c) Q)) ∧
  (∀ (L : pb_L) (J : pb_J) (st : List Value) (h : pb_H) (Q : Option Value → pb_H → Prop), pb_R 201 20 L J st h Q ↔ pb_R 201 21 L J (.int (0 : Int32) :: st) h Q) ∧
  (∀ (l0 l1 : Option Value) (st : List Value) (h : pb_H) (Q : Option Value → pb_H → Prop) (x : Int32), pb_R 201 21 [l0, l1] [] (.int x :: st) h Q ↔ pb_R 201 22 [l0, some (.int x)] [] st h Q) ∧
  (∀ (l1 : Option Value) (st : List Value) (h : pb_H) (Q : Option Value → pb_H → Prop) (x : Nat), pb_R 201 22 [some (.ref x), l1] [] st h Q ↔ pb_R 201 23 [some (.ref x), l1] [] (.ref x :: st) h Q) ∧
  (∀ (l1 : Option Value) (st : List Value) (h : pb_H) (Q : Option Value → pb_H → Prop), pb_R 201 22 [some .null, l1] [] st h Q ↔ pb_R 201 23 [some .null, l1] [] (.null :: st) h Q) ∧
  (∀ (L : pb_L) (J : pb_J) (h : pb_H) (Q : Option Value → pb_H → Prop) (x0 : Nat), pb_R 201 23 L J [.ref x0] h Q ↔ pb_is0 (h.2 x0) 12 = true ∧ pb_call 177 [.ref x0] h (fun v t => pb_R 201 26 L J (v.toList ++ []) t Q)) ∧
  (∀ (L : pb_L) (J : pb_J) (st : List Value) (h : pb_H) (Q : Option Value → pb_H → Prop) (a : Nat), pb_R 201 27 L J (.ref a :: st) h Q ↔ pb_o (pb_gf (h.2 a) 12 15) (fun v => pb_R 201 30 L J (v :: st) h Q)) ∧
  (∀ (L : pb_L) (J : pb_J) (st : List Value) (h : pb_H) (Q : Option Value → pb_H → Prop) (x : Int32), pb_R 201 30 L J (.int x :: st) h Q ↔ if x = 0 then pb_R 201 57 L J st h Q else pb_R 201 33 L J st h Q) ∧
  (∀ (l1 : Option Value) (st : List Value) (h : pb_H) (Q : Option Value → pb_H → Prop) (x : Nat), pb_R 201 33 [some (.ref x), l1] [] st h Q ↔ pb_R 201 34 [some (.ref x), l1] [] (.ref x :: st) h Q) ∧
  (∀ (l1 : Option Value) (st : List Value) (h : pb_H) (Q : Option Value → pb_H → Prop), pb_R 201 33 [some .null, l1] [] st h Q ↔ pb_R 201 34 [some .null, l1] [] (.null :: st) h Q) ∧
  (∀ (L : pb_L) (J : pb_J) (st : List Value) (h : pb_H) (Q : Option Value → pb_H → Prop) (a : Nat), pb_R 201 34 L J (.ref a :: st) h Q ↔ pb_o (pb_gf (h.2 a) 12 8) (fun v => pb_R 201 37 L J (v :: st) h Q)) ∧
  (∀ (L : pb_L) (J : pb_J) (st : List Value) (h : pb_H) (Q : Option Value → pb_H → Prop) (x : Int32), pb_R 201 37 L J (.int x :: st) h Q ↔ if ¬ x = 0 then pb_R 201 57 L J st h Q else pb_R 201 40 L J st h Q) ∧
  (∀ (l1 : Option Value) (st : List Value) (h : pb_H) (Q : Option Value → pb_H → Prop) (x : Nat), pb_R 201 40 [some (.ref x), l1] [] st h Q ↔ pb_R 201 41 [some (.ref x), l1] [] (.ref x :: st) h Q) ∧
  (∀ (l1 : Option Value) (st : List Value) (h : pb_H) (Q : Option Value → pb_H → Prop), pb_R 201 40 [some .null, l1] [] st h Q ↔ pb_R 201 41 [some .null, l1] [] (.null :: st) h Q) ∧
  (∀ (L : pb_L) (J : pb_J) (h : pb_H) (Q : Option Value → pb_H → Prop) (x0 : Nat), pb_R 201 41 L J [.ref x0] h Q ↔ pb_is0 (h.2 x0) 12 = true ∧ pb_call 200 [.ref x0] h (fun v t => pb_R 201 44 L J (v.toList ++ []) t Q)) ∧
  (∀ (L : pb_L) (J : pb_J) (st : List Value) (h : pb_H) (Q : Option Value → pb_H → Prop) (x : Int32), pb_R 201 44 L J (.int x :: st) h Q ↔ if x = 0 then pb_R 201 26 L J st h Q else pb_R 201 47 L J st h Q) ∧
  (∀ (l0 : Option Value) (st : List Value) (h : pb_H) (Q : Option Value → pb_H → Prop) (x : Int32), pb_R 201 47 [l0, some (.int x)] [] st h Q ↔ pb_R 201 50 [l0, some (.int (x + (1 : Int32)))] [] st h Q) ∧
  (∀ (l1 : Option Value) (st : List Value) (h : pb_H) (Q : Option Value → pb_H → Prop) (x : Nat), pb_R 201 50 [some (.ref x), l1] [] st h Q ↔ pb_R 201 51 [some (.ref x), l1] [] (.ref x :: st) h Q) ∧
  (∀ (l1 : Option Value) (st : List Value) (h : pb_H) (Q : Option Value → pb_H → Prop), pb_R 201 50 [some .null, l1] [] st h Q ↔ pb_R 201 51 [some .null, l1] [] (.null :: st) h Q) ∧
  (∀ (L : pb_L) (J : pb_J) (h : pb_H) (Q : Option Value → pb_H → Prop) (x0 : Nat), pb_R 201 51 L J [.ref x0] h Q ↔ pb_is0 (h.2 x0) 12 = true ∧ pb_call 177 [.ref x0] h (fun v t => pb_R 201 54 L J (v.toList ++ []) t Q)) ∧
  (∀ (L : pb_L) (J : pb_J) (st : List Value) (h : pb_H) (Q : Option Value → pb_H → Prop), pb_R 201 54 L J st h Q ↔ pb_R 201 26 L J st h Q) ∧
  (∀ (l1 : Option Value) (st : List Value) (h : pb_H) (Q : Option Value → pb_H → Prop) (x : Nat), pb_R 201 57 [some (.ref x), l1] [] st h Q ↔ pb_R 201 58 [some (.ref x), l1] [] (.ref x :: st) h Q) ∧
  (∀ (l1 : Option Value) (st : List Value) (h : pb_H) (Q : Option Value → pb_H → Prop), pb_R 201 57 [some .null, l1] [] st h Q ↔ pb_R 201 58 [some .null, l1] [] (.null :: st) h Q) ∧
  (∀ (L : pb_L) (J : pb_J) (st : List Value) (h : pb_H) (Q : Option Value → pb_H → Prop), pb_R 201 58 L J st h Q ↔ pb_R 201 59 L J (.int (0 : Int32) :: st) h Q) ∧
  (∀ (L : pb_L) (J : pb_J) (st : List Value) (h : pb_H) (Q : Option Value → pb_H → Prop) (a : Nat) (x : Int32), pb_R 201 59 L J (.int x :: .ref a :: st) h Q ↔ pb_o (pb_pf (h.2 a) 12 7 (.int x)) (fun c => pb_R 201 62 L J st (pb_set h a c) Q)) ∧
  (∀ (l0 : Option Value) (st : List Value) (h : pb_H) (Q : Option Value → pb_H → Prop) (x : Int32), pb_R 201 62 [l0, some (.int x)] [] st h Q ↔ pb_R 201 63 [l0, some (.int x)] [] (.int x :: st) h Q) ∧
  (∀ (L : pb_L) (J : pb_J) (h : pb_H) (Q : Option Value → pb_H → Prop) (x : Int32), pb_R 201 63 L J [.int x] h Q ↔ Q (some (.int x)) h) := ⟨
  fun l1 st h Q x => pf_S pb_u_201 rfl rfl,
  fun l1 st h Q => pf_S pb_u_201 rfl rfl,
  fun L J st h Q => pf_S pb_u_201 rfl rfl,
  fun L J st h Q a x => pf_pf pb_u_201 rfl rfl,
  fun l1 st h Q x => pf_S pb_u_201 rfl rfl,
  fun l1 st h Q => pf_S pb_u_201 rfl rfl,
  fun L J st h Q => pf_S pb_u_201 rfl rfl,
  fun L J st h Q a x => pf_pf pb_u_201 rfl rfl,
  fun l1 st h Q x => pf_S pb_u_201 rfl rfl,
  fun l1 st h Q => pf_S pb_u_201 rfl rfl,
  fun L J st h Q => pf_S pb_u_201 rfl rfl,
  fun L J st h Q a x => pf_pf pb_u_201 rfl rfl,
  fun l1 st h Q x => pf_S pb_u_201 rfl rfl,
  fun l1 st h Q => pf_S pb_u_201 rfl rfl,
  fun L J st h Q => pf_S pb_u_201 rfl rfl,
  fun L J st h Q a x => pf_pf pb_u_201 rfl rfl,
  fun L J st h Q => pf_S pb_u_201 rfl rfl,
  fun l0 l1 st h Q x => pf_S pb_u_201 rfl rfl,
  fun l1 st h Q x => pf_S pb_u_201 rfl rfl,
  fun l1 st h Q => pf_S pb_u_201 rfl rfl,
  fun L J h Q x0 => pf_kv pb_u_201 rfl pb_ci_177 rfl ⟨Nat.le_of_ble_eq_true rfl, Nat.le_of_ble_eq_true rfl, Nat.le_of_ble_eq_true rfl, Nat.le_of_ble_eq_true rfl, rfl⟩ rfl rfl,
  fun L J st h Q a => pf_gf pb_u_201 rfl rfl,
  fun L J st h Q x => pf_ii pb_u_201 rfl rfl rfl,
  fun l1 st h Q x => pf_S pb_u_201 rfl rfl,
  fun l1 st h Q => pf_S pb_u_201 rfl rfl,
  fun L J st h Q a => pf_gf pb_u_201 rfl rfl,
  fun L J st h Q x => pf_ii pb_u_201 rfl rfl pf_ne,
  fun l1 st h Q x => pf_S pb_u_201 rfl rfl,
  fun l1 st h Q => pf_S pb_u_201 rfl rfl,
  fun L J h Q x0 => pf_kv pb_u_201 rfl pb_ci_200 rfl ⟨Nat.le_of_ble_eq_true rfl, Nat.le_of_ble_eq_true rfl, Nat.le_of_ble_eq_true rfl, Nat.le_of_ble_eq_true rfl, rfl⟩ rfl rfl,
  fun L J st h Q x => pf_ii pb_u_201 rfl rfl rfl,
  fun l0 st h Q x => pf_S pb_u_201 rfl rfl,
  fun l1 st h Q x => pf_S pb_u_201 rfl rfl,
  fun l1 st h Q => pf_S pb_u_201 rfl rfl,
  fun L J h Q x0 => pf_kv pb_u_201 rfl pb_ci_177 rfl ⟨Nat.le_of_ble_eq_true rfl, Nat.le_of_ble_eq_true rfl, Nat.le_of_ble_eq_true rfl, Nat.le_of_ble_eq_true rfl, rfl⟩ rfl rfl,
  fun L J st h Q => pf_S pb_u_201 rfl rfl,
  fun l1 st h Q x => pf_S pb_u_201 rfl rfl,
  fun l1 st h Q => pf_S pb_u_201 rfl rfl,
  fun L J st h Q => pf_S pb_u_201 rfl rfl,
  fun L J st h Q a x => pf_pf pb_u_201 rfl rfl,
  fun l0 st h Q x => pf_S pb_u_201 rfl rfl,
  fun L J h Q x => pf_ri pb_u_201 rfl rfl⟩
theorem pb_c201 (x0 : Nat) (h : pb_H) (Q : Option Value → pb_H → Prop) : pb_call 201 [.ref x0] h Q ↔ pb_R 201 0 [some (.ref x0), none] [] [] h Q := Iff.rfl
/-! 202: PlaneBenchModel.fault(I)I -/
theorem pb_u_202 : pb_t 202 = pb_t202 := rfl
theorem pb_ci_202 : pb_ci 202 = 12 := by decide +kernel
set_option maxRecDepth 100000 in
theorem pb_e202 : (∀ (l0 : Option Value) (st : List Value) (h : pb_H) (Q : Option Value → pb_H → Prop) (x : Int32), pb_R 202 0 [l0, some (.int x)] [] st h Q ↔ pb_R 202 1 [l0, some (.int x)] [] (.int x :: st) h Q) ∧
  (∀ (L : pb_L) (J : pb_J) (st : List Value) (h : pb_H) (Q : Option Value → pb_H → Prop) (x : Int32), pb_R 202 1 L J (.int x :: st) h Q ↔ if ¬ x = 0 then pb_R 202 11 L J st h Q else pb_R 202 4 L J st h Q) ∧
  (∀ (l1 : Option Value) (st : List Value) (h : pb_H) (Q : Option Value → pb_H → Prop) (x : Nat), pb_R 202 4 [some (.ref x), l1] [] st h Q ↔ pb_R 202 5 [some (.ref x), l1] [] (.ref x :: st) h Q) ∧
  (∀ (l1 : Option Value) (st : List Value) (h : pb_H) (Q : Option Value → pb_H → Prop), pb_R 202 4 [some .null, l1] [] st h Q ↔ pb_R 202 5 [some .null, l1] [] (.null :: st) h Q) ∧
  (∀ (L : pb_L) (J : pb_J) (st : List Value) (h : pb_H) (Q : Option Value → pb_H → Prop) (a : Nat), pb_R 202 5 L J (.ref a :: st) h Q ↔ pb_o (pb_gf (h.2 a) 12 8) (fun v => pb_R 202 8 L J (v :: st) h Q)) ∧
  (∀ (L : pb_L) (J : pb_J) (st : List Value) (h : pb_H) (Q : Option Value → pb_H → Prop), pb_R 202 8 L J st h Q ↔ pb_R 202 24 L J st h Q) ∧
  (∀ (l0 : Option Value) (st : List Value) (h : pb_H) (Q : Option Value → pb_H → Prop) (x : Int32), pb_R 202 11 [l0, some (.int x)] [] st h Q ↔ pb_R 202 12 [l0, some (.int x)] [] (.int x :: st) h Q) ∧
  (∀ (L : pb_L) (J : pb_J) (st : List Value) (h : pb_H) (Q : Option Value → pb_H → Prop), pb_R 202 12 L J st h Q ↔ pb_R 202 13 L J (.int (1 : Int32) :: st) h Q) ∧
  (∀ (L : pb_L) (J : pb_J) (st : List Value) (h : pb_H) (Q : Option Value → pb_H → Prop) (x y : Int32), pb_R 202 13 L J (.int y :: .int x :: st) h Q ↔ if ¬ x = y then pb_R 202 23 L J st h Q else pb_R 202 16 L J st h Q) ∧
  (∀ (l1 : Option Value) (st : List Value) (h : pb_H) (Q : Option Value → pb_H → Prop) (x : Nat), pb_R 202 16 [some (.ref x), l1] [] st h Q ↔ pb_R 202 17 [some (.ref x), l1] [] (.ref x :: st) h Q) ∧
  (∀ (l1 : Option Value) (st : List Value) (h : pb_H) (Q : Option Value → pb_H → Prop), pb_R 202 16 [some .null, l1] [] st h Q ↔ pb_R 202 17 [some .null, l1] [] (.null :: st) h Q) ∧
  (∀ (L : pb_L) (J : pb_J) (st : List Value) (h : pb_H) (Q : Option Value → pb_H → Prop) (a : Nat), pb_R 202 17 L J (.ref a :: st) h Q ↔ pb_o (pb_gf (h.2 a) 12 9) (fun v => pb_R 202 20 L J (v :: st) h Q)) ∧
  (∀ (L : pb_L) (J : pb_J) (st : List Value) (h : pb_H) (Q : Option Value → pb_H → Prop), pb_R 202 20 L J st h Q ↔ pb_R 202 24 L J st h Q) ∧
  (∀ (L : pb_L) (J : pb_J) (st : List Value) (h : pb_H) (Q : Option Value → pb_H → Prop), pb_R 202 23 L J st h Q ↔ pb_R 202 24 L J (.int (-1 : Int32) :: st) h Q) ∧
  (∀ (L : pb_L) (J : pb_J) (h : pb_H) (Q : Option Value → pb_H → Prop) (x : Int32), pb_R 202 24 L J [.int x] h Q ↔ Q (some (.int x)) h) := ⟨
  fun l0 st h Q x => pf_S pb_u_202 rfl rfl,
  fun L J st h Q x => pf_ii pb_u_202 rfl rfl pf_ne,
  fun l1 st h Q x => pf_S pb_u_202 rfl rfl,
  fun l1 st h Q => pf_S pb_u_202 rfl rfl,
  fun L J st h Q a => pf_gf pb_u_202 rfl rfl,
  fun L J st h Q => pf_S pb_u_202 rfl rfl,
  fun l0 st h Q x => pf_S pb_u_202 rfl rfl,
  fun L J st h Q => pf_S pb_u_202 rfl rfl,
  fun L J st h Q x y => pf_ic pb_u_202 rfl rfl pf_ne,
  fun l1 st h Q x => pf_S pb_u_202 rfl rfl,
  fun l1 st h Q => pf_S pb_u_202 rfl rfl,
  fun L J st h Q a => pf_gf pb_u_202 rfl rfl,
  fun L J st h Q => pf_S pb_u_202 rfl rfl,
  fun L J st h Q => pf_S pb_u_202 rfl rfl,
  fun L J h Q x => pf_ri pb_u_202 rfl rfl⟩
theorem pb_c202 (x0 : Nat) (x1 : Int32) (h : pb_H) (Q : Option Value → pb_H → Prop) : pb_call 202 [.ref x0, .int x1] h Q ↔ pb_R 202 0 [some (.ref x0), some (.int x1)] [] [] h Q := Iff.rfl
/-! 203: PlaneBenchModel.isLine(I)Z -/
theorem pb_u_203 : pb_t 203 = pb_t203 := rfl
theorem pb_ci_203 : pb_ci 203 = 12 := by decide +kernel
set_option maxRecDepth 100000 in
theorem pb_e203 : (∀ (l0 : Option Value) (st : List Value) (h : pb_H) (Q : Option Value → pb_H → Prop) (x : Int32), pb_R 203 0 [l0, some (.int x)] [] st h Q ↔ pb_R 203 1 [l0, some (.int x)] [] (.int x :: st) h Q) ∧
  (∀ (L : pb_L) (J : pb_J) (st : List Value) (h : pb_H) (Q : Option Value → pb_H → Prop), pb_R 203 1 L J st h Q ↔ pb_R 203 2 L J (.int (1 : Int32) :: st) h Q) ∧
  (∀ (L : pb_L) (J : pb_J) (st : List Value) (h : pb_H) (Q : Option Value → pb_H → Prop) (x y : Int32), pb_R 203 2 L J (.int y :: .int x :: st) h Q ↔ if x < y then pb_R 203 17 L J st h Q else pb_R 203 5 L J st h Q) ∧
  (∀ (l0 : Option Value) (st : List Value) (h : pb_H) (Q : Option Value → pb_H → Prop) (x : Int32), pb_R 203 5 [l0, some (.int x)] [] st h Q ↔ pb_R 203 6 [l0, some (.int x)] [] (.int x :: st) h Q) ∧
  (∀ (l1 : Option Value) (st : List Value) (h : pb_H) (Q : Option Value → pb_H → Prop) (x : Nat), pb_R 203 6 [some (.ref x), l1] [] st h Q ↔ pb_R 203 7 [some (.ref x), l1] [] (.ref x :: st) h Q) ∧
  (∀ (l1 : Option Value) (st : List Value) (h : pb_H) (Q : Option Value → pb_H → Prop), pb_R 203 6 [some .null, l1] [] st h Q ↔ pb_R 203 7 [some .null, l1] [] (.null :: st) h Q) ∧
  (∀ (L : pb_L) (J : pb_J) (st : List Value) (h : pb_H) (Q : Option Value → pb_H → Prop) (a : Nat), pb_R 203 7 L J (.ref a :: st) h Q ↔ pb_o (pb_gf (h.2 a) 12 4) (fun v => pb_R 203 10 L J (v :: st) h Q)) ∧
  (∀ (L : pb_L) (J : pb_J) (st : List Value) (h : pb_H) (Q : Option Value → pb_H → Prop) (x y : Int32), pb_R 203 10 L J (.int y :: .int x :: st) h Q ↔ if y < x then pb_R 203 17 L J st h Q else pb_R 203 13 L J st h Q) ∧
  (∀ (L : pb_L) (J : pb_J) (st : List Value) (h : pb_H) (Q : Option Value → pb_H → Prop), pb_R 203 13 L J st h Q ↔ pb_R 203 14 L J (.int (1 : Int32) :: st) h Q) ∧
  (∀ (L : pb_L) (J : pb_J) (st : List Value) (h : pb_H) (Q : Option Value → pb_H → Prop), pb_R 203 14 L J st h Q ↔ pb_R 203 18 L J st h Q) ∧
  (∀ (L : pb_L) (J : pb_J) (st : List Value) (h : pb_H) (Q : Option Value → pb_H → Prop), pb_R 203 17 L J st h Q ↔ pb_R 203 18 L J (.int (0 : Int32) :: st) h Q) ∧
  (∀ (L : pb_L) (J : pb_J) (h : pb_H) (Q : Option Value → pb_H → Prop) (x : Int32), pb_R 203 18 L J [.int x] h Q ↔ narrow .boolean (.int x) = .int x ∧ Q (some (.int x)) h) := ⟨
  fun l0 st h Q x => pf_S pb_u_203 rfl rfl,
  fun L J st h Q => pf_S pb_u_203 rfl rfl,
  fun L J st h Q x y => pf_ic pb_u_203 rfl rfl rfl,
  fun l0 st h Q x => pf_S pb_u_203 rfl rfl,
  fun l1 st h Q x => pf_S pb_u_203 rfl rfl,
  fun l1 st h Q => pf_S pb_u_203 rfl rfl,
  fun L J st h Q a => pf_gf pb_u_203 rfl rfl,
  fun L J st h Q x y => pf_ic pb_u_203 rfl rfl rfl,
  fun L J st h Q => pf_S pb_u_203 rfl rfl,
  fun L J st h Q => pf_S pb_u_203 rfl rfl,
  fun L J st h Q => pf_S pb_u_203 rfl rfl,
  fun L J h Q x => pf_rz pb_u_203 rfl rfl⟩
theorem pb_c203 (x0 : Nat) (x1 : Int32) (h : pb_H) (Q : Option Value → pb_H → Prop) : pb_call 203 [.ref x0, .int x1] h Q ↔ pb_R 203 0 [some (.ref x0), some (.int x1)] [] [] h Q := Iff.rfl
/-! 204: PlaneBenchModel.literal(II)I -/
theorem pb_u_204 : pb_t 204 = pb_t204 := rfl
theorem pb_ci_204 : pb_ci 204 = 12 := by decide +kernel
set_option maxRecDepth 100000 in
theorem pb_e204 : (∀ (l1 l2 l3 : Option Value) (st : List Value) (h : pb_H) (Q : Option Value → pb_H → Prop) (x : Nat), pb_R 204 0 [some (.ref x), l1, l2, l3] [] st h Q ↔ pb_R 204 1 [some (.ref x), l1, l2, l3] [] (.ref x :: st) h Q) ∧
  (∀ (l1 l2 l3 : Option Value) (st : List Value) (h : pb_H) (Q : Option Value → pb_H → Prop), pb_R 204 0 [some .null, l1, l2, l3] [] st h Q ↔ pb_R 204 1 [some .null, l1, l2, l3] [] (.null :: st) h Q) ∧
  (∀ (l0 l2 l3 : Option Value) (st : List Value) (h : pb_H) (Q : Option Value → pb_H → Prop) (x : Int32), pb_R 204 1 [l0, some (.int x), l2, l3] [] st h Q ↔ pb_R 204 2 [l0, some (.int x), l2, l3] [] (.int x :: st) h Q) ∧
  (∀ (L : pb_L) (J : pb_J) (h : pb_H) (Q : Option Value → pb_H → Prop) (x0 : Int32) (x1 : Nat), pb_R 204 2 L J [.int x0, .ref x1] h Q ↔ pb_is0 (h.2 x1) 12 = true ∧ pb_call 203 [.ref x1, .int x0] h (fun v t => pb_R 204 5 L J (v.toList ++ []) t Q)) ∧
  (∀ (L : pb_L) (J : pb_J) (st : List Value) (h : pb_H) (Q : Option Value → pb_H → Prop) (x : Int32), pb_R 204 5 L J (.int x :: st) h Q ↔ if x = 0 then pb_R 204 21 L J st h Q else pb_R 204 8 L J st h Q) ∧
  (∀ (l0 l1 l3 : Option Value) (st : List Value) (h : pb_H) (Q : Option Value → pb_H → Prop) (x : Int32), pb_R 204 8 [l0, l1, some (.int x), l3] [] st h Q ↔ pb_R 204 9 [l0, l1, some (.int x), l3] [] (.int x :: st) h Q) ∧
  (∀ (L : pb_L) (J : pb_J) (st : List Value) (h : pb_H) (Q : Option Value → pb_H → Prop), pb_R 204 9 L J st h Q ↔ pb_R 204 10 L J (.int (1 : Int32) :: st) h Q) ∧
  (∀ (L : pb_L) (J : pb_J) (st : List Value) (h : pb_H) (Q : Option Value → pb_H → Prop) (x y : Int32), pb_R 204 10 L J (.int y :: .int x :: st) h Q ↔ if x < y then pb_R 204 21 L J st h Q else pb_R 204 13 L J st h Q) ∧
  (∀ (l0 l1 l3 : Option Value) (st : List Value) (h : pb_H) (Q : Option Value → pb_H → Prop) (x : Int32), pb_R 204 13 [l0, l1, some (.int x), l3] [] st h Q ↔ pb_R 204 14 [l0, l1, some (.int x), l3] [] (.int x :: st) h Q) ∧
  (∀ (l1 l2 l3 : Option Value) (st : List Value) (h : pb_H) (Q : Option Value → pb_H → Prop) (x : Nat), pb_R 204 14 [some (.ref x), l1, l2, l3] [] st h Q ↔ pb_R 204 15 [some (.ref x), l1, l2, l3] [] (.ref x :: st) h Q) ∧
  (∀ (l1 l2 l3 : Option Value) (st : List Value) (h : pb_H) (Q : Option Value → pb_H → Prop), pb_R 204 14 [some .null, l1, l2, l3] [] st h Q ↔ pb_R 204 15 [some .null, l1, l2, l3] [] (.null :: st) h Q) ∧
  (∀ (L : pb_L) (J : pb_J) (st : List Value) (h : pb_H) (Q : Option Value → pb_H → Prop) (a : Nat), pb_R 204 15 L J (.ref a :: st) h Q ↔ pb_o (pb_gf (h.2 a) 12 3) (fun v => pb_R 204 18 L J (v :: st) h Q)) ∧
  (∀ (L : pb_L) (J : pb_J) (st : List Value) (h : pb_H) (Q : Option Value → pb_H → Prop) (x y : Int32), pb_R 204 18 L J (.int y :: .int x :: st) h Q ↔ if x ≤ y then pb_R 204 23 L J st h Q else pb_R 204 21 L J st h Q) ∧
  (∀ (L : pb_L) (J : pb_J) (st : List Value) (h : pb_H) (Q : Option Value → pb_H → Prop), pb_R 204 21 L J st h Q ↔ pb_R 204 22 L J (.int (-1 : Int32) :: st) h Q) ∧
  (∀ (L : pb_L) (J : pb_J) (h : pb_H) (Q : Option Value → pb_H → Prop) (x : Int32), pb_R 204 22 L J [.int x] h Q ↔ Q (some (.int x)) h) ∧
  (∀ (l1 l2 l3 : Option Value) (st : List Value) (h : pb_H) (Q : Option Value → pb_H → Prop) (x : Nat), pb_R 204 23 [some (.ref x), l1, l2, l3] [] st h Q ↔ pb_R 204 24 [some (.ref x), l1, l2, l3] [] (.ref x :: st) h Q) ∧
  (∀ (l1 l2 l3 : Option Value) (st : List Value) (h : pb_H) (Q : Option Value → pb_H → Prop), pb_R 204 23 [some .null, l1, l2, l3] [] st h Q ↔ pb_R 204 24 [some .null, l1, l2, l3] [] (.null :: st) h Q) ∧
  (∀ (L : pb_L) (J : pb_J) (st : List Value) (h : pb_H) (Q : Option Value → pb_H → Prop) (a : Nat), pb_R 204 24 L J (.ref a :: st) h Q ↔ pb_o (pb_gf (h.2 a) 12 1) (fun v => pb_R 204 27 L J (v :: st) h Q)) ∧
  (∀ (l0 l2 l3 : Option Value) (st : List Value) (h : pb_H) (Q : Option Value → pb_H → Prop) (x : Int32), pb_R 204 27 [l0, some (.int x), l2, l3] [] st h Q ↔ pb_R 204 28 [l0, some (.int x), l2, l3] [] (.int x :: st) h Q) ∧
  (∀ (L : pb_L) (J : pb_J) (st : List Value) (h : pb_H) (Q : Option Value → pb_H → Prop), pb_R 204 28 L J st h Q ↔ pb_R 204 30 L J (.int (17 : Int32) :: st) h Q) ∧
  (∀ (L : pb_L) (J : pb_J) (st : List Value) (x y : Int32) (h : pb_H) (Q : Option Value → pb_H → Prop), pb_R 204 30 L J (.int y :: .int x :: st) h Q ↔ pb_R 204 31 L J (.int (x * y) :: st) h Q) ∧
  (∀ (l0 l1 l3 : Option Value) (st : List Value) (h : pb_H) (Q : Option Value → pb_H → Prop) (x : Int32), pb_R 204 31 [l0, l1, some (.int x), l3] [] st h Q ↔ pb_R 204 32 [l0, l1, some (.int x), l3] [] (.int x :: st) h Q) ∧
  (∀ (L : pb_L) (J : pb_J) (st : List Value) (x y : Int32) (h : pb_H) (Q : Option Value → pb_H → Prop), pb_R 204 32 L J (.int y :: .int x :: st) h Q ↔ pb_R 204 33 L J (.int (x + y) :: st) h Q) ∧
  (∀ (L : pb_L) (J : pb_J) (st : List Value) (h : pb_H) (Q : Option Value → pb_H → Prop) (a : Nat) (i : Int32), pb_R 204 33 L J (.int i :: .ref a :: st) h Q ↔ pb_o (pb_ai (h.2 a) i) (fun v => pb_R 204 34 L J (.int v :: st) h Q)) ∧
  (∀ (l0 l1 l2 l3 : Option Value) (st : List Value) (h : pb_H) (Q : Option Value → pb_H → Prop) (x : Int32), pb_R 204 34 [l0, l1, l2, l3] [] (.int x :: st) h Q ↔ pb_R 204 35 [l0, l1, l2, some (.int x)] [] st h Q) ∧
  (∀ (l0 l1 l2 : Option Value) (st : List Value) (h : pb_H) (Q : Option Value → pb_H → Prop) (x : Int32), pb_R 204 35 [l0, l1, l2, some (.int x)] [] st h Q ↔ pb_R 204 36 [l0, l1, l2, some (.int x)] [] (.int x :: st) h Q) ∧
  (∀ (L : pb_L) (J : pb_J) (h : pb_H) (Q : Option Value → pb_H → Prop) (x : Int32), pb_R 204 36 L J [.int x] h Q ↔ Q (some (.int x)) h) := ⟨
  fun l1 l2 l3 st h Q x => pf_S pb_u_204 rfl rfl,
  fun l1 l2 l3 st h Q => pf_S pb_u_204 rfl rfl,
  fun l0 l2 l3 st h Q x => pf_S pb_u_204 rfl rfl,
  fun L J h Q x0 x1 => pf_kv pb_u_204 rfl pb_ci_203 rfl ⟨Nat.le_of_ble_eq_true rfl, Nat.le_of_ble_eq_true rfl, Nat.le_of_ble_eq_true rfl, Nat.le_of_ble_eq_true rfl, rfl⟩ rfl rfl,
  fun L J st h Q x => pf_ii pb_u_204 rfl rfl rfl,
  fun l0 l1 l3 st h Q x => pf_S pb_u_204 rfl rfl,
  fun L J st h Q => pf_S pb_u_204 rfl rfl,
  fun L J st h Q x y => pf_ic pb_u_204 rfl rfl rfl,
  fun l0 l1 l3 st h Q x => pf_S pb_u_204 rfl rfl,
  fun l1 l2 l3 st h Q x => pf_S pb_u_204 rfl rfl,
  fun l1 l2 l3 st h Q => pf_S pb_u_204 rfl rfl,
  fun L J st h Q a => pf_gf pb_u_204 rfl rfl,
  fun L J st h Q x y => pf_ic pb_u_204 rfl rfl rfl,
  fun L J st h Q => pf_S pb_u_204 rfl rfl,
  fun L J h Q x => pf_ri pb_u_204 rfl rfl,
  fun l1 l2 l3 st h Q x => pf_S pb_u_204 rfl rfl,
  fun l1 l2 l3 st h Q => pf_S pb_u_204 rfl rfl,
  fun L J st h Q a => pf_gf pb_u_204 rfl rfl,
  fun l0 l2 l3 st h Q x => pf_S pb_u_204 rfl rfl,
  fun L J st h Q => pf_S pb_u_204 rfl rfl,
  fun L J st x y h Q => pf_S pb_u_204 rfl rfl,
  fun l0 l1 l3 st h Q x => pf_S pb_u_204 rfl rfl,
  fun L J st x y h Q => pf_S pb_u_204 rfl rfl,
  fun L J st h Q a i => pf_ai pb_u_204 rfl rfl,
  fun l0 l1 l2 l3 st h Q x => pf_S pb_u_204 rfl rfl,
  fun l0 l1 l2 st h Q x => pf_S pb_u_204 rfl rfl,
  fun L J h Q x => pf_ri pb_u_204 rfl rfl⟩
theorem pb_c204 (x0 : Nat) (x1 : Int32) (x2 : Int32) (h : pb_H) (Q : Option Value → pb_H → Prop) : pb_call 204 [.ref x0, .int x1, .int x2] h Q ↔ pb_R 204 0 [some (.ref x0), some (.int x1), some (.int x2), none] [] [] h Q := Iff.rfl
/-! 205: PlaneBenchModel.piece(III)I -/
theorem pb_u_205 : pb_t 205 = pb_t205 := rfl
theorem pb_ci_205 : pb_ci 205 = 12 := by decide +kernel
set_option maxRecDepth 100000 in
theorem pb_e205 : (∀ (l1 l2 l3 l4 : Option Value) (st : List Value) (h : pb_H) (Q : Option Value → pb_H → Prop) (x : Nat), pb_R 205 0 [some (.ref x), l1, l2, l3, l4] [] st h Q ↔ pb_R 205 1 [some (.ref x), l1, l2, l3, l4] [] (.ref x :: st) h Q) ∧
  (∀ (l1 l2 l3 l4 : Option Value) (st : List Value) (h : pb_H) (Q : Option Value → pb_H → Prop), pb_R 205 0 [some .null, l1, l2, l3, l4] [] st h Q ↔ pb_R 205 1 [some .null, l1, l2, l3, l4] [] (.null :: st) h Q) ∧
  (∀ (l0 l2 l3 l4 : Option Value) (st : List Value) (h : pb_H) (Q : Option Value → pb_H → Prop) (x : Int32), pb_R 205 1 [l0, some (.int x), l2, l3, l4] [] st h Q ↔ pb_R 205 2 [l0, some (.int x), l2, l3, l4] [] (.int x :: st) h Q) ∧
  (∀ (L : pb_L) (J : pb_J) (h : pb_H) (Q : Option Value → pb_H → Prop) (x0 : Int32) (x1 : Nat), pb_R 205 2 L J [.int x0, .ref x1] h Q ↔ pb_is0 (h.2 x1) 12 = true ∧ pb_call 203 [.ref x1, .int x0] h (fun v t => pb_R 205 5 L J (v.toList ++ []) t Q)) ∧
  (∀ (L : pb_L) (J : pb_J) (st : List Value) (h : pb_H) (Q : Option Value → pb_H → Prop) (x : Int32), pb_R 205 5 L J (.int x :: st) h Q ↔ if x = 0 then pb_R 205 30 L J st h Q else pb_R 205 8 L J st h Q) ∧
  (∀ (l0 l1 l3 l4 : Option Value) (st : List Value) (h : pb_H) (Q : Option Value → pb_H → Prop) (x : Int32), pb_R 205 8 [l0, l1, some (.int x), l3, l4] [] st h Q ↔ pb_R 205 9 [l0, l1, some (.int x), l3, l4] [] (.int x :: st) h Q) ∧
  (∀ (L : pb_L) (J : pb_J) (st : List Value) (h : pb_H) (Q : Option Value → pb_H → Prop) (x : Int32), pb_R 205 9 L J (.int x :: st) h Q ↔ if x < 0 then pb_R 205 30 L J st h Q else pb_R 205 12 L J st h Q) ∧
  (∀ (l0 l1 l3 l4 : Option Value) (st : List Value) (h : pb_H) (Q : Option Value → pb_H → Prop) (x : Int32), pb_R 205 12 [l0, l1, some (.int x), l3, l4] [] st h Q ↔ pb_R 205 13 [l0, l1, some (.int x), l3, l4] [] (.int x :: st) h Q) ∧
  (∀ (l1 l2 l3 l4 : Option Value) (st : List Value) (h : pb_H) (Q : Option Value → pb_H → Prop) (x : Nat), pb_R 205 13 [some (.ref x), l1, l2, l3, l4] [] st h Q ↔ pb_R 205 14 [some (.ref x), l1, l2, l3, l4] [] (.ref x :: st) h Q) ∧
  (∀ (l1 l2 l3 l4 : Option Value) (st : List Value) (h : pb_H) (Q : Option Value → pb_H → Prop), pb_R 205 13 [some .null, l1, l2, l3, l4] [] st h Q ↔ pb_R 205 14 [some .null, l1, l2, l3, l4] [] (.null :: st) h Q) ∧
  (∀ (L : pb_L) (J : pb_J) (st : List Value) (h : pb_H) (Q : Option Value → pb_H → Prop) (a : Nat), pb_R 205 14 L J (.ref a :: st) h Q ↔ pb_o (pb_gf (h.2 a) 12 3) (fun v => pb_R 205 17 L J (v :: st) h Q)) ∧
  (∀ (L : pb_L) (J : pb_J) (st : List Value) (h : pb_H) (Q : Option Value → pb_H → Prop) (x y : Int32), pb_R 205 17 L J (.int y :: .int x :: st) h Q ↔ if y < x then pb_R 205 30 L J st h Q else pb_R 205 20 L J st h Q) ∧
  (∀ (l0 l1 l2 l4 : Option Value) (st : List Value) (h : pb_H) (Q : Option Value → pb_H → Prop) (x : Int32), pb_R 205 20 [l0, l1, l2, some (.int x), l4] [] st h Q ↔ pb_R 205 21 [l0, l1, l2, some (.int x), l4] [] (.int x :: st) h Q) ∧
  (∀ (L : pb_L) (J : pb_J) (st : List Value) (h : pb_H) (Q : Option Value → pb_H → Prop) (x : Int32), pb_R 205 21 L J (.int x :: st) h Q ↔ if x < 0 then pb_R 205 30 L J st h Q else pb_R 205 24 L J st h Q) ∧
  (∀ (l0 l1 l2 l4 : Option Value) (st : List Value) (h : pb_H) (Q : Option Value → pb_H → Prop) (x : Int32), pb_R 205 24 [l0, l1, l2, some (.int x), l4] [] st h Q ↔ pb_R 205 25 [l0, l1, l2, some (.int x), l4] [] (.int x :: st) h Q) ∧
  (∀ (L : pb_L) (J : pb_J) (st : List Value) (h : pb_H) (Q : Option Value → pb_H → Prop), pb_R 205 25 L J st h Q ↔ pb_R 205 27 L J (.int (7 : Int32) :: st) h Q) ∧
  (∀ (L : pb_L) (J : pb_J) (st : List Value) (h : pb_H) (Q : Option Value → pb_H → Prop) (x y : Int32), pb_R 205 27 L J (.int y :: .int x :: st) h Q ↔ if x ≤ y then pb_R 205 32 L J st h Q else pb_R 205 30 L J st h Q) ∧
  (∀ (L : pb_L) (J : pb_J) (st : List Value) (h : pb_H) (Q : Option Value → pb_H → Prop), pb_R 205 30 L J st h Q ↔ pb_R 205 31 L J (.int (0 : Int32) :: st) h Q) ∧
  (∀ (L : pb_L) (J : pb_J) (h : pb_H) (Q : Option Value → pb_H → Prop) (x : Int32), pb_R 205 31 L J [.int x] h Q ↔ Q (some (.int x)) h) ∧
  (∀ (l0 l2 l3 l4 : Option Value) (st : List Value) (h : pb_H) (Q : Option Value → pb_H → Prop) (x : Int32), pb_R 205 32 [l0, some (.int x), l2, l3, l4] [] st h Q ↔ pb_R 205 33 [l0, some (.int x), l2, l3, l4] [] (.int x :: st) h Q) ∧
  (∀ (l0 l1 l3 l4 : Option Value) (st : List Value) (h : pb_H) (Q : Option Value → pb_H → Prop) (x : Int32), pb_R 205 33 [l0, l1, some (.int x), l3, l4] [] st h Q ↔ pb_R 205 34 [l0, l1, some (.int x), l3, l4] [] (.int x :: st) h Q) ∧
  (∀ (L : pb_L) (J : pb_J) (h : pb_H) (Q : Option Value → pb_H → Prop) (x0 : Int32) (x1 : Int32), pb_R 205 34 L J [.int x0, .int x1] h Q ↔ pb_call 143 [.int x1, .int x0] h (fun v t => pb_R 205 37 L J (v.toList ++ []) t Q)) ∧
  (∀ (L : pb_L) (J : pb_J) (st : List Value) (h : pb_H) (Q : Option Value → pb_H → Prop), pb_R 205 37 L J st h Q ↔ pb_R 205 38 L J (.int (2 : Int32) :: st) h Q) ∧
  (∀ (l0 l1 l2 l4 : Option Value) (st : List Value) (h : pb_H) (Q : Option Value → pb_H → Prop) (x : Int32), pb_R 205 38 [l0, l1, l2, some (.int x), l4] [] st h Q ↔ pb_R 205 39 [l0, l1, l2, some (.int x), l4] [] (.int x :: st) h Q) ∧
  (∀ (L : pb_L) (J : pb_J) (st : List Value) (x y : Int32) (h : pb_H) (Q : Option Value → pb_H → Prop), pb_R 205 39 L J (.int y :: .int x :: st) h Q ↔ pb_R 205 40 L J (.int (x * y) :: st) h Q) ∧
  (∀ (L : pb_L) (J : pb_J) (st : List Value) (x y : Int32) (h : pb_H) (Q : Option Value → pb_H → Prop), pb_R 205 40 L J (.int y :: .int x :: st) h Q ↔ pb_R 205 41 L J (.int (x + y) :: st) h Q) ∧
  (∀ (l0 l1 l2 l3 l4 : Option Value) (st : List Value) (h : pb_H) (Q : Option Value → pb_H → Prop) (x : Int32), pb_R 205 41 [l0, l1, l2, l3, l4] [] (.int x :: st) h Q ↔ pb_R 205 43 [l0, l1, l2, l3, some (.int x)] [] st h Q) ∧
  (∀ (l1 l2 l3 l4 : Option Value) (st : List Value) (h : pb_H) (Q : Option Value → pb_H → Prop) (x : Nat), pb_R 205 43 [some (.ref x), l1, l2, l3, l4] [] st h Q ↔ pb_R 205 44 [some (.ref x), l1, l2, l3, l4] [] (.ref x :: st) h Q) ∧
  (∀ (l1 l2 l3 l4 : Option Value) (st : List Value) (h : pb_H) (Q : Option Value → pb_H → Prop), pb_R 205 43 [some .null, l1, l2, l3, l4] [] st h Q ↔ pb_R 205 44 [some .null, l1, l2, l3, l4] [] (.null :: st) h Q) ∧
  (∀ (L : pb_L) (J : pb_J) (st : List Value) (h : pb_H) (Q : Option Value → pb_H → Prop) (a : Nat), pb_R 205 44 L J (.ref a :: st) h Q ↔ pb_o (pb_gf (h.2 a) 12 0) (fun v => pb_R 205 47 L J (v :: st) h Q)) ∧
  (∀ (l0 l1 l2 l3 : Option Value) (st : List Value) (h : pb_H) (Q : Option Value → pb_H → Prop) (x : Int32), pb_R 205 47 [l0, l1, l2, l3, some (.int x)] [] st h Q ↔ pb_R 205 49 [l0, l1, l2, l3, some (.int x)] [] (.int x :: st) h Q) ∧
  (∀ (L : pb_L) (J : pb_J) (st : List Value) (h : pb_H) (Q : Option Value → pb_H → Prop), pb_R 205 49 L J st h Q ↔ pb_R 205 50 L J (.int (1 : Int32) :: st) h Q) ∧
  (∀ (L : pb_L) (J : pb_J) (st : List Value) (x y : Int32) (h : pb_H) (Q : Option Value → pb_H → Prop), pb_R 205 50 L J (.int y :: .int x :: st) h Q ↔ pb_R 205 51 L J (.int (x + y) :: st) h Q) ∧
  (∀ (L : pb_L) (J : pb_J) (st : List Value) (h : pb_H) (Q : Option Value → pb_H → Prop) (a : Nat) (i : Int32), pb_R 205 51 L J (.int i :: .ref a :: st) h Q ↔ pb_o (pb_ai (h.2 a) i) (fun v => pb_R 205 52 L J (.int v :: st) h Q)) ∧
  (∀ (L : pb_L) (J : pb_J) (st : List Value) (h : pb_H) (Q : Option Value → pb_H → Prop), pb_R 205 52 L J st h Q ↔ pb_R 205 54 L J (.int (16 : Int32) :: st) h Q) ∧
  (∀ (L : pb_L) (J : pb_J) (st : List Value) (x y : Int32) (h : pb_H) (Q : Option Value → pb_H → Prop), pb_R 205 54 L J (.int y :: .int x :: st) h Q ↔ pb_R 205 55 L J (.int (x <<< (y &&& 31)) :: st) h Q) ∧
  (∀ (l1 l2 l3 l4 : Option Value) (st : List Value) (h : pb_H) (Q : Option Value → pb_H → Prop) (x : Nat), pb_R 205 55 [some (.ref x), l1, l2, l3, l4] [] st h Q ↔ pb_R 205 56 [some (.ref x), l1, l2, l3, l4] [] (.ref x :: st) h Q) ∧
  (∀ (l1 l2 l3 l4 : Option Value) (st : List Value) (h : pb_H) (Q : Option Value → pb_H → Prop), pb_R 205 55 [some .null, l1, l2, l3, l4] [] st h Q ↔ pb_R 205 56 [some .null, l1, l2, l3, l4] [] (.null :: st) h Q) ∧
  (∀ (L : pb_L) (J : pb_J) (st : List Value) (h : pb_H) (Q : Option Value → pb_H → Prop) (a : Nat), pb_R 205 56 L J (.ref a :: st) h Q ↔ pb_o (pb_gf (h.2 a) 12 0) (fun v => pb_R 205 59 L J (v :: st) h Q)) ∧
  (∀ (l0 l1 l2 l3 : Option Value) (st : List Value) (h : pb_H) (Q : Option Value → pb_H → Prop) (x : Int32), pb_R 205 59 [l0, l1, l2, l3, some (.int x)] [] st h Q ↔ pb_R 205 61 [l0, l1, l2, l3, some (.int x)] [] (.int x :: st) h Q) ∧
  (∀ (L : pb_L) (J : pb_J) (st : List Value) (h : pb_H) (Q : Option Value → pb_H → Prop) (a : Nat) (i : Int32), pb_R 205 61 L J (.int i :: .ref a :: st) h Q ↔ pb_o (pb_ai (h.2 a) i) (fun v => pb_R 205 62 L J (.int v :: st) h Q)) ∧
  (∀ (L : pb_L) (J : pb_J) (st : List Value) (x y : Int32) (h : pb_H) (Q : Option Value → pb_H → Prop), pb_R 205 62 L J (.int y :: .int x :: st) h Q ↔ pb_R 205 63 L J (.int (x ||| y) :: st) h Q) ∧
  (∀ (L : pb_L) (J : pb_J) (h : pb_H) (Q : Option Value → pb_H → Prop) (x : Int32), pb_R 205 63 L J [.int x] h Q ↔ Q (some (.int x)) h) := ⟨
  fun l1 l2 l3 l4 st h Q x => pf_S pb_u_205 rfl rfl,
  fun l1 l2 l3 l4 st h Q => pf_S pb_u_205 rfl rfl,
  fun l0 l2 l3 l4 st h Q x => pf_S pb_u_205 rfl rfl,
  fun L J h Q x0 x1 => pf_kv pb_u_205 rfl pb_ci_203 rfl ⟨Nat.le_of_ble_eq_true rfl, Nat.le_of_ble_eq_true rfl, Nat.le_of_ble_eq_true rfl, Nat.le_of_ble_eq_true rfl, rfl⟩ rfl rfl,
  fun L J st h Q x => pf_ii pb_u_205 rfl rfl rfl,
  fun l0 l1 l3 l4 st h Q x => pf_S pb_u_205 rfl rfl,
  fun L J st h Q x => pf_ii pb_u_205 rfl rfl rfl,
  fun l0 l1 l3 l4 st h Q x => pf_S pb_u_205 rfl rfl,
  fun l1 l2 l3 l4 st h Q x => pf_S pb_u_205 rfl rfl,
  fun l1 l2 l3 l4 st h Q => pf_S pb_u_205 rfl rfl,
  fun L J st h Q a => pf_gf pb_u_205 rfl rfl,
  fun L J st h Q x y => pf_ic pb_u_205 rfl rfl rfl,
  fun l0 l1 l2 l4 st h Q x => pf_S pb_u_205 rfl rfl,
  fun L J st h Q x => pf_ii pb_u_205 rfl rfl rfl,
  fun l0 l1 l2 l4 st h Q x => pf_S pb_u_205 rfl rfl,
  fun L J st h Q => pf_S pb_u_205 rfl rfl,
  fun L J st h Q x y => pf_ic pb_u_205 rfl rfl rfl,
  fun L J st h Q => pf_S pb_u_205 rfl rfl,
  fun L J h Q x => pf_ri pb_u_205 rfl rfl,
  fun l0 l2 l3 l4 st h Q x => pf_S pb_u_205 rfl rfl,
  fun l0 l1 l3 l4 st h Q x => pf_S pb_u_205 rfl rfl,
  fun L J h Q x0 x1 => pf_ks pb_u_205 rfl rfl rfl rfl,
  fun L J st h Q => pf_S pb_u_205 rfl rfl,
  fun l0 l1 l2 l4 st h Q x => pf_S pb_u_205 rfl rfl,
  fun L J st x y h Q => pf_S pb_u_205 rfl rfl,
  fun L J st x y h Q => pf_S pb_u_205 rfl rfl,
  fun l0 l1 l2 l3 l4 st h Q x => pf_S pb_u_205 rfl rfl,
  fun l1 l2 l3 l4 st h Q x => pf_S pb_u_205 rfl rfl,
  fun l1 l2 l3 l4 st h Q => pf_S pb_u_205 rfl rfl,
  fun L J st h Q a => pf_gf pb_u_205 rfl rfl,
  fun l0 l1 l2 l3 st h Q x => pf_S pb_u_205 rfl rfl,
  fun L J st h Q => pf_S pb_u_205 rfl rfl,
  fun L J st x y h Q => pf_S pb_u_205 rfl rfl,
  fun L J st h Q a i => pf_ai pb_u_205 rfl rfl,
  fun L J st h Q => pf_S pb_u_205 rfl rfl,
  fun L J st x y h Q => pf_S pb_u_205 rfl rfl,
  fun l1 l2 l3 l4 st h Q x => pf_S pb_u_205 rfl rfl,
  fun l1 l2 l3 l4 st h Q => pf_S pb_u_205 rfl rfl,
  fun L J st h Q a => pf_gf pb_u_205 rfl rfl,
  fun l0 l1 l2 l3 st h Q x => pf_S pb_u_205 rfl rfl,
  fun L J st h Q a i => pf_ai pb_u_205 rfl rfl,
  fun L J st x y h Q => pf_S pb_u_205 rfl rfl,
  fun L J h Q x => pf_ri pb_u_205 rfl rfl⟩
theorem pb_c205 (x0 : Nat) (x1 : Int32) (x2 : Int32) (x3 : Int32) (h : pb_H) (Q : Option Value → pb_H → Prop) : pb_call 205 [.ref x0, .int x1, .int x2, .int x3] h Q ↔ pb_R 205 0 [some (.ref x0), some (.int x1), some (.int x2), some (.int x3), none] [] [] h Q := Iff.rfl
/-! 206: PlaneBenchModel.holds(II)Z -/
theorem pb_u_206 : pb_t 206 = pb_t206 := rfl
theorem pb_ci_206 : pb_ci 206 = 12 := by decide +kernel
set_option maxRecDepth 100000 in
theorem pb_q206_26 (l0 l1 l2 l3 l5 l6 : Option Value) (st : List Value) (h : pb_H) (Q : Option Value → pb_H → Prop) (x : Int32) : pb_R 206 26 [l0, l1, l2, l3, some (.int x), l5, l6] [] st h Q ↔ pb_R 206 28 [l0, l1, l2, l3, some (.int x), l5, l6] [] (.int x :: st) h Q := pf_S pb_u_206 rfl rfl
set_option maxRecDepth 100000 in
theorem pb_e206 : (∀ (l1 l2 l3 l4 l5 l6 : Option Value) (st : List Value) (h : pb_H) (Q : Option Value → pb_H → Prop) (x : Nat), pb_R 206 0 [some (.ref x), l1, l2, l3, l4, l5, l6] [] st h Q ↔ pb_R 206 1 [some (.ref x), l1, l2, l3, l4, l5, l6] [] (.ref x :: st) h Q) ∧
  (∀ (l1 l2 l3 l4 l5 l6 : Option Value) (st : List Value) (h : pb_H) (Q : Option Value → pb_H → Prop), pb_R 206 0 [some .null, l1, l2, l3, l4, l5, l6] [] st h Q ↔ pb_R 206 1 [some .null, l1, l2, l3, l4, l5, l6] [] (.null :: st) h Q) ∧
  (∀ (l0 l2 l3 l4 l5 l6 : Option Value) (st : List Value) (h : pb_H) (Q : Option Value → pb_H → Prop) (x : Int32), pb_R 206 1 [l0, some (.int x), l2, l3, l4, l5, l6] [] st h Q ↔ pb_R 206 2 [l0, some (.int x), l2, l3, l4, l5, l6] [] (.int x :: st) h Q) ∧
  (∀ (L : pb_L) (J : pb_J) (h : pb_H) (Q : Option Value → pb_H → Prop) (x0 : Int32) (x1 : Nat), pb_R 206 2 L J [.int x0, .ref x1] h Q ↔ pb_is0 (h.2 x1) 12 = true ∧ pb_call 203 [.ref x1, .int x0] h (fun v t => pb_R 206 5 L J (v.toList ++ []) t Q)) ∧
  (∀ (L : pb_L) (J : pb_J) (st : List Value) (h : pb_H) (Q : Option Value → pb_H → Prop) (x : Int32), pb_R 206 5 L J (.int x :: st) h Q ↔ if ¬ x = 0 then pb_R 206 10 L J st h Q else pb_R 206 8 L J st h Q) ∧
  (∀ (L : pb_L) (J : pb_J) (st : List Value) (h : pb_H) (Q : Option Value → pb_H → Prop), pb_R 206 8 L J st h Q ↔ pb_R 206 9 L J (.int (0 : Int32) :: st) h Q) ∧
  (∀ (L : pb_L) (J : pb_J) (h : pb_H) (Q : Option Value → pb_H → Prop) (x : Int32), pb_R 206 9 L J [.int x] h Q ↔ narrow .boolean (.int x) = .int x ∧ Q (some (.int x)) h) ∧
  (∀ (L : pb_L) (J : pb_J) (st : List Value) (h : pb_H) (Q : Option Value → pb_H → Prop), pb_R 206 10 L J st h Q ↔ pb_R 206 13 L J (.int (320 : Int32) :: st) h Q) ∧
  (∀ (L : pb_L) (J : pb_J) (st : List Value) (h : pb_H) (Q : Option Value → pb_H → Prop), pb_R 206 13 L J st h Q ↔ pb_R 206 14 L J (.int (1 : Int32) :: st) h Q) ∧
  (∀ (L : pb_L) (J : pb_J) (h : pb_H) (Q : Option Value → pb_H → Prop) (x0 : Int32) (x1 : Int32), pb_R 206 14 L J [.int x0, .int x1] h Q ↔ pb_call 143 [.int x1, .int x0] h (fun v t => pb_R 206 17 L J (v.toList ++ []) t Q)) ∧
  (∀ (l0 l1 l2 l3 l4 l5 l6 : Option Value) (st : List Value) (h : pb_H) (Q : Option Value → pb_H → Prop) (x : Int32), pb_R 206 17 [l0, l1, l2, l3, l4, l5, l6] [] (.int x :: st) h Q ↔ pb_R 206 18 [l0, l1, l2, some (.int x), l4, l5, l6] [] st h Q) ∧
  (∀ (l1 l2 l3 l4 l5 l6 : Option Value) (st : List Value) (h : pb_H) (Q : Option Value → pb_H → Prop) (x : Nat), pb_R 206 18 [some (.ref x), l1, l2, l3, l4, l5, l6] [] st h Q ↔ pb_R 206 19 [some (.ref x), l1, l2, l3, l4, l5, l6] [] (.ref x :: st) h Q) ∧
  (∀ (l1 l2 l3 l4 l5 l6 : Option Value) (st : List Value) (h : pb_H) (Q : Option Value → pb_H → Prop), pb_R 206 18 [some .null, l1, l2, l3, l4, l5, l6] [] st h Q ↔ pb_R 206 19 [some .null, l1, l2, l3, l4, l5, l6] [] (.null :: st) h Q) ∧
  (∀ (l0 l1 l2 l4 l5 l6 : Option Value) (st : List Value) (h : pb_H) (Q : Option Value → pb_H → Prop) (x : Int32), pb_R 206 19 [l0, l1, l2, some (.int x), l4, l5, l6] [] st h Q ↔ pb_R 206 20 [l0, l1, l2, some (.int x), l4, l5, l6] [] (.int x :: st) h Q) ∧
  (∀ (L : pb_L) (J : pb_J) (h : pb_H) (Q : Option Value → pb_H → Prop) (x0 : Int32) (x1 : Nat), pb_R 206 20 L J [.int x0, .ref x1] h Q ↔ pb_is0 (h.2 x1) 12 = true ∧ pb_call 144 [.ref x1, .int x0] h (fun v t => pb_R 206 23 L J (v.toList ++ []) t Q)) ∧
  (∀ (L : pb_L) (J : pb_J) (st : List Value) (h : pb_H) (Q : Option Value → pb_H → Prop), pb_R 206 23 L J st h Q ↔ pb_R 206 24 L J (.int (1 : Int32) :: st) h Q) ∧
  (∀ (l0 l1 l2 l3 l4 l5 l6 : Option Value) (st : List Value) (h : pb_H) (Q : Option Value → pb_H → Prop) (x : Int32), pb_R 206 24 [l0, l1, l2, l3, l4, l5, l6] [] (.int x :: st) h Q ↔ pb_R 206 26 [l0, l1, l2, l3, some (.int x), l5, l6] [] st h Q) ∧
  (∀ (l1 l2 l3 l4 l5 l6 : Option Value) (st : List Value) (h : pb_H) (Q : Option Value → pb_H → Prop) (x : Nat), pb_R 206 28 [some (.ref x), l1, l2, l3, l4, l5, l6] [] st h Q ↔ pb_R 206 29 [some (.ref x), l1, l2, l3, l4, l5, l6] [] (.ref x :: st) h Q) ∧
  (∀ (l1 l2 l3 l4 l5 l6 : Option Value) (st : List Value) (h : pb_H) (Q : Option Value → pb_H → Prop), pb_R 206 28 [some .null, l1, l2, l3, l4, l5, l6] [] st h Q ↔ pb_R 206 29 [some .null, l1, l2, l3, l4, l5, l6] [] (.null :: st) h Q) ∧
  (∀ (L : pb_L) (J : pb_J) (st : List Value) (h : pb_H) (Q : Option Value → pb_H → Prop) (a : Nat), pb_R 206 29 L J (.ref a :: st) h Q ↔ pb_o (pb_gf (h.2 a) 12 3) (fun v => pb_R 206 32 L J (v :: st) h Q)) ∧
  (∀ (L : pb_L) (J : pb_J) (st : List Value) (h : pb_H) (Q : Option Value → pb_H → Prop) (x y : Int32), pb_R 206 32 L J (.int y :: .int x :: st) h Q ↔ if y < x then pb_R 206 99 L J st h Q else pb_R 206 35 L J st h Q) ∧
  (∀ (l1 l2 l3 l4 l5 l6 : Option Value) (st : List Value) (h : pb_H) (Q : Option Value → pb_H → Prop) (x : Nat), pb_R 206 35 [some (.ref x), l1, l2, l3, l4, l5, l6] [] st h Q ↔ pb_R 206 36 [some (.ref x), l1, l2, l3, l4, l5, l6] [] (.ref x :: st) h Q) ∧
  (∀ (l1 l2 l3 l4 l5 l6 : Option Value) (st : List Value) (h : pb_H) (Q : Option Value → pb_H → Prop), pb_R 206 35 [some .null, l1, l2, l3, l4, l5, l6] [] st h Q ↔ pb_R 206 36 [some .null, l1, l2, l3, l4, l5, l6] [] (.null :: st) h Q) ∧
  (∀ (L : pb_L) (J : pb_J) (st : List Value) (h : pb_H) (Q : Option Value → pb_H → Prop) (a : Nat), pb_R 206 36 L J (.ref a :: st) h Q ↔ pb_o (pb_gf (h.2 a) 12 1) (fun v => pb_R 206 39 L J (v :: st) h Q)) ∧
  (∀ (l0 l2 l3 l4 l5 l6 : Option Value) (st : List Value) (h : pb_H) (Q : Option Value → pb_H → Prop) (x : Int32), pb_R 206 39 [l0, some (.int x), l2, l3, l4, l5, l6] [] st h Q ↔ pb_R 206 40 [l0, some (.int x), l2, l3, l4, l5, l6] [] (.int x :: st) h Q) ∧
  (∀ (L : pb_L) (J : pb_J) (st : List Value) (h : pb_H) (Q : Option Value → pb_H → Prop), pb_R 206 40 L J st h Q ↔ pb_R 206 42 L J (.int (17 : Int32) :: st) h Q) ∧
  (∀ (L : pb_L) (J : pb_J) (st : List Value) (x y : Int32) (h : pb_H) (Q : Option Value → pb_H → Prop), pb_R 206 42 L J (.int y :: .int x :: st) h Q ↔ pb_R 206 43 L J (.int (x * y) :: st) h Q) ∧
  (∀ (l0 l1 l2 l3 l5 l6 : Option Value) (st : List Value) (h : pb_H) (Q : Option Value → pb_H → Prop) (x : Int32), pb_R 206 43 [l0, l1, l2, l3, some (.int x), l5, l6] [] st h Q ↔ pb_R 206 45 [l0, l1, l2, l3, some (.int x), l5, l6] [] (.int x :: st) h Q) ∧
  (∀ (L : pb_L) (J : pb_J) (st : List Value) (x y : Int32) (h : pb_H) (Q : Option Value → pb_H → Prop), pb_R 206 45 L J (.int y :: .int x :: st) h Q ↔ pb_R 206 46 L J (.int (x + y) :: st) h Q) ∧
  (∀ (L : pb_L) (J : pb_J) (st : List Value) (h : pb_H) (Q : Option Value → pb_H → Prop) (a : Nat) (i : Int32), pb_R 206 46 L J (.int i :: .ref a :: st) h Q ↔ pb_o (pb_ai (h.2 a) i) (fun v => pb_R 206 47 L J (.int v :: st) h Q)) ∧
  (∀ (l0 l1 l2 l3 l4 l5 l6 : Option Value) (st : List Value) (h : pb_H) (Q : Option Value → pb_H → Prop) (x : Int32), pb_R 206 47 [l0, l1, l2, l3, l4, l5, l6] [] (.int x :: st) h Q ↔ pb_R 206 49 [l0, l1, l2, l3, l4, some (.int x), l6] [] st h Q) ∧
  (∀ (l0 l1 l3 l4 l5 l6 : Option Value) (st : List Value) (h : pb_H) (Q : Option Value → pb_H → Prop) (x : Int32), pb_R 206 49 [l0, l1, some (.int x), l3, l4, l5, l6] [] st h Q ↔ pb_R 206 50 [l0, l1, some (.int x), l3, l4, l5, l6] [] (.int x :: st) h Q) ∧
  (∀ (l0 l1 l2 l3 l5 l6 : Option Value) (st : List Value) (h : pb_H) (Q : Option Value → pb_H → Prop) (x : Int32), pb_R 206 50 [l0, l1, l2, l3, some (.int x), l5, l6] [] st h Q ↔ pb_R 206 52 [l0, l1, l2, l3, some (.int x), l5, l6] [] (.int x :: st) h Q) ∧
  (∀ (L : pb_L) (J : pb_J) (st : List Value) (h : pb_H) (Q : Option Value → pb_H → Prop), pb_R 206 52 L J st h Q ↔ pb_R 206 53 L J (.int (1 : Int32) :: st) h Q) ∧
  (∀ (L : pb_L) (J : pb_J) (st : List Value) (x y : Int32) (h : pb_H) (Q : Option Value → pb_H → Prop), pb_R 206 53 L J (.int y :: .int x :: st) h Q ↔ pb_R 206 54 L J (.int (x - y) :: st) h Q) ∧
  (∀ (L : pb_L) (J : pb_J) (st : List Value) (x y : Int32) (h : pb_H) (Q : Option Value → pb_H → Prop), pb_R 206 54 L J (.int y :: .int x :: st) h Q ↔ pb_R 206 55 L J (.int (x >>> (y &&& 31)) :: st) h Q) ∧
  (∀ (L : pb_L) (J : pb_J) (st : List Value) (h : pb_H) (Q : Option Value → pb_H → Prop), pb_R 206 55 L J st h Q ↔ pb_R 206 56 L J (.int (1 : Int32) :: st) h Q) ∧
  (∀ (L : pb_L) (J : pb_J) (st : List Value) (x y : Int32) (h : pb_H) (Q : Option Value → pb_H → Prop), pb_R 206 56 L J (.int y :: .int x :: st) h Q ↔ pb_R 206 57 L J (.int (x &&& y) :: st) h Q) ∧
  (∀ (l0 l1 l2 l3 l4 l5 l6 : Option Value) (st : List Value) (h : pb_H) (Q : Option Value → pb_H → Prop) (x : Int32), pb_R 206 57 [l0, l1, l2, l3, l4, l5, l6] [] (.int x :: st) h Q ↔ pb_R 206 59 [l0, l1, l2, l3, l4, l5, some (.int x)] [] st h Q) ∧
  (∀ (l0 l1 l2 l3 l4 l6 : Option Value) (st : List Value) (h : pb_H) (Q : Option Value → pb_H → Prop) (x : Int32), pb_R 206 59 [l0, l1, l2, l3, l4, some (.int x), l6] [] st h Q ↔ pb_R 206 61 [l0, l1, l2, l3, l4, some (.int x), l6] [] (.int x :: st) h Q) ∧
  (∀ (L : pb_L) (J : pb_J) (st : List Value) (h : pb_H) (Q : Option Value → pb_H → Prop), pb_R 206 61 L J st h Q ↔ pb_R 206 62 L J (.int (1 : Int32) :: st) h Q) ∧
  (∀ (L : pb_L) (J : pb_J) (st : List Value) (h : pb_H) (Q : Option Value → pb_H → Prop) (x y : Int32), pb_R 206 62 L J (.int y :: .int x :: st) h Q ↔ if ¬ x = y then pb_R 206 71 L J st h Q else pb_R 206 65 L J st h Q) ∧
  (∀ (l0 l1 l2 l3 l4 l5 : Option Value) (st : List Value) (h : pb_H) (Q : Option Value → pb_H → Prop) (x : Int32), pb_R 206 65 [l0, l1, l2, l3, l4, l5, some (.int x)] [] st h Q ↔ pb_R 206 67 [l0, l1, l2, l3, l4, l5, some (.int x)] [] (.int x :: st) h Q) ∧
  (∀ (L : pb_L) (J : pb_J) (st : List Value) (h : pb_H) (Q : Option Value → pb_H → Prop), pb_R 206 67 L J st h Q ↔ pb_R 206 68 L J (.int (1 : Int32) :: st) h Q) ∧
  (∀ (L : pb_L) (J : pb_J) (st : List Value) (h : pb_H) (Q : Option Value → pb_H → Prop) (x y : Int32), pb_R 206 68 L J (.int y :: .int x :: st) h Q ↔ if x = y then pb_R 206 82 L J st h Q else pb_R 206 71 L J st h Q) ∧
  (∀ (l0 l1 l2 l3 l4 l6 : Option Value) (st : List Value) (h : pb_H) (Q : Option Value → pb_H → Prop) (x : Int32), pb_R 206 71 [l0, l1, l2, l3, l4, some (.int x), l6] [] st h Q ↔ pb_R 206 73 [l0, l1, l2, l3, l4, some (.int x), l6] [] (.int x :: st) h Q) ∧
  (∀ (L : pb_L) (J : pb_J) (st : List Value) (h : pb_H) (Q : Option Value → pb_H → Prop), pb_R 206 73 L J st h Q ↔ pb_R 206 74 L J (.int (-1 : Int32) :: st) h Q) ∧
  (∀ (L : pb_L) (J : pb_J) (st : List Value) (h : pb_H) (Q : Option Value → pb_H → Prop) (x y : Int32), pb_R 206 74 L J (.int y :: .int x :: st) h Q ↔ if ¬ x = y then pb_R 206 93 L J st h Q else pb_R 206 77 L J st h Q) ∧
  (∀ (l0 l1 l2 l3 l4 l5 : Option Value) (st : List Value) (h : pb_H) (Q : Option Value → pb_H → Prop) (x : Int32), pb_R 206 77 [l0, l1, l2, l3, l4, l5, some (.int x)] [] st h Q ↔ pb_R 206 79 [l0, l1, l2, l3, l4, l5, some (.int x)] [] (.int x :: st) h Q) ∧
  (∀ (L : pb_L) (J : pb_J) (st : List Value) (h : pb_H) (Q : Option Value → pb_H → Prop) (x : Int32), pb_R 206 79 L J (.int x :: st) h Q ↔ if ¬ x = 0 then pb_R 206 93 L J st h Q else pb_R 206 82 L J st h Q) ∧
  (∀ (l1 l2 l3 l4 l5 l6 : Option Value) (st : List Value) (h : pb_H) (Q : Option Value → pb_H → Prop) (x : Nat), pb_R 206 82 [some (.ref x), l1, l2, l3, l4, l5, l6] [] st h Q ↔ pb_R 206 83 [some (.ref x), l1, l2, l3, l4, l5, l6] [] (.ref x :: st) h Q) ∧
  (∀ (l1 l2 l3 l4 l5 l6 : Option Value) (st : List Value) (h : pb_H) (Q : Option Value → pb_H → Prop), pb_R 206 82 [some .null, l1, l2, l3, l4, l5, l6] [] st h Q ↔ pb_R 206 83 [some .null, l1, l2, l3, l4, l5, l6] [] (.null :: st) h Q) ∧
  (∀ (l0 l1 l2 l4 l5 l6 : Option Value) (st : List Value) (h : pb_H) (Q : Option Value → pb_H → Prop) (x : Int32), pb_R 206 83 [l0, l1, l2, some (.int x), l4, l5, l6] [] st h Q ↔ pb_R 206 84 [l0, l1, l2, some (.int x), l4, l5, l6] [] (.int x :: st) h Q) ∧
  (∀ (l0 l2 l3 l4 l5 l6 : Option Value) (st : List Value) (h : pb_H) (Q : Option Value → pb_H → Prop) (x : Int32), pb_R 206 84 [l0, some (.int x), l2, l3, l4, l5, l6] [] st h Q ↔ pb_R 206 85 [l0, some (.int x), l2, l3, l4, l5, l6] [] (.int x :: st) h Q) ∧
  (∀ (l0 l1 l2 l3 l5 l6 : Option Value) (st : List Value) (h : pb_H) (Q : Option Value → pb_H → Prop) (x : Int32), pb_R 206 85 [l0, l1, l2, l3, some (.int x), l5, l6] [] st h Q ↔ pb_R 206 87 [l0, l1, l2, l3, some (.int x), l5, l6] [] (.int x :: st) h Q) ∧
  (∀ (L : pb_L) (J : pb_J) (h : pb_H) (Q : Option Value → pb_H → Prop) (x0 : Int32) (x1 : Int32) (x2 : Int32) (x3 : Nat), pb_R 206 87 L J [.int x0, .int x1, .int x2, .ref x3] h Q ↔ pb_call 143 [.int x1, .int x0] h (fun v t => pb_R 206 90 L J (v.toList ++ [.int x2, .ref x3]) t Q)) ∧
  (∀ (L : pb_L) (J : pb_J) (h : pb_H) (Q : Option Value → pb_H → Prop) (x0 : Int32) (x1 : Int32) (x2 : Nat), pb_R 206 90 L J [.int x0, .int x1, .ref x2] h Q ↔ pb_is0 (h.2 x2) 12 = true ∧ pb_call 151 [.ref x2, .int x1, .int x0] h (fun v t => pb_R 206 93 L J (v.toList ++ []) t Q)) ∧
  (∀ (l0 l1 l2 l3 l5 l6 : Option Value) (st : List Value) (h : pb_H) (Q : Option Value → pb_H → Prop) (x : Int32), pb_R 206 93 [l0, l1, l2, l3, some (.int x), l5, l6] [] st h Q ↔ pb_R 206 96 [l0, l1, l2, l3, some (.int (x + (1 : Int32))), l5, l6] [] st h Q) ∧
  (∀ (L : pb_L) (J : pb_J) (st : List Value) (h : pb_H) (Q : Option Value → pb_H → Prop), pb_R 206 96 L J st h Q ↔ pb_R 206 26 L J st h Q) ∧
  (∀ (l1 l2 l3 l4 l5 l6 : Option Value) (st : List Value) (h : pb_H) (Q : Option Value → pb_H → Prop) (x : Nat), pb_R 206 99 [some (.ref x), l1, l2, l3, l4, l5, l6] [] st h Q ↔ pb_R 206 100 [some (.ref x), l1, l2, l3, l4, l5, l6] [] (.ref x :: st) h Q) ∧
  (∀ (l1 l2 l3 l4 l5 l6 : Option Value) (st : List Value) (h : pb_H) (Q : Option Value → pb_H → Prop), pb_R 206 99 [some .null, l1, l2, l3, l4, l5, l6] [] st h Q ↔ pb_R 206 100 [some .null, l1, l2, l3, l4, l5, l6] [] (.null :: st) h Q) ∧
  (∀ (l0 l1 l2 l4 l5 l6 : Option Value) (st : List Value) (h : pb_H) (Q : Option Value → pb_H → Prop) (x : Int32), pb_R 206 100 [l0, l1, l2, some (.int x), l4, l5, l6] [] st h Q ↔ pb_R 206 101 [l0, l1, l2, some (.int x), l4, l5, l6] [] (.int x :: st) h Q) ∧
  (∀ (l0 l2 l3 l4 l5 l6 : Option Value) (st : List Value) (h : pb_H) (Q : Option Value → pb_H → Prop) (x : Int32), pb_R 206 101 [l0, some (.int x), l2, l3, l4, l5, l6] [] st h Q ↔ pb_R 206 102 [l0, some (.int x), l2, l3, l4, l5, l6] [] (.int x :: st) h Q) ∧
  (∀ (L : pb_L) (J : pb_J) (st : List Value) (h : pb_H) (Q : Option Value → pb_H → Prop), pb_R 206 102 L J st h Q ↔ pb_R 206 103 L J (.int (0 : Int32) :: st) h Q) ∧
  (∀ (L : pb_L) (J : pb_J) (h : pb_H) (Q : Option Value → pb_H → Prop) (x0 : Int32) (x1 : Int32) (x2 : Int32) (x3 : Nat), pb_R 206 103 L J [.int x0, .int x1, .int x2, .ref x3] h Q ↔ pb_call 143 [.int x1, .int x0] h (fun v t => pb_R 206 106 L J (v.toList ++ [.int x2, .ref x3]) t Q)) ∧
  (∀ (L : pb_L) (J : pb_J) (h : pb_H) (Q : Option Value → pb_H → Prop) (x0 : Int32) (x1 : Int32) (x2 : Nat), pb_R 206 106 L J [.int x0, .int x1, .ref x2] h Q ↔ pb_is0 (h.2 x2) 12 = true ∧ pb_call 150 [.ref x2, .int x1, .int x0] h (fun v t => pb_R 206 109 L J (v.toList ++ []) t Q)) ∧
  (∀ (L : pb_L) (J : pb_J) (st : List Value) (h : pb_H) (Q : Option Value → pb_H → Prop) (x : Int32), pb_R 206 109 L J (.int x :: st) h Q ↔ if x < 0 then pb_R 206 116 L J st h Q else pb_R 206 112 L J st h Q) ∧
  (∀ (L : pb_L) (J : pb_J) (st : List Value) (h : pb_H) (Q : Option Value → pb_H → Prop), pb_R 206 112 L J st h Q ↔ pb_R 206 113 L J (.int (1 : Int32) :: st) h Q) ∧
  (∀ (L : pb_L) (J : pb_J) (st : List Value) (h : pb_H) (Q : Option Value → pb_H → Prop), pb_R 206 113 L J st h Q ↔ pb_R 206 117 L J st h Q) ∧
  (∀ (L : pb_L) (J : pb_J) (st : List Value) (h : pb_H) (Q : Option Value → pb_H → Prop), pb_R 206 116 L J st h Q ↔ pb_R 206 117 L J (.int (0 : Int32) :: st) h Q) ∧
  (∀ (L : pb_L) (J : pb_J) (h : pb_H) (Q : Option Value → pb_H → Prop) (x : Int32), pb_R 206 117 L J [.int x] h Q ↔ narrow .boolean (.int x) = .int x ∧ Q (some (.int x)) h) := ⟨
  fun l1 l2 l3 l4 l5 l6 st h Q x => pf_S pb_u_206 rfl rfl,
  fun l1 l2 l3 l4 l5 l6 st h Q => pf_S pb_u_206 rfl rfl,
  fun l0 l2 l3 l4 l5 l6 st h Q x => pf_S pb_u_206 rfl rfl,
  fun L J h Q x0 x1 => pf_kv pb_u_206 rfl pb_ci_203 rfl ⟨Nat.le_of_ble_eq_true rfl, Nat.le_of_ble_eq_true rfl, Nat.le_of_ble_eq_true rfl, Nat.le_of_ble_eq_true rfl, rfl⟩ rfl rfl,
  fun L J st h Q x => pf_ii pb_u_206 rfl rfl pf_ne,
  fun L J st h Q => pf_S pb_u_206 rfl rfl,
  fun L J h Q x => pf_rz pb_u_206 rfl rfl,
  fun L J st h Q => pf_S pb_u_206 rfl rfl,
  fun L J st h Q => pf_S pb_u_206 rfl rfl,
  fun L J h Q x0 x1 => pf_ks pb_u_206 rfl rfl rfl rfl,
  fun l0 l1 l2 l3 l4 l5 l6 st h Q x => pf_S pb_u_206 rfl rfl,
  fun l1 l2 l3 l4 l5 l6 st h Q x => pf_S pb_u_206 rfl rfl,
  fun l1 l2 l3 l4 l5 l6 st h Q => pf_S pb_u_206 rfl rfl,
  fun l0 l1 l2 l4 l5 l6 st h Q x => pf_S pb_u_206 rfl rfl,
  fun L J h Q x0 x1 => pf_kv pb_u_206 rfl pb_ci_144 rfl ⟨Nat.le_of_ble_eq_true rfl, Nat.le_of_ble_eq_true rfl, Nat.le_of_ble_eq_true rfl, Nat.le_of_ble_eq_true rfl, rfl⟩ rfl rfl,
  fun L J st h Q => pf_S pb_u_206 rfl rfl,
  fun l0 l1 l2 l3 l4 l5 l6 st h Q x => pf_S pb_u_206 rfl rfl,
  fun l1 l2 l3 l4 l5 l6 st h Q x => pf_S pb_u_206 rfl rfl,
  fun l1 l2 l3 l4 l5 l6 st h Q => pf_S pb_u_206 rfl rfl,
  fun L J st h Q a => pf_gf pb_u_206 rfl rfl,
  fun L J st h Q x y => pf_ic pb_u_206 rfl rfl rfl,
  fun l1 l2 l3 l4 l5 l6 st h Q x => pf_S pb_u_206 rfl rfl,
  fun l1 l2 l3 l4 l5 l6 st h Q => pf_S pb_u_206 rfl rfl,
  fun L J st h Q a => pf_gf pb_u_206 rfl rfl,
  fun l0 l2 l3 l4 l5 l6 st h Q x => pf_S pb_u_206 rfl rfl,
  fun L J st h Q => pf_S pb_u_206 rfl rfl,
  fun L J st x y h Q => pf_S pb_u_206 rfl rfl,
  fun l0 l1 l2 l3 l5 l6 st h Q x => pf_S pb_u_206 rfl rfl,
  fun L J st x y h Q => pf_S pb_u_206 rfl rfl,
  fun L J st h Q a i => pf_ai pb_u_206 rfl rfl,
  fun l0 l1 l2 l3 l4 l5 l6 st h Q x => pf_S pb_u_206 rfl rfl,
  fun l0 l1 l3 l4 l5 l6 st h Q x => pf_S pb_u_206 rfl rfl,
  fun l0 l1 l2 l3 l5 l6 st h Q x => pf_S pb_u_206 rfl rfl,
  fun L J st h Q => pf_S pb_u_206 rfl rfl,
  fun L J st x y h Q => pf_S pb_u_206 rfl rfl,
  fun L J st x y h Q => pf_S pb_u_206 rfl rfl,
  fun L J st h Q => pf_S pb_u_206 rfl rfl,
  fun L J st x y h Q => pf_S pb_u_206 rfl rfl,
  fun l0 l1 l2 l3 l4 l5 l6 st h Q x => pf_S pb_u_206 rfl rfl,
  fun l0 l1 l2 l3 l4 l6 st h Q x => pf_S pb_u_206 rfl rfl,
  fun L J st h Q => pf_S pb_u_206 rfl rfl,
  fun L J st h Q x y => pf_ic pb_u_206 rfl rfl pf_ne,
  fun l0 l1 l2 l3 l4 l5 st h Q x => pf_S pb_u_206 rfl rfl,
  fun L J st h Q => pf_S pb_u_206 rfl rfl,
  fun L J st h Q x y => pf_ic pb_u_206 rfl rfl rfl,
  fun l0 l1 l2 l3 l4 l6 st h Q x => pf_S pb_u_206 rfl rfl,
  fun L J st h Q => pf_S pb_u_206 rfl rfl,
  fun L J st h Q x y => pf_ic pb_u_206 rfl rfl pf_ne,
  fun l0 l1 l2 l3 l4 l5 st h Q x => pf_S pb_u_206 rfl rfl,
  fun L J st h Q x => pf_ii pb_u_206 rfl rfl pf_ne,
  fun l1 l2 l3 l4 l5 l6 st h Q x => pf_S pb_u_206 rfl rfl,
  fun l1 l2 l3 l4 l5 l6 st h Q => pf_S pb_u_206 rfl rfl,
  fun l0 l1 l2 l4 l5 l6 st h Q x => pf_S pb_u_206 rfl rfl,
  fun l0 l2 l3 l4 l5 l6 st h Q x => pf_S pb_u_206 rfl rfl,
  fun l0 l1 l2 l3 l5 l6 st h Q x => pf_S pb_u_206 rfl rfl,
  fun L J h Q x0 x1 x2 x3 => pf_ks pb_u_206 rfl rfl rfl rfl,
  fun L J h Q x0 x1 x2 => pf_kv pb_u_206 rfl pb_ci_151 rfl ⟨Nat.le_of_ble_eq_true rfl, Nat.le_of_ble_eq_true rfl, Nat.le_of_ble_eq_true rfl, Nat.le_of_ble_eq_true rfl, rfl⟩ rfl rfl,
  fun l0 l1 l2 l3 l5 l6 st h Q x => pf_S pb_u_206 rfl rfl,
  fun L J st h Q => pf_S pb_u_206 rfl rfl,
  fun l1 l2 l3 l4 l5 l6 st h Q x => pf_S pb_u_206 rfl rfl,
  fun l1 l2 l3 l4 l5 l6 st h Q => pf_S pb_u_206 rfl rfl,
  fun l0 l1 l2 l4 l5 l6 st h Q x => pf_S pb_u_206 rfl rfl,
  fun l0 l2 l3 l4 l5 l6 st h Q x => pf_S pb_u_206 rfl rfl,
  fun L J st h Q => pf_S pb_u_206 rfl rfl,
  fun L J h Q x0 x1 x2 x3 => pf_ks pb_u_206 rfl rfl rfl rfl,
  fun L J h Q x0 x1 x2 => pf_kv pb_u_206 rfl pb_ci_150 rfl ⟨Nat.le_of_ble_eq_true rfl, Nat.le_of_ble_eq_true rfl, Nat.le_of_ble_eq_true rfl, Nat.le_of_ble_eq_true rfl, rfl⟩ rfl rfl,
  fun L J st h Q x => pf_ii pb_u_206 rfl rfl rfl,
  fun L J st h Q => pf_S pb_u_206 rfl rfl,
  fun L J st h Q => pf_S pb_u_206 rfl rfl,
  fun L J st h Q => pf_S pb_u_206 rfl rfl,
  fun L J h Q x => pf_rz pb_u_206 rfl rfl⟩
theorem pb_c206 (x0 : Nat) (x1 : Int32) (x2 : Int32) (h : pb_H) (Q : Option Value → pb_H → Prop) : pb_call 206 [.ref x0, .int x1, .int x2] h Q ↔ pb_R 206 0 [some (.ref x0), some (.int x1), some (.int x2), none, none, none, none] [] [] h Q := Iff.rfl
/-! 207: PlaneBenchModel.origin(I)I -/
theorem pb_u_207 : pb_t 207 = pb_t207 := rfl
theorem pb_ci_207 : pb_ci 207 = 12 := by decide +kernel
set_option maxRecDepth 100000 in
theorem pb_e207 : (∀ (l1 : Option Value) (st : List Value) (h : pb_H) (Q : Option Value → pb_H → Prop) (x : Nat), pb_R 207 0 [some (.ref x), l1] [] st h Q ↔ pb_R 207 1 [some (.ref x), l1] [] (.ref x :: st) h Q) ∧
  (∀ (l1 : Option Value) (st : List Value) (h : pb_H) (Q : Option Value → pb_H → Prop), pb_R 207 0 [some .null, l1] [] st h Q ↔ pb_R 207 1 [some .null, l1] [] (.null :: st) h Q) ∧
  (∀ (l0 : Option Value) (st : List Value) (h : pb_H) (Q : Option Value → pb_H → Prop) (x : Int32), pb_R 207 1 [l0, some (.int x)] [] st h Q ↔ pb_R 207 2 [l0, some (.int x)] [] (.int x :: st) h Q) ∧
  (∀ (L : pb_L) (J : pb_J) (h : pb_H) (Q : Option Value → pb_H → Prop) (x0 : Int32) (x1 : Nat), pb_R 207 2 L J [.int x0, .ref x1] h Q ↔ pb_is0 (h.2 x1) 12 = true ∧ pb_call 203 [.ref x1, .int x0] h (fun v t => pb_R 207 5 L J (v.toList ++ []) t Q)) ∧
  (∀ (L : pb_L) (J : pb_J) (st : List Value) (h : pb_H) (Q : Option Value → pb_H → Prop) (x : Int32), pb_R 207 5 L J (.int x :: st) h Q ↔ if x = 0 then pb_R 207 17 L J st h Q else pb_R 207 8 L J st h Q) ∧
  (∀ (l1 : Option Value) (st : List Value) (h : pb_H) (Q : Option Value → pb_H → Prop) (x : Nat), pb_R 207 8 [some (.ref x), l1] [] st h Q ↔ pb_R 207 9 [some (.ref x), l1] [] (.ref x :: st) h Q) ∧
  (∀ (l1 : Option Value) (st : List Value) (h : pb_H) (Q : Option Value → pb_H → Prop), pb_R 207 8 [some .null, l1] [] st h Q ↔ pb_R 207 9 [some .null, l1] [] (.null :: st) h Q) ∧
  (∀ (L : pb_L) (J : pb_J) (st : List Value) (h : pb_H) (Q : Option Value → pb_H → Prop) (a : Nat), pb_R 207 9 L J (.ref a :: st) h Q ↔ pb_o (pb_gf (h.2 a) 12 2) (fun v => pb_R 207 12 L J (v :: st) h Q)) ∧
  (∀ (l0 : Option Value) (st : List Value) (h : pb_H) (Q : Option Value → pb_H → Prop) (x : Int32), pb_R 207 12 [l0, some (.int x)] [] st h Q ↔ pb_R 207 13 [l0, some (.int x)] [] (.int x :: st) h Q) ∧
  (∀ (L : pb_L) (J : pb_J) (st : List Value) (h : pb_H) (Q : Option Value → pb_H → Prop) (a : Nat) (i : Int32), pb_R 207 13 L J (.int i :: .ref a :: st) h Q ↔ pb_o (pb_ai (h.2 a) i) (fun v => pb_R 207 14 L J (.int v :: st) h Q)) ∧
  (∀ (L : pb_L) (J : pb_J) (st : List Value) (h : pb_H) (Q : Option Value → pb_H → Prop), pb_R 207 14 L J st h Q ↔ pb_R 207 18 L J st h Q) ∧
  (∀ (L : pb_L) (J : pb_J) (st : List Value) (h : pb_H) (Q : Option Value → pb_H → Prop), pb_R 207 17 L J st h Q ↔ pb_R 207 18 L J (.int (0 : Int32) :: st) h Q) ∧
  (∀ (L : pb_L) (J : pb_J) (h : pb_H) (Q : Option Value → pb_H → Prop) (x : Int32), pb_R 207 18 L J [.int x] h Q ↔ Q (some (.int x)) h) := ⟨
  fun l1 st h Q x => pf_S pb_u_207 rfl rfl,
  fun l1 st h Q => pf_S pb_u_207 rfl rfl,
  fun l0 st h Q x => pf_S pb_u_207 rfl rfl,
  fun L J h Q x0 x1 => pf_kv pb_u_207 rfl pb_ci_203 rfl ⟨Nat.le_of_ble_eq_true rfl, Nat.le_of_ble_eq_true rfl, Nat.le_of_ble_eq_true rfl, Nat.le_of_ble_eq_true rfl, rfl⟩ rfl rfl,
  fun L J st h Q x => pf_ii pb_u_207 rfl rfl rfl,
  fun l1 st h Q x => pf_S pb_u_207 rfl rfl,
  fun l1 st h Q => pf_S pb_u_207 rfl rfl,
  fun L J st h Q a => pf_gf pb_u_207 rfl rfl,
  fun l0 st h Q x => pf_S pb_u_207 rfl rfl,
  fun L J st h Q a i => pf_ai pb_u_207 rfl rfl,
  fun L J st h Q => pf_S pb_u_207 rfl rfl,
  fun L J st h Q => pf_S pb_u_207 rfl rfl,
  fun L J h Q x => pf_ri pb_u_207 rfl rfl⟩
theorem pb_c207 (x0 : Nat) (x1 : Int32) (h : pb_H) (Q : Option Value → pb_H → Prop) : pb_call 207 [.ref x0, .int x1] h Q ↔ pb_R 207 0 [some (.ref x0), some (.int x1)] [] [] h Q := Iff.rfl
/-! 208: PlaneBenchModel.begin()Z -/
theorem pb_u_208 : pb_t 208 = pb_t208 := rfl
theorem pb_ci_208 : pb_ci 208 = 12 := by decide +kernel
set_option maxRecDepth 100000 in
theorem pb_e208 : (∀ (st : List Value) (h : pb_H) (Q : Option Value → pb_H → Prop) (x : Nat), pb_R 208 0 [some (.ref x)] [] st h Q ↔ pb_R 208 1 [some (.ref x)] [] (.ref x :: st) h Q) ∧
  (∀ (st : List Value) (h : pb_H) (Q : Option Value → pb_H → Prop), pb_R 208 0 [some .null] [] st h Q ↔ pb_R 208 1 [some .null] [] (.null :: st) h Q) ∧
  (∀ (L : pb_L) (J : pb_J) (h : pb_H) (Q : Option Value → pb_H → Prop) (x0 : Nat), pb_R 208 1 L J [.ref x0] h Q ↔ pb_is0 (h.2 x0) 12 = true ∧ pb_call 191 [.ref x0] h (fun v t => pb_R 208 4 L J (v.toList ++ []) t Q)) ∧
  (∀ (st : List Value) (h : pb_H) (Q : Option Value → pb_H → Prop) (x : Nat), pb_R 208 4 [some (.ref x)] [] st h Q ↔ pb_R 208 5 [some (.ref x)] [] (.ref x :: st) h Q) ∧
  (∀ (st : List Value) (h : pb_H) (Q : Option Value → pb_H → Prop), pb_R 208 4 [some .null] [] st h Q ↔ pb_R 208 5 [some .null] [] (.null :: st) h Q) ∧
  (∀ (L : pb_L) (J : pb_J) (st : List Value) (h : pb_H) (Q : Option Value → pb_H → Prop), pb_R 208 5 L J st h Q ↔ pb_R 208 6 L J (.int (1 : Int32) :: st) h Q) ∧
  (∀ (L : pb_L) (J : pb_J) (st : List Value) (h : pb_H) (Q : Option Value → pb_H → Prop) (a : Nat) (x : Int32), pb_R 208 6 L J (.int x :: .ref a :: st) h Q ↔ pb_o (pb_pf (h.2 a) 12 22 (.int x)) (fun c => pb_R 208 9 L J st (pb_set h a c) Q)) ∧
  (∀ (L : pb_L) (J : pb_J) (st : List Value) (h : pb_H) (Q : Option Value → pb_H → Prop), pb_R 208 9 L J st h Q ↔ pb_R 208 10 L J (.int (1 : Int32) :: st) h Q) ∧
  (∀ (L : pb_L) (J : pb_J) (h : pb_H) (Q : Option Value → pb_H → Prop) (x : Int32), pb_R 208 10 L J [.int x] h Q ↔ narrow .boolean (.int x) = .int x ∧ Q (some (.int x)) h) := ⟨
  fun st h Q x => pf_S pb_u_208 rfl rfl,
  fun st h Q => pf_S pb_u_208 rfl rfl,
  fun L J h Q x0 => pf_kv pb_u_208 rfl pb_ci_191 rfl ⟨Nat.le_of_ble_eq_true rfl, Nat.le_of_ble_eq_true rfl, Nat.le_of_ble_eq_true rfl, Nat.le_of_ble_eq_true rfl, rfl⟩ rfl rfl,
  fun st h Q x => pf_S pb_u_208 rfl rfl,
  fun st h Q => pf_S pb_u_208 rfl rfl,
  fun L J st h Q => pf_S pb_u_208 rfl rfl,
  fun L J st h Q a x => pf_pf pb_u_208 rfl rfl,
  fun L J st h Q => pf_S pb_u_208 rfl rfl,
  fun L J h Q x => pf_rz pb_u_208 rfl rfl⟩
theorem pb_c208 (x0 : Nat) (h : pb_H) (Q : Option Value → pb_H → Prop) : pb_call 208 [.ref x0] h Q ↔ pb_R 208 0 [some (.ref x0)] [] [] h Q := Iff.rfl
/-! 209: PlaneBenchModel.put(I)V -/
theorem pb_u_209 : pb_t 209 = pb_t209 := rfl
theorem pb_ci_209 : pb_ci 209 = 12 := by decide +kernel
set_option maxRecDepth 100000 in
theorem pb_e209 : (∀ (l1 : Option Value) (st : List Value) (h : pb_H) (Q : Option Value → pb_H → Prop) (x : Nat), pb_R 209 0 [some (.ref x), l1] [] st h Q ↔ pb_R 209 1 [some (.ref x), l1] [] (.ref x :: st) h Q) ∧
  (∀ (l1 : Option Value) (st : List Value) (h : pb_H) (Q : Option Value → pb_H → Prop), pb_R 209 0 [some .null, l1] [] st h Q ↔ pb_R 209 1 [some .null, l1] [] (.null :: st) h Q) ∧
  (∀ (L : pb_L) (J : pb_J) (st : List Value) (h : pb_H) (Q : Option Value → pb_H → Prop) (a : Nat), pb_R 209 1 L J (.ref a :: st) h Q ↔ pb_o (pb_gf (h.2 a) 12 35) (fun v => pb_R 209 4 L J (v :: st) h Q)) ∧
  (∀ (L : pb_L) (J : pb_J) (st : List Value) (h : pb_H) (Q : Option Value → pb_H → Prop), pb_R 209 4 L J st h Q ↔ pb_R 209 7 L J (.int (20000 : Int32) :: st) h Q) ∧
  (∀ (L : pb_L) (J : pb_J) (st : List Value) (h : pb_H) (Q : Option Value → pb_H → Prop) (x y : Int32), pb_R 209 7 L J (.int y :: .int x :: st) h Q ↔ if y ≤ x then pb_R 209 21 L J st h Q else pb_R 209 10 L J st h Q) ∧
  (∀ (l1 : Option Value) (st : List Value) (h : pb_H) (Q : Option Value → pb_H → Prop) (x : Nat), pb_R 209 10 [some (.ref x), l1] [] st h Q ↔ pb_R 209 11 [some (.ref x), l1] [] (.ref x :: st) h Q) ∧
  (∀ (l1 : Option Value) (st : List Value) (h : pb_H) (Q : Option Value → pb_H → Prop), pb_R 209 10 [some .null, l1] [] st h Q ↔ pb_R 209 11 [some .null, l1] [] (.null :: st) h Q) ∧
  (∀ (L : pb_L) (J : pb_J) (st : List Value) (h : pb_H) (Q : Option Value → pb_H → Prop) (a : Nat), pb_R 209 11 L J (.ref a :: st) h Q ↔ pb_o (pb_gf (h.2 a) 12 33) (fun v => pb_R 209 14 L J (v :: st) h Q)) ∧
  (∀ (l1 : Option Value) (st : List Value) (h : pb_H) (Q : Option Value → pb_H → Prop) (x : Nat), pb_R 209 14 [some (.ref x), l1] [] st h Q ↔ pb_R 209 15 [some (.ref x), l1] [] (.ref x :: st) h Q) ∧
  (∀ (l1 : Option Value) (st : List Value) (h : pb_H) (Q : Option Value → pb_H → Prop), pb_R 209 14 [some .null, l1] [] st h Q ↔ pb_R 209 15 [some .null, l1] [] (.null :: st) h Q) ∧
  (∀ (L : pb_L) (J : pb_J) (st : List Value) (h : pb_H) (Q : Option Value → pb_H → Prop) (a : Nat), pb_R 209 15 L J (.ref a :: st) h Q ↔ pb_o (pb_gf (h.2 a) 12 35) (fun v => pb_R 209 18 L J (v :: st) h Q)) ∧
  (∀ (l0 : Option Value) (st : List Value) (h : pb_H) (Q : Option Value → pb_H → Prop) (x : Int32), pb_R 209 18 [l0, some (.int x)] [] st h Q ↔ pb_R 209 19 [l0, some (.int x)] [] (.int x :: st) h Q) ∧
  (∀ (L : pb_L) (J : pb_J) (st : List Value) (x : Int32) (h : pb_H) (Q : Option Value → pb_H → Prop), pb_R 209 19 L J (.int x :: st) h Q ↔ pb_R 209 20 L J (.int x.toInt8.toInt32 :: st) h Q) ∧
  (∀ (L : pb_L) (J : pb_J) (st : List Value) (h : pb_H) (Q : Option Value → pb_H → Prop) (a : Nat) (i x : Int32), pb_R 209 20 L J (.int x :: .int i :: .ref a :: st) h Q ↔ pb_o (pb_sb (h.2 a) i x) (fun c => pb_R 209 21 L J st (pb_set h a c) Q)) ∧
  (∀ (l1 : Option Value) (st : List Value) (h : pb_H) (Q : Option Value → pb_H → Prop) (x : Nat), pb_R 209 21 [some (.ref x), l1] [] st h Q ↔ pb_R 209 22 [some (.ref x), l1] [] (.ref x :: st) h Q) ∧
  (∀ (l1 : Option Value) (st : List Value) (h : pb_H) (Q : Option Value → pb_H → Prop), pb_R 209 21 [some .null, l1] [] st h Q ↔ pb_R 209 22 [some .null, l1] [] (.null :: st) h Q) ∧
  (∀ (L : pb_L) (J : pb_J) (st : List Value) (x : Nat) (h : pb_H) (Q : Option Value → pb_H → Prop), pb_R 209 22 L J (.ref x :: st) h Q ↔ pb_R 209 23 L J (.ref x :: .ref x :: st) h Q) ∧
  (∀ (L : pb_L) (J : pb_J) (st : List Value) (h : pb_H) (Q : Option Value → pb_H → Prop) (a : Nat), pb_R 209 23 L J (.ref a :: st) h Q ↔ pb_o (pb_gf (h.2 a) 12 35) (fun v => pb_R 209 26 L J (v :: st) h Q)) ∧
  (∀ (L : pb_L) (J : pb_J) (st : List Value) (h : pb_H) (Q : Option Value → pb_H → Prop), pb_R 209 26 L J st h Q ↔ pb_R 209 27 L J (.int (1 : Int32) :: st) h Q) ∧
  (∀ (L : pb_L) (J : pb_J) (st : List Value) (x y : Int32) (h : pb_H) (Q : Option Value → pb_H → Prop), pb_R 209 27 L J (.int y :: .int x :: st) h Q ↔ pb_R 209 28 L J (.int (x + y) :: st) h Q) ∧
  (∀ (L : pb_L) (J : pb_J) (st : List Value) (h : pb_H) (Q : Option Value → pb_H → Prop) (a : Nat) (x : Int32), pb_R 209 28 L J (.int x :: .ref a :: st) h Q ↔ pb_o (pb_pf (h.2 a) 12 35 (.int x)) (fun c => pb_R 209 31 L J st (pb_set h a c) Q)) ∧
  (∀ (L : pb_L) (J : pb_J) (h : pb_H) (Q : Option Value → pb_H → Prop), pb_R 209 31 L J [] h Q ↔ Q none h) := ⟨
  fun l1 st h Q x => pf_S pb_u_209 rfl rfl,
  fun l1 st h Q => pf_S pb_u_209 rfl rfl,
  fun L J st h Q a => pf_gf pb_u_209 rfl rfl,
  fun L J st h Q => pf_S pb_u_209 rfl rfl,
  fun L J st h Q x y => pf_ic pb_u_209 rfl rfl rfl,
  fun l1 st h Q x => pf_S pb_u_209 rfl rfl,
  fun l1 st h Q => pf_S pb_u_209 rfl rfl,
  fun L J st h Q a => pf_gf pb_u_209 rfl rfl,
  fun l1 st h Q x => pf_S pb_u_209 rfl rfl,
  fun l1 st h Q => pf_S pb_u_209 rfl rfl,
  fun L J st h Q a => pf_gf pb_u_209 rfl rfl,
  fun l0 st h Q x => pf_S pb_u_209 rfl rfl,
  fun L J st x h Q => pf_S pb_u_209 rfl rfl,
  fun L J st h Q a i x => pf_sb pb_u_209 rfl rfl,
  fun l1 st h Q x => pf_S pb_u_209 rfl rfl,
  fun l1 st h Q => pf_S pb_u_209 rfl rfl,
  fun L J st x h Q => pf_S pb_u_209 rfl rfl,
  fun L J st h Q a => pf_gf pb_u_209 rfl rfl,
  fun L J st h Q => pf_S pb_u_209 rfl rfl,
  fun L J st x y h Q => pf_S pb_u_209 rfl rfl,
  fun L J st h Q a x => pf_pf pb_u_209 rfl rfl,
  fun L J h Q => pf_rv pb_u_209 rfl rfl⟩
theorem pb_c209 (x0 : Nat) (x1 : Int32) (h : pb_H) (Q : Option Value → pb_H → Prop) : pb_call 209 [.ref x0, .int x1] h Q ↔ pb_R 209 0 [some (.ref x0), some (.int x1)] [] [] h Q := Iff.rfl
/-! 210: PlaneBenchModel.write(I)V -/
theorem pb_u_210 : pb_t 210 = pb_t210 := rfl
theorem pb_ci_210 : pb_ci 210 = 12 := by decide +kernel
set_option maxRecDepth 100000 in
theorem pb_q210_19 (l0 l1 l2 l3 l5 l6 l7 : Option Value) (st : List Value) (h : pb_H) (Q : Option Value → pb_H → Prop) (x : Int32) : pb_R 210 19 [l0, l1, l2, l3, some (.int x), l5, l6, l7] [] st h Q ↔ pb_R 210 21 [l0, l1, l2, l3, some (.int x), l5, l6, l7] [] (.int x :: st) h Q := pf_S pb_u_210 rfl rfl
set_option maxRecDepth 100000 in
theorem pb_q210_31 (l0 l1 l2 l3 l4 l5 l7 : Option Value) (st : List Value) (h : pb_H) (Q : Option Value → pb_H → Prop) (x : Int32) : pb_R 210 31 [l0, l1, l2, l3, l4, l5, some (.int x), l7] [] st h Q ↔ pb_R 210 33 [l0, l1, l2, l3, l4, l5, some (.int x), l7] [] (.int x :: st) h Q := pf_S pb_u_210 rfl rfl
set_option maxRecDepth 100000 in
theorem pb_q210_115 (l0 l1 l2 l3 l4 l6 l7 : Option Value) (st : List Value) (h : pb_H) (Q : Option Value → pb_H → Prop) (x : Int32) : pb_R 210 115 [l0, l1, l2, l3, l4, some (.int x), l6, l7] [] st h Q ↔ pb_R 210 117 [l0, l1, l2, l3, l4, some (.int x), l6, l7] [] (.int x :: st) h Q := pf_S pb_u_210 rfl rfl
set_option maxRecDepth 100000 in
theorem pb_e210 : (∀ (L : pb_L) (J : pb_J) (st : List Value) (h : pb_H) (Q : Option Value → pb_H → Prop), pb_R 210 0 L J st h Q ↔ pb_R 210 3 L J (.int (320 : Int32) :: st) h Q) ∧
  (∀ (L : pb_L) (J : pb_J) (st : List Value) (h : pb_H) (Q : Option Value → pb_H → Prop), pb_R 210 3 L J st h Q ↔ pb_R 210 4 L J (.int (4 : Int32) :: st) h Q) ∧
  (∀ (L : pb_L) (J : pb_J) (h : pb_H) (Q : Option Value → pb_H → Prop) (x0 : Int32) (x1 : Int32), pb_R 210 4 L J [.int x0, .int x1] h Q ↔ pb_call 143 [.int x1, .int x0] h (fun v t => pb_R 210 7 L J (v.toList ++ []) t Q)) ∧
  (∀ (l0 l1 l2 l3 l4 l5 l6 l7 : Option Value) (st : List Value) (h : pb_H) (Q : Option Value → pb_H → Prop) (x : Int32), pb_R 210 7 [l0, l1, l2, l3, l4, l5, l6, l7] [] (.int x :: st) h Q ↔ pb_R 210 8 [l0, l1, some (.int x), l3, l4, l5, l6, l7] [] st h Q) ∧
  (∀ (l1 l2 l3 l4 l5 l6 l7 : Option Value) (st : List Value) (h : pb_H) (Q : Option Value → pb_H → Prop) (x : Nat), pb_R 210 8 [some (.ref x), l1, l2, l3, l4, l5, l6, l7] [] st h Q ↔ pb_R 210 9 [some (.ref x), l1, l2, l3, l4, l5, l6, l7] [] (.ref x :: st) h Q) ∧
  (∀ (l1 l2 l3 l4 l5 l6 l7 : Option Value) (st : List Value) (h : pb_H) (Q : Option Value → pb_H → Prop), pb_R 210 8 [some .null, l1, l2, l3, l4, l5, l6, l7] [] st h Q ↔ pb_R 210 9 [some .null, l1, l2, l3, l4, l5, l6, l7] [] (.null :: st) h Q) ∧
  (∀ (l0 l2 l3 l4 l5 l6 l7 : Option Value) (st : List Value) (h : pb_H) (Q : Option Value → pb_H → Prop) (x : Int32), pb_R 210 9 [l0, some (.int x), l2, l3, l4, l5, l6, l7] [] st h Q ↔ pb_R 210 10 [l0, some (.int x), l2, l3, l4, l5, l6, l7] [] (.int x :: st) h Q) ∧
  (∀ (l0 l1 l3 l4 l5 l6 l7 : Option Value) (st : List Value) (h : pb_H) (Q : Option Value → pb_H → Prop) (x : Int32), pb_R 210 10 [l0, l1, some (.int x), l3, l4, l5, l6, l7] [] st h Q ↔ pb_R 210 11 [l0, l1, some (.int x), l3, l4, l5, l6, l7] [] (.int x :: st) h Q) ∧
  (∀ (L : pb_L) (J : pb_J) (h : pb_H) (Q : Option Value → pb_H → Prop) (x0 : Int32) (x1 : Int32) (x2 : Nat), pb_R 210 11 L J [.int x0, .int x1, .ref x2] h Q ↔ pb_is0 (h.2 x2) 12 = true ∧ pb_call 146 [.ref x2, .int x1, .int x0] h (fun v t => pb_R 210 14 L J (v.toList ++ []) t Q)) ∧
  (∀ (L : pb_L) (J : pb_J) (st : List Value) (h : pb_H) (Q : Option Value → pb_H → Prop), pb_R 210 14 L J st h Q ↔ pb_R 210 15 L J (.int (0 : Int32) :: st) h Q) ∧
  (∀ (l0 l1 l2 l3 l4 l5 l6 l7 : Option Value) (st : List Value) (h : pb_H) (Q : Option Value → pb_H → Prop) (x : Int32), pb_R 210 15 [l0, l1, l2, l3, l4, l5, l6, l7] [] (.int x :: st) h Q ↔ pb_R 210 16 [l0, l1, l2, some (.int x), l4, l5, l6, l7] [] st h Q) ∧
  (∀ (L : pb_L) (J : pb_J) (st : List Value) (h : pb_H) (Q : Option Value → pb_H → Prop), pb_R 210 16 L J st h Q ↔ pb_R 210 17 L J (.int (1 : Int32) :: st) h Q) ∧
  (∀ (l0 l1 l2 l3 l4 l5 l6 l7 : Option Value) (st : List Value) (h : pb_H) (Q : Option Value → pb_H → Prop) (x : Int32), pb_R 210 17 [l0, l1, l2, l3, l4, l5, l6, l7] [] (.int x :: st) h Q ↔ pb_R 210 19 [l0, l1, l2, l3, some (.int x), l5, l6, l7] [] st h Q) ∧
  (∀ (L : pb_L) (J : pb_J) (st : List Value) (h : pb_H) (Q : Option Value → pb_H → Prop) (x : Int32), pb_R 210 21 L J (.int x :: st) h Q ↔ if x = 0 then pb_R 210 110 L J st h Q else pb_R 210 24 L J st h Q) ∧
  (∀ (L : pb_L) (J : pb_J) (st : List Value) (h : pb_H) (Q : Option Value → pb_H → Prop), pb_R 210 24 L J st h Q ↔ pb_R 210 25 L J (.int (0 : Int32) :: st) h Q) ∧
  (∀ (l0 l1 l2 l3 l4 l5 l6 l7 : Option Value) (st : List Value) (h : pb_H) (Q : Option Value → pb_H → Prop) (x : Int32), pb_R 210 25 [l0, l1, l2, l3, l4, l5, l6, l7] [] (.int x :: st) h Q ↔ pb_R 210 27 [l0, l1, l2, l3, l4, some (.int x), l6, l7] [] st h Q) ∧
  (∀ (L : pb_L) (J : pb_J) (st : List Value) (h : pb_H) (Q : Option Value → pb_H → Prop), pb_R 210 27 L J st h Q ↔ pb_R 210 29 L J (.int (19 : Int32) :: st) h Q) ∧
  (∀ (l0 l1 l2 l3 l4 l5 l6 l7 : Option Value) (st : List Value) (h : pb_H) (Q : Option Value → pb_H → Prop) (x : Int32), pb_R 210 29 [l0, l1, l2, l3, l4, l5, l6, l7] [] (.int x :: st) h Q ↔ pb_R 210 31 [l0, l1, l2, l3, l4, l5, some (.int x), l7] [] st h Q) ∧
  (∀ (L : pb_L) (J : pb_J) (st : List Value) (h : pb_H) (Q : Option Value → pb_H → Prop) (x : Int32), pb_R 210 33 L J (.int x :: st) h Q ↔ if x < 0 then pb_R 210 81 L J st h Q else pb_R 210 36 L J st h Q) ∧
  (∀ (l0 l1 l2 l3 l4 l6 l7 : Option Value) (st : List Value) (h : pb_H) (Q : Option Value → pb_H → Prop) (x : Int32), pb_R 210 36 [l0, l1, l2, l3, l4, some (.int x), l6, l7] [] st h Q ↔ pb_R 210 38 [l0, l1, l2, l3, l4, some (.int x), l6, l7] [] (.int x :: st) h Q) ∧
  (∀ (L : pb_L) (J : pb_J) (st : List Value) (h : pb_H) (Q : Option Value → pb_H → Prop), pb_R 210 38 L J st h Q ↔ pb_R 210 41 L J (.int (65536 : Int32) :: st) h Q) ∧
  (∀ (L : pb_L) (J : pb_J) (st : List Value) (x y : Int32) (h : pb_H) (Q : Option Value → pb_H → Prop), pb_R 210 41 L J (.int y :: .int x :: st) h Q ↔ pb_R 210 42 L J (.int (x * y) :: st) h Q) ∧
  (∀ (l1 l2 l3 l4 l5 l6 l7 : Option Value) (st : List Value) (h : pb_H) (Q : Option Value → pb_H → Prop) (x : Nat), pb_R 210 42 [some (.ref x), l1, l2, l3, l4, l5, l6, l7] [] st h Q ↔ pb_R 210 43 [some (.ref x), l1, l2, l3, l4, l5, l6, l7] [] (.ref x :: st) h Q) ∧
  (∀ (l1 l2 l3 l4 l5 l6 l7 : Option Value) (st : List Value) (h : pb_H) (Q : Option Value → pb_H → Prop), pb_R 210 42 [some .null, l1, l2, l3, l4, l5, l6, l7] [] st h Q ↔ pb_R 210 43 [some .null, l1, l2, l3, l4, l5, l6, l7] [] (.null :: st) h Q) ∧
  (∀ (L : pb_L) (J : pb_J) (st : List Value) (h : pb_H) (Q : Option Value → pb_H → Prop) (a : Nat), pb_R 210 43 L J (.ref a :: st) h Q ↔ pb_o (pb_gf (h.2 a) 12 0) (fun v => pb_R 210 46 L J (v :: st) h Q)) ∧
  (∀ (l0 l1 l3 l4 l5 l6 l7 : Option Value) (st : List Value) (h : pb_H) (Q : Option Value → pb_H → Prop) (x : Int32), pb_R 210 46 [l0, l1, some (.int x), l3, l4, l5, l6, l7] [] st h Q ↔ pb_R 210 47 [l0, l1, some (.int x), l3, l4, l5, l6, l7] [] (.int x :: st) h Q) ∧
  (∀ (l0 l1 l2 l3 l4 l5 l7 : Option Value) (st : List Value) (h : pb_H) (Q : Option Value → pb_H → Prop) (x : Int32), pb_R 210 47 [l0, l1, l2, l3, l4, l5, some (.int x), l7] [] st h Q ↔ pb_R 210 49 [l0, l1, l2, l3, l4, l5, some (.int x), l7] [] (.int x :: st) h Q) ∧
  (∀ (L : pb_L) (J : pb_J) (st : List Value) (x y : Int32) (h : pb_H) (Q : Option Value → pb_H → Prop), pb_R 210 49 L J (.int y :: .int x :: st) h Q ↔ pb_R 210 50 L J (.int (x + y) :: st) h Q) ∧
  (∀ (L : pb_L) (J : pb_J) (st : List Value) (h : pb_H) (Q : Option Value → pb_H → Prop) (a : Nat) (i : Int32), pb_R 210 50 L J (.int i :: .ref a :: st) h Q ↔ pb_o (pb_ai (h.2 a) i) (fun v => pb_R 210 51 L J (.int v :: st) h Q)) ∧
  (∀ (L : pb_L) (J : pb_J) (st : List Value) (x y : Int32) (h : pb_H) (Q : Option Value → pb_H → Prop), pb_R 210 51 L J (.int y :: .int x :: st) h Q ↔ pb_R 210 52 L J (.int (x + y) :: st) h Q) ∧
  (∀ (l0 l1 l2 l3 l4 l5 l6 l7 : Option Value) (st : List Value) (h : pb_H) (Q : Option Value → pb_H → Prop) (x : Int32), pb_R 210 52 [l0, l1, l2, l3, l4, l5, l6, l7] [] (.int x :: st) h Q ↔ pb_R 210 54 [l0, l1, l2, l3, l4, l5, l6, some (.int x)] [] st h Q) ∧
  (∀ (l1 l2 l3 l4 l5 l6 l7 : Option Value) (st : List Value) (h : pb_H) (Q : Option Value → pb_H → Prop) (x : Nat), pb_R 210 54 [some (.ref x), l1, l2, l3, l4, l5, l6, l7] [] st h Q ↔ pb_R 210 55 [some (.ref x), l1, l2, l3, l4, l5, l6, l7] [] (.ref x :: st) h Q) ∧
  (∀ (l1 l2 l3 l4 l5 l6 l7 : Option Value) (st : List Value) (h : pb_H) (Q : Option Value → pb_H → Prop), pb_R 210 54 [some .null, l1, l2, l3, l4, l5, l6, l7] [] st h Q ↔ pb_R 210 55 [some .null, l1, l2, l3, l4, l5, l6, l7] [] (.null :: st) h Q) ∧
  (∀ (L : pb_L) (J : pb_J) (st : List Value) (h : pb_H) (Q : Option Value → pb_H → Prop) (a : Nat), pb_R 210 55 L J (.ref a :: st) h Q ↔ pb_o (pb_gf (h.2 a) 12 0) (fun v => pb_R 210 58 L J (v :: st) h Q)) ∧
  (∀ (l0 l1 l3 l4 l5 l6 l7 : Option Value) (st : List Value) (h : pb_H) (Q : Option Value → pb_H → Prop) (x : Int32), pb_R 210 58 [l0, l1, some (.int x), l3, l4, l5, l6, l7] [] st h Q ↔ pb_R 210 59 [l0, l1, some (.int x), l3, l4, l5, l6, l7] [] (.int x :: st) h Q) ∧
  (∀ (l0 l1 l2 l3 l4 l5 l7 : Option Value) (st : List Value) (h : pb_H) (Q : Option Value → pb_H → Prop) (x : Int32), pb_R 210 59 [l0, l1, l2, l3, l4, l5, some (.int x), l7] [] st h Q ↔ pb_R 210 61 [l0, l1, l2, l3, l4, l5, some (.int x), l7] [] (.int x :: st) h Q) ∧
  (∀ (L : pb_L) (J : pb_J) (st : List Value) (x y : Int32) (h : pb_H) (Q : Option Value → pb_H → Prop), pb_R 210 61 L J (.int y :: .int x :: st) h Q ↔ pb_R 210 62 L J (.int (x + y) :: st) h Q) ∧
  (∀ (l0 l1 l2 l3 l4 l5 l6 : Option Value) (st : List Value) (h : pb_H) (Q : Option Value → pb_H → Prop) (x : Int32), pb_R 210 62 [l0, l1, l2, l3, l4, l5, l6, some (.int x)] [] st h Q ↔ pb_R 210 64 [l0, l1, l2, l3, l4, l5, l6, some (.int x)] [] (.int x :: st) h Q) ∧
  (∀ (L : pb_L) (J : pb_J) (st : List Value) (h : pb_H) (Q : Option Value → pb_H → Prop), pb_R 210 64 L J st h Q ↔ pb_R 210 66 L J (.int (10 : Int32) :: st) h Q) ∧
  (∀ (L : pb_L) (J : pb_J) (st : List Value) (h : pb_H) (Q : Option Value → pb_H → Prop) (x y : Int32), pb_R 210 66 L J (.int y :: .int x :: st) h Q ↔ (¬ y = 0) ∧ pb_R 210 67 L J (.int (x / y) :: st) h Q) ∧
  (∀ (L : pb_L) (J : pb_J) (st : List Value) (h : pb_H) (Q : Option Value → pb_H → Prop) (a : Nat) (i x : Int32), pb_R 210 67 L J (.int x :: .int i :: .ref a :: st) h Q ↔ pb_o (pb_si (h.2 a) i x) (fun c => pb_R 210 68 L J st (pb_set h a c) Q)) ∧
  (∀ (l0 l1 l2 l3 l4 l5 l6 : Option Value) (st : List Value) (h : pb_H) (Q : Option Value → pb_H → Prop) (x : Int32), pb_R 210 68 [l0, l1, l2, l3, l4, l5, l6, some (.int x)] [] st h Q ↔ pb_R 210 70 [l0, l1, l2, l3, l4, l5, l6, some (.int x)] [] (.int x :: st) h Q) ∧
  (∀ (L : pb_L) (J : pb_J) (st : List Value) (h : pb_H) (Q : Option Value → pb_H → Prop), pb_R 210 70 L J st h Q ↔ pb_R 210 72 L J (.int (10 : Int32) :: st) h Q) ∧
  (∀ (L : pb_L) (J : pb_J) (st : List Value) (h : pb_H) (Q : Option Value → pb_H → Prop) (x y : Int32), pb_R 210 72 L J (.int y :: .int x :: st) h Q ↔ (¬ y = 0) ∧ pb_R 210 73 L J (.int (x - x / y * y) :: st) h Q) ∧
  (∀ (l0 l1 l2 l3 l4 l5 l6 l7 : Option Value) (st : List Value) (h : pb_H) (Q : Option Value → pb_H → Prop) (x : Int32), pb_R 210 73 [l0, l1, l2, l3, l4, l5, l6, l7] [] (.int x :: st) h Q ↔ pb_R 210 75 [l0, l1, l2, l3, l4, some (.int x), l6, l7] [] st h Q) ∧
  (∀ (l0 l1 l2 l3 l4 l5 l7 : Option Value) (st : List Value) (h : pb_H) (Q : Option Value → pb_H → Prop) (x : Int32), pb_R 210 75 [l0, l1, l2, l3, l4, l5, some (.int x), l7] [] st h Q ↔ pb_R 210 78 [l0, l1, l2, l3, l4, l5, some (.int (x + (-1 : Int32))), l7] [] st h Q) ∧
  (∀ (L : pb_L) (J : pb_J) (st : List Value) (h : pb_H) (Q : Option Value → pb_H → Prop), pb_R 210 78 L J st h Q ↔ pb_R 210 31 L J st h Q) ∧
  (∀ (l1 l2 l3 l4 l5 l6 l7 : Option Value) (st : List Value) (h : pb_H) (Q : Option Value → pb_H → Prop) (x : Nat), pb_R 210 81 [some (.ref x), l1, l2, l3, l4, l5, l6, l7] [] st h Q ↔ pb_R 210 82 [some (.ref x), l1, l2, l3, l4, l5, l6, l7] [] (.ref x :: st) h Q) ∧
  (∀ (l1 l2 l3 l4 l5 l6 l7 : Option Value) (st : List Value) (h : pb_H) (Q : Option Value → pb_H → Prop), pb_R 210 81 [some .null, l1, l2, l3, l4, l5, l6, l7] [] st h Q ↔ pb_R 210 82 [some .null, l1, l2, l3, l4, l5, l6, l7] [] (.null :: st) h Q) ∧
  (∀ (L : pb_L) (J : pb_J) (st : List Value) (h : pb_H) (Q : Option Value → pb_H → Prop) (a : Nat), pb_R 210 82 L J (.ref a :: st) h Q ↔ pb_o (pb_gf (h.2 a) 12 37) (fun v => pb_R 210 85 L J (v :: st) h Q)) ∧
  (∀ (l0 l1 l2 l4 l5 l6 l7 : Option Value) (st : List Value) (h : pb_H) (Q : Option Value → pb_H → Prop) (x : Int32), pb_R 210 85 [l0, l1, l2, some (.int x), l4, l5, l6, l7] [] st h Q ↔ pb_R 210 86 [l0, l1, l2, some (.int x), l4, l5, l6, l7] [] (.int x :: st) h Q) ∧
  (∀ (l0 l1 l2 l3 l4 l6 l7 : Option Value) (st : List Value) (h : pb_H) (Q : Option Value → pb_H → Prop) (x : Int32), pb_R 210 86 [l0, l1, l2, l3, l4, some (.int x), l6, l7] [] st h Q ↔ pb_R 210 88 [l0, l1, l2, l3, l4, some (.int x), l6, l7] [] (.int x :: st) h Q) ∧
  (∀ (L : pb_L) (J : pb_J) (st : List Value) (h : pb_H) (Q : Option Value → pb_H → Prop) (a : Nat) (i x : Int32), pb_R 210 88 L J (.int x :: .int i :: .ref a :: st) h Q ↔ pb_o (pb_si (h.2 a) i x) (fun c => pb_R 210 89 L J st (pb_set h a c) Q)) ∧
  (∀ (l0 l1 l2 l4 l5 l6 l7 : Option Value) (st : List Value) (h : pb_H) (Q : Option Value → pb_H → Prop) (x : Int32), pb_R 210 89 [l0, l1, l2, some (.int x), l4, l5, l6, l7] [] st h Q ↔ pb_R 210 92 [l0, l1, l2, some (.int (x + (1 : Int32))), l4, l5, l6, l7] [] st h Q) ∧
  (∀ (l1 l2 l3 l4 l5 l6 l7 : Option Value) (st : List Value) (h : pb_H) (Q : Option Value → pb_H → Prop) (x : Nat), pb_R 210 92 [some (.ref x), l1, l2, l3, l4, l5, l6, l7] [] st h Q ↔ pb_R 210 93 [some (.ref x), l1, l2, l3, l4, l5, l6, l7] [] (.ref x :: st) h Q) ∧
  (∀ (l1 l2 l3 l4 l5 l6 l7 : Option Value) (st : List Value) (h : pb_H) (Q : Option Value → pb_H → Prop), pb_R 210 92 [some .null, l1, l2, l3, l4, l5, l6, l7] [] st h Q ↔ pb_R 210 93 [some .null, l1, l2, l3, l4, l5, l6, l7] [] (.null :: st) h Q) ∧
  (∀ (l0 l1 l3 l4 l5 l6 l7 : Option Value) (st : List Value) (h : pb_H) (Q : Option Value → pb_H → Prop) (x : Int32), pb_R 210 93 [l0, l1, some (.int x), l3, l4, l5, l6, l7] [] st h Q ↔ pb_R 210 94 [l0, l1, some (.int x), l3, l4, l5, l6, l7] [] (.int x :: st) h Q) ∧
  (∀ (L : pb_L) (J : pb_J) (h : pb_H) (Q : Option Value → pb_H → Prop) (x0 : Int32) (x1 : Nat), pb_R 210 94 L J [.int x0, .ref x1] h Q ↔ pb_is0 (h.2 x1) 12 = true ∧ pb_call 147 [.ref x1, .int x0] h (fun v t => pb_R 210 97 L J (v.toList ++ []) t Q)) ∧
  (∀ (L : pb_L) (J : pb_J) (st : List Value) (h : pb_H) (Q : Option Value → pb_H → Prop) (x : Int32), pb_R 210 97 L J (.int x :: st) h Q ↔ if ¬ x = 0 then pb_R 210 104 L J st h Q else pb_R 210 100 L J st h Q) ∧
  (∀ (L : pb_L) (J : pb_J) (st : List Value) (h : pb_H) (Q : Option Value → pb_H → Prop), pb_R 210 100 L J st h Q ↔ pb_R 210 101 L J (.int (1 : Int32) :: st) h Q) ∧
  (∀ (L : pb_L) (J : pb_J) (st : List Value) (h : pb_H) (Q : Option Value → pb_H → Prop), pb_R 210 101 L J st h Q ↔ pb_R 210 105 L J st h Q) ∧
  (∀ (L : pb_L) (J : pb_J) (st : List Value) (h : pb_H) (Q : Option Value → pb_H → Prop), pb_R 210 104 L J st h Q ↔ pb_R 210 105 L J (.int (0 : Int32) :: st) h Q) ∧
  (∀ (l0 l1 l2 l3 l4 l5 l6 l7 : Option Value) (st : List Value) (h : pb_H) (Q : Option Value → pb_H → Prop) (x : Int32), pb_R 210 105 [l0, l1, l2, l3, l4, l5, l6, l7] [] (.int x :: st) h Q ↔ pb_R 210 107 [l0, l1, l2, l3, some (.int x), l5, l6, l7] [] st h Q) ∧
  (∀ (L : pb_L) (J : pb_J) (st : List Value) (h : pb_H) (Q : Option Value → pb_H → Prop), pb_R 210 107 L J st h Q ↔ pb_R 210 19 L J st h Q) ∧
  (∀ (l0 l1 l2 l4 l5 l6 l7 : Option Value) (st : List Value) (h : pb_H) (Q : Option Value → pb_H → Prop) (x : Int32), pb_R 210 110 [l0, l1, l2, some (.int x), l4, l5, l6, l7] [] st h Q ↔ pb_R 210 111 [l0, l1, l2, some (.int x), l4, l5, l6, l7] [] (.int x :: st) h Q) ∧
  (∀ (L : pb_L) (J : pb_J) (st : List Value) (h : pb_H) (Q : Option Value → pb_H → Prop), pb_R 210 111 L J st h Q ↔ pb_R 210 112 L J (.int (1 : Int32) :: st) h Q) ∧
  (∀ (L : pb_L) (J : pb_J) (st : List Value) (x y : Int32) (h : pb_H) (Q : Option Value → pb_H → Prop), pb_R 210 112 L J (.int y :: .int x :: st) h Q ↔ pb_R 210 113 L J (.int (x - y) :: st) h Q) ∧
  (∀ (l0 l1 l2 l3 l4 l5 l6 l7 : Option Value) (st : List Value) (h : pb_H) (Q : Option Value → pb_H → Prop) (x : Int32), pb_R 210 113 [l0, l1, l2, l3, l4, l5, l6, l7] [] (.int x :: st) h Q ↔ pb_R 210 115 [l0, l1, l2, l3, l4, some (.int x), l6, l7] [] st h Q) ∧
  (∀ (L : pb_L) (J : pb_J) (st : List Value) (h : pb_H) (Q : Option Value → pb_H → Prop) (x : Int32), pb_R 210 117 L J (.int x :: st) h Q ↔ if x < 0 then pb_R 210 140 L J st h Q else pb_R 210 120 L J st h Q) ∧
  (∀ (l1 l2 l3 l4 l5 l6 l7 : Option Value) (st : List Value) (h : pb_H) (Q : Option Value → pb_H → Prop) (x : Nat), pb_R 210 120 [some (.ref x), l1, l2, l3, l4, l5, l6, l7] [] st h Q ↔ pb_R 210 121 [some (.ref x), l1, l2, l3, l4, l5, l6, l7] [] (.ref x :: st) h Q) ∧
  (∀ (l1 l2 l3 l4 l5 l6 l7 : Option Value) (st : List Value) (h : pb_H) (Q : Option Value → pb_H → Prop), pb_R 210 120 [some .null, l1, l2, l3, l4, l5, l6, l7] [] st h Q ↔ pb_R 210 121 [some .null, l1, l2, l3, l4, l5, l6, l7] [] (.null :: st) h Q) ∧
  (∀ (L : pb_L) (J : pb_J) (st : List Value) (h : pb_H) (Q : Option Value → pb_H → Prop), pb_R 210 121 L J st h Q ↔ pb_R 210 123 L J (.int (48 : Int32) :: st) h Q) ∧
  (∀ (l1 l2 l3 l4 l5 l6 l7 : Option Value) (st : List Value) (h : pb_H) (Q : Option Value → pb_H → Prop) (x : Nat), pb_R 210 123 [some (.ref x), l1, l2, l3, l4, l5, l6, l7] [] st h Q ↔ pb_R 210 124 [some (.ref x), l1, l2, l3, l4, l5, l6, l7] [] (.ref x :: st) h Q) ∧
  (∀ (l1 l2 l3 l4 l5 l6 l7 : Option Value) (st : List Value) (h : pb_H) (Q : Option Value → pb_H → Prop), pb_R 210 123 [some .null, l1, l2, l3, l4, l5, l6, l7] [] st h Q ↔ pb_R 210 124 [some .null, l1, l2, l3, l4, l5, l6, l7] [] (.null :: st) h Q) ∧
  (∀ (L : pb_L) (J : pb_J) (st : List Value) (h : pb_H) (Q : Option Value → pb_H → Prop) (a : Nat), pb_R 210 124 L J (.ref a :: st) h Q ↔ pb_o (pb_gf (h.2 a) 12 37) (fun v => pb_R 210 127 L J (v :: st) h Q)) ∧
  (∀ (l0 l1 l2 l3 l4 l6 l7 : Option Value) (st : List Value) (h : pb_H) (Q : Option Value → pb_H → Prop) (x : Int32), pb_R 210 127 [l0, l1, l2, l3, l4, some (.int x), l6, l7] [] st h Q ↔ pb_R 210 129 [l0, l1, l2, l3, l4, some (.int x), l6, l7] [] (.int x :: st) h Q) ∧
  (∀ (L : pb_L) (J : pb_J) (st : List Value) (h : pb_H) (Q : Option Value → pb_H → Prop) (a : Nat) (i : Int32), pb_R 210 129 L J (.int i :: .ref a :: st) h Q ↔ pb_o (pb_ai (h.2 a) i) (fun v => pb_R 210 130 L J (.int v :: st) h Q)) ∧
  (∀ (L : pb_L) (J : pb_J) (st : List Value) (x y : Int32) (h : pb_H) (Q : Option Value → pb_H → Prop), pb_R 210 130 L J (.int y :: .int x :: st) h Q ↔ pb_R 210 131 L J (.int (x + y) :: st) h Q) ∧
  (∀ (L : pb_L) (J : pb_J) (h : pb_H) (Q : Option Value → pb_H → Prop) (x0 : Int32) (x1 : Nat), pb_R 210 131 L J [.int x0, .ref x1] h Q ↔ pb_is0 (h.2 x1) 12 = true ∧ pb_call 209 [.ref x1, .int x0] h (fun v t => pb_R 210 134 L J (v.toList ++ []) t Q)) ∧
  (∀ (l0 l1 l2 l3 l4 l6 l7 : Option Value) (st : List Value) (h : pb_H) (Q : Option Value → pb_H → Prop) (x : Int32), pb_R 210 134 [l0, l1, l2, l3, l4, some (.int x), l6, l7] [] st h Q ↔ pb_R 210 137 [l0, l1, l2, l3, l4, some (.int (x + (-1 : Int32))), l6, l7] [] st h Q) ∧
  (∀ (L : pb_L) (J : pb_J) (st : List Value) (h : pb_H) (Q : Option Value → pb_H → Prop), pb_R 210 137 L J st h Q ↔ pb_R 210 115 L J st h Q) ∧
  (∀ (L : pb_L) (J : pb_J) (h : pb_H) (Q : Option Value → pb_H → Prop), pb_R 210 140 L J [] h Q ↔ Q none h) := ⟨
  fun L J st h Q => pf_S pb_u_210 rfl rfl,
  fun L J st h Q => pf_S pb_u_210 rfl rfl,
  fun L J h Q x0 x1 => pf_ks pb_u_210 rfl rfl rfl rfl,
  fun l0 l1 l2 l3 l4 l5 l6 l7 st h Q x => pf_S pb_u_210 rfl rfl,
  fun l1 l2 l3 l4 l5 l6 l7 st h Q x => pf_S pb_u_210 rfl rfl,
  fun l1 l2 l3 l4 l5 l6 l7 st h Q => pf_S pb_u_210 rfl rfl,
  fun l0 l2 l3 l4 l5 l6 l7 st h Q x => pf_S pb_u_210 rfl rfl,
  fun l0 l1 l3 l4 l5 l6 l7 st h Q x => pf_S pb_u_210 rfl rfl,
  fun L J h Q x0 x1 x2 => pf_kv pb_u_210 rfl pb_ci_146 rfl ⟨Nat.le_of_ble_eq_true rfl, Nat.le_of_ble_eq_true rfl, Nat.le_of_ble_eq_true rfl, Nat.le_of_ble_eq_true rfl, rfl⟩ rfl rfl,
  fun L J st h Q => pf_S pb_u_210 rfl rfl,
  fun l0 l1 l2 l3 l4 l5 l6 l7 st h Q x => pf_S pb_u_210 rfl rfl,
  fun L J st h Q => pf_S pb_u_210 rfl rfl,
  fun l0 l1 l2 l3 l4 l5 l6 l7 st h Q x => pf_S pb_u_210 rfl rfl,
  fun L J st h Q x => pf_ii pb_u_210 rfl rfl rfl,
  fun L J st h Q => pf_S pb_u_210 rfl rfl,
  fun l0 l1 l2 l3 l4 l5 l6 l7 st h Q x => pf_S pb_u_210 rfl rfl,
  fun L J st h Q => pf_S pb_u_210 rfl rfl,
  fun l0 l1 l2 l3 l4 l5 l6 l7 st h Q x => pf_S pb_u_210 rfl rfl,
  fun L J st h Q x => pf_ii pb_u_210 rfl rfl rfl,
  fun l0 l1 l2 l3 l4 l6 l7 st h Q x => pf_S pb_u_210 rfl rfl,
  fun L J st h Q => pf_S pb_u_210 rfl rfl,
  fun L J st x y h Q => pf_S pb_u_210 rfl rfl,
  fun l1 l2 l3 l4 l5 l6 l7 st h Q x => pf_S pb_u_210 rfl rfl,
  fun l1 l2 l3 l4 l5 l6 l7 st h Q => pf_S pb_u_210 rfl rfl,
  fun L J st h Q a => pf_gf pb_u_210 rfl rfl,
  fun l0 l1 l3 l4 l5 l6 l7 st h Q x => pf_S pb_u_210 rfl rfl,
  fun l0 l1 l2 l3 l4 l5 l7 st h Q x => pf_S pb_u_210 rfl rfl,
  fun L J st x y h Q => pf_S pb_u_210 rfl rfl,
  fun L J st h Q a i => pf_ai pb_u_210 rfl rfl,
  fun L J st x y h Q => pf_S pb_u_210 rfl rfl,
  fun l0 l1 l2 l3 l4 l5 l6 l7 st h Q x => pf_S pb_u_210 rfl rfl,
  fun l1 l2 l3 l4 l5 l6 l7 st h Q x => pf_S pb_u_210 rfl rfl,
  fun l1 l2 l3 l4 l5 l6 l7 st h Q => pf_S pb_u_210 rfl rfl,
  fun L J st h Q a => pf_gf pb_u_210 rfl rfl,
  fun l0 l1 l3 l4 l5 l6 l7 st h Q x => pf_S pb_u_210 rfl rfl,
  fun l0 l1 l2 l3 l4 l5 l7 st h Q x => pf_S pb_u_210 rfl rfl,
  fun L J st x y h Q => pf_S pb_u_210 rfl rfl,
  fun l0 l1 l2 l3 l4 l5 l6 st h Q x => pf_S pb_u_210 rfl rfl,
  fun L J st h Q => pf_S pb_u_210 rfl rfl,
  fun L J st h Q x y => pf_div pb_u_210 rfl rfl,
  fun L J st h Q a i x => pf_si pb_u_210 rfl rfl,
  fun l0 l1 l2 l3 l4 l5 l6 st h Q x => pf_S pb_u_210 rfl rfl,
  fun L J st h Q => pf_S pb_u_210 rfl rfl,
  fun L J st h Q x y => pf_rem pb_u_210 rfl rfl,
  fun l0 l1 l2 l3 l4 l5 l6 l7 st h Q x => pf_S pb_u_210 rfl rfl,
  fun l0 l1 l2 l3 l4 l5 l7 st h Q x => pf_S pb_u_210 rfl rfl,
  fun L J st h Q => pf_S pb_u_210 rfl rfl,
  fun l1 l2 l3 l4 l5 l6 l7 st h Q x => pf_S pb_u_210 rfl rfl,
  fun l1 l2 l3 l4 l5 l6 l7 st h Q => pf_S pb_u_210 rfl rfl,
  fun L J st h Q a => pf_gf pb_u_210 rfl rfl,
  fun l0 l1 l2 l4 l5 l6 l7 st h Q x => pf_S pb_u_210 rfl rfl,
  fun l0 l1 l2 l3 l4 l6 l7 st h Q x => pf_S pb_u_210 rfl rfl,
  fun L J st h Q a i x => pf_si pb_u_210 rfl rfl,
  fun l0 l1 l2 l4 l5 l6 l7 st h Q x => pf_S pb_u_210 rfl rfl,
  fun l1 l2 l3 l4 l5 l6 l7 st h Q x => pf_S pb_u_210 rfl rfl,
  fun l1 l2 l3 l4 l5 l6 l7 st h Q => pf_S pb_u_210 rfl rfl,
  fun l0 l1 l3 l4 l5 l6 l7 st h Q x => pf_S pb_u_210 rfl rfl,
  fun L J h Q x0 x1 => pf_kv pb_u_210 rfl pb_ci_147 rfl ⟨Nat.le_of_ble_eq_true rfl, Nat.le_of_ble_eq_true rfl, Nat.le_of_ble_eq_true rfl, Nat.le_of_ble_eq_true rfl, rfl⟩ rfl rfl,
  fun L J st h Q x => pf_ii pb_u_210 rfl rfl pf_ne,
  fun L J st h Q => pf_S pb_u_210 rfl rfl,
  fun L J st h Q => pf_S pb_u_210 rfl rfl,
  fun L J st h Q => pf_S pb_u_210 rfl rfl,
  fun l0 l1 l2 l3 l4 l5 l6 l7 st h Q x => pf_S pb_u_210 rfl rfl,
  fun L J st h Q => pf_S pb_u_210 rfl rfl,
  fun l0 l1 l2 l4 l5 l6 l7 st h Q x => pf_S pb_u_210 rfl rfl,
  fun L J st h Q => pf_S pb_u_210 rfl rfl,
  fun L J st x y h Q => pf_S pb_u_210 rfl rfl,
  fun l0 l1 l2 l3 l4 l5 l6 l7 st h Q x => pf_S pb_u_210 rfl rfl,
  fun L J st h Q x => pf_ii pb_u_210 rfl rfl rfl,
  fun l1 l2 l3 l4 l5 l6 l7 st h Q x => pf_S pb_u_210 rfl rfl,
  fun l1 l2 l3 l4 l5 l6 l7 st h Q => pf_S pb_u_210 rfl rfl,
  fun L J st h Q => pf_S pb_u_210 rfl rfl,
  fun l1 l2 l3 l4 l5 l6 l7 st h Q x => pf_S pb_u_210 rfl rfl,
  fun l1 l2 l3 l4 l5 l6 l7 st h Q => pf_S pb_u_210 rfl rfl,
  fun L J st h Q a => pf_gf pb_u_210 rfl rfl,
  fun l0 l1 l2 l3 l4 l6 l7 st h Q x => pf_S pb_u_210 rfl rfl,
  fun L J st h Q a i => pf_ai pb_u_210 rfl rfl,
  fun L J st x y h Q => pf_S pb_u_210 rfl rfl,
  fun L J h Q x0 x1 => pf_kv pb_u_210 rfl pb_ci_209 rfl ⟨Nat.le_of_ble_eq_true rfl, Nat.le_of_ble_eq_true rfl, Nat.le_of_ble_eq_true rfl, Nat.le_of_ble_eq_true rfl, rfl⟩ rfl rfl,
  fun l0 l1 l2 l3 l4 l6 l7 st h Q x => pf_S pb_u_210 rfl rfl,
  fun L J st h Q => pf_S pb_u_210 rfl rfl,
  fun L J h Q => pf_rv pb_u_210 rfl rfl⟩
theorem pb_c210 (x0 : Nat) (x1 : Int32) (h : pb_H) (Q : Option Value → pb_H → Prop) : pb_call 210 [.ref x0, .int x1] h Q ↔ pb_R 210 0 [some (.ref x0), some (.int x1), none, none, none, none, none, none] [] [] h Q := Iff.rfl
/-! 211: PlaneBenchModel.writeSmall(I)V -/
theorem pb_u_211 : pb_t 211 = pb_t211 := rfl
theorem pb_ci_211 : pb_ci 211 = 12 := by decide +kernel
set_option maxRecDepth 100000 in
theorem pb_e211 : (∀ (L : pb_L) (J : pb_J) (st : List Value) (h : pb_H) (Q : Option Value → pb_H → Prop), pb_R 211 0 L J st h Q ↔ pb_R 211 3 L J (.int (320 : Int32) :: st) h Q) ∧
  (∀ (L : pb_L) (J : pb_J) (st : List Value) (h : pb_H) (Q : Option Value → pb_H → Prop), pb_R 211 3 L J st h Q ↔ pb_R 211 4 L J (.int (5 : Int32) :: st) h Q) ∧
  (∀ (L : pb_L) (J : pb_J) (h : pb_H) (Q : Option Value → pb_H → Prop) (x0 : Int32) (x1 : Int32), pb_R 211 4 L J [.int x0, .int x1] h Q ↔ pb_call 143 [.int x1, .int x0] h (fun v t => pb_R 211 7 L J (v.toList ++ []) t Q)) ∧
  (∀ (l0 l1 l2 : Option Value) (st : List Value) (h : pb_H) (Q : Option Value → pb_H → Prop) (x : Int32), pb_R 211 7 [l0, l1, l2] [] (.int x :: st) h Q ↔ pb_R 211 8 [l0, l1, some (.int x)] [] st h Q) ∧
  (∀ (l1 l2 : Option Value) (st : List Value) (h : pb_H) (Q : Option Value → pb_H → Prop) (x : Nat), pb_R 211 8 [some (.ref x), l1, l2] [] st h Q ↔ pb_R 211 9 [some (.ref x), l1, l2] [] (.ref x :: st) h Q) ∧
  (∀ (l1 l2 : Option Value) (st : List Value) (h : pb_H) (Q : Option Value → pb_H → Prop), pb_R 211 8 [some .null, l1, l2] [] st h Q ↔ pb_R 211 9 [some .null, l1, l2] [] (.null :: st) h Q) ∧
  (∀ (l0 l1 : Option Value) (st : List Value) (h : pb_H) (Q : Option Value → pb_H → Prop) (x : Int32), pb_R 211 9 [l0, l1, some (.int x)] [] st h Q ↔ pb_R 211 10 [l0, l1, some (.int x)] [] (.int x :: st) h Q) ∧
  (∀ (l0 l2 : Option Value) (st : List Value) (h : pb_H) (Q : Option Value → pb_H → Prop) (x : Int32), pb_R 211 10 [l0, some (.int x), l2] [] st h Q ↔ pb_R 211 11 [l0, some (.int x), l2] [] (.int x :: st) h Q) ∧
  (∀ (L : pb_L) (J : pb_J) (h : pb_H) (Q : Option Value → pb_H → Prop) (x0 : Int32) (x1 : Int32) (x2 : Nat), pb_R 211 11 L J [.int x0, .int x1, .ref x2] h Q ↔ pb_is0 (h.2 x2) 12 = true ∧ pb_call 145 [.ref x2, .int x1, .int x0] h (fun v t => pb_R 211 14 L J (v.toList ++ []) t Q)) ∧
  (∀ (l1 l2 : Option Value) (st : List Value) (h : pb_H) (Q : Option Value → pb_H → Prop) (x : Nat), pb_R 211 14 [some (.ref x), l1, l2] [] st h Q ↔ pb_R 211 15 [some (.ref x), l1, l2] [] (.ref x :: st) h Q) ∧
  (∀ (l1 l2 : Option Value) (st : List Value) (h : pb_H) (Q : Option Value → pb_H → Prop), pb_R 211 14 [some .null, l1, l2] [] st h Q ↔ pb_R 211 15 [some .null, l1, l2] [] (.null :: st) h Q) ∧
  (∀ (l0 l1 : Option Value) (st : List Value) (h : pb_H) (Q : Option Value → pb_H → Prop) (x : Int32), pb_R 211 15 [l0, l1, some (.int x)] [] st h Q ↔ pb_R 211 16 [l0, l1, some (.int x)] [] (.int x :: st) h Q) ∧
  (∀ (L : pb_L) (J : pb_J) (h : pb_H) (Q : Option Value → pb_H → Prop) (x0 : Int32) (x1 : Nat), pb_R 211 16 L J [.int x0, .ref x1] h Q ↔ pb_is0 (h.2 x1) 12 = true ∧ pb_call 210 [.ref x1, .int x0] h (fun v t => pb_R 211 19 L J (v.toList ++ []) t Q)) ∧
  (∀ (L : pb_L) (J : pb_J) (h : pb_H) (Q : Option Value → pb_H → Prop), pb_R 211 19 L J [] h Q ↔ Q none h) := ⟨
  fun L J st h Q => pf_S pb_u_211 rfl rfl,
  fun L J st h Q => pf_S pb_u_211 rfl rfl,
  fun L J h Q x0 x1 => pf_ks pb_u_211 rfl rfl rfl rfl,
  fun l0 l1 l2 st h Q x => pf_S pb_u_211 rfl rfl,
  fun l1 l2 st h Q x => pf_S pb_u_211 rfl rfl,
  fun l1 l2 st h Q => pf_S pb_u_211 rfl rfl,
  fun l0 l1 st h Q x => pf_S pb_u_211 rfl rfl,
  fun l0 l2 st h Q x => pf_S pb_u_211 rfl rfl,
  fun L J h Q x0 x1 x2 => pf_kv pb_u_211 rfl pb_ci_145 rfl ⟨Nat.le_of_ble_eq_true rfl, Nat.le_of_ble_eq_true rfl, Nat.le_of_ble_eq_true rfl, Nat.le_of_ble_eq_true rfl, rfl⟩ rfl rfl,
  fun l1 l2 st h Q x => pf_S pb_u_211 rfl rfl,
  fun l1 l2 st h Q => pf_S pb_u_211 rfl rfl,
  fun l0 l1 st h Q x => pf_S pb_u_211 rfl rfl,
  fun L J h Q x0 x1 => pf_kv pb_u_211 rfl pb_ci_210 rfl ⟨Nat.le_of_ble_eq_true rfl, Nat.le_of_ble_eq_true rfl, Nat.le_of_ble_eq_true rfl, Nat.le_of_ble_eq_true rfl, rfl⟩ rfl rfl,
  fun L J h Q => pf_rv pb_u_211 rfl rfl⟩
theorem pb_c211 (x0 : Nat) (x1 : Int32) (h : pb_H) (Q : Option Value → pb_H → Prop) : pb_call 211 [.ref x0, .int x1] h Q ↔ pb_R 211 0 [some (.ref x0), some (.int x1), none] [] [] h Q := Iff.rfl
/-! 212: PlaneBenchModel.valuesTo(I)V -/
theorem pb_u_212 : pb_t 212 = pb_t212 := rfl
theorem pb_ci_212 : pb_ci 212 = 12 := by decide +kernel
set_option maxRecDepth 100000 in
theorem pb_q212_2 (l0 l1 l3 : Option Value) (st : List Value) (h : pb_H) (Q : Option Value → pb_H → Prop) (x : Int32) : pb_R 212 2 [l0, l1, some (.int x), l3] [] st h Q ↔ pb_R 212 3 [l0, l1, some (.int x), l3] [] (.int x :: st) h Q := pf_S pb_u_212 rfl rfl
set_option maxRecDepth 100000 in
theorem pb_q212_23 (l0 l1 l3 : Option Value) (st : List Value) (h : pb_H) (Q : Option Value → pb_H → Prop) (x : Int32) : pb_R 212 23 [l0, l1, some (.int x), l3] [] st h Q ↔ pb_R 212 24 [l0, l1, some (.int x), l3] [] (.int x :: st) h Q := pf_S pb_u_212 rfl rfl
set_option maxRecDepth 100000 in
theorem pb_e212 : (∀ (L : pb_L) (J : pb_J) (st : List Value) (h : pb_H) (Q : Option Value → pb_H → Prop), pb_R 212 0 L J st h Q ↔ pb_R 212 1 L J (.int (0 : Int32) :: st) h Q) ∧
  (∀ (l0 l1 l2 l3 : Option Value) (st : List Value) (h : pb_H) (Q : Option Value → pb_H → Prop) (x : Int32), pb_R 212 1 [l0, l1, l2, l3] [] (.int x :: st) h Q ↔ pb_R 212 2 [l0, l1, some (.int x), l3] [] st h Q) ∧
  (∀ (L : pb_L) (J : pb_J) (st : List Value) (h : pb_H) (Q : Option Value → pb_H → Prop), pb_R 212 3 L J st h Q ↔ pb_R 212 5 L J (.int (17 : Int32) :: st) h Q) ∧
  (∀ (L : pb_L) (J : pb_J) (st : List Value) (h : pb_H) (Q : Option Value → pb_H → Prop) (x y : Int32), pb_R 212 5 L J (.int y :: .int x :: st) h Q ↔ if y ≤ x then pb_R 212 21 L J st h Q else pb_R 212 8 L J st h Q) ∧
  (∀ (l1 l2 l3 : Option Value) (st : List Value) (h : pb_H) (Q : Option Value → pb_H → Prop) (x : Nat), pb_R 212 8 [some (.ref x), l1, l2, l3] [] st h Q ↔ pb_R 212 9 [some (.ref x), l1, l2, l3] [] (.ref x :: st) h Q) ∧
  (∀ (l1 l2 l3 : Option Value) (st : List Value) (h : pb_H) (Q : Option Value → pb_H → Prop), pb_R 212 8 [some .null, l1, l2, l3] [] st h Q ↔ pb_R 212 9 [some .null, l1, l2, l3] [] (.null :: st) h Q) ∧
  (∀ (L : pb_L) (J : pb_J) (st : List Value) (h : pb_H) (Q : Option Value → pb_H → Prop) (a : Nat), pb_R 212 9 L J (.ref a :: st) h Q ↔ pb_o (pb_gf (h.2 a) 12 36) (fun v => pb_R 212 12 L J (v :: st) h Q)) ∧
  (∀ (l0 l1 l3 : Option Value) (st : List Value) (h : pb_H) (Q : Option Value → pb_H → Prop) (x : Int32), pb_R 212 12 [l0, l1, some (.int x), l3] [] st h Q ↔ pb_R 212 13 [l0, l1, some (.int x), l3] [] (.int x :: st) h Q) ∧
  (∀ (L : pb_L) (J : pb_J) (st : List Value) (h : pb_H) (Q : Option Value → pb_H → Prop), pb_R 212 13 L J st h Q ↔ pb_R 212 14 L J (.int (-1 : Int32) :: st) h Q) ∧
  (∀ (L : pb_L) (J : pb_J) (st : List Value) (h : pb_H) (Q : Option Value → pb_H → Prop) (a : Nat) (i x : Int32), pb_R 212 14 L J (.int x :: .int i :: .ref a :: st) h Q ↔ pb_o (pb_si (h.2 a) i x) (fun c => pb_R 212 15 L J st (pb_set h a c) Q)) ∧
  (∀ (l0 l1 l3 : Option Value) (st : List Value) (h : pb_H) (Q : Option Value → pb_H → Prop) (x : Int32), pb_R 212 15 [l0, l1, some (.int x), l3] [] st h Q ↔ pb_R 212 18 [l0, l1, some (.int (x + (1 : Int32))), l3] [] st h Q) ∧
  (∀ (L : pb_L) (J : pb_J) (st : List Value) (h : pb_H) (Q : Option Value → pb_H → Prop), pb_R 212 18 L J st h Q ↔ pb_R 212 2 L J st h Q) ∧
  (∀ (L : pb_L) (J : pb_J) (st : List Value) (h : pb_H) (Q : Option Value → pb_H → Prop), pb_R 212 21 L J st h Q ↔ pb_R 212 22 L J (.int (0 : Int32) :: st) h Q) ∧
  (∀ (l0 l1 l2 l3 : Option Value) (st : List Value) (h : pb_H) (Q : Option Value → pb_H → Prop) (x : Int32), pb_R 212 22 [l0, l1, l2, l3] [] (.int x :: st) h Q ↔ pb_R 212 23 [l0, l1, some (.int x), l3] [] st h Q) ∧
  (∀ (l1 l2 l3 : Option Value) (st : List Value) (h : pb_H) (Q : Option Value → pb_H → Prop) (x : Nat), pb_R 212 24 [some (.ref x), l1, l2, l3] [] st h Q ↔ pb_R 212 25 [some (.ref x), l1, l2, l3] [] (.ref x :: st) h Q) ∧
  (∀ (l1 l2 l3 : Option Value) (st : List Value) (h : pb_H) (Q : Option Value → pb_H → Prop), pb_R 212 24 [some .null, l1, l2, l3] [] st h Q ↔ pb_R 212 25 [some .null, l1, l2, l3] [] (.null :: st) h Q) ∧
  (∀ (L : pb_L) (J : pb_J) (st : List Value) (h : pb_H) (Q : Option Value → pb_H → Prop) (a : Nat), pb_R 212 25 L J (.ref a :: st) h Q ↔ pb_o (pb_gf (h.2 a) 12 24) (fun v => pb_R 212 28 L J (v :: st) h Q)) ∧
  (∀ (L : pb_L) (J : pb_J) (st : List Value) (h : pb_H) (Q : Option Value → pb_H → Prop) (x y : Int32), pb_R 212 28 L J (.int y :: .int x :: st) h Q ↔ if y ≤ x then pb_R 212 78 L J st h Q else pb_R 212 31 L J st h Q) ∧
  (∀ (l1 l2 l3 : Option Value) (st : List Value) (h : pb_H) (Q : Option Value → pb_H → Prop) (x : Nat), pb_R 212 31 [some (.ref x), l1, l2, l3] [] st h Q ↔ pb_R 212 32 [some (.ref x), l1, l2, l3] [] (.ref x :: st) h Q) ∧
  (∀ (l1 l2 l3 : Option Value) (st : List Value) (h : pb_H) (Q : Option Value → pb_H → Prop), pb_R 212 31 [some .null, l1, l2, l3] [] st h Q ↔ pb_R 212 32 [some .null, l1, l2, l3] [] (.null :: st) h Q) ∧
  (∀ (L : pb_L) (J : pb_J) (st : List Value) (h : pb_H) (Q : Option Value → pb_H → Prop) (a : Nat), pb_R 212 32 L J (.ref a :: st) h Q ↔ pb_o (pb_gf (h.2 a) 12 31) (fun v => pb_R 212 35 L J (v :: st) h Q)) ∧
  (∀ (l0 l1 l3 : Option Value) (st : List Value) (h : pb_H) (Q : Option Value → pb_H → Prop) (x : Int32), pb_R 212 35 [l0, l1, some (.int x), l3] [] st h Q ↔ pb_R 212 36 [l0, l1, some (.int x), l3] [] (.int x :: st) h Q) ∧
  (∀ (L : pb_L) (J : pb_J) (st : List Value) (h : pb_H) (Q : Option Value → pb_H → Prop) (a : Nat) (i : Int32), pb_R 212 36 L J (.int i :: .ref a :: st) h Q ↔ pb_o (pb_ai (h.2 a) i) (fun v => pb_R 212 37 L J (.int v :: st) h Q)) ∧
  (∀ (l0 l2 l3 : Option Value) (st : List Value) (h : pb_H) (Q : Option Value → pb_H → Prop) (x : Int32), pb_R 212 37 [l0, some (.int x), l2, l3] [] st h Q ↔ pb_R 212 38 [l0, some (.int x), l2, l3] [] (.int x :: st) h Q) ∧
  (∀ (L : pb_L) (J : pb_J) (st : List Value) (h : pb_H) (Q : Option Value → pb_H → Prop) (x y : Int32), pb_R 212 38 L J (.int y :: .int x :: st) h Q ↔ if y < x then pb_R 212 72 L J st h Q else pb_R 212 41 L J st h Q) ∧
  (∀ (l1 l2 l3 : Option Value) (st : List Value) (h : pb_H) (Q : Option Value → pb_H → Prop) (x : Nat), pb_R 212 41 [some (.ref x), l1, l2, l3] [] st h Q ↔ pb_R 212 42 [some (.ref x), l1, l2, l3] [] (.ref x :: st) h Q) ∧
  (∀ (l1 l2 l3 : Option Value) (st : List Value) (h : pb_H) (Q : Option Value → pb_H → Prop), pb_R 212 41 [some .null, l1, l2, l3] [] st h Q ↔ pb_R 212 42 [some .null, l1, l2, l3] [] (.null :: st) h Q) ∧
  (∀ (L : pb_L) (J : pb_J) (st : List Value) (h : pb_H) (Q : Option Value → pb_H → Prop) (a : Nat), pb_R 212 42 L J (.ref a :: st) h Q ↔ pb_o (pb_gf (h.2 a) 12 30) (fun v => pb_R 212 45 L J (v :: st) h Q)) ∧
  (∀ (l0 l1 l3 : Option Value) (st : List Value) (h : pb_H) (Q : Option Value → pb_H → Prop) (x : Int32), pb_R 212 45 [l0, l1, some (.int x), l3] [] st h Q ↔ pb_R 212 46 [l0, l1, some (.int x), l3] [] (.int x :: st) h Q) ∧
  (∀ (L : pb_L) (J : pb_J) (st : List Value) (h : pb_H) (Q : Option Value → pb_H → Prop) (a : Nat) (i : Int32), pb_R 212 46 L J (.int i :: .ref a :: st) h Q ↔ pb_o (pb_ai (h.2 a) i) (fun v => pb_R 212 47 L J (.int v :: st) h Q)) ∧
  (∀ (l0 l1 l2 l3 : Option Value) (st : List Value) (h : pb_H) (Q : Option Value → pb_H → Prop) (x : Int32), pb_R 212 47 [l0, l1, l2, l3] [] (.int x :: st) h Q ↔ pb_R 212 48 [l0, l1, l2, some (.int x)] [] st h Q) ∧
  (∀ (l1 l2 l3 : Option Value) (st : List Value) (h : pb_H) (Q : Option Value → pb_H → Prop) (x : Nat), pb_R 212 48 [some (.ref x), l1, l2, l3] [] st h Q ↔ pb_R 212 49 [some (.ref x), l1, l2, l3] [] (.ref x :: st) h Q) ∧
  (∀ (l1 l2 l3 : Option Value) (st : List Value) (h : pb_H) (Q : Option Value → pb_H → Prop), pb_R 212 48 [some .null, l1, l2, l3] [] st h Q ↔ pb_R 212 49 [some .null, l1, l2, l3] [] (.null :: st) h Q) ∧
  (∀ (L : pb_L) (J : pb_J) (st : List Value) (h : pb_H) (Q : Option Value → pb_H → Prop) (a : Nat), pb_R 212 49 L J (.ref a :: st) h Q ↔ pb_o (pb_gf (h.2 a) 12 36) (fun v => pb_R 212 52 L J (v :: st) h Q)) ∧
  (∀ (l0 l1 l2 : Option Value) (st : List Value) (h : pb_H) (Q : Option Value → pb_H → Prop) (x : Int32), pb_R 212 52 [l0, l1, l2, some (.int x)] [] st h Q ↔ pb_R 212 53 [l0, l1, l2, some (.int x)] [] (.int x :: st) h Q) ∧
  (∀ (L : pb_L) (J : pb_J) (st : List Value) (h : pb_H) (Q : Option Value → pb_H → Prop) (x : Int32), pb_R 212 53 L J (.int x :: st) h Q ↔ if 0 ≤ x then pb_R 212 61 L J st h Q else pb_R 212 56 L J st h Q) ∧
  (∀ (l0 l1 l2 : Option Value) (st : List Value) (h : pb_H) (Q : Option Value → pb_H → Prop) (x : Int32), pb_R 212 56 [l0, l1, l2, some (.int x)] [] st h Q ↔ pb_R 212 57 [l0, l1, l2, some (.int x)] [] (.int x :: st) h Q) ∧
  (∀ (L : pb_L) (J : pb_J) (st : List Value) (x : Int32) (h : pb_H) (Q : Option Value → pb_H → Prop), pb_R 212 57 L J (.int x :: st) h Q ↔ pb_R 212 58 L J (.int (-x) :: st) h Q) ∧
  (∀ (L : pb_L) (J : pb_J) (st : List Value) (h : pb_H) (Q : Option Value → pb_H → Prop), pb_R 212 58 L J st h Q ↔ pb_R 212 62 L J st h Q) ∧
  (∀ (l0 l1 l2 : Option Value) (st : List Value) (h : pb_H) (Q : Option Value → pb_H → Prop) (x : Int32), pb_R 212 61 [l0, l1, l2, some (.int x)] [] st h Q ↔ pb_R 212 62 [l0, l1, l2, some (.int x)] [] (.int x :: st) h Q) ∧
  (∀ (l0 l1 l2 : Option Value) (st : List Value) (h : pb_H) (Q : Option Value → pb_H → Prop) (x : Int32), pb_R 212 62 [l0, l1, l2, some (.int x)] [] st h Q ↔ pb_R 212 63 [l0, l1, l2, some (.int x)] [] (.int x :: st) h Q) ∧
  (∀ (L : pb_L) (J : pb_J) (st : List Value) (h : pb_H) (Q : Option Value → pb_H → Prop) (x : Int32), pb_R 212 63 L J (.int x :: st) h Q ↔ if 0 ≤ x then pb_R 212 70 L J st h Q else pb_R 212 66 L J st h Q) ∧
  (∀ (L : pb_L) (J : pb_J) (st : List Value) (h : pb_H) (Q : Option Value → pb_H → Prop), pb_R 212 66 L J st h Q ↔ pb_R 212 67 L J (.int (0 : Int32) :: st) h Q) ∧
  (∀ (L : pb_L) (J : pb_J) (st : List Value) (h : pb_H) (Q : Option Value → pb_H → Prop), pb_R 212 67 L J st h Q ↔ pb_R 212 71 L J st h Q) ∧
  (∀ (L : pb_L) (J : pb_J) (st : List Value) (h : pb_H) (Q : Option Value → pb_H → Prop), pb_R 212 70 L J st h Q ↔ pb_R 212 71 L J (.int (1 : Int32) :: st) h Q) ∧
  (∀ (L : pb_L) (J : pb_J) (st : List Value) (h : pb_H) (Q : Option Value → pb_H → Prop) (a : Nat) (i x : Int32), pb_R 212 71 L J (.int x :: .int i :: .ref a :: st) h Q ↔ pb_o (pb_si (h.2 a) i x) (fun c => pb_R 212 72 L J st (pb_set h a c) Q)) ∧
  (∀ (l0 l1 l3 : Option Value) (st : List Value) (h : pb_H) (Q : Option Value → pb_H → Prop) (x : Int32), pb_R 212 72 [l0, l1, some (.int x), l3] [] st h Q ↔ pb_R 212 75 [l0, l1, some (.int (x + (1 : Int32))), l3] [] st h Q) ∧
  (∀ (L : pb_L) (J : pb_J) (st : List Value) (h : pb_H) (Q : Option Value → pb_H → Prop), pb_R 212 75 L J st h Q ↔ pb_R 212 23 L J st h Q) ∧
  (∀ (L : pb_L) (J : pb_J) (h : pb_H) (Q : Option Value → pb_H → Prop), pb_R 212 78 L J [] h Q ↔ Q none h) := ⟨
  fun L J st h Q => pf_S pb_u_212 rfl rfl,
  fun l0 l1 l2 l3 st h Q x => pf_S pb_u_212 rfl rfl,
  fun L J st h Q => pf_S pb_u_212 rfl rfl,
  fun L J st h Q x y => pf_ic pb_u_212 rfl rfl rfl,
  fun l1 l2 l3 st h Q x => pf_S pb_u_212 rfl rfl,
  fun l1 l2 l3 st h Q => pf_S pb_u_212 rfl rfl,
  fun L J st h Q a => pf_gf pb_u_212 rfl rfl,
  fun l0 l1 l3 st h Q x => pf_S pb_u_212 rfl rfl,
  fun L J st h Q => pf_S pb_u_212 rfl rfl,
  fun L J st h Q a i x => pf_si pb_u_212 rfl rfl,
  fun l0 l1 l3 st h Q x => pf_S pb_u_212 rfl rfl,
  fun L J st h Q => pf_S pb_u_212 rfl rfl,
  fun L J st h Q => pf_S pb_u_212 rfl rfl,
  fun l0 l1 l2 l3 st h Q x => pf_S pb_u_212 rfl rfl,
  fun l1 l2 l3 st h Q x => pf_S pb_u_212 rfl rfl,
  fun l1 l2 l3 st h Q => pf_S pb_u_212 rfl rfl,
  fun L J st h Q a => pf_gf pb_u_212 rfl rfl,
  fun L J st h Q x y => pf_ic pb_u_212 rfl rfl rfl,
  fun l1 l2 l3 st h Q x => pf_S pb_u_212 rfl rfl,
  fun l1 l2 l3 st h Q => pf_S pb_u_212 rfl rfl,
  fun L J st h Q a => pf_gf pb_u_212 rfl rfl,
  fun l0 l1 l3 st h Q x => pf_S pb_u_212 rfl rfl,
  fun L J st h Q a i => pf_ai pb_u_212 rfl rfl,
  fun l0 l2 l3 st h Q x => pf_S pb_u_212 rfl rfl,
  fun L J st h Q x y => pf_ic pb_u_212 rfl rfl rfl,
  fun l1 l2 l3 st h Q x => pf_S pb_u_212 rfl rfl,
  fun l1 l2 l3 st h Q => pf_S pb_u_212 rfl rfl,
  fun L J st h Q a => pf_gf pb_u_212 rfl rfl,
  fun l0 l1 l3 st h Q x => pf_S pb_u_212 rfl rfl,
  fun L J st h Q a i => pf_ai pb_u_212 rfl rfl,
  fun l0 l1 l2 l3 st h Q x => pf_S pb_u_212 rfl rfl,
  fun l1 l2 l3 st h Q x => pf_S pb_u_212 rfl rfl,
  fun l1 l2 l3 st h Q => pf_S pb_u_212 rfl rfl,
  fun L J st h Q a => pf_gf pb_u_212 rfl rfl,
  fun l0 l1 l2 st h Q x => pf_S pb_u_212 rfl rfl,
  fun L J st h Q x => pf_ii pb_u_212 rfl rfl rfl,
  fun l0 l1 l2 st h Q x => pf_S pb_u_212 rfl rfl,
  fun L J st x h Q => pf_S pb_u_212 rfl rfl,
  fun L J st h Q => pf_S pb_u_212 rfl rfl,
  fun l0 l1 l2 st h Q x => pf_S pb_u_212 rfl rfl,
  fun l0 l1 l2 st h Q x => pf_S pb_u_212 rfl rfl,
  fun L J st h Q x => pf_ii pb_u_212 rfl rfl rfl,
  fun L J st h Q => pf_S pb_u_212 rfl rfl,
  fun L J st h Q => pf_S pb_u_212 rfl rfl,
  fun L J st h Q => pf_S pb_u_212 rfl rfl,
  fun L J st h Q a i x => pf_si pb_u_212 rfl rfl,
  fun l0 l1 l3 st h Q x => pf_S pb_u_212 rfl rfl,
  fun L J st h Q => pf_S pb_u_212 rfl rfl,
  fun L J h Q => pf_rv pb_u_212 rfl rfl⟩
theorem pb_c212 (x0 : Nat) (x1 : Int32) (h : pb_H) (Q : Option Value → pb_H → Prop) : pb_call 212 [.ref x0, .int x1] h Q ↔ pb_R 212 0 [some (.ref x0), some (.int x1), none, none] [] [] h Q := Iff.rfl
/-! 213: PlaneBenchModel.ready()I -/
theorem pb_u_213 : pb_t 213 = pb_t213 := rfl
theorem pb_ci_213 : pb_ci 213 = 12 := by decide +kernel
set_option maxRecDepth 100000 in
theorem pb_q213_2 (l0 : Option Value) (st : List Value) (h : pb_H) (Q : Option Value → pb_H → Prop) (x : Int32) : pb_R 213 2 [l0, some (.int x)] [] st h Q ↔ pb_R 213 3 [l0, some (.int x)] [] (.int x :: st) h Q := pf_S pb_u_213 rfl rfl
set_option maxRecDepth 100000 in
theorem pb_e213 : (∀ (L : pb_L) (J : pb_J) (st : List Value) (h : pb_H) (Q : Option Value → pb_H → Prop), pb_R 213 0 L J st h Q ↔ pb_R 213 1 L J (.int (0 : Int32) :: st) h Q) ∧
  (∀ (l0 l1 : Option Value) (st : List Value) (h : pb_H) (Q : Option Value → pb_H → Prop) (x : Int32), pb_R 213 1 [l0, l1] [] (.int x :: st) h Q ↔ pb_R 213 2 [l0, some (.int x)] [] st h Q) ∧
  (∀ (l1 : Option Value) (st : List Value) (h : pb_H) (Q : Option Value → pb_H → Prop) (x : Nat), pb_R 213 3 [some (.ref x), l1] [] st h Q ↔ pb_R 213 4 [some (.ref x), l1] [] (.ref x :: st) h Q) ∧
  (∀ (l1 : Option Value) (st : List Value) (h : pb_H) (Q : Option Value → pb_H → Prop), pb_R 213 3 [some .null, l1] [] st h Q ↔ pb_R 213 4 [some .null, l1] [] (.null :: st) h Q) ∧
  (∀ (L : pb_L) (J : pb_J) (st : List Value) (h : pb_H) (Q : Option Value → pb_H → Prop) (a : Nat), pb_R 213 4 L J (.ref a :: st) h Q ↔ pb_o (pb_gf (h.2 a) 12 23) (fun v => pb_R 213 7 L J (v :: st) h Q)) ∧
  (∀ (L : pb_L) (J : pb_J) (st : List Value) (h : pb_H) (Q : Option Value → pb_H → Prop) (x y : Int32), pb_R 213 7 L J (.int y :: .int x :: st) h Q ↔ if y ≤ x then pb_R 213 37 L J st h Q else pb_R 213 10 L J st h Q) ∧
  (∀ (l1 : Option Value) (st : List Value) (h : pb_H) (Q : Option Value → pb_H → Prop) (x : Nat), pb_R 213 10 [some (.ref x), l1] [] st h Q ↔ pb_R 213 11 [some (.ref x), l1] [] (.ref x :: st) h Q) ∧
  (∀ (l1 : Option Value) (st : List Value) (h : pb_H) (Q : Option Value → pb_H → Prop), pb_R 213 10 [some .null, l1] [] st h Q ↔ pb_R 213 11 [some .null, l1] [] (.null :: st) h Q) ∧
  (∀ (l0 : Option Value) (st : List Value) (h : pb_H) (Q : Option Value → pb_H → Prop) (x : Int32), pb_R 213 11 [l0, some (.int x)] [] st h Q ↔ pb_R 213 12 [l0, some (.int x)] [] (.int x :: st) h Q) ∧
  (∀ (L : pb_L) (J : pb_J) (h : pb_H) (Q : Option Value → pb_H → Prop) (x0 : Int32) (x1 : Nat), pb_R 213 12 L J [.int x0, .ref x1] h Q ↔ pb_is0 (h.2 x1) 12 = true ∧ pb_call 212 [.ref x1, .int x0] h (fun v t => pb_R 213 15 L J (v.toList ++ []) t Q)) ∧
  (∀ (l1 : Option Value) (st : List Value) (h : pb_H) (Q : Option Value → pb_H → Prop) (x : Nat), pb_R 213 15 [some (.ref x), l1] [] st h Q ↔ pb_R 213 16 [some (.ref x), l1] [] (.ref x :: st) h Q) ∧
  (∀ (l1 : Option Value) (st : List Value) (h : pb_H) (Q : Option Value → pb_H → Prop), pb_R 213 15 [some .null, l1] [] st h Q ↔ pb_R 213 16 [some .null, l1] [] (.null :: st) h Q) ∧
  (∀ (L : pb_L) (J : pb_J) (st : List Value) (h : pb_H) (Q : Option Value → pb_H → Prop), pb_R 213 16 L J st h Q ↔ pb_R 213 19 L J (.int (314 : Int32) :: st) h Q) ∧
  (∀ (l1 : Option Value) (st : List Value) (h : pb_H) (Q : Option Value → pb_H → Prop) (x : Nat), pb_R 213 19 [some (.ref x), l1] [] st h Q ↔ pb_R 213 20 [some (.ref x), l1] [] (.ref x :: st) h Q) ∧
  (∀ (l1 : Option Value) (st : List Value) (h : pb_H) (Q : Option Value → pb_H → Prop), pb_R 213 19 [some .null, l1] [] st h Q ↔ pb_R 213 20 [some .null, l1] [] (.null :: st) h Q) ∧
  (∀ (L : pb_L) (J : pb_J) (st : List Value) (h : pb_H) (Q : Option Value → pb_H → Prop) (a : Nat), pb_R 213 20 L J (.ref a :: st) h Q ↔ pb_o (pb_gf (h.2 a) 12 36) (fun v => pb_R 213 23 L J (v :: st) h Q)) ∧
  (∀ (L : pb_L) (J : pb_J) (h : pb_H) (Q : Option Value → pb_H → Prop) (x0 : Nat) (x1 : Int32) (x2 : Nat), pb_R 213 23 L J [.ref x0, .int x1, .ref x2] h Q ↔ pb_is0 (h.2 x2) 12 = true ∧ pb_call 172 [.ref x2, .int x1, .ref x0] h (fun v t => pb_R 213 26 L J (v.toList ++ []) t Q)) ∧
  (∀ (L : pb_L) (J : pb_J) (st : List Value) (h : pb_H) (Q : Option Value → pb_H → Prop) (x : Int32), pb_R 213 26 L J (.int x :: st) h Q ↔ if x = 0 then pb_R 213 31 L J st h Q else pb_R 213 29 L J st h Q) ∧
  (∀ (l0 : Option Value) (st : List Value) (h : pb_H) (Q : Option Value → pb_H → Prop) (x : Int32), pb_R 213 29 [l0, some (.int x)] [] st h Q ↔ pb_R 213 30 [l0, some (.int x)] [] (.int x :: st) h Q) ∧
  (∀ (L : pb_L) (J : pb_J) (h : pb_H) (Q : Option Value → pb_H → Prop) (x : Int32), pb_R 213 30 L J [.int x] h Q ↔ Q (some (.int x)) h) ∧
  (∀ (l0 : Option Value) (st : List Value) (h : pb_H) (Q : Option Value → pb_H → Prop) (x : Int32), pb_R 213 31 [l0, some (.int x)] [] st h Q ↔ pb_R 213 34 [l0, some (.int (x + (1 : Int32)))] [] st h Q) ∧
  (∀ (L : pb_L) (J : pb_J) (st : List Value) (h : pb_H) (Q : Option Value → pb_H → Prop), pb_R 213 34 L J st h Q ↔ pb_R 213 2 L J st h Q) ∧
  (∀ (L : pb_L) (J : pb_J) (st : List Value) (h : pb_H) (Q : Option Value → pb_H → Prop), pb_R 213 37 L J st h Q ↔ pb_R 213 38 L J (.int (-1 : Int32) :: st) h Q) ∧
  (∀ (L : pb_L) (J : pb_J) (h : pb_H) (Q : Option Value → pb_H → Prop) (x : Int32), pb_R 213 38 L J [.int x] h Q ↔ Q (some (.int x)) h) := ⟨
  fun L J st h Q => pf_S pb_u_213 rfl rfl,
  fun l0 l1 st h Q x => pf_S pb_u_213 rfl rfl,
  fun l1 st h Q x => pf_S pb_u_213 rfl rfl,
  fun l1 st h Q => pf_S pb_u_213 rfl rfl,
  fun L J st h Q a => pf_gf pb_u_213 rfl rfl,
  fun L J st h Q x y => pf_ic pb_u_213 rfl rfl rfl,
  fun l1 st h Q x => pf_S pb_u_213 rfl rfl,
  fun l1 st h Q => pf_S pb_u_213 rfl rfl,
  fun l0 st h Q x => pf_S pb_u_213 rfl rfl,
  fun L J h Q x0 x1 => pf_kv pb_u_213 rfl pb_ci_212 rfl ⟨Nat.le_of_ble_eq_true rfl, Nat.le_of_ble_eq_true rfl, Nat.le_of_ble_eq_true rfl, Nat.le_of_ble_eq_true rfl, rfl⟩ rfl rfl,
  fun l1 st h Q x => pf_S pb_u_213 rfl rfl,
  fun l1 st h Q => pf_S pb_u_213 rfl rfl,
  fun L J st h Q => pf_S pb_u_213 rfl rfl,
  fun l1 st h Q x => pf_S pb_u_213 rfl rfl,
  fun l1 st h Q => pf_S pb_u_213 rfl rfl,
  fun L J st h Q a => pf_gf pb_u_213 rfl rfl,
  fun L J h Q x0 x1 x2 => pf_kv pb_u_213 rfl pb_ci_172 rfl ⟨Nat.le_of_ble_eq_true rfl, Nat.le_of_ble_eq_true rfl, Nat.le_of_ble_eq_true rfl, Nat.le_of_ble_eq_true rfl, rfl⟩ rfl rfl,
  fun L J st h Q x => pf_ii pb_u_213 rfl rfl rfl,
  fun l0 st h Q x => pf_S pb_u_213 rfl rfl,
  fun L J h Q x => pf_ri pb_u_213 rfl rfl,
  fun l0 st h Q x => pf_S pb_u_213 rfl rfl,
  fun L J st h Q => pf_S pb_u_213 rfl rfl,
  fun L J st h Q => pf_S pb_u_213 rfl rfl,
  fun L J h Q x => pf_ri pb_u_213 rfl rfl⟩
theorem pb_c213 (x0 : Nat) (h : pb_H) (Q : Option Value → pb_H → Prop) : pb_call 213 [.ref x0] h Q ↔ pb_R 213 0 [some (.ref x0), none] [] [] h Q := Iff.rfl
/-! 214: PlaneBenchModel.sign(I)V -/
theorem pb_u_214 : pb_t 214 = pb_t214 := rfl
theorem pb_ci_214 : pb_ci 214 = 12 := by decide +kernel
set_option maxRecDepth 100000 in
theorem pb_e214 : (∀ (l1 : Option Value) (st : List Value) (h : pb_H) (Q : Option Value → pb_H → Prop) (x : Nat), pb_R 214 0 [some (.ref x), l1] [] st h Q ↔ pb_R 214 1 [some (.ref x), l1] [] (.ref x :: st) h Q) ∧
  (∀ (l1 : Option Value) (st : List Value) (h : pb_H) (Q : Option Value → pb_H → Prop), pb_R 214 0 [some .null, l1] [] st h Q ↔ pb_R 214 1 [some .null, l1] [] (.null :: st) h Q) ∧
  (∀ (L : pb_L) (J : pb_J) (st : List Value) (h : pb_H) (Q : Option Value → pb_H → Prop), pb_R 214 1 L J st h Q ↔ pb_R 214 3 L J (.int (32 : Int32) :: st) h Q) ∧
  (∀ (L : pb_L) (J : pb_J) (h : pb_H) (Q : Option Value → pb_H → Prop) (x0 : Int32) (x1 : Nat), pb_R 214 3 L J [.int x0, .ref x1] h Q ↔ pb_is0 (h.2 x1) 12 = true ∧ pb_call 209 [.ref x1, .int x0] h (fun v t => pb_R 214 6 L J (v.toList ++ []) t Q)) ∧
  (∀ (l1 : Option Value) (st : List Value) (h : pb_H) (Q : Option Value → pb_H → Prop) (x : Nat), pb_R 214 6 [some (.ref x), l1] [] st h Q ↔ pb_R 214 7 [some (.ref x), l1] [] (.ref x :: st) h Q) ∧
  (∀ (l1 : Option Value) (st : List Value) (h : pb_H) (Q : Option Value → pb_H → Prop), pb_R 214 6 [some .null, l1] [] st h Q ↔ pb_R 214 7 [some .null, l1] [] (.null :: st) h Q) ∧
  (∀ (l0 : Option Value) (st : List Value) (h : pb_H) (Q : Option Value → pb_H → Prop) (x : Int32), pb_R 214 7 [l0, some (.int x)] [] st h Q ↔ pb_R 214 8 [l0, some (.int x)] [] (.int x :: st) h Q) ∧
  (∀ (L : pb_L) (J : pb_J) (h : pb_H) (Q : Option Value → pb_H → Prop) (x0 : Int32) (x1 : Nat), pb_R 214 8 L J [.int x0, .ref x1] h Q ↔ pb_is0 (h.2 x1) 12 = true ∧ pb_call 209 [.ref x1, .int x0] h (fun v t => pb_R 214 11 L J (v.toList ++ []) t Q)) ∧
  (∀ (L : pb_L) (J : pb_J) (h : pb_H) (Q : Option Value → pb_H → Prop), pb_R 214 11 L J [] h Q ↔ Q none h) := ⟨
  fun l1 st h Q x => pf_S pb_u_214 rfl rfl,
  fun l1 st h Q => pf_S pb_u_214 rfl rfl,
  fun L J st h Q => pf_S pb_u_214 rfl rfl,
  fun L J h Q x0 x1 => pf_kv pb_u_214 rfl pb_ci_209 rfl ⟨Nat.le_of_ble_eq_true rfl, Nat.le_of_ble_eq_true rfl, Nat.le_of_ble_eq_true rfl, Nat.le_of_ble_eq_true rfl, rfl⟩ rfl rfl,
  fun l1 st h Q x => pf_S pb_u_214 rfl rfl,
  fun l1 st h Q => pf_S pb_u_214 rfl rfl,
  fun l0 st h Q x => pf_S pb_u_214 rfl rfl,
  fun L J h Q x0 x1 => pf_kv pb_u_214 rfl pb_ci_209 rfl ⟨Nat.le_of_ble_eq_true rfl, Nat.le_of_ble_eq_true rfl, Nat.le_of_ble_eq_true rfl, Nat.le_of_ble_eq_true rfl, rfl⟩ rfl rfl,
  fun L J h Q => pf_rv pb_u_214 rfl rfl⟩
theorem pb_c214 (x0 : Nat) (x1 : Int32) (h : pb_H) (Q : Option Value → pb_H → Prop) : pb_call 214 [.ref x0, .int x1] h Q ↔ pb_R 214 0 [some (.ref x0), some (.int x1)] [] [] h Q := Iff.rfl
/-! 215: PlaneBenchModel.look(I)Z -/
theorem pb_u_215 : pb_t 215 = pb_t215 := rfl
theorem pb_ci_215 : pb_ci 215 = 12 := by decide +kernel
set_option maxRecDepth 100000 in
theorem pb_q215_134 (l0 l1 l2 l3 l4 l5 l6 l8 : Option Value) (st : List Value) (h : pb_H) (Q : Option Value → pb_H → Prop) (x : Int32) : pb_R 215 134 [l0, l1, l2, l3, l4, l5, l6, some (.int x), l8] [] st h Q ↔ pb_R 215 136 [l0, l1, l2, l3, l4, l5, l6, some (.int x), l8] [] (.int x :: st) h Q := pf_S pb_u_215 rfl rfl
set_option maxRecDepth 100000 in
theorem pb_q215_158 (l0 l1 l2 l3 l4 l5 l6 l8 : Option Value) (st : List Value) (h : pb_H) (Q : Option Value → pb_H → Prop) (x : Int32) : pb_R 215 158 [l0, l1, l2, l3, l4, l5, l6, some (.int x), l8] [] st h Q ↔ pb_R 215 160 [l0, l1, l2, l3, l4, l5, l6, some (.int x), l8] [] (.int x :: st) h Q := pf_S pb_u_215 rfl rfl
set_option maxRecDepth 100000 in
theorem pb_q215_210 (l0 l1 l2 l3 l4 l5 l6 l8 : Option Value) (st : List Value) (h : pb_H) (Q : Option Value → pb_H → Prop) (x : Int32) : pb_R 215 210 [l0, l1, l2, l3, l4, l5, l6, some (.int x), l8] [] st h Q ↔ pb_R 215 212 [l0, l1, l2, l3, l4, l5, l6, some (.int x), l8] [] (.int x :: st) h Q := pf_S pb_u_215 rfl rfl
set_option maxRecDepth 100000 in
theorem pb_e215 : (∀ (l1 l2 l3 l4 l5 l6 l7 l8 : Option Value) (st : List Value) (h : pb_H) (Q : Option Value → pb_H → Prop) (x : Nat), pb_R 215 0 [some (.ref x), l1, l2, l3, l4, l5, l6, l7, l8] [] st h Q ↔ pb_R 215 1 [some (.ref x), l1, l2, l3, l4, l5, l6, l7, l8] [] (.ref x :: st) h Q) ∧
  (∀ (l1 l2 l3 l4 l5 l6 l7 l8 : Option Value) (st : List Value) (h : pb_H) (Q : Option Value → pb_H → Prop), pb_R 215 0 [some .null, l1, l2, l3, l4, l5, l6, l7, l8] [] st h Q ↔ pb_R 215 1 [some .null, l1, l2, l3, l4, l5, l6, l7, l8] [] (.null :: st) h Q) ∧
  (∀ (L : pb_L) (J : pb_J) (st : List Value) (h : pb_H) (Q : Option Value → pb_H → Prop) (a : Nat), pb_R 215 1 L J (.ref a :: st) h Q ↔ pb_o (pb_gf (h.2 a) 12 30) (fun v => pb_R 215 4 L J (v :: st) h Q)) ∧
  (∀ (l0 l2 l3 l4 l5 l6 l7 l8 : Option Value) (st : List Value) (h : pb_H) (Q : Option Value → pb_H → Prop) (x : Int32), pb_R 215 4 [l0, some (.int x), l2, l3, l4, l5, l6, l7, l8] [] st h Q ↔ pb_R 215 5 [l0, some (.int x), l2, l3, l4, l5, l6, l7, l8] [] (.int x :: st) h Q) ∧
  (∀ (L : pb_L) (J : pb_J) (st : List Value) (h : pb_H) (Q : Option Value → pb_H → Prop) (a : Nat) (i : Int32), pb_R 215 5 L J (.int i :: .ref a :: st) h Q ↔ pb_o (pb_ai (h.2 a) i) (fun v => pb_R 215 6 L J (.int v :: st) h Q)) ∧
  (∀ (l0 l1 l2 l3 l4 l5 l6 l7 l8 : Option Value) (st : List Value) (h : pb_H) (Q : Option Value → pb_H → Prop) (x : Int32), pb_R 215 6 [l0, l1, l2, l3, l4, l5, l6, l7, l8] [] (.int x :: st) h Q ↔ pb_R 215 7 [l0, l1, some (.int x), l3, l4, l5, l6, l7, l8] [] st h Q) ∧
  (∀ (l0 l1 l3 l4 l5 l6 l7 l8 : Option Value) (st : List Value) (h : pb_H) (Q : Option Value → pb_H → Prop) (x : Int32), pb_R 215 7 [l0, l1, some (.int x), l3, l4, l5, l6, l7, l8] [] st h Q ↔ pb_R 215 8 [l0, l1, some (.int x), l3, l4, l5, l6, l7, l8] [] (.int x :: st) h Q) ∧
  (∀ (L : pb_L) (J : pb_J) (st : List Value) (h : pb_H) (Q : Option Value → pb_H → Prop) (x : Int32), pb_R 215 8 L J (.int x :: st) h Q ↔ if 0 ≤ x then pb_R 215 16 L J st h Q else pb_R 215 11 L J st h Q) ∧
  (∀ (l0 l1 l3 l4 l5 l6 l7 l8 : Option Value) (st : List Value) (h : pb_H) (Q : Option Value → pb_H → Prop) (x : Int32), pb_R 215 11 [l0, l1, some (.int x), l3, l4, l5, l6, l7, l8] [] st h Q ↔ pb_R 215 12 [l0, l1, some (.int x), l3, l4, l5, l6, l7, l8] [] (.int x :: st) h Q) ∧
  (∀ (L : pb_L) (J : pb_J) (st : List Value) (x : Int32) (h : pb_H) (Q : Option Value → pb_H → Prop), pb_R 215 12 L J (.int x :: st) h Q ↔ pb_R 215 13 L J (.int (-x) :: st) h Q) ∧
  (∀ (L : pb_L) (J : pb_J) (st : List Value) (h : pb_H) (Q : Option Value → pb_H → Prop), pb_R 215 13 L J st h Q ↔ pb_R 215 17 L J st h Q) ∧
  (∀ (l0 l1 l3 l4 l5 l6 l7 l8 : Option Value) (st : List Value) (h : pb_H) (Q : Option Value → pb_H → Prop) (x : Int32), pb_R 215 16 [l0, l1, some (.int x), l3, l4, l5, l6, l7, l8] [] st h Q ↔ pb_R 215 17 [l0, l1, some (.int x), l3, l4, l5, l6, l7, l8] [] (.int x :: st) h Q) ∧
  (∀ (l0 l1 l2 l3 l4 l5 l6 l7 l8 : Option Value) (st : List Value) (h : pb_H) (Q : Option Value → pb_H → Prop) (x : Int32), pb_R 215 17 [l0, l1, l2, l3, l4, l5, l6, l7, l8] [] (.int x :: st) h Q ↔ pb_R 215 18 [l0, l1, l2, some (.int x), l4, l5, l6, l7, l8] [] st h Q) ∧
  (∀ (l0 l1 l3 l4 l5 l6 l7 l8 : Option Value) (st : List Value) (h : pb_H) (Q : Option Value → pb_H → Prop) (x : Int32), pb_R 215 18 [l0, l1, some (.int x), l3, l4, l5, l6, l7, l8] [] st h Q ↔ pb_R 215 19 [l0, l1, some (.int x), l3, l4, l5, l6, l7, l8] [] (.int x :: st) h Q) ∧
  (∀ (L : pb_L) (J : pb_J) (st : List Value) (h : pb_H) (Q : Option Value → pb_H → Prop) (x : Int32), pb_R 215 19 L J (.int x :: st) h Q ↔ if 0 ≤ x then pb_R 215 26 L J st h Q else pb_R 215 22 L J st h Q) ∧
  (∀ (L : pb_L) (J : pb_J) (st : List Value) (h : pb_H) (Q : Option Value → pb_H → Prop), pb_R 215 22 L J st h Q ↔ pb_R 215 23 L J (.int (-1 : Int32) :: st) h Q) ∧
  (∀ (L : pb_L) (J : pb_J) (st : List Value) (h : pb_H) (Q : Option Value → pb_H → Prop), pb_R 215 23 L J st h Q ↔ pb_R 215 27 L J st h Q) ∧
  (∀ (L : pb_L) (J : pb_J) (st : List Value) (h : pb_H) (Q : Option Value → pb_H → Prop), pb_R 215 26 L J st h Q ↔ pb_R 215 27 L J (.int (1 : Int32) :: st) h Q) ∧
  (∀ (l0 l1 l2 l3 l4 l5 l6 l7 l8 : Option Value) (st : List Value) (h : pb_H) (Q : Option Value → pb_H → Prop) (x : Int32), pb_R 215 27 [l0, l1, l2, l3, l4, l5, l6, l7, l8] [] (.int x :: st) h Q ↔ pb_R 215 29 [l0, l1, l2, l3, some (.int x), l5, l6, l7, l8] [] st h Q) ∧
  (∀ (l1 l2 l3 l4 l5 l6 l7 l8 : Option Value) (st : List Value) (h : pb_H) (Q : Option Value → pb_H → Prop) (x : Nat), pb_R 215 29 [some (.ref x), l1, l2, l3, l4, l5, l6, l7, l8] [] st h Q ↔ pb_R 215 30 [some (.ref x), l1, l2, l3, l4, l5, l6, l7, l8] [] (.ref x :: st) h Q) ∧
  (∀ (l1 l2 l3 l4 l5 l6 l7 l8 : Option Value) (st : List Value) (h : pb_H) (Q : Option Value → pb_H → Prop), pb_R 215 29 [some .null, l1, l2, l3, l4, l5, l6, l7, l8] [] st h Q ↔ pb_R 215 30 [some .null, l1, l2, l3, l4, l5, l6, l7, l8] [] (.null :: st) h Q) ∧
  (∀ (L : pb_L) (J : pb_J) (st : List Value) (h : pb_H) (Q : Option Value → pb_H → Prop) (a : Nat), pb_R 215 30 L J (.ref a :: st) h Q ↔ pb_o (pb_gf (h.2 a) 12 1) (fun v => pb_R 215 33 L J (v :: st) h Q)) ∧
  (∀ (L : pb_L) (J : pb_J) (st : List Value) (h : pb_H) (Q : Option Value → pb_H → Prop), pb_R 215 33 L J st h Q ↔ pb_R 215 36 L J (.int (5338 : Int32) :: st) h Q) ∧
  (∀ (l0 l1 l2 l4 l5 l6 l7 l8 : Option Value) (st : List Value) (h : pb_H) (Q : Option Value → pb_H → Prop) (x : Int32), pb_R 215 36 [l0, l1, l2, some (.int x), l4, l5, l6, l7, l8] [] st h Q ↔ pb_R 215 37 [l0, l1, l2, some (.int x), l4, l5, l6, l7, l8] [] (.int x :: st) h Q) ∧
  (∀ (L : pb_L) (J : pb_J) (st : List Value) (x y : Int32) (h : pb_H) (Q : Option Value → pb_H → Prop), pb_R 215 37 L J (.int y :: .int x :: st) h Q ↔ pb_R 215 38 L J (.int (x + y) :: st) h Q) ∧
  (∀ (L : pb_L) (J : pb_J) (st : List Value) (h : pb_H) (Q : Option Value → pb_H → Prop) (a : Nat) (i : Int32), pb_R 215 38 L J (.int i :: .ref a :: st) h Q ↔ pb_o (pb_ai (h.2 a) i) (fun v => pb_R 215 39 L J (.int v :: st) h Q)) ∧
  (∀ (l0 l1 l2 l3 l5 l6 l7 l8 : Option Value) (st : List Value) (h : pb_H) (Q : Option Value → pb_H → Prop) (x : Int32), pb_R 215 39 [l0, l1, l2, l3, some (.int x), l5, l6, l7, l8] [] st h Q ↔ pb_R 215 41 [l0, l1, l2, l3, some (.int x), l5, l6, l7, l8] [] (.int x :: st) h Q) ∧
  (∀ (L : pb_L) (J : pb_J) (st : List Value) (x : Int32) (h : pb_H) (Q : Option Value → pb_H → Prop), pb_R 215 41 L J (.int x :: st) h Q ↔ pb_R 215 42 L J (.int (-x) :: st) h Q) ∧
  (∀ (L : pb_L) (J : pb_J) (st : List Value) (h : pb_H) (Q : Option Value → pb_H → Prop) (x y : Int32), pb_R 215 42 L J (.int y :: .int x :: st) h Q ↔ if ¬ x = y then pb_R 215 54 L J st h Q else pb_R 215 45 L J st h Q) ∧
  (∀ (l1 l2 l3 l4 l5 l6 l7 l8 : Option Value) (st : List Value) (h : pb_H) (Q : Option Value → pb_H → Prop) (x : Nat), pb_R 215 45 [some (.ref x), l1, l2, l3, l4, l5, l6, l7, l8] [] st h Q ↔ pb_R 215 46 [some (.ref x), l1, l2, l3, l4, l5, l6, l7, l8] [] (.ref x :: st) h Q) ∧
  (∀ (l1 l2 l3 l4 l5 l6 l7 l8 : Option Value) (st : List Value) (h : pb_H) (Q : Option Value → pb_H → Prop), pb_R 215 45 [some .null, l1, l2, l3, l4, l5, l6, l7, l8] [] st h Q ↔ pb_R 215 46 [some .null, l1, l2, l3, l4, l5, l6, l7, l8] [] (.null :: st) h Q) ∧
  (∀ (L : pb_L) (J : pb_J) (st : List Value) (h : pb_H) (Q : Option Value → pb_H → Prop) (a : Nat), pb_R 215 46 L J (.ref a :: st) h Q ↔ pb_o (pb_gf (h.2 a) 12 32) (fun v => pb_R 215 49 L J (v :: st) h Q)) ∧
  (∀ (l0 l2 l3 l4 l5 l6 l7 l8 : Option Value) (st : List Value) (h : pb_H) (Q : Option Value → pb_H → Prop) (x : Int32), pb_R 215 49 [l0, some (.int x), l2, l3, l4, l5, l6, l7, l8] [] st h Q ↔ pb_R 215 50 [l0, some (.int x), l2, l3, l4, l5, l6, l7, l8] [] (.int x :: st) h Q) ∧
  (∀ (L : pb_L) (J : pb_J) (st : List Value) (h : pb_H) (Q : Option Value → pb_H → Prop) (a : Nat) (i : Int32), pb_R 215 50 L J (.int i :: .ref a :: st) h Q ↔ pb_o (pb_ai (h.2 a) i) (fun v => pb_R 215 51 L J (.int v :: st) h Q)) ∧
  (∀ (L : pb_L) (J : pb_J) (st : List Value) (h : pb_H) (Q : Option Value → pb_H → Prop) (x : Int32), pb_R 215 51 L J (.int x :: st) h Q ↔ if ¬ x = 0 then pb_R 215 56 L J st h Q else pb_R 215 54 L J st h Q) ∧
  (∀ (L : pb_L) (J : pb_J) (st : List Value) (h : pb_H) (Q : Option Value → pb_H → Prop), pb_R 215 54 L J st h Q ↔ pb_R 215 55 L J (.int (1 : Int32) :: st) h Q) ∧
  (∀ (L : pb_L) (J : pb_J) (h : pb_H) (Q : Option Value → pb_H → Prop) (x : Int32), pb_R 215 55 L J [.int x] h Q ↔ narrow .boolean (.int x) = .int x ∧ Q (some (.int x)) h) ∧
  (∀ (L : pb_L) (J : pb_J) (st : List Value) (h : pb_H) (Q : Option Value → pb_H → Prop), pb_R 215 56 L J st h Q ↔ pb_R 215 59 L J (.int (320 : Int32) :: st) h Q) ∧
  (∀ (L : pb_L) (J : pb_J) (st : List Value) (h : pb_H) (Q : Option Value → pb_H → Prop), pb_R 215 59 L J st h Q ↔ pb_R 215 61 L J (.int (6 : Int32) :: st) h Q) ∧
  (∀ (L : pb_L) (J : pb_J) (h : pb_H) (Q : Option Value → pb_H → Prop) (x0 : Int32) (x1 : Int32), pb_R 215 61 L J [.int x0, .int x1] h Q ↔ pb_call 143 [.int x1, .int x0] h (fun v t => pb_R 215 64 L J (v.toList ++ []) t Q)) ∧
  (∀ (l0 l1 l2 l3 l4 l5 l6 l7 l8 : Option Value) (st : List Value) (h : pb_H) (Q : Option Value → pb_H → Prop) (x : Int32), pb_R 215 64 [l0, l1, l2, l3, l4, l5, l6, l7, l8] [] (.int x :: st) h Q ↔ pb_R 215 66 [l0, l1, l2, l3, l4, some (.int x), l6, l7, l8] [] st h Q) ∧
  (∀ (L : pb_L) (J : pb_J) (st : List Value) (h : pb_H) (Q : Option Value → pb_H → Prop), pb_R 215 66 L J st h Q ↔ pb_R 215 69 L J (.int (320 : Int32) :: st) h Q) ∧
  (∀ (L : pb_L) (J : pb_J) (st : List Value) (h : pb_H) (Q : Option Value → pb_H → Prop), pb_R 215 69 L J st h Q ↔ pb_R 215 71 L J (.int (7 : Int32) :: st) h Q) ∧
  (∀ (L : pb_L) (J : pb_J) (h : pb_H) (Q : Option Value → pb_H → Prop) (x0 : Int32) (x1 : Int32), pb_R 215 71 L J [.int x0, .int x1] h Q ↔ pb_call 143 [.int x1, .int x0] h (fun v t => pb_R 215 74 L J (v.toList ++ []) t Q)) ∧
  (∀ (l0 l1 l2 l3 l4 l5 l6 l7 l8 : Option Value) (st : List Value) (h : pb_H) (Q : Option Value → pb_H → Prop) (x : Int32), pb_R 215 74 [l0, l1, l2, l3, l4, l5, l6, l7, l8] [] (.int x :: st) h Q ↔ pb_R 215 76 [l0, l1, l2, l3, l4, l5, some (.int x), l7, l8] [] st h Q) ∧
  (∀ (l1 l2 l3 l4 l5 l6 l7 l8 : Option Value) (st : List Value) (h : pb_H) (Q : Option Value → pb_H → Prop) (x : Nat), pb_R 215 76 [some (.ref x), l1, l2, l3, l4, l5, l6, l7, l8] [] st h Q ↔ pb_R 215 77 [some (.ref x), l1, l2, l3, l4, l5, l6, l7, l8] [] (.ref x :: st) h Q) ∧
  (∀ (l1 l2 l3 l4 l5 l6 l7 l8 : Option Value) (st : List Value) (h : pb_H) (Q : Option Value → pb_H → Prop), pb_R 215 76 [some .null, l1, l2, l3, l4, l5, l6, l7, l8] [] st h Q ↔ pb_R 215 77 [some .null, l1, l2, l3, l4, l5, l6, l7, l8] [] (.null :: st) h Q) ∧
  (∀ (L : pb_L) (J : pb_J) (st : List Value) (h : pb_H) (Q : Option Value → pb_H → Prop), pb_R 215 77 L J st h Q ↔ pb_R 215 80 L J (.int (314 : Int32) :: st) h Q) ∧
  (∀ (l0 l1 l2 l4 l5 l6 l7 l8 : Option Value) (st : List Value) (h : pb_H) (Q : Option Value → pb_H → Prop) (x : Int32), pb_R 215 80 [l0, l1, l2, some (.int x), l4, l5, l6, l7, l8] [] st h Q ↔ pb_R 215 81 [l0, l1, l2, some (.int x), l4, l5, l6, l7, l8] [] (.int x :: st) h Q) ∧
  (∀ (L : pb_L) (J : pb_J) (h : pb_H) (Q : Option Value → pb_H → Prop) (x0 : Int32) (x1 : Int32) (x2 : Nat), pb_R 215 81 L J [.int x0, .int x1, .ref x2] h Q ↔ pb_call 143 [.int x1, .int x0] h (fun v t => pb_R 215 84 L J (v.toList ++ [.ref x2]) t Q)) ∧
  (∀ (l0 l1 l2 l3 l4 l6 l7 l8 : Option Value) (st : List Value) (h : pb_H) (Q : Option Value → pb_H → Prop) (x : Int32), pb_R 215 84 [l0, l1, l2, l3, l4, some (.int x), l6, l7, l8] [] st h Q ↔ pb_R 215 86 [l0, l1, l2, l3, l4, some (.int x), l6, l7, l8] [] (.int x :: st) h Q) ∧
  (∀ (L : pb_L) (J : pb_J) (h : pb_H) (Q : Option Value → pb_H → Prop) (x0 : Int32) (x1 : Int32) (x2 : Nat), pb_R 215 86 L J [.int x0, .int x1, .ref x2] h Q ↔ pb_is0 (h.2 x2) 12 = true ∧ pb_call 146 [.ref x2, .int x1, .int x0] h (fun v t => pb_R 215 89 L J (v.toList ++ []) t Q)) ∧
  (∀ (l1 l2 l3 l4 l5 l6 l7 l8 : Option Value) (st : List Value) (h : pb_H) (Q : Option Value → pb_H → Prop) (x : Nat), pb_R 215 89 [some (.ref x), l1, l2, l3, l4, l5, l6, l7, l8] [] st h Q ↔ pb_R 215 90 [some (.ref x), l1, l2, l3, l4, l5, l6, l7, l8] [] (.ref x :: st) h Q) ∧
  (∀ (l1 l2 l3 l4 l5 l6 l7 l8 : Option Value) (st : List Value) (h : pb_H) (Q : Option Value → pb_H → Prop), pb_R 215 89 [some .null, l1, l2, l3, l4, l5, l6, l7, l8] [] st h Q ↔ pb_R 215 90 [some .null, l1, l2, l3, l4, l5, l6, l7, l8] [] (.null :: st) h Q) ∧
  (∀ (l1 l2 l3 l4 l5 l6 l7 l8 : Option Value) (st : List Value) (h : pb_H) (Q : Option Value → pb_H → Prop) (x : Nat), pb_R 215 90 [some (.ref x), l1, l2, l3, l4, l5, l6, l7, l8] [] st h Q ↔ pb_R 215 91 [some (.ref x), l1, l2, l3, l4, l5, l6, l7, l8] [] (.ref x :: st) h Q) ∧
  (∀ (l1 l2 l3 l4 l5 l6 l7 l8 : Option Value) (st : List Value) (h : pb_H) (Q : Option Value → pb_H → Prop), pb_R 215 90 [some .null, l1, l2, l3, l4, l5, l6, l7, l8] [] st h Q ↔ pb_R 215 91 [some .null, l1, l2, l3, l4, l5, l6, l7, l8] [] (.null :: st) h Q) ∧
  (∀ (L : pb_L) (J : pb_J) (st : List Value) (h : pb_H) (Q : Option Value → pb_H → Prop) (a : Nat), pb_R 215 91 L J (.ref a :: st) h Q ↔ pb_o (pb_gf (h.2 a) 12 32) (fun v => pb_R 215 94 L J (v :: st) h Q)) ∧
  (∀ (l0 l2 l3 l4 l5 l6 l7 l8 : Option Value) (st : List Value) (h : pb_H) (Q : Option Value → pb_H → Prop) (x : Int32), pb_R 215 94 [l0, some (.int x), l2, l3, l4, l5, l6, l7, l8] [] st h Q ↔ pb_R 215 95 [l0, some (.int x), l2, l3, l4, l5, l6, l7, l8] [] (.int x :: st) h Q) ∧
  (∀ (L : pb_L) (J : pb_J) (st : List Value) (h : pb_H) (Q : Option Value → pb_H → Prop) (a : Nat) (i : Int32), pb_R 215 95 L J (.int i :: .ref a :: st) h Q ↔ pb_o (pb_ai (h.2 a) i) (fun v => pb_R 215 96 L J (.int v :: st) h Q)) ∧
  (∀ (L : pb_L) (J : pb_J) (st : List Value) (h : pb_H) (Q : Option Value → pb_H → Prop), pb_R 215 96 L J st h Q ↔ pb_R 215 99 L J (.int (315 : Int32) :: st) h Q) ∧
  (∀ (L : pb_L) (J : pb_J) (h : pb_H) (Q : Option Value → pb_H → Prop) (x0 : Int32) (x1 : Int32) (x2 : Nat), pb_R 215 99 L J [.int x0, .int x1, .ref x2] h Q ↔ pb_is0 (h.2 x2) 12 = true ∧ pb_call 162 [.ref x2, .int x1, .int x0] h (fun v t => pb_R 215 102 L J (v.toList ++ []) t Q)) ∧
  (∀ (l1 l2 l3 l4 l5 l6 l7 l8 : Option Value) (st : List Value) (h : pb_H) (Q : Option Value → pb_H → Prop) (x : Nat), pb_R 215 102 [some (.ref x), l1, l2, l3, l4, l5, l6, l7, l8] [] st h Q ↔ pb_R 215 103 [some (.ref x), l1, l2, l3, l4, l5, l6, l7, l8] [] (.ref x :: st) h Q) ∧
  (∀ (l1 l2 l3 l4 l5 l6 l7 l8 : Option Value) (st : List Value) (h : pb_H) (Q : Option Value → pb_H → Prop), pb_R 215 102 [some .null, l1, l2, l3, l4, l5, l6, l7, l8] [] st h Q ↔ pb_R 215 103 [some .null, l1, l2, l3, l4, l5, l6, l7, l8] [] (.null :: st) h Q) ∧
  (∀ (L : pb_L) (J : pb_J) (st : List Value) (h : pb_H) (Q : Option Value → pb_H → Prop), pb_R 215 103 L J st h Q ↔ pb_R 215 106 L J (.int (315 : Int32) :: st) h Q) ∧
  (∀ (l0 l1 l2 l4 l5 l6 l7 l8 : Option Value) (st : List Value) (h : pb_H) (Q : Option Value → pb_H → Prop) (x : Int32), pb_R 215 106 [l0, l1, l2, some (.int x), l4, l5, l6, l7, l8] [] st h Q ↔ pb_R 215 107 [l0, l1, l2, some (.int x), l4, l5, l6, l7, l8] [] (.int x :: st) h Q) ∧
  (∀ (L : pb_L) (J : pb_J) (h : pb_H) (Q : Option Value → pb_H → Prop) (x0 : Int32) (x1 : Int32) (x2 : Nat), pb_R 215 107 L J [.int x0, .int x1, .ref x2] h Q ↔ pb_call 143 [.int x1, .int x0] h (fun v t => pb_R 215 110 L J (v.toList ++ [.ref x2]) t Q)) ∧
  (∀ (l0 l1 l2 l3 l4 l5 l7 l8 : Option Value) (st : List Value) (h : pb_H) (Q : Option Value → pb_H → Prop) (x : Int32), pb_R 215 110 [l0, l1, l2, l3, l4, l5, some (.int x), l7, l8] [] st h Q ↔ pb_R 215 112 [l0, l1, l2, l3, l4, l5, some (.int x), l7, l8] [] (.int x :: st) h Q) ∧
  (∀ (L : pb_L) (J : pb_J) (h : pb_H) (Q : Option Value → pb_H → Prop) (x0 : Int32) (x1 : Int32) (x2 : Nat), pb_R 215 112 L J [.int x0, .int x1, .ref x2] h Q ↔ pb_is0 (h.2 x2) 12 = true ∧ pb_call 146 [.ref x2, .int x1, .int x0] h (fun v t => pb_R 215 115 L J (v.toList ++ []) t Q)) ∧
  (∀ (l1 l2 l3 l4 l5 l6 l7 l8 : Option Value) (st : List Value) (h : pb_H) (Q : Option Value → pb_H → Prop) (x : Nat), pb_R 215 115 [some (.ref x), l1, l2, l3, l4, l5, l6, l7, l8] [] st h Q ↔ pb_R 215 116 [some (.ref x), l1, l2, l3, l4, l5, l6, l7, l8] [] (.ref x :: st) h Q) ∧
  (∀ (l1 l2 l3 l4 l5 l6 l7 l8 : Option Value) (st : List Value) (h : pb_H) (Q : Option Value → pb_H → Prop), pb_R 215 115 [some .null, l1, l2, l3, l4, l5, l6, l7, l8] [] st h Q ↔ pb_R 215 116 [some .null, l1, l2, l3, l4, l5, l6, l7, l8] [] (.null :: st) h Q) ∧
  (∀ (L : pb_L) (J : pb_J) (st : List Value) (h : pb_H) (Q : Option Value → pb_H → Prop), pb_R 215 116 L J st h Q ↔ pb_R 215 118 L J (.int (32 : Int32) :: st) h Q) ∧
  (∀ (L : pb_L) (J : pb_J) (h : pb_H) (Q : Option Value → pb_H → Prop) (x0 : Int32) (x1 : Nat), pb_R 215 118 L J [.int x0, .ref x1] h Q ↔ pb_is0 (h.2 x1) 12 = true ∧ pb_call 209 [.ref x1, .int x0] h (fun v t => pb_R 215 121 L J (v.toList ++ []) t Q)) ∧
  (∀ (l1 l2 l3 l4 l5 l6 l7 l8 : Option Value) (st : List Value) (h : pb_H) (Q : Option Value → pb_H → Prop) (x : Nat), pb_R 215 121 [some (.ref x), l1, l2, l3, l4, l5, l6, l7, l8] [] st h Q ↔ pb_R 215 122 [some (.ref x), l1, l2, l3, l4, l5, l6, l7, l8] [] (.ref x :: st) h Q) ∧
  (∀ (l1 l2 l3 l4 l5 l6 l7 l8 : Option Value) (st : List Value) (h : pb_H) (Q : Option Value → pb_H → Prop), pb_R 215 121 [some .null, l1, l2, l3, l4, l5, l6, l7, l8] [] st h Q ↔ pb_R 215 122 [some .null, l1, l2, l3, l4, l5, l6, l7, l8] [] (.null :: st) h Q) ∧
  (∀ (l1 l2 l3 l4 l5 l6 l7 l8 : Option Value) (st : List Value) (h : pb_H) (Q : Option Value → pb_H → Prop) (x : Nat), pb_R 215 122 [some (.ref x), l1, l2, l3, l4, l5, l6, l7, l8] [] st h Q ↔ pb_R 215 123 [some (.ref x), l1, l2, l3, l4, l5, l6, l7, l8] [] (.ref x :: st) h Q) ∧
  (∀ (l1 l2 l3 l4 l5 l6 l7 l8 : Option Value) (st : List Value) (h : pb_H) (Q : Option Value → pb_H → Prop), pb_R 215 122 [some .null, l1, l2, l3, l4, l5, l6, l7, l8] [] st h Q ↔ pb_R 215 123 [some .null, l1, l2, l3, l4, l5, l6, l7, l8] [] (.null :: st) h Q) ∧
  (∀ (L : pb_L) (J : pb_J) (st : List Value) (h : pb_H) (Q : Option Value → pb_H → Prop) (a : Nat), pb_R 215 123 L J (.ref a :: st) h Q ↔ pb_o (pb_gf (h.2 a) 12 32) (fun v => pb_R 215 126 L J (v :: st) h Q)) ∧
  (∀ (l0 l2 l3 l4 l5 l6 l7 l8 : Option Value) (st : List Value) (h : pb_H) (Q : Option Value → pb_H → Prop) (x : Int32), pb_R 215 126 [l0, some (.int x), l2, l3, l4, l5, l6, l7, l8] [] st h Q ↔ pb_R 215 127 [l0, some (.int x), l2, l3, l4, l5, l6, l7, l8] [] (.int x :: st) h Q) ∧
  (∀ (L : pb_L) (J : pb_J) (st : List Value) (h : pb_H) (Q : Option Value → pb_H → Prop) (a : Nat) (i : Int32), pb_R 215 127 L J (.int i :: .ref a :: st) h Q ↔ pb_o (pb_ai (h.2 a) i) (fun v => pb_R 215 128 L J (.int v :: st) h Q)) ∧
  (∀ (L : pb_L) (J : pb_J) (h : pb_H) (Q : Option Value → pb_H → Prop) (x0 : Int32) (x1 : Nat), pb_R 215 128 L J [.int x0, .ref x1] h Q ↔ pb_is0 (h.2 x1) 12 = true ∧ pb_call 211 [.ref x1, .int x0] h (fun v t => pb_R 215 131 L J (v.toList ++ []) t Q)) ∧
  (∀ (L : pb_L) (J : pb_J) (st : List Value) (h : pb_H) (Q : Option Value → pb_H → Prop), pb_R 215 131 L J st h Q ↔ pb_R 215 132 L J (.int (0 : Int32) :: st) h Q) ∧
  (∀ (l0 l1 l2 l3 l4 l5 l6 l7 l8 : Option Value) (st : List Value) (h : pb_H) (Q : Option Value → pb_H → Prop) (x : Int32), pb_R 215 132 [l0, l1, l2, l3, l4, l5, l6, l7, l8] [] (.int x :: st) h Q ↔ pb_R 215 134 [l0, l1, l2, l3, l4, l5, l6, some (.int x), l8] [] st h Q) ∧
  (∀ (L : pb_L) (J : pb_J) (st : List Value) (h : pb_H) (Q : Option Value → pb_H → Prop), pb_R 215 136 L J st h Q ↔ pb_R 215 138 L J (.int (17 : Int32) :: st) h Q) ∧
  (∀ (L : pb_L) (J : pb_J) (st : List Value) (h : pb_H) (Q : Option Value → pb_H → Prop) (x y : Int32), pb_R 215 138 L J (.int y :: .int x :: st) h Q ↔ if y ≤ x then pb_R 215 155 L J st h Q else pb_R 215 141 L J st h Q) ∧
  (∀ (l1 l2 l3 l4 l5 l6 l7 l8 : Option Value) (st : List Value) (h : pb_H) (Q : Option Value → pb_H → Prop) (x : Nat), pb_R 215 141 [some (.ref x), l1, l2, l3, l4, l5, l6, l7, l8] [] st h Q ↔ pb_R 215 142 [some (.ref x), l1, l2, l3, l4, l5, l6, l7, l8] [] (.ref x :: st) h Q) ∧
  (∀ (l1 l2 l3 l4 l5 l6 l7 l8 : Option Value) (st : List Value) (h : pb_H) (Q : Option Value → pb_H → Prop), pb_R 215 141 [some .null, l1, l2, l3, l4, l5, l6, l7, l8] [] st h Q ↔ pb_R 215 142 [some .null, l1, l2, l3, l4, l5, l6, l7, l8] [] (.null :: st) h Q) ∧
  (∀ (L : pb_L) (J : pb_J) (st : List Value) (h : pb_H) (Q : Option Value → pb_H → Prop) (a : Nat), pb_R 215 142 L J (.ref a :: st) h Q ↔ pb_o (pb_gf (h.2 a) 12 36) (fun v => pb_R 215 145 L J (v :: st) h Q)) ∧
  (∀ (l0 l1 l2 l3 l4 l5 l6 l8 : Option Value) (st : List Value) (h : pb_H) (Q : Option Value → pb_H → Prop) (x : Int32), pb_R 215 145 [l0, l1, l2, l3, l4, l5, l6, some (.int x), l8] [] st h Q ↔ pb_R 215 147 [l0, l1, l2, l3, l4, l5, l6, some (.int x), l8] [] (.int x :: st) h Q) ∧
  (∀ (L : pb_L) (J : pb_J) (st : List Value) (h : pb_H) (Q : Option Value → pb_H → Prop), pb_R 215 147 L J st h Q ↔ pb_R 215 148 L J (.int (-1 : Int32) :: st) h Q) ∧
  (∀ (L : pb_L) (J : pb_J) (st : List Value) (h : pb_H) (Q : Option Value → pb_H → Prop) (a : Nat) (i x : Int32), pb_R 215 148 L J (.int x :: .int i :: .ref a :: st) h Q ↔ pb_o (pb_si (h.2 a) i x) (fun c => pb_R 215 149 L J st (pb_set h a c) Q)) ∧
  (∀ (l0 l1 l2 l3 l4 l5 l6 l8 : Option Value) (st : List Value) (h : pb_H) (Q : Option Value → pb_H → Prop) (x : Int32), pb_R 215 149 [l0, l1, l2, l3, l4, l5, l6, some (.int x), l8] [] st h Q ↔ pb_R 215 152 [l0, l1, l2, l3, l4, l5, l6, some (.int (x + (1 : Int32))), l8] [] st h Q) ∧
  (∀ (L : pb_L) (J : pb_J) (st : List Value) (h : pb_H) (Q : Option Value → pb_H → Prop), pb_R 215 152 L J st h Q ↔ pb_R 215 134 L J st h Q) ∧
  (∀ (L : pb_L) (J : pb_J) (st : List Value) (h : pb_H) (Q : Option Value → pb_H → Prop), pb_R 215 155 L J st h Q ↔ pb_R 215 156 L J (.int (0 : Int32) :: st) h Q) ∧
  (∀ (l0 l1 l2 l3 l4 l5 l6 l7 l8 : Option Value) (st : List Value) (h : pb_H) (Q : Option Value → pb_H → Prop) (x : Int32), pb_R 215 156 [l0, l1, l2, l3, l4, l5, l6, l7, l8] [] (.int x :: st) h Q ↔ pb_R 215 158 [l0, l1, l2, l3, l4, l5, l6, some (.int x), l8] [] st h Q) ∧
  (∀ (l0 l2 l3 l4 l5 l6 l7 l8 : Option Value) (st : List Value) (h : pb_H) (Q : Option Value → pb_H → Prop) (x : Int32), pb_R 215 160 [l0, some (.int x), l2, l3, l4, l5, l6, l7, l8] [] st h Q ↔ pb_R 215 161 [l0, some (.int x), l2, l3, l4, l5, l6, l7, l8] [] (.int x :: st) h Q) ∧
  (∀ (L : pb_L) (J : pb_J) (st : List Value) (h : pb_H) (Q : Option Value → pb_H → Prop) (x y : Int32), pb_R 215 161 L J (.int y :: .int x :: st) h Q ↔ if y ≤ x then pb_R 215 207 L J st h Q else pb_R 215 164 L J st h Q) ∧
  (∀ (l1 l2 l3 l4 l5 l6 l7 l8 : Option Value) (st : List Value) (h : pb_H) (Q : Option Value → pb_H → Prop) (x : Nat), pb_R 215 164 [some (.ref x), l1, l2, l3, l4, l5, l6, l7, l8] [] st h Q ↔ pb_R 215 165 [some (.ref x), l1, l2, l3, l4, l5, l6, l7, l8] [] (.ref x :: st) h Q) ∧
  (∀ (l1 l2 l3 l4 l5 l6 l7 l8 : Option Value) (st : List Value) (h : pb_H) (Q : Option Value → pb_H → Prop), pb_R 215 164 [some .null, l1, l2, l3, l4, l5, l6, l7, l8] [] st h Q ↔ pb_R 215 165 [some .null, l1, l2, l3, l4, l5, l6, l7, l8] [] (.null :: st) h Q) ∧
  (∀ (L : pb_L) (J : pb_J) (st : List Value) (h : pb_H) (Q : Option Value → pb_H → Prop) (a : Nat), pb_R 215 165 L J (.ref a :: st) h Q ↔ pb_o (pb_gf (h.2 a) 12 30) (fun v => pb_R 215 168 L J (v :: st) h Q)) ∧
  (∀ (l0 l1 l2 l3 l4 l5 l6 l8 : Option Value) (st : List Value) (h : pb_H) (Q : Option Value → pb_H → Prop) (x : Int32), pb_R 215 168 [l0, l1, l2, l3, l4, l5, l6, some (.int x), l8] [] st h Q ↔ pb_R 215 170 [l0, l1, l2, l3, l4, l5, l6, some (.int x), l8] [] (.int x :: st) h Q) ∧
  (∀ (L : pb_L) (J : pb_J) (st : List Value) (h : pb_H) (Q : Option Value → pb_H → Prop) (a : Nat) (i : Int32), pb_R 215 170 L J (.int i :: .ref a :: st) h Q ↔ pb_o (pb_ai (h.2 a) i) (fun v => pb_R 215 171 L J (.int v :: st) h Q)) ∧
  (∀ (l0 l1 l2 l3 l4 l5 l6 l7 l8 : Option Value) (st : List Value) (h : pb_H) (Q : Option Value → pb_H → Prop) (x : Int32), pb_R 215 171 [l0, l1, l2, l3, l4, l5, l6, l7, l8] [] (.int x :: st) h Q ↔ pb_R 215 173 [l0, l1, l2, l3, l4, l5, l6, l7, some (.int x)] [] st h Q) ∧
  (∀ (l1 l2 l3 l4 l5 l6 l7 l8 : Option Value) (st : List Value) (h : pb_H) (Q : Option Value → pb_H → Prop) (x : Nat), pb_R 215 173 [some (.ref x), l1, l2, l3, l4, l5, l6, l7, l8] [] st h Q ↔ pb_R 215 174 [some (.ref x), l1, l2, l3, l4, l5, l6, l7, l8] [] (.ref x :: st) h Q) ∧
  (∀ (l1 l2 l3 l4 l5 l6 l7 l8 : Option Value) (st : List Value) (h : pb_H) (Q : Option Value → pb_H → Prop), pb_R 215 173 [some .null, l1, l2, l3, l4, l5, l6, l7, l8] [] st h Q ↔ pb_R 215 174 [some .null, l1, l2, l3, l4, l5, l6, l7, l8] [] (.null :: st) h Q) ∧
  (∀ (L : pb_L) (J : pb_J) (st : List Value) (h : pb_H) (Q : Option Value → pb_H → Prop) (a : Nat), pb_R 215 174 L J (.ref a :: st) h Q ↔ pb_o (pb_gf (h.2 a) 12 36) (fun v => pb_R 215 177 L J (v :: st) h Q)) ∧
  (∀ (l0 l1 l2 l3 l4 l5 l6 l7 : Option Value) (st : List Value) (h : pb_H) (Q : Option Value → pb_H → Prop) (x : Int32), pb_R 215 177 [l0, l1, l2, l3, l4, l5, l6, l7, some (.int x)] [] st h Q ↔ pb_R 215 179 [l0, l1, l2, l3, l4, l5, l6, l7, some (.int x)] [] (.int x :: st) h Q) ∧
  (∀ (L : pb_L) (J : pb_J) (st : List Value) (h : pb_H) (Q : Option Value → pb_H → Prop) (x : Int32), pb_R 215 179 L J (.int x :: st) h Q ↔ if 0 ≤ x then pb_R 215 188 L J st h Q else pb_R 215 182 L J st h Q) ∧
  (∀ (l0 l1 l2 l3 l4 l5 l6 l7 : Option Value) (st : List Value) (h : pb_H) (Q : Option Value → pb_H → Prop) (x : Int32), pb_R 215 182 [l0, l1, l2, l3, l4, l5, l6, l7, some (.int x)] [] st h Q ↔ pb_R 215 184 [l0, l1, l2, l3, l4, l5, l6, l7, some (.int x)] [] (.int x :: st) h Q) ∧
  (∀ (L : pb_L) (J : pb_J) (st : List Value) (x : Int32) (h : pb_H) (Q : Option Value → pb_H → Prop), pb_R 215 184 L J (.int x :: st) h Q ↔ pb_R 215 185 L J (.int (-x) :: st) h Q) ∧
  (∀ (L : pb_L) (J : pb_J) (st : List Value) (h : pb_H) (Q : Option Value → pb_H → Prop), pb_R 215 185 L J st h Q ↔ pb_R 215 190 L J st h Q) ∧
  (∀ (l0 l1 l2 l3 l4 l5 l6 l7 : Option Value) (st : List Value) (h : pb_H) (Q : Option Value → pb_H → Prop) (x : Int32), pb_R 215 188 [l0, l1, l2, l3, l4, l5, l6, l7, some (.int x)] [] st h Q ↔ pb_R 215 190 [l0, l1, l2, l3, l4, l5, l6, l7, some (.int x)] [] (.int x :: st) h Q) ∧
  (∀ (l0 l1 l2 l3 l4 l5 l6 l7 : Option Value) (st : List Value) (h : pb_H) (Q : Option Value → pb_H → Prop) (x : Int32), pb_R 215 190 [l0, l1, l2, l3, l4, l5, l6, l7, some (.int x)] [] st h Q ↔ pb_R 215 192 [l0, l1, l2, l3, l4, l5, l6, l7, some (.int x)] [] (.int x :: st) h Q) ∧
  (∀ (L : pb_L) (J : pb_J) (st : List Value) (h : pb_H) (Q : Option Value → pb_H → Prop) (x : Int32), pb_R 215 192 L J (.int x :: st) h Q ↔ if 0 ≤ x then pb_R 215 199 L J st h Q else pb_R 215 195 L J st h Q) ∧
  (∀ (L : pb_L) (J : pb_J) (st : List Value) (h : pb_H) (Q : Option Value → pb_H → Prop), pb_R 215 195 L J st h Q ↔ pb_R 215 196 L J (.int (0 : Int32) :: st) h Q) ∧
  (∀ (L : pb_L) (J : pb_J) (st : List Value) (h : pb_H) (Q : Option Value → pb_H → Prop), pb_R 215 196 L J st h Q ↔ pb_R 215 200 L J st h Q) ∧
  (∀ (L : pb_L) (J : pb_J) (st : List Value) (h : pb_H) (Q : Option Value → pb_H → Prop), pb_R 215 199 L J st h Q ↔ pb_R 215 200 L J (.int (1 : Int32) :: st) h Q) ∧
  (∀ (L : pb_L) (J : pb_J) (st : List Value) (h : pb_H) (Q : Option Value → pb_H → Prop) (a : Nat) (i x : Int32), pb_R 215 200 L J (.int x :: .int i :: .ref a :: st) h Q ↔ pb_o (pb_si (h.2 a) i x) (fun c => pb_R 215 201 L J st (pb_set h a c) Q)) ∧
  (∀ (l0 l1 l2 l3 l4 l5 l6 l8 : Option Value) (st : List Value) (h : pb_H) (Q : Option Value → pb_H → Prop) (x : Int32), pb_R 215 201 [l0, l1, l2, l3, l4, l5, l6, some (.int x), l8] [] st h Q ↔ pb_R 215 204 [l0, l1, l2, l3, l4, l5, l6, some (.int (x + (1 : Int32))), l8] [] st h Q) ∧
  (∀ (L : pb_L) (J : pb_J) (st : List Value) (h : pb_H) (Q : Option Value → pb_H → Prop), pb_R 215 204 L J st h Q ↔ pb_R 215 158 L J st h Q) ∧
  (∀ (L : pb_L) (J : pb_J) (st : List Value) (h : pb_H) (Q : Option Value → pb_H → Prop), pb_R 215 207 L J st h Q ↔ pb_R 215 208 L J (.int (1 : Int32) :: st) h Q) ∧
  (∀ (l0 l1 l2 l3 l4 l5 l6 l7 l8 : Option Value) (st : List Value) (h : pb_H) (Q : Option Value → pb_H → Prop) (x : Int32), pb_R 215 208 [l0, l1, l2, l3, l4, l5, l6, l7, l8] [] (.int x :: st) h Q ↔ pb_R 215 210 [l0, l1, l2, l3, l4, l5, l6, some (.int x), l8] [] st h Q) ∧
  (∀ (l1 l2 l3 l4 l5 l6 l7 l8 : Option Value) (st : List Value) (h : pb_H) (Q : Option Value → pb_H → Prop) (x : Nat), pb_R 215 212 [some (.ref x), l1, l2, l3, l4, l5, l6, l7, l8] [] st h Q ↔ pb_R 215 213 [some (.ref x), l1, l2, l3, l4, l5, l6, l7, l8] [] (.ref x :: st) h Q) ∧
  (∀ (l1 l2 l3 l4 l5 l6 l7 l8 : Option Value) (st : List Value) (h : pb_H) (Q : Option Value → pb_H → Prop), pb_R 215 212 [some .null, l1, l2, l3, l4, l5, l6, l7, l8] [] st h Q ↔ pb_R 215 213 [some .null, l1, l2, l3, l4, l5, l6, l7, l8] [] (.null :: st) h Q) ∧
  (∀ (L : pb_L) (J : pb_J) (st : List Value) (h : pb_H) (Q : Option Value → pb_H → Prop) (a : Nat), pb_R 215 213 L J (.ref a :: st) h Q ↔ pb_o (pb_gf (h.2 a) 12 3) (fun v => pb_R 215 216 L J (v :: st) h Q)) ∧
  (∀ (L : pb_L) (J : pb_J) (st : List Value) (h : pb_H) (Q : Option Value → pb_H → Prop) (x y : Int32), pb_R 215 216 L J (.int y :: .int x :: st) h Q ↔ if y < x then pb_R 215 314 L J st h Q else pb_R 215 219 L J st h Q) ∧
  (∀ (l1 l2 l3 l4 l5 l6 l7 l8 : Option Value) (st : List Value) (h : pb_H) (Q : Option Value → pb_H → Prop) (x : Nat), pb_R 215 219 [some (.ref x), l1, l2, l3, l4, l5, l6, l7, l8] [] st h Q ↔ pb_R 215 220 [some (.ref x), l1, l2, l3, l4, l5, l6, l7, l8] [] (.ref x :: st) h Q) ∧
  (∀ (l1 l2 l3 l4 l5 l6 l7 l8 : Option Value) (st : List Value) (h : pb_H) (Q : Option Value → pb_H → Prop), pb_R 215 219 [some .null, l1, l2, l3, l4, l5, l6, l7, l8] [] st h Q ↔ pb_R 215 220 [some .null, l1, l2, l3, l4, l5, l6, l7, l8] [] (.null :: st) h Q) ∧
  (∀ (L : pb_L) (J : pb_J) (st : List Value) (h : pb_H) (Q : Option Value → pb_H → Prop) (a : Nat), pb_R 215 220 L J (.ref a :: st) h Q ↔ pb_o (pb_gf (h.2 a) 12 1) (fun v => pb_R 215 223 L J (v :: st) h Q)) ∧
  (∀ (L : pb_L) (J : pb_J) (st : List Value) (h : pb_H) (Q : Option Value → pb_H → Prop), pb_R 215 223 L J st h Q ↔ pb_R 215 226 L J (.int (5355 : Int32) :: st) h Q) ∧
  (∀ (l0 l1 l2 l3 l4 l5 l6 l8 : Option Value) (st : List Value) (h : pb_H) (Q : Option Value → pb_H → Prop) (x : Int32), pb_R 215 226 [l0, l1, l2, l3, l4, l5, l6, some (.int x), l8] [] st h Q ↔ pb_R 215 228 [l0, l1, l2, l3, l4, l5, l6, some (.int x), l8] [] (.int x :: st) h Q) ∧
  (∀ (L : pb_L) (J : pb_J) (st : List Value) (x y : Int32) (h : pb_H) (Q : Option Value → pb_H → Prop), pb_R 215 228 L J (.int y :: .int x :: st) h Q ↔ pb_R 215 229 L J (.int (x + y) :: st) h Q) ∧
  (∀ (L : pb_L) (J : pb_J) (st : List Value) (h : pb_H) (Q : Option Value → pb_H → Prop) (a : Nat) (i : Int32), pb_R 215 229 L J (.int i :: .ref a :: st) h Q ↔ pb_o (pb_ai (h.2 a) i) (fun v => pb_R 215 230 L J (.int v :: st) h Q)) ∧
  (∀ (l0 l1 l2 l3 l4 l5 l6 l7 l8 : Option Value) (st : List Value) (h : pb_H) (Q : Option Value → pb_H → Prop) (x : Int32), pb_R 215 230 [l0, l1, l2, l3, l4, l5, l6, l7, l8] [] (.int x :: st) h Q ↔ pb_R 215 232 [l0, l1, l2, l3, l4, l5, l6, l7, some (.int x)] [] st h Q) ∧
  (∀ (l0 l1 l2 l3 l4 l5 l6 l8 : Option Value) (st : List Value) (h : pb_H) (Q : Option Value → pb_H → Prop) (x : Int32), pb_R 215 232 [l0, l1, l2, l3, l4, l5, l6, some (.int x), l8] [] st h Q ↔ pb_R 215 234 [l0, l1, l2, l3, l4, l5, l6, some (.int x), l8] [] (.int x :: st) h Q) ∧
  (∀ (l0 l1 l2 l4 l5 l6 l7 l8 : Option Value) (st : List Value) (h : pb_H) (Q : Option Value → pb_H → Prop) (x : Int32), pb_R 215 234 [l0, l1, l2, some (.int x), l4, l5, l6, l7, l8] [] st h Q ↔ pb_R 215 235 [l0, l1, l2, some (.int x), l4, l5, l6, l7, l8] [] (.int x :: st) h Q) ∧
  (∀ (L : pb_L) (J : pb_J) (st : List Value) (h : pb_H) (Q : Option Value → pb_H → Prop) (x y : Int32), pb_R 215 235 L J (.int y :: .int x :: st) h Q ↔ if x = y then pb_R 215 308 L J st h Q else pb_R 215 238 L J st h Q) ∧
  (∀ (l0 l1 l2 l3 l4 l5 l6 l7 : Option Value) (st : List Value) (h : pb_H) (Q : Option Value → pb_H → Prop) (x : Int32), pb_R 215 238 [l0, l1, l2, l3, l4, l5, l6, l7, some (.int x)] [] st h Q ↔ pb_R 215 240 [l0, l1, l2, l3, l4, l5, l6, l7, some (.int x)] [] (.int x :: st) h Q) ∧
  (∀ (L : pb_L) (J : pb_J) (st : List Value) (h : pb_H) (Q : Option Value → pb_H → Prop) (x : Int32), pb_R 215 240 L J (.int x :: st) h Q ↔ if x = 0 then pb_R 215 308 L J st h Q else pb_R 215 243 L J st h Q) ∧
  (∀ (l0 l1 l2 l3 l4 l5 l6 l7 : Option Value) (st : List Value) (h : pb_H) (Q : Option Value → pb_H → Prop) (x : Int32), pb_R 215 243 [l0, l1, l2, l3, l4, l5, l6, l7, some (.int x)] [] st h Q ↔ pb_R 215 245 [l0, l1, l2, l3, l4, l5, l6, l7, some (.int x)] [] (.int x :: st) h Q) ∧
  (∀ (l1 l2 l3 l4 l5 l6 l7 l8 : Option Value) (st : List Value) (h : pb_H) (Q : Option Value → pb_H → Prop) (x : Nat), pb_R 215 245 [some (.ref x), l1, l2, l3, l4, l5, l6, l7, l8] [] st h Q ↔ pb_R 215 246 [some (.ref x), l1, l2, l3, l4, l5, l6, l7, l8] [] (.ref x :: st) h Q) ∧
  (∀ (l1 l2 l3 l4 l5 l6 l7 l8 : Option Value) (st : List Value) (h : pb_H) (Q : Option Value → pb_H → Prop), pb_R 215 245 [some .null, l1, l2, l3, l4, l5, l6, l7, l8] [] st h Q ↔ pb_R 215 246 [some .null, l1, l2, l3, l4, l5, l6, l7, l8] [] (.null :: st) h Q) ∧
  (∀ (L : pb_L) (J : pb_J) (st : List Value) (h : pb_H) (Q : Option Value → pb_H → Prop) (a : Nat), pb_R 215 246 L J (.ref a :: st) h Q ↔ pb_o (pb_gf (h.2 a) 12 36) (fun v => pb_R 215 249 L J (v :: st) h Q)) ∧
  (∀ (l0 l1 l2 l3 l4 l5 l6 l8 : Option Value) (st : List Value) (h : pb_H) (Q : Option Value → pb_H → Prop) (x : Int32), pb_R 215 249 [l0, l1, l2, l3, l4, l5, l6, some (.int x), l8] [] st h Q ↔ pb_R 215 251 [l0, l1, l2, l3, l4, l5, l6, some (.int x), l8] [] (.int x :: st) h Q) ∧
  (∀ (L : pb_L) (J : pb_J) (st : List Value) (h : pb_H) (Q : Option Value → pb_H → Prop) (a : Nat) (i : Int32), pb_R 215 251 L J (.int i :: .ref a :: st) h Q ↔ pb_o (pb_ai (h.2 a) i) (fun v => pb_R 215 252 L J (.int v :: st) h Q)) ∧
  (∀ (L : pb_L) (J : pb_J) (h : pb_H) (Q : Option Value → pb_H → Prop) (x0 : Int32) (x1 : Int32), pb_R 215 252 L J [.int x0, .int x1] h Q ↔ pb_call 171 [.int x1, .int x0] h (fun v t => pb_R 215 255 L J (v.toList ++ []) t Q)) ∧
  (∀ (L : pb_L) (J : pb_J) (st : List Value) (h : pb_H) (Q : Option Value → pb_H → Prop) (x : Int32), pb_R 215 255 L J (.int x :: st) h Q ↔ if ¬ x = 0 then pb_R 215 308 L J st h Q else pb_R 215 258 L J st h Q) ∧
  (∀ (l1 l2 l3 l4 l5 l6 l7 l8 : Option Value) (st : List Value) (h : pb_H) (Q : Option Value → pb_H → Prop) (x : Nat), pb_R 215 258 [some (.ref x), l1, l2, l3, l4, l5, l6, l7, l8] [] st h Q ↔ pb_R 215 259 [some (.ref x), l1, l2, l3, l4, l5, l6, l7, l8] [] (.ref x :: st) h Q) ∧
  (∀ (l1 l2 l3 l4 l5 l6 l7 l8 : Option Value) (st : List Value) (h : pb_H) (Q : Option Value → pb_H → Prop), pb_R 215 258 [some .null, l1, l2, l3, l4, l5, l6, l7, l8] [] st h Q ↔ pb_R 215 259 [some .null, l1, l2, l3, l4, l5, l6, l7, l8] [] (.null :: st) h Q) ∧
  (∀ (L : pb_L) (J : pb_J) (st : List Value) (h : pb_H) (Q : Option Value → pb_H → Prop), pb_R 215 259 L J st h Q ↔ pb_R 215 262 L J (.int (315 : Int32) :: st) h Q) ∧
  (∀ (l0 l1 l2 l3 l4 l5 l6 l8 : Option Value) (st : List Value) (h : pb_H) (Q : Option Value → pb_H → Prop) (x : Int32), pb_R 215 262 [l0, l1, l2, l3, l4, l5, l6, some (.int x), l8] [] st h Q ↔ pb_R 215 264 [l0, l1, l2, l3, l4, l5, l6, some (.int x), l8] [] (.int x :: st) h Q) ∧
  (∀ (L : pb_L) (J : pb_J) (h : pb_H) (Q : Option Value → pb_H → Prop) (x0 : Int32) (x1 : Int32) (x2 : Nat), pb_R 215 264 L J [.int x0, .int x1, .ref x2] h Q ↔ pb_call 143 [.int x1, .int x0] h (fun v t => pb_R 215 267 L J (v.toList ++ [.ref x2]) t Q)) ∧
  (∀ (l0 l1 l2 l3 l4 l5 l7 l8 : Option Value) (st : List Value) (h : pb_H) (Q : Option Value → pb_H → Prop) (x : Int32), pb_R 215 267 [l0, l1, l2, l3, l4, l5, some (.int x), l7, l8] [] st h Q ↔ pb_R 215 269 [l0, l1, l2, l3, l4, l5, some (.int x), l7, l8] [] (.int x :: st) h Q) ∧
  (∀ (L : pb_L) (J : pb_J) (h : pb_H) (Q : Option Value → pb_H → Prop) (x0 : Int32) (x1 : Int32) (x2 : Nat), pb_R 215 269 L J [.int x0, .int x1, .ref x2] h Q ↔ pb_is0 (h.2 x2) 12 = true ∧ pb_call 160 [.ref x2, .int x1, .int x0] h (fun v t => pb_R 215 272 L J (v.toList ++ []) t Q)) ∧
  (∀ (L : pb_L) (J : pb_J) (st : List Value) (h : pb_H) (Q : Option Value → pb_H → Prop) (x : Int32), pb_R 215 272 L J (.int x :: st) h Q ↔ if ¬ x = 0 then pb_R 215 308 L J st h Q else pb_R 215 275 L J st h Q) ∧
  (∀ (l1 l2 l3 l4 l5 l6 l7 l8 : Option Value) (st : List Value) (h : pb_H) (Q : Option Value → pb_H → Prop) (x : Nat), pb_R 215 275 [some (.ref x), l1, l2, l3, l4, l5, l6, l7, l8] [] st h Q ↔ pb_R 215 276 [some (.ref x), l1, l2, l3, l4, l5, l6, l7, l8] [] (.ref x :: st) h Q) ∧
  (∀ (l1 l2 l3 l4 l5 l6 l7 l8 : Option Value) (st : List Value) (h : pb_H) (Q : Option Value → pb_H → Prop), pb_R 215 275 [some .null, l1, l2, l3, l4, l5, l6, l7, l8] [] st h Q ↔ pb_R 215 276 [some .null, l1, l2, l3, l4, l5, l6, l7, l8] [] (.null :: st) h Q) ∧
  (∀ (L : pb_L) (J : pb_J) (st : List Value) (h : pb_H) (Q : Option Value → pb_H → Prop), pb_R 215 276 L J st h Q ↔ pb_R 215 279 L J (.int (315 : Int32) :: st) h Q) ∧
  (∀ (l0 l1 l2 l3 l4 l5 l6 l8 : Option Value) (st : List Value) (h : pb_H) (Q : Option Value → pb_H → Prop) (x : Int32), pb_R 215 279 [l0, l1, l2, l3, l4, l5, l6, some (.int x), l8] [] st h Q ↔ pb_R 215 281 [l0, l1, l2, l3, l4, l5, l6, some (.int x), l8] [] (.int x :: st) h Q) ∧
  (∀ (L : pb_L) (J : pb_J) (h : pb_H) (Q : Option Value → pb_H → Prop) (x0 : Int32) (x1 : Int32) (x2 : Nat), pb_R 215 281 L J [.int x0, .int x1, .ref x2] h Q ↔ pb_is0 (h.2 x2) 12 = true ∧ pb_call 169 [.ref x2, .int x1, .int x0] h (fun v t => pb_R 215 284 L J (v.toList ++ []) t Q)) ∧
  (∀ (l1 l2 l3 l4 l5 l6 l7 l8 : Option Value) (st : List Value) (h : pb_H) (Q : Option Value → pb_H → Prop) (x : Nat), pb_R 215 284 [some (.ref x), l1, l2, l3, l4, l5, l6, l7, l8] [] st h Q ↔ pb_R 215 285 [some (.ref x), l1, l2, l3, l4, l5, l6, l7, l8] [] (.ref x :: st) h Q) ∧
  (∀ (l1 l2 l3 l4 l5 l6 l7 l8 : Option Value) (st : List Value) (h : pb_H) (Q : Option Value → pb_H → Prop), pb_R 215 284 [some .null, l1, l2, l3, l4, l5, l6, l7, l8] [] st h Q ↔ pb_R 215 285 [some .null, l1, l2, l3, l4, l5, l6, l7, l8] [] (.null :: st) h Q) ∧
  (∀ (L : pb_L) (J : pb_J) (st : List Value) (h : pb_H) (Q : Option Value → pb_H → Prop), pb_R 215 285 L J st h Q ↔ pb_R 215 287 L J (.int (32 : Int32) :: st) h Q) ∧
  (∀ (L : pb_L) (J : pb_J) (h : pb_H) (Q : Option Value → pb_H → Prop) (x0 : Int32) (x1 : Nat), pb_R 215 287 L J [.int x0, .ref x1] h Q ↔ pb_is0 (h.2 x1) 12 = true ∧ pb_call 209 [.ref x1, .int x0] h (fun v t => pb_R 215 290 L J (v.toList ++ []) t Q)) ∧
  (∀ (l1 l2 l3 l4 l5 l6 l7 l8 : Option Value) (st : List Value) (h : pb_H) (Q : Option Value → pb_H → Prop) (x : Nat), pb_R 215 290 [some (.ref x), l1, l2, l3, l4, l5, l6, l7, l8] [] st h Q ↔ pb_R 215 291 [some (.ref x), l1, l2, l3, l4, l5, l6, l7, l8] [] (.ref x :: st) h Q) ∧
  (∀ (l1 l2 l3 l4 l5 l6 l7 l8 : Option Value) (st : List Value) (h : pb_H) (Q : Option Value → pb_H → Prop), pb_R 215 290 [some .null, l1, l2, l3, l4, l5, l6, l7, l8] [] st h Q ↔ pb_R 215 291 [some .null, l1, l2, l3, l4, l5, l6, l7, l8] [] (.null :: st) h Q) ∧
  (∀ (L : pb_L) (J : pb_J) (st : List Value) (h : pb_H) (Q : Option Value → pb_H → Prop), pb_R 215 291 L J st h Q ↔ pb_R 215 293 L J (.int (120 : Int32) :: st) h Q) ∧
  (∀ (L : pb_L) (J : pb_J) (h : pb_H) (Q : Option Value → pb_H → Prop) (x0 : Int32) (x1 : Nat), pb_R 215 293 L J [.int x0, .ref x1] h Q ↔ pb_is0 (h.2 x1) 12 = true ∧ pb_call 209 [.ref x1, .int x0] h (fun v t => pb_R 215 296 L J (v.toList ++ []) t Q)) ∧
  (∀ (l1 l2 l3 l4 l5 l6 l7 l8 : Option Value) (st : List Value) (h : pb_H) (Q : Option Value → pb_H → Prop) (x : Nat), pb_R 215 296 [some (.ref x), l1, l2, l3, l4, l5, l6, l7, l8] [] st h Q ↔ pb_R 215 297 [some (.ref x), l1, l2, l3, l4, l5, l6, l7, l8] [] (.ref x :: st) h Q) ∧
  (∀ (l1 l2 l3 l4 l5 l6 l7 l8 : Option Value) (st : List Value) (h : pb_H) (Q : Option Value → pb_H → Prop), pb_R 215 296 [some .null, l1, l2, l3, l4, l5, l6, l7, l8] [] st h Q ↔ pb_R 215 297 [some .null, l1, l2, l3, l4, l5, l6, l7, l8] [] (.null :: st) h Q) ∧
  (∀ (l0 l1 l2 l3 l4 l5 l6 l8 : Option Value) (st : List Value) (h : pb_H) (Q : Option Value → pb_H → Prop) (x : Int32), pb_R 215 297 [l0, l1, l2, l3, l4, l5, l6, some (.int x), l8] [] st h Q ↔ pb_R 215 299 [l0, l1, l2, l3, l4, l5, l6, some (.int x), l8] [] (.int x :: st) h Q) ∧
  (∀ (L : pb_L) (J : pb_J) (h : pb_H) (Q : Option Value → pb_H → Prop) (x0 : Int32) (x1 : Nat), pb_R 215 299 L J [.int x0, .ref x1] h Q ↔ pb_is0 (h.2 x1) 12 = true ∧ pb_call 211 [.ref x1, .int x0] h (fun v t => pb_R 215 302 L J (v.toList ++ []) t Q)) ∧
  (∀ (l1 l2 l3 l4 l5 l6 l7 l8 : Option Value) (st : List Value) (h : pb_H) (Q : Option Value → pb_H → Prop) (x : Nat), pb_R 215 302 [some (.ref x), l1, l2, l3, l4, l5, l6, l7, l8] [] st h Q ↔ pb_R 215 303 [some (.ref x), l1, l2, l3, l4, l5, l6, l7, l8] [] (.ref x :: st) h Q) ∧
  (∀ (l1 l2 l3 l4 l5 l6 l7 l8 : Option Value) (st : List Value) (h : pb_H) (Q : Option Value → pb_H → Prop), pb_R 215 302 [some .null, l1, l2, l3, l4, l5, l6, l7, l8] [] st h Q ↔ pb_R 215 303 [some .null, l1, l2, l3, l4, l5, l6, l7, l8] [] (.null :: st) h Q) ∧
  (∀ (L : pb_L) (J : pb_J) (st : List Value) (h : pb_H) (Q : Option Value → pb_H → Prop), pb_R 215 303 L J st h Q ↔ pb_R 215 305 L J (.int (119 : Int32) :: st) h Q) ∧
  (∀ (L : pb_L) (J : pb_J) (h : pb_H) (Q : Option Value → pb_H → Prop) (x0 : Int32) (x1 : Nat), pb_R 215 305 L J [.int x0, .ref x1] h Q ↔ pb_is0 (h.2 x1) 12 = true ∧ pb_call 214 [.ref x1, .int x0] h (fun v t => pb_R 215 308 L J (v.toList ++ []) t Q)) ∧
  (∀ (l0 l1 l2 l3 l4 l5 l6 l8 : Option Value) (st : List Value) (h : pb_H) (Q : Option Value → pb_H → Prop) (x : Int32), pb_R 215 308 [l0, l1, l2, l3, l4, l5, l6, some (.int x), l8] [] st h Q ↔ pb_R 215 311 [l0, l1, l2, l3, l4, l5, l6, some (.int (x + (1 : Int32))), l8] [] st h Q) ∧
  (∀ (L : pb_L) (J : pb_J) (st : List Value) (h : pb_H) (Q : Option Value → pb_H → Prop), pb_R 215 311 L J st h Q ↔ pb_R 215 210 L J st h Q) ∧
  (∀ (l1 l2 l3 l4 l5 l6 l7 l8 : Option Value) (st : List Value) (h : pb_H) (Q : Option Value → pb_H → Prop) (x : Nat), pb_R 215 314 [some (.ref x), l1, l2, l3, l4, l5, l6, l7, l8] [] st h Q ↔ pb_R 215 315 [some (.ref x), l1, l2, l3, l4, l5, l6, l7, l8] [] (.ref x :: st) h Q) ∧
  (∀ (l1 l2 l3 l4 l5 l6 l7 l8 : Option Value) (st : List Value) (h : pb_H) (Q : Option Value → pb_H → Prop), pb_R 215 314 [some .null, l1, l2, l3, l4, l5, l6, l7, l8] [] st h Q ↔ pb_R 215 315 [some .null, l1, l2, l3, l4, l5, l6, l7, l8] [] (.null :: st) h Q) ∧
  (∀ (l0 l1 l2 l3 l4 l5 l7 l8 : Option Value) (st : List Value) (h : pb_H) (Q : Option Value → pb_H → Prop) (x : Int32), pb_R 215 315 [l0, l1, l2, l3, l4, l5, some (.int x), l7, l8] [] st h Q ↔ pb_R 215 317 [l0, l1, l2, l3, l4, l5, some (.int x), l7, l8] [] (.int x :: st) h Q) ∧
  (∀ (L : pb_L) (J : pb_J) (h : pb_H) (Q : Option Value → pb_H → Prop) (x0 : Int32) (x1 : Nat), pb_R 215 317 L J [.int x0, .ref x1] h Q ↔ pb_is0 (h.2 x1) 12 = true ∧ pb_call 149 [.ref x1, .int x0] h (fun v t => pb_R 215 320 L J (v.toList ++ []) t Q)) ∧
  (∀ (L : pb_L) (J : pb_J) (st : List Value) (h : pb_H) (Q : Option Value → pb_H → Prop) (x : Int32), pb_R 215 320 L J (.int x :: st) h Q ↔ if ¬ x = 0 then pb_R 215 350 L J st h Q else pb_R 215 323 L J st h Q) ∧
  (∀ (l1 l2 l3 l4 l5 l6 l7 l8 : Option Value) (st : List Value) (h : pb_H) (Q : Option Value → pb_H → Prop) (x : Nat), pb_R 215 323 [some (.ref x), l1, l2, l3, l4, l5, l6, l7, l8] [] st h Q ↔ pb_R 215 324 [some (.ref x), l1, l2, l3, l4, l5, l6, l7, l8] [] (.ref x :: st) h Q) ∧
  (∀ (l1 l2 l3 l4 l5 l6 l7 l8 : Option Value) (st : List Value) (h : pb_H) (Q : Option Value → pb_H → Prop), pb_R 215 323 [some .null, l1, l2, l3, l4, l5, l6, l7, l8] [] st h Q ↔ pb_R 215 324 [some .null, l1, l2, l3, l4, l5, l6, l7, l8] [] (.null :: st) h Q) ∧
  (∀ (L : pb_L) (J : pb_J) (st : List Value) (h : pb_H) (Q : Option Value → pb_H → Prop), pb_R 215 324 L J st h Q ↔ pb_R 215 327 L J (.int (315 : Int32) :: st) h Q) ∧
  (∀ (l0 l1 l2 l3 l4 l5 l7 l8 : Option Value) (st : List Value) (h : pb_H) (Q : Option Value → pb_H → Prop) (x : Int32), pb_R 215 327 [l0, l1, l2, l3, l4, l5, some (.int x), l7, l8] [] st h Q ↔ pb_R 215 329 [l0, l1, l2, l3, l4, l5, some (.int x), l7, l8] [] (.int x :: st) h Q) ∧
  (∀ (L : pb_L) (J : pb_J) (h : pb_H) (Q : Option Value → pb_H → Prop) (x0 : Int32) (x1 : Int32) (x2 : Nat), pb_R 215 329 L J [.int x0, .int x1, .ref x2] h Q ↔ pb_is0 (h.2 x2) 12 = true ∧ pb_call 167 [.ref x2, .int x1, .int x0] h (fun v t => pb_R 215 332 L J (v.toList ++ []) t Q)) ∧
  (∀ (l1 l2 l3 l4 l5 l6 l7 l8 : Option Value) (st : List Value) (h : pb_H) (Q : Option Value → pb_H → Prop) (x : Nat), pb_R 215 332 [some (.ref x), l1, l2, l3, l4, l5, l6, l7, l8] [] st h Q ↔ pb_R 215 333 [some (.ref x), l1, l2, l3, l4, l5, l6, l7, l8] [] (.ref x :: st) h Q) ∧
  (∀ (l1 l2 l3 l4 l5 l6 l7 l8 : Option Value) (st : List Value) (h : pb_H) (Q : Option Value → pb_H → Prop), pb_R 215 332 [some .null, l1, l2, l3, l4, l5, l6, l7, l8] [] st h Q ↔ pb_R 215 333 [some .null, l1, l2, l3, l4, l5, l6, l7, l8] [] (.null :: st) h Q) ∧
  (∀ (L : pb_L) (J : pb_J) (st : List Value) (h : pb_H) (Q : Option Value → pb_H → Prop), pb_R 215 333 L J st h Q ↔ pb_R 215 335 L J (.int (32 : Int32) :: st) h Q) ∧
  (∀ (L : pb_L) (J : pb_J) (h : pb_H) (Q : Option Value → pb_H → Prop) (x0 : Int32) (x1 : Nat), pb_R 215 335 L J [.int x0, .ref x1] h Q ↔ pb_is0 (h.2 x1) 12 = true ∧ pb_call 209 [.ref x1, .int x0] h (fun v t => pb_R 215 338 L J (v.toList ++ []) t Q)) ∧
  (∀ (l1 l2 l3 l4 l5 l6 l7 l8 : Option Value) (st : List Value) (h : pb_H) (Q : Option Value → pb_H → Prop) (x : Nat), pb_R 215 338 [some (.ref x), l1, l2, l3, l4, l5, l6, l7, l8] [] st h Q ↔ pb_R 215 339 [some (.ref x), l1, l2, l3, l4, l5, l6, l7, l8] [] (.ref x :: st) h Q) ∧
  (∀ (l1 l2 l3 l4 l5 l6 l7 l8 : Option Value) (st : List Value) (h : pb_H) (Q : Option Value → pb_H → Prop), pb_R 215 338 [some .null, l1, l2, l3, l4, l5, l6, l7, l8] [] st h Q ↔ pb_R 215 339 [some .null, l1, l2, l3, l4, l5, l6, l7, l8] [] (.null :: st) h Q) ∧
  (∀ (l0 l1 l2 l3 l4 l5 l7 l8 : Option Value) (st : List Value) (h : pb_H) (Q : Option Value → pb_H → Prop) (x : Int32), pb_R 215 339 [l0, l1, l2, l3, l4, l5, some (.int x), l7, l8] [] st h Q ↔ pb_R 215 341 [l0, l1, l2, l3, l4, l5, some (.int x), l7, l8] [] (.int x :: st) h Q) ∧
  (∀ (L : pb_L) (J : pb_J) (h : pb_H) (Q : Option Value → pb_H → Prop) (x0 : Int32) (x1 : Nat), pb_R 215 341 L J [.int x0, .ref x1] h Q ↔ pb_is0 (h.2 x1) 12 = true ∧ pb_call 210 [.ref x1, .int x0] h (fun v t => pb_R 215 344 L J (v.toList ++ []) t Q)) ∧
  (∀ (l1 l2 l3 l4 l5 l6 l7 l8 : Option Value) (st : List Value) (h : pb_H) (Q : Option Value → pb_H → Prop) (x : Nat), pb_R 215 344 [some (.ref x), l1, l2, l3, l4, l5, l6, l7, l8] [] st h Q ↔ pb_R 215 345 [some (.ref x), l1, l2, l3, l4, l5, l6, l7, l8] [] (.ref x :: st) h Q) ∧
  (∀ (l1 l2 l3 l4 l5 l6 l7 l8 : Option Value) (st : List Value) (h : pb_H) (Q : Option Value → pb_H → Prop), pb_R 215 344 [some .null, l1, l2, l3, l4, l5, l6, l7, l8] [] st h Q ↔ pb_R 215 345 [some .null, l1, l2, l3, l4, l5, l6, l7, l8] [] (.null :: st) h Q) ∧
  (∀ (L : pb_L) (J : pb_J) (st : List Value) (h : pb_H) (Q : Option Value → pb_H → Prop), pb_R 215 345 L J st h Q ↔ pb_R 215 347 L J (.int (100 : Int32) :: st) h Q) ∧
  (∀ (L : pb_L) (J : pb_J) (h : pb_H) (Q : Option Value → pb_H → Prop) (x0 : Int32) (x1 : Nat), pb_R 215 347 L J [.int x0, .ref x1] h Q ↔ pb_is0 (h.2 x1) 12 = true ∧ pb_call 214 [.ref x1, .int x0] h (fun v t => pb_R 215 350 L J (v.toList ++ []) t Q)) ∧
  (∀ (l1 l2 l3 l4 l5 l6 l7 l8 : Option Value) (st : List Value) (h : pb_H) (Q : Option Value → pb_H → Prop) (x : Nat), pb_R 215 350 [some (.ref x), l1, l2, l3, l4, l5, l6, l7, l8] [] st h Q ↔ pb_R 215 351 [some (.ref x), l1, l2, l3, l4, l5, l6, l7, l8] [] (.ref x :: st) h Q) ∧
  (∀ (l1 l2 l3 l4 l5 l6 l7 l8 : Option Value) (st : List Value) (h : pb_H) (Q : Option Value → pb_H → Prop), pb_R 215 350 [some .null, l1, l2, l3, l4, l5, l6, l7, l8] [] st h Q ↔ pb_R 215 351 [some .null, l1, l2, l3, l4, l5, l6, l7, l8] [] (.null :: st) h Q) ∧
  (∀ (L : pb_L) (J : pb_J) (st : List Value) (h : pb_H) (Q : Option Value → pb_H → Prop), pb_R 215 351 L J st h Q ↔ pb_R 215 354 L J (.int (315 : Int32) :: st) h Q) ∧
  (∀ (L : pb_L) (J : pb_J) (h : pb_H) (Q : Option Value → pb_H → Prop) (x0 : Int32) (x1 : Nat), pb_R 215 354 L J [.int x0, .ref x1] h Q ↔ pb_is0 (h.2 x1) 12 = true ∧ pb_call 168 [.ref x1, .int x0] h (fun v t => pb_R 215 357 L J (v.toList ++ []) t Q)) ∧
  (∀ (l1 l2 l3 l4 l5 l6 l7 l8 : Option Value) (st : List Value) (h : pb_H) (Q : Option Value → pb_H → Prop) (x : Nat), pb_R 215 357 [some (.ref x), l1, l2, l3, l4, l5, l6, l7, l8] [] st h Q ↔ pb_R 215 358 [some (.ref x), l1, l2, l3, l4, l5, l6, l7, l8] [] (.ref x :: st) h Q) ∧
  (∀ (l1 l2 l3 l4 l5 l6 l7 l8 : Option Value) (st : List Value) (h : pb_H) (Q : Option Value → pb_H → Prop), pb_R 215 357 [some .null, l1, l2, l3, l4, l5, l6, l7, l8] [] st h Q ↔ pb_R 215 358 [some .null, l1, l2, l3, l4, l5, l6, l7, l8] [] (.null :: st) h Q) ∧
  (∀ (L : pb_L) (J : pb_J) (st : List Value) (h : pb_H) (Q : Option Value → pb_H → Prop), pb_R 215 358 L J st h Q ↔ pb_R 215 360 L J (.int (115 : Int32) :: st) h Q) ∧
  (∀ (L : pb_L) (J : pb_J) (h : pb_H) (Q : Option Value → pb_H → Prop) (x0 : Int32) (x1 : Nat), pb_R 215 360 L J [.int x0, .ref x1] h Q ↔ pb_is0 (h.2 x1) 12 = true ∧ pb_call 214 [.ref x1, .int x0] h (fun v t => pb_R 215 363 L J (v.toList ++ []) t Q)) ∧
  (∀ (l1 l2 l3 l4 l5 l6 l7 l8 : Option Value) (st : List Value) (h : pb_H) (Q : Option Value → pb_H → Prop) (x : Nat), pb_R 215 363 [some (.ref x), l1, l2, l3, l4, l5, l6, l7, l8] [] st h Q ↔ pb_R 215 364 [some (.ref x), l1, l2, l3, l4, l5, l6, l7, l8] [] (.ref x :: st) h Q) ∧
  (∀ (l1 l2 l3 l4 l5 l6 l7 l8 : Option Value) (st : List Value) (h : pb_H) (Q : Option Value → pb_H → Prop), pb_R 215 363 [some .null, l1, l2, l3, l4, l5, l6, l7, l8] [] st h Q ↔ pb_R 215 364 [some .null, l1, l2, l3, l4, l5, l6, l7, l8] [] (.null :: st) h Q) ∧
  (∀ (l0 l1 l2 l3 l4 l6 l7 l8 : Option Value) (st : List Value) (h : pb_H) (Q : Option Value → pb_H → Prop) (x : Int32), pb_R 215 364 [l0, l1, l2, l3, l4, some (.int x), l6, l7, l8] [] st h Q ↔ pb_R 215 366 [l0, l1, l2, l3, l4, some (.int x), l6, l7, l8] [] (.int x :: st) h Q) ∧
  (∀ (L : pb_L) (J : pb_J) (h : pb_H) (Q : Option Value → pb_H → Prop) (x0 : Int32) (x1 : Nat), pb_R 215 366 L J [.int x0, .ref x1] h Q ↔ pb_is0 (h.2 x1) 12 = true ∧ pb_call 149 [.ref x1, .int x0] h (fun v t => pb_R 215 369 L J (v.toList ++ []) t Q)) ∧
  (∀ (L : pb_L) (J : pb_J) (st : List Value) (h : pb_H) (Q : Option Value → pb_H → Prop) (x : Int32), pb_R 215 369 L J (.int x :: st) h Q ↔ if ¬ x = 0 then pb_R 215 404 L J st h Q else pb_R 215 372 L J st h Q) ∧
  (∀ (l1 l2 l3 l4 l5 l6 l7 l8 : Option Value) (st : List Value) (h : pb_H) (Q : Option Value → pb_H → Prop) (x : Nat), pb_R 215 372 [some (.ref x), l1, l2, l3, l4, l5, l6, l7, l8] [] st h Q ↔ pb_R 215 373 [some (.ref x), l1, l2, l3, l4, l5, l6, l7, l8] [] (.ref x :: st) h Q) ∧
  (∀ (l1 l2 l3 l4 l5 l6 l7 l8 : Option Value) (st : List Value) (h : pb_H) (Q : Option Value → pb_H → Prop), pb_R 215 372 [some .null, l1, l2, l3, l4, l5, l6, l7, l8] [] st h Q ↔ pb_R 215 373 [some .null, l1, l2, l3, l4, l5, l6, l7, l8] [] (.null :: st) h Q) ∧
  (∀ (L : pb_L) (J : pb_J) (st : List Value) (h : pb_H) (Q : Option Value → pb_H → Prop), pb_R 215 373 L J st h Q ↔ pb_R 215 376 L J (.int (315 : Int32) :: st) h Q) ∧
  (∀ (l0 l1 l2 l3 l4 l6 l7 l8 : Option Value) (st : List Value) (h : pb_H) (Q : Option Value → pb_H → Prop) (x : Int32), pb_R 215 376 [l0, l1, l2, l3, l4, some (.int x), l6, l7, l8] [] st h Q ↔ pb_R 215 378 [l0, l1, l2, l3, l4, some (.int x), l6, l7, l8] [] (.int x :: st) h Q) ∧
  (∀ (L : pb_L) (J : pb_J) (h : pb_H) (Q : Option Value → pb_H → Prop) (x0 : Int32) (x1 : Int32) (x2 : Nat), pb_R 215 378 L J [.int x0, .int x1, .ref x2] h Q ↔ pb_is0 (h.2 x2) 12 = true ∧ pb_call 166 [.ref x2, .int x1, .int x0] h (fun v t => pb_R 215 381 L J (v.toList ++ []) t Q)) ∧
  (∀ (L : pb_L) (J : pb_J) (st : List Value) (h : pb_H) (Q : Option Value → pb_H → Prop) (x : Int32), pb_R 215 381 L J (.int x :: st) h Q ↔ if ¬ x = 0 then pb_R 215 386 L J st h Q else pb_R 215 384 L J st h Q) ∧
  (∀ (L : pb_L) (J : pb_J) (st : List Value) (h : pb_H) (Q : Option Value → pb_H → Prop), pb_R 215 384 L J st h Q ↔ pb_R 215 385 L J (.int (0 : Int32) :: st) h Q) ∧
  (∀ (L : pb_L) (J : pb_J) (h : pb_H) (Q : Option Value → pb_H → Prop) (x : Int32), pb_R 215 385 L J [.int x] h Q ↔ narrow .boolean (.int x) = .int x ∧ Q (some (.int x)) h) ∧
  (∀ (l1 l2 l3 l4 l5 l6 l7 l8 : Option Value) (st : List Value) (h : pb_H) (Q : Option Value → pb_H → Prop) (x : Nat), pb_R 215 386 [some (.ref x), l1, l2, l3, l4, l5, l6, l7, l8] [] st h Q ↔ pb_R 215 387 [some (.ref x), l1, l2, l3, l4, l5, l6, l7, l8] [] (.ref x :: st) h Q) ∧
  (∀ (l1 l2 l3 l4 l5 l6 l7 l8 : Option Value) (st : List Value) (h : pb_H) (Q : Option Value → pb_H → Prop), pb_R 215 386 [some .null, l1, l2, l3, l4, l5, l6, l7, l8] [] st h Q ↔ pb_R 215 387 [some .null, l1, l2, l3, l4, l5, l6, l7, l8] [] (.null :: st) h Q) ∧
  (∀ (L : pb_L) (J : pb_J) (st : List Value) (h : pb_H) (Q : Option Value → pb_H → Prop), pb_R 215 387 L J st h Q ↔ pb_R 215 389 L J (.int (32 : Int32) :: st) h Q) ∧
  (∀ (L : pb_L) (J : pb_J) (h : pb_H) (Q : Option Value → pb_H → Prop) (x0 : Int32) (x1 : Nat), pb_R 215 389 L J [.int x0, .ref x1] h Q ↔ pb_is0 (h.2 x1) 12 = true ∧ pb_call 209 [.ref x1, .int x0] h (fun v t => pb_R 215 392 L J (v.toList ++ []) t Q)) ∧
  (∀ (l1 l2 l3 l4 l5 l6 l7 l8 : Option Value) (st : List Value) (h : pb_H) (Q : Option Value → pb_H → Prop) (x : Nat), pb_R 215 392 [some (.ref x), l1, l2, l3, l4, l5, l6, l7, l8] [] st h Q ↔ pb_R 215 393 [some (.ref x), l1, l2, l3, l4, l5, l6, l7, l8] [] (.ref x :: st) h Q) ∧
  (∀ (l1 l2 l3 l4 l5 l6 l7 l8 : Option Value) (st : List Value) (h : pb_H) (Q : Option Value → pb_H → Prop), pb_R 215 392 [some .null, l1, l2, l3, l4, l5, l6, l7, l8] [] st h Q ↔ pb_R 215 393 [some .null, l1, l2, l3, l4, l5, l6, l7, l8] [] (.null :: st) h Q) ∧
  (∀ (l0 l1 l2 l3 l4 l6 l7 l8 : Option Value) (st : List Value) (h : pb_H) (Q : Option Value → pb_H → Prop) (x : Int32), pb_R 215 393 [l0, l1, l2, l3, l4, some (.int x), l6, l7, l8] [] st h Q ↔ pb_R 215 395 [l0, l1, l2, l3, l4, some (.int x), l6, l7, l8] [] (.int x :: st) h Q) ∧
  (∀ (L : pb_L) (J : pb_J) (h : pb_H) (Q : Option Value → pb_H → Prop) (x0 : Int32) (x1 : Nat), pb_R 215 395 L J [.int x0, .ref x1] h Q ↔ pb_is0 (h.2 x1) 12 = true ∧ pb_call 210 [.ref x1, .int x0] h (fun v t => pb_R 215 398 L J (v.toList ++ []) t Q)) ∧
  (∀ (l1 l2 l3 l4 l5 l6 l7 l8 : Option Value) (st : List Value) (h : pb_H) (Q : Option Value → pb_H → Prop) (x : Nat), pb_R 215 398 [some (.ref x), l1, l2, l3, l4, l5, l6, l7, l8] [] st h Q ↔ pb_R 215 399 [some (.ref x), l1, l2, l3, l4, l5, l6, l7, l8] [] (.ref x :: st) h Q) ∧
  (∀ (l1 l2 l3 l4 l5 l6 l7 l8 : Option Value) (st : List Value) (h : pb_H) (Q : Option Value → pb_H → Prop), pb_R 215 398 [some .null, l1, l2, l3, l4, l5, l6, l7, l8] [] st h Q ↔ pb_R 215 399 [some .null, l1, l2, l3, l4, l5, l6, l7, l8] [] (.null :: st) h Q) ∧
  (∀ (L : pb_L) (J : pb_J) (st : List Value) (h : pb_H) (Q : Option Value → pb_H → Prop), pb_R 215 399 L J st h Q ↔ pb_R 215 401 L J (.int (42 : Int32) :: st) h Q) ∧
  (∀ (L : pb_L) (J : pb_J) (h : pb_H) (Q : Option Value → pb_H → Prop) (x0 : Int32) (x1 : Nat), pb_R 215 401 L J [.int x0, .ref x1] h Q ↔ pb_is0 (h.2 x1) 12 = true ∧ pb_call 214 [.ref x1, .int x0] h (fun v t => pb_R 215 404 L J (v.toList ++ []) t Q)) ∧
  (∀ (l1 l2 l3 l4 l5 l6 l7 l8 : Option Value) (st : List Value) (h : pb_H) (Q : Option Value → pb_H → Prop) (x : Nat), pb_R 215 404 [some (.ref x), l1, l2, l3, l4, l5, l6, l7, l8] [] st h Q ↔ pb_R 215 405 [some (.ref x), l1, l2, l3, l4, l5, l6, l7, l8] [] (.ref x :: st) h Q) ∧
  (∀ (l1 l2 l3 l4 l5 l6 l7 l8 : Option Value) (st : List Value) (h : pb_H) (Q : Option Value → pb_H → Prop), pb_R 215 404 [some .null, l1, l2, l3, l4, l5, l6, l7, l8] [] st h Q ↔ pb_R 215 405 [some .null, l1, l2, l3, l4, l5, l6, l7, l8] [] (.null :: st) h Q) ∧
  (∀ (L : pb_L) (J : pb_J) (st : List Value) (h : pb_H) (Q : Option Value → pb_H → Prop), pb_R 215 405 L J st h Q ↔ pb_R 215 408 L J (.int (314 : Int32) :: st) h Q) ∧
  (∀ (L : pb_L) (J : pb_J) (st : List Value) (h : pb_H) (Q : Option Value → pb_H → Prop), pb_R 215 408 L J st h Q ↔ pb_R 215 411 L J (.int (315 : Int32) :: st) h Q) ∧
  (∀ (L : pb_L) (J : pb_J) (h : pb_H) (Q : Option Value → pb_H → Prop) (x0 : Int32) (x1 : Int32) (x2 : Nat), pb_R 215 411 L J [.int x0, .int x1, .ref x2] h Q ↔ pb_is0 (h.2 x2) 12 = true ∧ pb_call 165 [.ref x2, .int x1, .int x0] h (fun v t => pb_R 215 414 L J (v.toList ++ []) t Q)) ∧
  (∀ (L : pb_L) (J : pb_J) (st : List Value) (h : pb_H) (Q : Option Value → pb_H → Prop) (x : Int32), pb_R 215 414 L J (.int x :: st) h Q ↔ if ¬ x = 0 then pb_R 215 419 L J st h Q else pb_R 215 417 L J st h Q) ∧
  (∀ (L : pb_L) (J : pb_J) (st : List Value) (h : pb_H) (Q : Option Value → pb_H → Prop), pb_R 215 417 L J st h Q ↔ pb_R 215 418 L J (.int (0 : Int32) :: st) h Q) ∧
  (∀ (L : pb_L) (J : pb_J) (h : pb_H) (Q : Option Value → pb_H → Prop) (x : Int32), pb_R 215 418 L J [.int x] h Q ↔ narrow .boolean (.int x) = .int x ∧ Q (some (.int x)) h) ∧
  (∀ (l1 l2 l3 l4 l5 l6 l7 l8 : Option Value) (st : List Value) (h : pb_H) (Q : Option Value → pb_H → Prop) (x : Nat), pb_R 215 419 [some (.ref x), l1, l2, l3, l4, l5, l6, l7, l8] [] st h Q ↔ pb_R 215 420 [some (.ref x), l1, l2, l3, l4, l5, l6, l7, l8] [] (.ref x :: st) h Q) ∧
  (∀ (l1 l2 l3 l4 l5 l6 l7 l8 : Option Value) (st : List Value) (h : pb_H) (Q : Option Value → pb_H → Prop), pb_R 215 419 [some .null, l1, l2, l3, l4, l5, l6, l7, l8] [] st h Q ↔ pb_R 215 420 [some .null, l1, l2, l3, l4, l5, l6, l7, l8] [] (.null :: st) h Q) ∧
  (∀ (L : pb_L) (J : pb_J) (st : List Value) (h : pb_H) (Q : Option Value → pb_H → Prop), pb_R 215 420 L J st h Q ↔ pb_R 215 422 L J (.int (43 : Int32) :: st) h Q) ∧
  (∀ (L : pb_L) (J : pb_J) (h : pb_H) (Q : Option Value → pb_H → Prop) (x0 : Int32) (x1 : Nat), pb_R 215 422 L J [.int x0, .ref x1] h Q ↔ pb_is0 (h.2 x1) 12 = true ∧ pb_call 214 [.ref x1, .int x0] h (fun v t => pb_R 215 425 L J (v.toList ++ []) t Q)) ∧
  (∀ (l1 l2 l3 l4 l5 l6 l7 l8 : Option Value) (st : List Value) (h : pb_H) (Q : Option Value → pb_H → Prop) (x : Nat), pb_R 215 425 [some (.ref x), l1, l2, l3, l4, l5, l6, l7, l8] [] st h Q ↔ pb_R 215 426 [some (.ref x), l1, l2, l3, l4, l5, l6, l7, l8] [] (.ref x :: st) h Q) ∧
  (∀ (l1 l2 l3 l4 l5 l6 l7 l8 : Option Value) (st : List Value) (h : pb_H) (Q : Option Value → pb_H → Prop), pb_R 215 425 [some .null, l1, l2, l3, l4, l5, l6, l7, l8] [] st h Q ↔ pb_R 215 426 [some .null, l1, l2, l3, l4, l5, l6, l7, l8] [] (.null :: st) h Q) ∧
  (∀ (L : pb_L) (J : pb_J) (st : List Value) (h : pb_H) (Q : Option Value → pb_H → Prop), pb_R 215 426 L J st h Q ↔ pb_R 215 429 L J (.int (314 : Int32) :: st) h Q) ∧
  (∀ (L : pb_L) (J : pb_J) (h : pb_H) (Q : Option Value → pb_H → Prop) (x0 : Int32) (x1 : Nat), pb_R 215 429 L J [.int x0, .ref x1] h Q ↔ pb_is0 (h.2 x1) 12 = true ∧ pb_call 168 [.ref x1, .int x0] h (fun v t => pb_R 215 432 L J (v.toList ++ []) t Q)) ∧
  (∀ (l1 l2 l3 l4 l5 l6 l7 l8 : Option Value) (st : List Value) (h : pb_H) (Q : Option Value → pb_H → Prop) (x : Nat), pb_R 215 432 [some (.ref x), l1, l2, l3, l4, l5, l6, l7, l8] [] st h Q ↔ pb_R 215 433 [some (.ref x), l1, l2, l3, l4, l5, l6, l7, l8] [] (.ref x :: st) h Q) ∧
  (∀ (l1 l2 l3 l4 l5 l6 l7 l8 : Option Value) (st : List Value) (h : pb_H) (Q : Option Value → pb_H → Prop), pb_R 215 432 [some .null, l1, l2, l3, l4, l5, l6, l7, l8] [] st h Q ↔ pb_R 215 433 [some .null, l1, l2, l3, l4, l5, l6, l7, l8] [] (.null :: st) h Q) ∧
  (∀ (L : pb_L) (J : pb_J) (st : List Value) (h : pb_H) (Q : Option Value → pb_H → Prop), pb_R 215 433 L J st h Q ↔ pb_R 215 435 L J (.int (115 : Int32) :: st) h Q) ∧
  (∀ (L : pb_L) (J : pb_J) (h : pb_H) (Q : Option Value → pb_H → Prop) (x0 : Int32) (x1 : Nat), pb_R 215 435 L J [.int x0, .ref x1] h Q ↔ pb_is0 (h.2 x1) 12 = true ∧ pb_call 214 [.ref x1, .int x0] h (fun v t => pb_R 215 438 L J (v.toList ++ []) t Q)) ∧
  (∀ (L : pb_L) (J : pb_J) (st : List Value) (h : pb_H) (Q : Option Value → pb_H → Prop), pb_R 215 438 L J st h Q ↔ pb_R 215 439 L J (.int (1 : Int32) :: st) h Q) ∧
  (∀ (L : pb_L) (J : pb_J) (h : pb_H) (Q : Option Value → pb_H → Prop) (x : Int32), pb_R 215 439 L J [.int x] h Q ↔ narrow .boolean (.int x) = .int x ∧ Q (some (.int x)) h) := ⟨
  fun l1 l2 l3 l4 l5 l6 l7 l8 st h Q x => pf_S pb_u_215 rfl rfl,
  fun l1 l2 l3 l4 l5 l6 l7 l8 st h Q => pf_S pb_u_215 rfl rfl,
  fun L J st h Q a => pf_gf pb_u_215 rfl rfl,
  fun l0 l2 l3 l4 l5 l6 l7 l8 st h Q x => pf_S pb_u_215 rfl rfl,
  fun L J st h Q a i => pf_ai pb_u_215 rfl rfl,
  fun l0 l1 l2 l3 l4 l5 l6 l7 l8 st h Q x => pf_S pb_u_215 rfl rfl,
  fun l0 l1 l3 l4 l5 l6 l7 l8 st h Q x => pf_S pb_u_215 rfl rfl,
  fun L J st h Q x => pf_ii pb_u_215 rfl rfl rfl,
  fun l0 l1 l3 l4 l5 l6 l7 l8 st h Q x => pf_S pb_u_215 rfl rfl,
  fun L J st x h Q => pf_S pb_u_215 rfl rfl,
  fun L J st h Q => pf_S pb_u_215 rfl rfl,
  fun l0 l1 l3 l4 l5 l6 l7 l8 st h Q x => pf_S pb_u_215 rfl rfl,
  fun l0 l1 l2 l3 l4 l5 l6 l7 l8 st h Q x => pf_S pb_u_215 rfl rfl,
  fun l0 l1 l3 l4 l5 l6 l7 l8 st h Q x => pf_S pb_u_215 rfl rfl,
  fun L J st h Q x => pf_ii pb_u_215 rfl rfl rfl,
  fun L J st h Q => pf_S pb_u_215 rfl rfl,
  fun L J st h Q => pf_S pb_u_215 rfl rfl,
  fun L J st h Q => pf_S pb_u_215 rfl rfl,
  fun l0 l1 l2 l3 l4 l5 l6 l7 l8 st h Q x => pf_S pb_u_215 rfl rfl,
  fun l1 l2 l3 l4 l5 l6 l7 l8 st h Q x => pf_S pb_u_215 rfl rfl,
  fun l1 l2 l3 l4 l5 l6 l7 l8 st h Q => pf_S pb_u_215 rfl rfl,
  fun L J st h Q a => pf_gf pb_u_215 rfl rfl,
  fun L J st h Q => pf_S pb_u_215 rfl rfl,
  fun l0 l1 l2 l4 l5 l6 l7 l8 st h Q x => pf_S pb_u_215 rfl rfl,
  fun L J st x y h Q => pf_S pb_u_215 rfl rfl,
  fun L J st h Q a i => pf_ai pb_u_215 rfl rfl,
  fun l0 l1 l2 l3 l5 l6 l7 l8 st h Q x => pf_S pb_u_215 rfl rfl,
  fun L J st x h Q => pf_S pb_u_215 rfl rfl,
  fun L J st h Q x y => pf_ic pb_u_215 rfl rfl pf_ne,
  fun l1 l2 l3 l4 l5 l6 l7 l8 st h Q x => pf_S pb_u_215 rfl rfl,
  fun l1 l2 l3 l4 l5 l6 l7 l8 st h Q => pf_S pb_u_215 rfl rfl,
  fun L J st h Q a => pf_gf pb_u_215 rfl rfl,
  fun l0 l2 l3 l4 l5 l6 l7 l8 st h Q x => pf_S pb_u_215 rfl rfl,
  fun L J st h Q a i => pf_ai pb_u_215 rfl rfl,
  fun L J st h Q x => pf_ii pb_u_215 rfl rfl pf_ne,
  fun L J st h Q => pf_S pb_u_215 rfl rfl,
  fun L J h Q x => pf_rz pb_u_215 rfl rfl,
  fun L J st h Q => pf_S pb_u_215 rfl rfl,
  fun L J st h Q => pf_S pb_u_215 rfl rfl,
  fun L J h Q x0 x1 => pf_ks pb_u_215 rfl rfl rfl rfl,
  fun l0 l1 l2 l3 l4 l5 l6 l7 l8 st h Q x => pf_S pb_u_215 rfl rfl,
  fun L J st h Q => pf_S pb_u_215 rfl rfl,
  fun L J st h Q => pf_S pb_u_215 rfl rfl,
  fun L J h Q x0 x1 => pf_ks pb_u_215 rfl rfl rfl rfl,
  fun l0 l1 l2 l3 l4 l5 l6 l7 l8 st h Q x => pf_S pb_u_215 rfl rfl,
  fun l1 l2 l3 l4 l5 l6 l7 l8 st h Q x => pf_S pb_u_215 rfl rfl,
  fun l1 l2 l3 l4 l5 l6 l7 l8 st h Q => pf_S pb_u_215 rfl rfl,
  fun L J st h Q => pf_S pb_u_215 rfl rfl,
  fun l0 l1 l2 l4 l5 l6 l7 l8 st h Q x => pf_S pb_u_215 rfl rfl,
  fun L J h Q x0 x1 x2 => pf_ks pb_u_215 rfl rfl rfl rfl,
  fun l0 l1 l2 l3 l4 l6 l7 l8 st h Q x => pf_S pb_u_215 rfl rfl,
  fun L J h Q x0 x1 x2 => pf_kv pb_u_215 rfl pb_ci_146 rfl ⟨Nat.le_of_ble_eq_true rfl, Nat.le_of_ble_eq_true rfl, Nat.le_of_ble_eq_true rfl, Nat.le_of_ble_eq_true rfl, rfl⟩ rfl rfl,
  fun l1 l2 l3 l4 l5 l6 l7 l8 st h Q x => pf_S pb_u_215 rfl rfl,
  fun l1 l2 l3 l4 l5 l6 l7 l8 st h Q => pf_S pb_u_215 rfl rfl,
  fun l1 l2 l3 l4 l5 l6 l7 l8 st h Q x => pf_S pb_u_215 rfl rfl,
  fun l1 l2 l3 l4 l5 l6 l7 l8 st h Q => pf_S pb_u_215 rfl rfl,
  fun L J st h Q a => pf_gf pb_u_215 rfl rfl,
  fun l0 l2 l3 l4 l5 l6 l7 l8 st h Q x => pf_S pb_u_215 rfl rfl,
  fun L J st h Q a i => pf_ai pb_u_215 rfl rfl,
  fun L J st h Q => pf_S pb_u_215 rfl rfl,
  fun L J h Q x0 x1 x2 => pf_kv pb_u_215 rfl pb_ci_162 rfl ⟨Nat.le_of_ble_eq_true rfl, Nat.le_of_ble_eq_true rfl, Nat.le_of_ble_eq_true rfl, Nat.le_of_ble_eq_true rfl, rfl⟩ rfl rfl,
  fun l1 l2 l3 l4 l5 l6 l7 l8 st h Q x => pf_S pb_u_215 rfl rfl,
  fun l1 l2 l3 l4 l5 l6 l7 l8 st h Q => pf_S pb_u_215 rfl rfl,
  fun L J st h Q => pf_S pb_u_215 rfl rfl,
  fun l0 l1 l2 l4 l5 l6 l7 l8 st h Q x => pf_S pb_u_215 rfl rfl,
  fun L J h Q x0 x1 x2 => pf_ks pb_u_215 rfl rfl rfl rfl,
  fun l0 l1 l2 l3 l4 l5 l7 l8 st h Q x => pf_S pb_u_215 rfl rfl,
  fun L J h Q x0 x1 x2 => pf_kv pb_u_215 rfl pb_ci_146 rfl ⟨Nat.le_of_ble_eq_true rfl, Nat.le_of_ble_eq_true rfl, Nat.le_of_ble_eq_true rfl, Nat.le_of_ble_eq_true rfl, rfl⟩ rfl rfl,
  fun l1 l2 l3 l4 l5 l6 l7 l8 st h Q x => pf_S pb_u_215 rfl rfl,
  fun l1 l2 l3 l4 l5 l6 l7 l8 st h Q => pf_S pb_u_215 rfl rfl,
  fun L J st h Q => pf_S pb_u_215 rfl rfl,
  fun L J h Q x0 x1 => pf_kv pb_u_215 rfl pb_ci_209 rfl ⟨Nat.le_of_ble_eq_true rfl, Nat.le_of_ble_eq_true rfl, Nat.le_of_ble_eq_true rfl, Nat.le_of_ble_eq_true rfl, rfl⟩ rfl rfl,
  fun l1 l2 l3 l4 l5 l6 l7 l8 st h Q x => pf_S pb_u_215 rfl rfl,
  fun l1 l2 l3 l4 l5 l6 l7 l8 st h Q => pf_S pb_u_215 rfl rfl,
  fun l1 l2 l3 l4 l5 l6 l7 l8 st h Q x => pf_S pb_u_215 rfl rfl,
  fun l1 l2 l3 l4 l5 l6 l7 l8 st h Q => pf_S pb_u_215 rfl rfl,
  fun L J st h Q a => pf_gf pb_u_215 rfl rfl,
  fun l0 l2 l3 l4 l5 l6 l7 l8 st h Q x => pf_S pb_u_215 rfl rfl,
  fun L J st h Q a i => pf_ai pb_u_215 rfl rfl,
  fun L J h Q x0 x1 => pf_kv pb_u_215 rfl pb_ci_211 rfl ⟨Nat.le_of_ble_eq_true rfl, Nat.le_of_ble_eq_true rfl, Nat.le_of_ble_eq_true rfl, Nat.le_of_ble_eq_true rfl, rfl⟩ rfl rfl,
  fun L J st h Q => pf_S pb_u_215 rfl rfl,
  fun l0 l1 l2 l3 l4 l5 l6 l7 l8 st h Q x => pf_S pb_u_215 rfl rfl,
  fun L J st h Q => pf_S pb_u_215 rfl rfl,
  fun L J st h Q x y => pf_ic pb_u_215 rfl rfl rfl,
  fun l1 l2 l3 l4 l5 l6 l7 l8 st h Q x => pf_S pb_u_215 rfl rfl,
  fun l1 l2 l3 l4 l5 l6 l7 l8 st h Q => pf_S pb_u_215 rfl rfl,
  fun L J st h Q a => pf_gf pb_u_215 rfl rfl,
  fun l0 l1 l2 l3 l4 l5 l6 l8 st h Q x => pf_S pb_u_215 rfl rfl,
  fun L J st h Q => pf_S pb_u_215 rfl rfl,
  fun L J st h Q a i x => pf_si pb_u_215 rfl rfl,
  fun l0 l1 l2 l3 l4 l5 l6 l8 st h Q x => pf_S pb_u_215 rfl rfl,
  fun L J st h Q => pf_S pb_u_215 rfl rfl,
  fun L J st h Q => pf_S pb_u_215 rfl rfl,
  fun l0 l1 l2 l3 l4 l5 l6 l7 l8 st h Q x => pf_S pb_u_215 rfl rfl,
  fun l0 l2 l3 l4 l5 l6 l7 l8 st h Q x => pf_S pb_u_215 rfl rfl,
  fun L J st h Q x y => pf_ic pb_u_215 rfl rfl rfl,
  fun l1 l2 l3 l4 l5 l6 l7 l8 st h Q x => pf_S pb_u_215 rfl rfl,
  fun l1 l2 l3 l4 l5 l6 l7 l8 st h Q => pf_S pb_u_215 rfl rfl,
  fun L J st h Q a => pf_gf pb_u_215 rfl rfl,
  fun l0 l1 l2 l3 l4 l5 l6 l8 st h Q x => pf_S pb_u_215 rfl rfl,
  fun L J st h Q a i => pf_ai pb_u_215 rfl rfl,
  fun l0 l1 l2 l3 l4 l5 l6 l7 l8 st h Q x => pf_S pb_u_215 rfl rfl,
  fun l1 l2 l3 l4 l5 l6 l7 l8 st h Q x => pf_S pb_u_215 rfl rfl,
  fun l1 l2 l3 l4 l5 l6 l7 l8 st h Q => pf_S pb_u_215 rfl rfl,
  fun L J st h Q a => pf_gf pb_u_215 rfl rfl,
  fun l0 l1 l2 l3 l4 l5 l6 l7 st h Q x => pf_S pb_u_215 rfl rfl,
  fun L J st h Q x => pf_ii pb_u_215 rfl rfl rfl,
  fun l0 l1 l2 l3 l4 l5 l6 l7 st h Q x => pf_S pb_u_215 rfl rfl,
  fun L J st x h Q => pf_S pb_u_215 rfl rfl,
  fun L J st h Q => pf_S pb_u_215 rfl rfl,
  fun l0 l1 l2 l3 l4 l5 l6 l7 st h Q x => pf_S pb_u_215 rfl rfl,
  fun l0 l1 l2 l3 l4 l5 l6 l7 st h Q x => pf_S pb_u_215 rfl rfl,
  fun L J st h Q x => pf_ii pb_u_215 rfl rfl rfl,
  fun L J st h Q => pf_S pb_u_215 rfl rfl,
  fun L J st h Q => pf_S pb_u_215 rfl rfl,
  fun L J st h Q => pf_S pb_u_215 rfl rfl,
  fun L J st h Q a i x => pf_si pb_u_215 rfl rfl,
  fun l0 l1 l2 l3 l4 l5 l6 l8 st h Q x => pf_S pb_u_215 rfl rfl,
  fun L J st h Q => pf_S pb_u_215 rfl rfl,
  fun L J st h Q => pf_S pb_u_215 rfl rfl,
  fun l0 l1 l2 l3 l4 l5 l6 l7 l8 st h Q x => pf_S pb_u_215 rfl rfl,
  fun l1 l2 l3 l4 l5 l6 l7 l8 st h Q x => pf_S pb_u_215 rfl rfl,
  fun l1 l2 l3 l4 l5 l6 l7 l8 st h Q => pf_S pb_u_215 rfl rfl,
  fun L J st h Q a => pf_gf pb_u_215 rfl rfl,
  fun L J st h Q x y => pf_ic pb_u_215 rfl rfl rfl,
  fun l1 l2 l3 l4 l5 l6 l7 l8 st h Q x => pf_S pb_u_215 rfl rfl,
  fun l1 l2 l3 l4 l5 l6 l7 l8 st h Q => pf_S pb_u_215 rfl rfl,
  fun L J st h Q a => pf_gf pb_u_215 rfl rfl,
  fun L J st h Q => pf_S pb_u_215 rfl rfl,
  fun l0 l1 l2 l3 l4 l5 l6 l8 st h Q x => pf_S pb_u_215 rfl rfl,
  fun L J st x y h Q => pf_S pb_u_215 rfl rfl,
  fun L J st h Q a i => pf_ai pb_u_215 rfl rfl,
  fun l0 l1 l2 l3 l4 l5 l6 l7 l8 st h Q x => pf_S pb_u_215 rfl rfl,
  fun l0 l1 l2 l3 l4 l5 l6 l8 st h Q x => pf_S pb_u_215 rfl rfl,
  fun l0 l1 l2 l4 l5 l6 l7 l8 st h Q x => pf_S pb_u_215 rfl rfl,
  fun L J st h Q x y => pf_ic pb_u_215 rfl rfl rfl,
  fun l0 l1 l2 l3 l4 l5 l6 l7 st h Q x => pf_S pb_u_215 rfl rfl,
  fun L J st h Q x => pf_ii pb_u_215 rfl rfl rfl,
  fun l0 l1 l2 l3 l4 l5 l6 l7 st h Q x => pf_S pb_u_215 rfl rfl,
  fun l1 l2 l3 l4 l5 l6 l7 l8 st h Q x => pf_S pb_u_215 rfl rfl,
  fun l1 l2 l3 l4 l5 l6 l7 l8 st h Q => pf_S pb_u_215 rfl rfl,
  fun L J st h Q a => pf_gf pb_u_215 rfl rfl,
  fun l0 l1 l2 l3 l4 l5 l6 l8 st h Q x => pf_S pb_u_215 rfl rfl,
  fun L J st h Q a i => pf_ai pb_u_215 rfl rfl,
  fun L J h Q x0 x1 => pf_ks pb_u_215 rfl rfl rfl rfl,
  fun L J st h Q x => pf_ii pb_u_215 rfl rfl pf_ne,
  fun l1 l2 l3 l4 l5 l6 l7 l8 st h Q x => pf_S pb_u_215 rfl rfl,
  fun l1 l2 l3 l4 l5 l6 l7 l8 st h Q => pf_S pb_u_215 rfl rfl,
  fun L J st h Q => pf_S pb_u_215 rfl rfl,
  fun l0 l1 l2 l3 l4 l5 l6 l8 st h Q x => pf_S pb_u_215 rfl rfl,
  fun L J h Q x0 x1 x2 => pf_ks pb_u_215 rfl rfl rfl rfl,
  fun l0 l1 l2 l3 l4 l5 l7 l8 st h Q x => pf_S pb_u_215 rfl rfl,
  fun L J h Q x0 x1 x2 => pf_kv pb_u_215 rfl pb_ci_160 rfl ⟨Nat.le_of_ble_eq_true rfl, Nat.le_of_ble_eq_true rfl, Nat.le_of_ble_eq_true rfl, Nat.le_of_ble_eq_true rfl, rfl⟩ rfl rfl,
  fun L J st h Q x => pf_ii pb_u_215 rfl rfl pf_ne,
  fun l1 l2 l3 l4 l5 l6 l7 l8 st h Q x => pf_S pb_u_215 rfl rfl,
  fun l1 l2 l3 l4 l5 l6 l7 l8 st h Q => pf_S pb_u_215 rfl rfl,
  fun L J st h Q => pf_S pb_u_215 rfl rfl,
  fun l0 l1 l2 l3 l4 l5 l6 l8 st h Q x => pf_S pb_u_215 rfl rfl,
  fun L J h Q x0 x1 x2 => pf_kv pb_u_215 rfl pb_ci_169 rfl ⟨Nat.le_of_ble_eq_true rfl, Nat.le_of_ble_eq_true rfl, Nat.le_of_ble_eq_true rfl, Nat.le_of_ble_eq_true rfl, rfl⟩ rfl rfl,
  fun l1 l2 l3 l4 l5 l6 l7 l8 st h Q x => pf_S pb_u_215 rfl rfl,
  fun l1 l2 l3 l4 l5 l6 l7 l8 st h Q => pf_S pb_u_215 rfl rfl,
  fun L J st h Q => pf_S pb_u_215 rfl rfl,
  fun L J h Q x0 x1 => pf_kv pb_u_215 rfl pb_ci_209 rfl ⟨Nat.le_of_ble_eq_true rfl, Nat.le_of_ble_eq_true rfl, Nat.le_of_ble_eq_true rfl, Nat.le_of_ble_eq_true rfl, rfl⟩ rfl rfl,
  fun l1 l2 l3 l4 l5 l6 l7 l8 st h Q x => pf_S pb_u_215 rfl rfl,
  fun l1 l2 l3 l4 l5 l6 l7 l8 st h Q => pf_S pb_u_215 rfl rfl,
  fun L J st h Q => pf_S pb_u_215 rfl rfl,
  fun L J h Q x0 x1 => pf_kv pb_u_215 rfl pb_ci_209 rfl ⟨Nat.le_of_ble_eq_true rfl, Nat.le_of_ble_eq_true rfl, Nat.le_of_ble_eq_true rfl, Nat.le_of_ble_eq_true rfl, rfl⟩ rfl rfl,
  fun l1 l2 l3 l4 l5 l6 l7 l8 st h Q x => pf_S pb_u_215 rfl rfl,
  fun l1 l2 l3 l4 l5 l6 l7 l8 st h Q => pf_S pb_u_215 rfl rfl,
  fun l0 l1 l2 l3 l4 l5 l6 l8 st h Q x => pf_S pb_u_215 rfl rfl,
  fun L J h Q x0 x1 => pf_kv pb_u_215 rfl pb_ci_211 rfl ⟨Nat.le_of_ble_eq_true rfl, Nat.le_of_ble_eq_true rfl, Nat.le_of_ble_eq_true rfl, Nat.le_of_ble_eq_true rfl, rfl⟩ rfl rfl,
  fun l1 l2 l3 l4 l5 l6 l7 l8 st h Q x => pf_S pb_u_215 rfl rfl,
  fun l1 l2 l3 l4 l5 l6 l7 l8 st h Q => pf_S pb_u_215 rfl rfl,
  fun L J st h Q => pf_S pb_u_215 rfl rfl,
  fun L J h Q x0 x1 => pf_kv pb_u_215 rfl pb_ci_214 rfl ⟨Nat.le_of_ble_eq_true rfl, Nat.le_of_ble_eq_true rfl, Nat.le_of_ble_eq_true rfl, Nat.le_of_ble_eq_true rfl, rfl⟩ rfl rfl,
  fun l0 l1 l2 l3 l4 l5 l6 l8 st h Q x => pf_S pb_u_215 rfl rfl,
  fun L J st h Q => pf_S pb_u_215 rfl rfl,
  fun l1 l2 l3 l4 l5 l6 l7 l8 st h Q x => pf_S pb_u_215 rfl rfl,
  fun l1 l2 l3 l4 l5 l6 l7 l8 st h Q => pf_S pb_u_215 rfl rfl,
  fun l0 l1 l2 l3 l4 l5 l7 l8 st h Q x => pf_S pb_u_215 rfl rfl,
  fun L J h Q x0 x1 => pf_kv pb_u_215 rfl pb_ci_149 rfl ⟨Nat.le_of_ble_eq_true rfl, Nat.le_of_ble_eq_true rfl, Nat.le_of_ble_eq_true rfl, Nat.le_of_ble_eq_true rfl, rfl⟩ rfl rfl,
  fun L J st h Q x => pf_ii pb_u_215 rfl rfl pf_ne,
  fun l1 l2 l3 l4 l5 l6 l7 l8 st h Q x => pf_S pb_u_215 rfl rfl,
  fun l1 l2 l3 l4 l5 l6 l7 l8 st h Q => pf_S pb_u_215 rfl rfl,
  fun L J st h Q => pf_S pb_u_215 rfl rfl,
  fun l0 l1 l2 l3 l4 l5 l7 l8 st h Q x => pf_S pb_u_215 rfl rfl,
  fun L J h Q x0 x1 x2 => pf_kv pb_u_215 rfl pb_ci_167 rfl ⟨Nat.le_of_ble_eq_true rfl, Nat.le_of_ble_eq_true rfl, Nat.le_of_ble_eq_true rfl, Nat.le_of_ble_eq_true rfl, rfl⟩ rfl rfl,
  fun l1 l2 l3 l4 l5 l6 l7 l8 st h Q x => pf_S pb_u_215 rfl rfl,
  fun l1 l2 l3 l4 l5 l6 l7 l8 st h Q => pf_S pb_u_215 rfl rfl,
  fun L J st h Q => pf_S pb_u_215 rfl rfl,
  fun L J h Q x0 x1 => pf_kv pb_u_215 rfl pb_ci_209 rfl ⟨Nat.le_of_ble_eq_true rfl, Nat.le_of_ble_eq_true rfl, Nat.le_of_ble_eq_true rfl, Nat.le_of_ble_eq_true rfl, rfl⟩ rfl rfl,
  fun l1 l2 l3 l4 l5 l6 l7 l8 st h Q x => pf_S pb_u_215 rfl rfl,
  fun l1 l2 l3 l4 l5 l6 l7 l8 st h Q => pf_S pb_u_215 rfl rfl,
  fun l0 l1 l2 l3 l4 l5 l7 l8 st h Q x => pf_S pb_u_215 rfl rfl,
  fun L J h Q x0 x1 => pf_kv pb_u_215 rfl pb_ci_210 rfl ⟨Nat.le_of_ble_eq_true rfl, Nat.le_of_ble_eq_true rfl, Nat.le_of_ble_eq_true rfl, Nat.le_of_ble_eq_true rfl, rfl⟩ rfl rfl,
  fun l1 l2 l3 l4 l5 l6 l7 l8 st h Q x => pf_S pb_u_215 rfl rfl,
  fun l1 l2 l3 l4 l5 l6 l7 l8 st h Q => pf_S pb_u_215 rfl rfl,
  fun L J st h Q => pf_S pb_u_215 rfl rfl,
  fun L J h Q x0 x1 => pf_kv pb_u_215 rfl pb_ci_214 rfl ⟨Nat.le_of_ble_eq_true rfl, Nat.le_of_ble_eq_true rfl, Nat.le_of_ble_eq_true rfl, Nat.le_of_ble_eq_true rfl, rfl⟩ rfl rfl,
  fun l1 l2 l3 l4 l5 l6 l7 l8 st h Q x => pf_S pb_u_215 rfl rfl,
  fun l1 l2 l3 l4 l5 l6 l7 l8 st h Q => pf_S pb_u_215 rfl rfl,
  fun L J st h Q => pf_S pb_u_215 rfl rfl,
  fun L J h Q x0 x1 => pf_kv pb_u_215 rfl pb_ci_168 rfl ⟨Nat.le_of_ble_eq_true rfl, Nat.le_of_ble_eq_true rfl, Nat.le_of_ble_eq_true rfl, Nat.le_of_ble_eq_true rfl, rfl⟩ rfl rfl,
  fun l1 l2 l3 l4 l5 l6 l7 l8 st h Q x => pf_S pb_u_215 rfl rfl,
  fun l1 l2 l3 l4 l5 l6 l7 l8 st h Q => pf_S pb_u_215 rfl rfl,
  fun L J st h Q => pf_S pb_u_215 rfl rfl,
  fun L J h Q x0 x1 => pf_kv pb_u_215 rfl pb_ci_214 rfl ⟨Nat.le_of_ble_eq_true rfl, Nat.le_of_ble_eq_true rfl, Nat.le_of_ble_eq_true rfl, Nat.le_of_ble_eq_true rfl, rfl⟩ rfl rfl,
  fun l1 l2 l3 l4 l5 l6 l7 l8 st h Q x => pf_S pb_u_215 rfl rfl,
  fun l1 l2 l3 l4 l5 l6 l7 l8 st h Q => pf_S pb_u_215 rfl rfl,
  fun l0 l1 l2 l3 l4 l6 l7 l8 st h Q x => pf_S pb_u_215 rfl rfl,
  fun L J h Q x0 x1 => pf_kv pb_u_215 rfl pb_ci_149 rfl ⟨Nat.le_of_ble_eq_true rfl, Nat.le_of_ble_eq_true rfl, Nat.le_of_ble_eq_true rfl, Nat.le_of_ble_eq_true rfl, rfl⟩ rfl rfl,
  fun L J st h Q x => pf_ii pb_u_215 rfl rfl pf_ne,
  fun l1 l2 l3 l4 l5 l6 l7 l8 st h Q x => pf_S pb_u_215 rfl rfl,
  fun l1 l2 l3 l4 l5 l6 l7 l8 st h Q => pf_S pb_u_215 rfl rfl,
  fun L J st h Q => pf_S pb_u_215 rfl rfl,
  fun l0 l1 l2 l3 l4 l6 l7 l8 st h Q x => pf_S pb_u_215 rfl rfl,
  fun L J h Q x0 x1 x2 => pf_kv pb_u_215 rfl pb_ci_166 rfl ⟨Nat.le_of_ble_eq_true rfl, Nat.le_of_ble_eq_true rfl, Nat.le_of_ble_eq_true rfl, Nat.le_of_ble_eq_true rfl, rfl⟩ rfl rfl,
  fun L J st h Q x => pf_ii pb_u_215 rfl rfl pf_ne,
  fun L J st h Q => pf_S pb_u_215 rfl rfl,
  fun L J h Q x => pf_rz pb_u_215 rfl rfl,
  fun l1 l2 l3 l4 l5 l6 l7 l8 st h Q x => pf_S pb_u_215 rfl rfl,
  fun l1 l2 l3 l4 l5 l6 l7 l8 st h Q => pf_S pb_u_215 rfl rfl,
  fun L J st h Q => pf_S pb_u_215 rfl rfl,
  fun L J h Q x0 x1 => pf_kv pb_u_215 rfl pb_ci_209 rfl ⟨Nat.le_of_ble_eq_true rfl, Nat.le_of_ble_eq_true rfl, Nat.le_of_ble_eq_true rfl, Nat.le_of_ble_eq_true rfl, rfl⟩ rfl rfl,
  fun l1 l2 l3 l4 l5 l6 l7 l8 st h Q x => pf_S pb_u_215 rfl rfl,
  fun l1 l2 l3 l4 l5 l6 l7 l8 st h Q => pf_S pb_u_215 rfl rfl,
  fun l0 l1 l2 l3 l4 l6 l7 l8 st h Q x => pf_S pb_u_215 rfl rfl,
  fun L J h Q x0 x1 => pf_kv pb_u_215 rfl pb_ci_210 rfl ⟨Nat.le_of_ble_eq_true rfl, Nat.le_of_ble_eq_true rfl, Nat.le_of_ble_eq_true rfl, Nat.le_of_ble_eq_true rfl, rfl⟩ rfl rfl,
  fun l1 l2 l3 l4 l5 l6 l7 l8 st h Q x => pf_S pb_u_215 rfl rfl,
  fun l1 l2 l3 l4 l5 l6 l7 l8 st h Q => pf_S pb_u_215 rfl rfl,
  fun L J st h Q => pf_S pb_u_215 rfl rfl,
  fun L J h Q x0 x1 => pf_kv pb_u_215 rfl pb_ci_214 rfl ⟨Nat.le_of_ble_eq_true rfl, Nat.le_of_ble_eq_true rfl, Nat.le_of_ble_eq_true rfl, Nat.le_of_ble_eq_true rfl, rfl⟩ rfl rfl,
  fun l1 l2 l3 l4 l5 l6 l7 l8 st h Q x => pf_S pb_u_215 rfl rfl,
  fun l1 l2 l3 l4 l5 l6 l7 l8 st h Q => pf_S pb_u_215 rfl rfl,
  fun L J st h Q => pf_S pb_u_215 rfl rfl,
  fun L J st h Q => pf_S pb_u_215 rfl rfl,
  fun L J h Q x0 x1 x2 => pf_kv pb_u_215 rfl pb_ci_165 rfl ⟨Nat.le_of_ble_eq_true rfl, Nat.le_of_ble_eq_true rfl, Nat.le_of_ble_eq_true rfl, Nat.le_of_ble_eq_true rfl, rfl⟩ rfl rfl,
  fun L J st h Q x => pf_ii pb_u_215 rfl rfl pf_ne,
  fun L J st h Q => pf_S pb_u_215 rfl rfl,
  fun L J h Q x => pf_rz pb_u_215 rfl rfl,
  fun l1 l2 l3 l4 l5 l6 l7 l8 st h Q x => pf_S pb_u_215 rfl rfl,
  fun l1 l2 l3 l4 l5 l6 l7 l8 st h Q => pf_S pb_u_215 rfl rfl,
  fun L J st h Q => pf_S pb_u_215 rfl rfl,
  fun L J h Q x0 x1 => pf_kv pb_u_215 rfl pb_ci_214 rfl ⟨Nat.le_of_ble_eq_true rfl, Nat.le_of_ble_eq_true rfl, Nat.le_of_ble_eq_true rfl, Nat.le_of_ble_eq_true rfl, rfl⟩ rfl rfl,
  fun l1 l2 l3 l4 l5 l6 l7 l8 st h Q x => pf_S pb_u_215 rfl rfl,
  fun l1 l2 l3 l4 l5 l6 l7 l8 st h Q => pf_S pb_u_215 rfl rfl,
  fun L J st h Q => pf_S pb_u_215 rfl rfl,
  fun L J h Q x0 x1 => pf_kv pb_u_215 rfl pb_ci_168 rfl ⟨Nat.le_of_ble_eq_true rfl, Nat.le_of_ble_eq_true rfl, Nat.le_of_ble_eq_true rfl, Nat.le_of_ble_eq_true rfl, rfl⟩ rfl rfl,
  fun l1 l2 l3 l4 l5 l6 l7 l8 st h Q x => pf_S pb_u_215 rfl rfl,
  fun l1 l2 l3 l4 l5 l6 l7 l8 st h Q => pf_S pb_u_215 rfl rfl,
  fun L J st h Q => pf_S pb_u_215 rfl rfl,
  fun L J h Q x0 x1 => pf_kv pb_u_215 rfl pb_ci_214 rfl ⟨Nat.le_of_ble_eq_true rfl, Nat.le_of_ble_eq_true rfl, Nat.le_of_ble_eq_true rfl, Nat.le_of_ble_eq_true rfl, rfl⟩ rfl rfl,
  fun L J st h Q => pf_S pb_u_215 rfl rfl,
  fun L J h Q x => pf_rz pb_u_215 rfl rfl⟩
theorem pb_c215 (x0 : Nat) (x1 : Int32) (h : pb_H) (Q : Option Value → pb_H → Prop) : pb_call 215 [.ref x0, .int x1] h Q ↔ pb_R 215 0 [some (.ref x0), some (.int x1), none, none, none, none, none, none, none] [] [] h Q := Iff.rfl
/-! 216: PlaneBenchModel.learn(I)V -/
theorem pb_u_216 : pb_t 216 = pb_t216 := rfl
theorem pb_ci_216 : pb_ci 216 = 12 := by decide +kernel
set_option maxRecDepth 100000 in
theorem pb_q216_57 (l0 l1 l2 l3 l5 : Option Value) (st : List Value) (h : pb_H) (Q : Option Value → pb_H → Prop) (x : Int32) : pb_R 216 57 [l0, l1, l2, l3, some (.int x), l5] [] st h Q ↔ pb_R 216 59 [l0, l1, l2, l3, some (.int x), l5] [] (.int x :: st) h Q := pf_S pb_u_216 rfl rfl
set_option maxRecDepth 100000 in
theorem pb_q216_227 (l1 l2 l3 l4 l5 : Option Value) (st : List Value) (h : pb_H) (Q : Option Value → pb_H → Prop) (x : Nat) : pb_R 216 227 [some (.ref x), l1, l2, l3, l4, l5] [] st h Q ↔ pb_R 216 228 [some (.ref x), l1, l2, l3, l4, l5] [] (.ref x :: st) h Q := pf_S pb_u_216 rfl rfl
set_option maxRecDepth 100000 in
theorem pb_q216_227n (l1 l2 l3 l4 l5 : Option Value) (st : List Value) (h : pb_H) (Q : Option Value → pb_H → Prop) : pb_R 216 227 [some .null, l1, l2, l3, l4, l5] [] st h Q ↔ pb_R 216 228 [some .null, l1, l2, l3, l4, l5] [] (.null :: st) h Q := pf_S pb_u_216 rfl rfl
set_option maxRecDepth 100000 in
theorem pb_e216 : (∀ (l1 l2 l3 l4 l5 : Option Value) (st : List Value) (h : pb_H) (Q : Option Value → pb_H → Prop) (x : Nat), pb_R 216 0 [some (.ref x), l1, l2, l3, l4, l5] [] st h Q ↔ pb_R 216 1 [some (.ref x), l1, l2, l3, l4, l5] [] (.ref x :: st) h Q) ∧
  (∀ (l1 l2 l3 l4 l5 : Option Value) (st : List Value) (h : pb_H) (Q : Option Value → pb_H → Prop), pb_R 216 0 [some .null, l1, l2, l3, l4, l5] [] st h Q ↔ pb_R 216 1 [some .null, l1, l2, l3, l4, l5] [] (.null :: st) h Q) ∧
  (∀ (l0 l2 l3 l4 l5 : Option Value) (st : List Value) (h : pb_H) (Q : Option Value → pb_H → Prop) (x : Int32), pb_R 216 1 [l0, some (.int x), l2, l3, l4, l5] [] st h Q ↔ pb_R 216 2 [l0, some (.int x), l2, l3, l4, l5] [] (.int x :: st) h Q) ∧
  (∀ (L : pb_L) (J : pb_J) (st : List Value) (h : pb_H) (Q : Option Value → pb_H → Prop), pb_R 216 2 L J st h Q ↔ pb_R 216 5 L J (.int (314 : Int32) :: st) h Q) ∧
  (∀ (L : pb_L) (J : pb_J) (h : pb_H) (Q : Option Value → pb_H → Prop) (x0 : Int32) (x1 : Int32) (x2 : Nat), pb_R 216 5 L J [.int x0, .int x1, .ref x2] h Q ↔ pb_is0 (h.2 x2) 12 = true ∧ pb_call 162 [.ref x2, .int x1, .int x0] h (fun v t => pb_R 216 8 L J (v.toList ++ []) t Q)) ∧
  (∀ (l1 l2 l3 l4 l5 : Option Value) (st : List Value) (h : pb_H) (Q : Option Value → pb_H → Prop) (x : Nat), pb_R 216 8 [some (.ref x), l1, l2, l3, l4, l5] [] st h Q ↔ pb_R 216 9 [some (.ref x), l1, l2, l3, l4, l5] [] (.ref x :: st) h Q) ∧
  (∀ (l1 l2 l3 l4 l5 : Option Value) (st : List Value) (h : pb_H) (Q : Option Value → pb_H → Prop), pb_R 216 8 [some .null, l1, l2, l3, l4, l5] [] st h Q ↔ pb_R 216 9 [some .null, l1, l2, l3, l4, l5] [] (.null :: st) h Q) ∧
  (∀ (l1 l2 l3 l4 l5 : Option Value) (st : List Value) (h : pb_H) (Q : Option Value → pb_H → Prop) (x : Nat), pb_R 216 9 [some (.ref x), l1, l2, l3, l4, l5] [] st h Q ↔ pb_R 216 10 [some (.ref x), l1, l2, l3, l4, l5] [] (.ref x :: st) h Q) ∧
  (∀ (l1 l2 l3 l4 l5 : Option Value) (st : List Value) (h : pb_H) (Q : Option Value → pb_H → Prop), pb_R 216 9 [some .null, l1, l2, l3, l4, l5] [] st h Q ↔ pb_R 216 10 [some .null, l1, l2, l3, l4, l5] [] (.null :: st) h Q) ∧
  (∀ (L : pb_L) (J : pb_J) (st : List Value) (h : pb_H) (Q : Option Value → pb_H → Prop) (a : Nat), pb_R 216 10 L J (.ref a :: st) h Q ↔ pb_o (pb_gf (h.2 a) 12 34) (fun v => pb_R 216 13 L J (v :: st) h Q)) ∧
  (∀ (L : pb_L) (J : pb_J) (st : List Value) (h : pb_H) (Q : Option Value → pb_H → Prop) (a : Nat) (x : Int32), pb_R 216 13 L J (.int x :: .ref a :: st) h Q ↔ pb_o (pb_pf (h.2 a) 12 35 (.int x)) (fun c => pb_R 216 16 L J st (pb_set h a c) Q)) ∧
  (∀ (l1 l2 l3 l4 l5 : Option Value) (st : List Value) (h : pb_H) (Q : Option Value → pb_H → Prop) (x : Nat), pb_R 216 16 [some (.ref x), l1, l2, l3, l4, l5] [] st h Q ↔ pb_R 216 17 [some (.ref x), l1, l2, l3, l4, l5] [] (.ref x :: st) h Q) ∧
  (∀ (l1 l2 l3 l4 l5 : Option Value) (st : List Value) (h : pb_H) (Q : Option Value → pb_H → Prop), pb_R 216 16 [some .null, l1, l2, l3, l4, l5] [] st h Q ↔ pb_R 216 17 [some .null, l1, l2, l3, l4, l5] [] (.null :: st) h Q) ∧
  (∀ (L : pb_L) (J : pb_J) (st : List Value) (h : pb_H) (Q : Option Value → pb_H → Prop), pb_R 216 17 L J st h Q ↔ pb_R 216 19 L J (.int (112 : Int32) :: st) h Q) ∧
  (∀ (L : pb_L) (J : pb_J) (h : pb_H) (Q : Option Value → pb_H → Prop) (x0 : Int32) (x1 : Nat), pb_R 216 19 L J [.int x0, .ref x1] h Q ↔ pb_is0 (h.2 x1) 12 = true ∧ pb_call 209 [.ref x1, .int x0] h (fun v t => pb_R 216 22 L J (v.toList ++ []) t Q)) ∧
  (∀ (l1 l2 l3 l4 l5 : Option Value) (st : List Value) (h : pb_H) (Q : Option Value → pb_H → Prop) (x : Nat), pb_R 216 22 [some (.ref x), l1, l2, l3, l4, l5] [] st h Q ↔ pb_R 216 23 [some (.ref x), l1, l2, l3, l4, l5] [] (.ref x :: st) h Q) ∧
  (∀ (l1 l2 l3 l4 l5 : Option Value) (st : List Value) (h : pb_H) (Q : Option Value → pb_H → Prop), pb_R 216 22 [some .null, l1, l2, l3, l4, l5] [] st h Q ↔ pb_R 216 23 [some .null, l1, l2, l3, l4, l5] [] (.null :: st) h Q) ∧
  (∀ (L : pb_L) (J : pb_J) (st : List Value) (h : pb_H) (Q : Option Value → pb_H → Prop), pb_R 216 23 L J st h Q ↔ pb_R 216 25 L J (.int (32 : Int32) :: st) h Q) ∧
  (∀ (L : pb_L) (J : pb_J) (h : pb_H) (Q : Option Value → pb_H → Prop) (x0 : Int32) (x1 : Nat), pb_R 216 25 L J [.int x0, .ref x1] h Q ↔ pb_is0 (h.2 x1) 12 = true ∧ pb_call 209 [.ref x1, .int x0] h (fun v t => pb_R 216 28 L J (v.toList ++ []) t Q)) ∧
  (∀ (l1 l2 l3 l4 l5 : Option Value) (st : List Value) (h : pb_H) (Q : Option Value → pb_H → Prop) (x : Nat), pb_R 216 28 [some (.ref x), l1, l2, l3, l4, l5] [] st h Q ↔ pb_R 216 29 [some (.ref x), l1, l2, l3, l4, l5] [] (.ref x :: st) h Q) ∧
  (∀ (l1 l2 l3 l4 l5 : Option Value) (st : List Value) (h : pb_H) (Q : Option Value → pb_H → Prop), pb_R 216 28 [some .null, l1, l2, l3, l4, l5] [] st h Q ↔ pb_R 216 29 [some .null, l1, l2, l3, l4, l5] [] (.null :: st) h Q) ∧
  (∀ (l0 l2 l3 l4 l5 : Option Value) (st : List Value) (h : pb_H) (Q : Option Value → pb_H → Prop) (x : Int32), pb_R 216 29 [l0, some (.int x), l2, l3, l4, l5] [] st h Q ↔ pb_R 216 30 [l0, some (.int x), l2, l3, l4, l5] [] (.int x :: st) h Q) ∧
  (∀ (L : pb_L) (J : pb_J) (h : pb_H) (Q : Option Value → pb_H → Prop) (x0 : Int32) (x1 : Nat), pb_R 216 30 L J [.int x0, .ref x1] h Q ↔ pb_is0 (h.2 x1) 12 = true ∧ pb_call 211 [.ref x1, .int x0] h (fun v t => pb_R 216 33 L J (v.toList ++ []) t Q)) ∧
  (∀ (l1 l2 l3 l4 l5 : Option Value) (st : List Value) (h : pb_H) (Q : Option Value → pb_H → Prop) (x : Nat), pb_R 216 33 [some (.ref x), l1, l2, l3, l4, l5] [] st h Q ↔ pb_R 216 34 [some (.ref x), l1, l2, l3, l4, l5] [] (.ref x :: st) h Q) ∧
  (∀ (l1 l2 l3 l4 l5 : Option Value) (st : List Value) (h : pb_H) (Q : Option Value → pb_H → Prop), pb_R 216 33 [some .null, l1, l2, l3, l4, l5] [] st h Q ↔ pb_R 216 34 [some .null, l1, l2, l3, l4, l5] [] (.null :: st) h Q) ∧
  (∀ (L : pb_L) (J : pb_J) (st : List Value) (h : pb_H) (Q : Option Value → pb_H → Prop) (a : Nat), pb_R 216 34 L J (.ref a :: st) h Q ↔ pb_o (pb_gf (h.2 a) 12 24) (fun v => pb_R 216 37 L J (v :: st) h Q)) ∧
  (∀ (l0 l1 l2 l3 l4 l5 : Option Value) (st : List Value) (h : pb_H) (Q : Option Value → pb_H → Prop) (x : Int32), pb_R 216 37 [l0, l1, l2, l3, l4, l5] [] (.int x :: st) h Q ↔ pb_R 216 38 [l0, l1, some (.int x), l3, l4, l5] [] st h Q) ∧
  (∀ (l1 l2 l3 l4 l5 : Option Value) (st : List Value) (h : pb_H) (Q : Option Value → pb_H → Prop) (x : Nat), pb_R 216 38 [some (.ref x), l1, l2, l3, l4, l5] [] st h Q ↔ pb_R 216 39 [some (.ref x), l1, l2, l3, l4, l5] [] (.ref x :: st) h Q) ∧
  (∀ (l1 l2 l3 l4 l5 : Option Value) (st : List Value) (h : pb_H) (Q : Option Value → pb_H → Prop), pb_R 216 38 [some .null, l1, l2, l3, l4, l5] [] st h Q ↔ pb_R 216 39 [some .null, l1, l2, l3, l4, l5] [] (.null :: st) h Q) ∧
  (∀ (L : pb_L) (J : pb_J) (st : List Value) (h : pb_H) (Q : Option Value → pb_H → Prop) (a : Nat), pb_R 216 39 L J (.ref a :: st) h Q ↔ pb_o (pb_gf (h.2 a) 12 23) (fun v => pb_R 216 42 L J (v :: st) h Q)) ∧
  (∀ (L : pb_L) (J : pb_J) (st : List Value) (h : pb_H) (Q : Option Value → pb_H → Prop) (x : Int32), pb_R 216 42 L J (.int x :: st) h Q ↔ if x ≤ 0 then pb_R 216 52 L J st h Q else pb_R 216 45 L J st h Q) ∧
  (∀ (l1 l2 l3 l4 l5 : Option Value) (st : List Value) (h : pb_H) (Q : Option Value → pb_H → Prop) (x : Nat), pb_R 216 45 [some (.ref x), l1, l2, l3, l4, l5] [] st h Q ↔ pb_R 216 46 [some (.ref x), l1, l2, l3, l4, l5] [] (.ref x :: st) h Q) ∧
  (∀ (l1 l2 l3 l4 l5 : Option Value) (st : List Value) (h : pb_H) (Q : Option Value → pb_H → Prop), pb_R 216 45 [some .null, l1, l2, l3, l4, l5] [] st h Q ↔ pb_R 216 46 [some .null, l1, l2, l3, l4, l5] [] (.null :: st) h Q) ∧
  (∀ (L : pb_L) (J : pb_J) (h : pb_H) (Q : Option Value → pb_H → Prop) (x0 : Nat), pb_R 216 46 L J [.ref x0] h Q ↔ pb_is0 (h.2 x0) 12 = true ∧ pb_call 213 [.ref x0] h (fun v t => pb_R 216 49 L J (v.toList ++ []) t Q)) ∧
  (∀ (L : pb_L) (J : pb_J) (st : List Value) (h : pb_H) (Q : Option Value → pb_H → Prop), pb_R 216 49 L J st h Q ↔ pb_R 216 53 L J st h Q) ∧
  (∀ (L : pb_L) (J : pb_J) (st : List Value) (h : pb_H) (Q : Option Value → pb_H → Prop), pb_R 216 52 L J st h Q ↔ pb_R 216 53 L J (.int (-1 : Int32) :: st) h Q) ∧
  (∀ (l0 l1 l2 l3 l4 l5 : Option Value) (st : List Value) (h : pb_H) (Q : Option Value → pb_H → Prop) (x : Int32), pb_R 216 53 [l0, l1, l2, l3, l4, l5] [] (.int x :: st) h Q ↔ pb_R 216 54 [l0, l1, l2, some (.int x), l4, l5] [] st h Q) ∧
  (∀ (L : pb_L) (J : pb_J) (st : List Value) (h : pb_H) (Q : Option Value → pb_H → Prop), pb_R 216 54 L J st h Q ↔ pb_R 216 55 L J (.int (1 : Int32) :: st) h Q) ∧
  (∀ (l0 l1 l2 l3 l4 l5 : Option Value) (st : List Value) (h : pb_H) (Q : Option Value → pb_H → Prop) (x : Int32), pb_R 216 55 [l0, l1, l2, l3, l4, l5] [] (.int x :: st) h Q ↔ pb_R 216 57 [l0, l1, l2, l3, some (.int x), l5] [] st h Q) ∧
  (∀ (L : pb_L) (J : pb_J) (st : List Value) (h : pb_H) (Q : Option Value → pb_H → Prop) (x : Int32), pb_R 216 59 L J (.int x :: st) h Q ↔ if x = 0 then pb_R 216 104 L J st h Q else pb_R 216 62 L J st h Q) ∧
  (∀ (l0 l1 l2 l4 l5 : Option Value) (st : List Value) (h : pb_H) (Q : Option Value → pb_H → Prop) (x : Int32), pb_R 216 62 [l0, l1, l2, some (.int x), l4, l5] [] st h Q ↔ pb_R 216 63 [l0, l1, l2, some (.int x), l4, l5] [] (.int x :: st) h Q) ∧
  (∀ (L : pb_L) (J : pb_J) (st : List Value) (h : pb_H) (Q : Option Value → pb_H → Prop) (x : Int32), pb_R 216 63 L J (.int x :: st) h Q ↔ if 0 ≤ x then pb_R 216 104 L J st h Q else pb_R 216 66 L J st h Q) ∧
  (∀ (l0 l1 l3 l4 l5 : Option Value) (st : List Value) (h : pb_H) (Q : Option Value → pb_H → Prop) (x : Int32), pb_R 216 66 [l0, l1, some (.int x), l3, l4, l5] [] st h Q ↔ pb_R 216 67 [l0, l1, some (.int x), l3, l4, l5] [] (.int x :: st) h Q) ∧
  (∀ (L : pb_L) (J : pb_J) (st : List Value) (h : pb_H) (Q : Option Value → pb_H → Prop) (x : Int32), pb_R 216 67 L J (.int x :: st) h Q ↔ if x ≤ 0 then pb_R 216 104 L J st h Q else pb_R 216 70 L J st h Q) ∧
  (∀ (l0 l1 l3 l4 l5 : Option Value) (st : List Value) (h : pb_H) (Q : Option Value → pb_H → Prop) (x : Int32), pb_R 216 70 [l0, l1, some (.int x), l3, l4, l5] [] st h Q ↔ pb_R 216 73 [l0, l1, some (.int (x + (-1 : Int32))), l3, l4, l5] [] st h Q) ∧
  (∀ (l1 l2 l3 l4 l5 : Option Value) (st : List Value) (h : pb_H) (Q : Option Value → pb_H → Prop) (x : Nat), pb_R 216 73 [some (.ref x), l1, l2, l3, l4, l5] [] st h Q ↔ pb_R 216 74 [some (.ref x), l1, l2, l3, l4, l5] [] (.ref x :: st) h Q) ∧
  (∀ (l1 l2 l3 l4 l5 : Option Value) (st : List Value) (h : pb_H) (Q : Option Value → pb_H → Prop), pb_R 216 73 [some .null, l1, l2, l3, l4, l5] [] st h Q ↔ pb_R 216 74 [some .null, l1, l2, l3, l4, l5] [] (.null :: st) h Q) ∧
  (∀ (l0 l1 l3 l4 l5 : Option Value) (st : List Value) (h : pb_H) (Q : Option Value → pb_H → Prop) (x : Int32), pb_R 216 74 [l0, l1, some (.int x), l3, l4, l5] [] st h Q ↔ pb_R 216 75 [l0, l1, some (.int x), l3, l4, l5] [] (.int x :: st) h Q) ∧
  (∀ (L : pb_L) (J : pb_J) (h : pb_H) (Q : Option Value → pb_H → Prop) (x0 : Int32) (x1 : Nat), pb_R 216 75 L J [.int x0, .ref x1] h Q ↔ pb_is0 (h.2 x1) 12 = true ∧ pb_call 215 [.ref x1, .int x0] h (fun v t => pb_R 216 78 L J (v.toList ++ []) t Q)) ∧
  (∀ (l0 l1 l2 l3 l4 l5 : Option Value) (st : List Value) (h : pb_H) (Q : Option Value → pb_H → Prop) (x : Int32), pb_R 216 78 [l0, l1, l2, l3, l4, l5] [] (.int x :: st) h Q ↔ pb_R 216 80 [l0, l1, l2, l3, some (.int x), l5] [] st h Q) ∧
  (∀ (l1 l2 l3 l4 l5 : Option Value) (st : List Value) (h : pb_H) (Q : Option Value → pb_H → Prop) (x : Nat), pb_R 216 80 [some (.ref x), l1, l2, l3, l4, l5] [] st h Q ↔ pb_R 216 81 [some (.ref x), l1, l2, l3, l4, l5] [] (.ref x :: st) h Q) ∧
  (∀ (l1 l2 l3 l4 l5 : Option Value) (st : List Value) (h : pb_H) (Q : Option Value → pb_H → Prop), pb_R 216 80 [some .null, l1, l2, l3, l4, l5] [] st h Q ↔ pb_R 216 81 [some .null, l1, l2, l3, l4, l5] [] (.null :: st) h Q) ∧
  (∀ (L : pb_L) (J : pb_J) (st : List Value) (h : pb_H) (Q : Option Value → pb_H → Prop) (a : Nat), pb_R 216 81 L J (.ref a :: st) h Q ↔ pb_o (pb_gf (h.2 a) 12 23) (fun v => pb_R 216 84 L J (v :: st) h Q)) ∧
  (∀ (L : pb_L) (J : pb_J) (st : List Value) (h : pb_H) (Q : Option Value → pb_H → Prop) (x : Int32), pb_R 216 84 L J (.int x :: st) h Q ↔ if x ≤ 0 then pb_R 216 99 L J st h Q else pb_R 216 87 L J st h Q) ∧
  (∀ (l0 l1 l2 l3 l5 : Option Value) (st : List Value) (h : pb_H) (Q : Option Value → pb_H → Prop) (x : Int32), pb_R 216 87 [l0, l1, l2, l3, some (.int x), l5] [] st h Q ↔ pb_R 216 89 [l0, l1, l2, l3, some (.int x), l5] [] (.int x :: st) h Q) ∧
  (∀ (L : pb_L) (J : pb_J) (st : List Value) (h : pb_H) (Q : Option Value → pb_H → Prop) (x : Int32), pb_R 216 89 L J (.int x :: st) h Q ↔ if x = 0 then pb_R 216 99 L J st h Q else pb_R 216 92 L J st h Q) ∧
  (∀ (l1 l2 l3 l4 l5 : Option Value) (st : List Value) (h : pb_H) (Q : Option Value → pb_H → Prop) (x : Nat), pb_R 216 92 [some (.ref x), l1, l2, l3, l4, l5] [] st h Q ↔ pb_R 216 93 [some (.ref x), l1, l2, l3, l4, l5] [] (.ref x :: st) h Q) ∧
  (∀ (l1 l2 l3 l4 l5 : Option Value) (st : List Value) (h : pb_H) (Q : Option Value → pb_H → Prop), pb_R 216 92 [some .null, l1, l2, l3, l4, l5] [] st h Q ↔ pb_R 216 93 [some .null, l1, l2, l3, l4, l5] [] (.null :: st) h Q) ∧
  (∀ (L : pb_L) (J : pb_J) (h : pb_H) (Q : Option Value → pb_H → Prop) (x0 : Nat), pb_R 216 93 L J [.ref x0] h Q ↔ pb_is0 (h.2 x0) 12 = true ∧ pb_call 213 [.ref x0] h (fun v t => pb_R 216 96 L J (v.toList ++ []) t Q)) ∧
  (∀ (L : pb_L) (J : pb_J) (st : List Value) (h : pb_H) (Q : Option Value → pb_H → Prop), pb_R 216 96 L J st h Q ↔ pb_R 216 100 L J st h Q) ∧
  (∀ (L : pb_L) (J : pb_J) (st : List Value) (h : pb_H) (Q : Option Value → pb_H → Prop), pb_R 216 99 L J st h Q ↔ pb_R 216 100 L J (.int (-1 : Int32) :: st) h Q) ∧
  (∀ (l0 l1 l2 l3 l4 l5 : Option Value) (st : List Value) (h : pb_H) (Q : Option Value → pb_H → Prop) (x : Int32), pb_R 216 100 [l0, l1, l2, l3, l4, l5] [] (.int x :: st) h Q ↔ pb_R 216 101 [l0, l1, l2, some (.int x), l4, l5] [] st h Q) ∧
  (∀ (L : pb_L) (J : pb_J) (st : List Value) (h : pb_H) (Q : Option Value → pb_H → Prop), pb_R 216 101 L J st h Q ↔ pb_R 216 57 L J st h Q) ∧
  (∀ (l1 l2 l3 l4 l5 : Option Value) (st : List Value) (h : pb_H) (Q : Option Value → pb_H → Prop) (x : Nat), pb_R 216 104 [some (.ref x), l1, l2, l3, l4, l5] [] st h Q ↔ pb_R 216 105 [some (.ref x), l1, l2, l3, l4, l5] [] (.ref x :: st) h Q) ∧
  (∀ (l1 l2 l3 l4 l5 : Option Value) (st : List Value) (h : pb_H) (Q : Option Value → pb_H → Prop), pb_R 216 104 [some .null, l1, l2, l3, l4, l5] [] st h Q ↔ pb_R 216 105 [some .null, l1, l2, l3, l4, l5] [] (.null :: st) h Q) ∧
  (∀ (L : pb_L) (J : pb_J) (st : List Value) (h : pb_H) (Q : Option Value → pb_H → Prop), pb_R 216 105 L J st h Q ↔ pb_R 216 107 L J (.int (59 : Int32) :: st) h Q) ∧
  (∀ (L : pb_L) (J : pb_J) (h : pb_H) (Q : Option Value → pb_H → Prop) (x0 : Int32) (x1 : Nat), pb_R 216 107 L J [.int x0, .ref x1] h Q ↔ pb_is0 (h.2 x1) 12 = true ∧ pb_call 214 [.ref x1, .int x0] h (fun v t => pb_R 216 110 L J (v.toList ++ []) t Q)) ∧
  (∀ (l1 l2 l3 l4 l5 : Option Value) (st : List Value) (h : pb_H) (Q : Option Value → pb_H → Prop) (x : Nat), pb_R 216 110 [some (.ref x), l1, l2, l3, l4, l5] [] st h Q ↔ pb_R 216 111 [some (.ref x), l1, l2, l3, l4, l5] [] (.ref x :: st) h Q) ∧
  (∀ (l1 l2 l3 l4 l5 : Option Value) (st : List Value) (h : pb_H) (Q : Option Value → pb_H → Prop), pb_R 216 110 [some .null, l1, l2, l3, l4, l5] [] st h Q ↔ pb_R 216 111 [some .null, l1, l2, l3, l4, l5] [] (.null :: st) h Q) ∧
  (∀ (L : pb_L) (J : pb_J) (st : List Value) (h : pb_H) (Q : Option Value → pb_H → Prop), pb_R 216 111 L J st h Q ↔ pb_R 216 113 L J (.int (10 : Int32) :: st) h Q) ∧
  (∀ (L : pb_L) (J : pb_J) (h : pb_H) (Q : Option Value → pb_H → Prop) (x0 : Int32) (x1 : Nat), pb_R 216 113 L J [.int x0, .ref x1] h Q ↔ pb_is0 (h.2 x1) 12 = true ∧ pb_call 209 [.ref x1, .int x0] h (fun v t => pb_R 216 116 L J (v.toList ++ []) t Q)) ∧
  (∀ (l1 l2 l3 l4 l5 : Option Value) (st : List Value) (h : pb_H) (Q : Option Value → pb_H → Prop) (x : Nat), pb_R 216 116 [some (.ref x), l1, l2, l3, l4, l5] [] st h Q ↔ pb_R 216 117 [some (.ref x), l1, l2, l3, l4, l5] [] (.ref x :: st) h Q) ∧
  (∀ (l1 l2 l3 l4 l5 : Option Value) (st : List Value) (h : pb_H) (Q : Option Value → pb_H → Prop), pb_R 216 116 [some .null, l1, l2, l3, l4, l5] [] st h Q ↔ pb_R 216 117 [some .null, l1, l2, l3, l4, l5] [] (.null :: st) h Q) ∧
  (∀ (L : pb_L) (J : pb_J) (st : List Value) (h : pb_H) (Q : Option Value → pb_H → Prop) (a : Nat), pb_R 216 117 L J (.ref a :: st) h Q ↔ pb_o (pb_gf (h.2 a) 12 23) (fun v => pb_R 216 120 L J (v :: st) h Q)) ∧
  (∀ (L : pb_L) (J : pb_J) (st : List Value) (h : pb_H) (Q : Option Value → pb_H → Prop) (x : Int32), pb_R 216 120 L J (.int x :: st) h Q ↔ if ¬ x = 0 then pb_R 216 157 L J st h Q else pb_R 216 123 L J st h Q) ∧
  (∀ (l1 l2 l3 l4 l5 : Option Value) (st : List Value) (h : pb_H) (Q : Option Value → pb_H → Prop) (x : Nat), pb_R 216 123 [some (.ref x), l1, l2, l3, l4, l5] [] st h Q ↔ pb_R 216 124 [some (.ref x), l1, l2, l3, l4, l5] [] (.ref x :: st) h Q) ∧
  (∀ (l1 l2 l3 l4 l5 : Option Value) (st : List Value) (h : pb_H) (Q : Option Value → pb_H → Prop), pb_R 216 123 [some .null, l1, l2, l3, l4, l5] [] st h Q ↔ pb_R 216 124 [some .null, l1, l2, l3, l4, l5] [] (.null :: st) h Q) ∧
  (∀ (L : pb_L) (J : pb_J) (st : List Value) (h : pb_H) (Q : Option Value → pb_H → Prop), pb_R 216 124 L J st h Q ↔ pb_R 216 126 L J (.int (99 : Int32) :: st) h Q) ∧
  (∀ (L : pb_L) (J : pb_J) (h : pb_H) (Q : Option Value → pb_H → Prop) (x0 : Int32) (x1 : Nat), pb_R 216 126 L J [.int x0, .ref x1] h Q ↔ pb_is0 (h.2 x1) 12 = true ∧ pb_call 209 [.ref x1, .int x0] h (fun v t => pb_R 216 129 L J (v.toList ++ []) t Q)) ∧
  (∀ (l1 l2 l3 l4 l5 : Option Value) (st : List Value) (h : pb_H) (Q : Option Value → pb_H → Prop) (x : Nat), pb_R 216 129 [some (.ref x), l1, l2, l3, l4, l5] [] st h Q ↔ pb_R 216 130 [some (.ref x), l1, l2, l3, l4, l5] [] (.ref x :: st) h Q) ∧
  (∀ (l1 l2 l3 l4 l5 : Option Value) (st : List Value) (h : pb_H) (Q : Option Value → pb_H → Prop), pb_R 216 129 [some .null, l1, l2, l3, l4, l5] [] st h Q ↔ pb_R 216 130 [some .null, l1, l2, l3, l4, l5] [] (.null :: st) h Q) ∧
  (∀ (L : pb_L) (J : pb_J) (st : List Value) (h : pb_H) (Q : Option Value → pb_H → Prop), pb_R 216 130 L J st h Q ↔ pb_R 216 132 L J (.int (32 : Int32) :: st) h Q) ∧
  (∀ (L : pb_L) (J : pb_J) (h : pb_H) (Q : Option Value → pb_H → Prop) (x0 : Int32) (x1 : Nat), pb_R 216 132 L J [.int x0, .ref x1] h Q ↔ pb_is0 (h.2 x1) 12 = true ∧ pb_call 209 [.ref x1, .int x0] h (fun v t => pb_R 216 135 L J (v.toList ++ []) t Q)) ∧
  (∀ (l1 l2 l3 l4 l5 : Option Value) (st : List Value) (h : pb_H) (Q : Option Value → pb_H → Prop) (x : Nat), pb_R 216 135 [some (.ref x), l1, l2, l3, l4, l5] [] st h Q ↔ pb_R 216 136 [some (.ref x), l1, l2, l3, l4, l5] [] (.ref x :: st) h Q) ∧
  (∀ (l1 l2 l3 l4 l5 : Option Value) (st : List Value) (h : pb_H) (Q : Option Value → pb_H → Prop), pb_R 216 135 [some .null, l1, l2, l3, l4, l5] [] st h Q ↔ pb_R 216 136 [some .null, l1, l2, l3, l4, l5] [] (.null :: st) h Q) ∧
  (∀ (l1 l2 l3 l4 l5 : Option Value) (st : List Value) (h : pb_H) (Q : Option Value → pb_H → Prop) (x : Nat), pb_R 216 136 [some (.ref x), l1, l2, l3, l4, l5] [] st h Q ↔ pb_R 216 137 [some (.ref x), l1, l2, l3, l4, l5] [] (.ref x :: st) h Q) ∧
  (∀ (l1 l2 l3 l4 l5 : Option Value) (st : List Value) (h : pb_H) (Q : Option Value → pb_H → Prop), pb_R 216 136 [some .null, l1, l2, l3, l4, l5] [] st h Q ↔ pb_R 216 137 [some .null, l1, l2, l3, l4, l5] [] (.null :: st) h Q) ∧
  (∀ (L : pb_L) (J : pb_J) (st : List Value) (h : pb_H) (Q : Option Value → pb_H → Prop) (a : Nat), pb_R 216 137 L J (.ref a :: st) h Q ↔ pb_o (pb_gf (h.2 a) 12 4) (fun v => pb_R 216 140 L J (v :: st) h Q)) ∧
  (∀ (L : pb_L) (J : pb_J) (st : List Value) (h : pb_H) (Q : Option Value → pb_H → Prop), pb_R 216 140 L J st h Q ↔ pb_R 216 141 L J (.int (1 : Int32) :: st) h Q) ∧
  (∀ (L : pb_L) (J : pb_J) (st : List Value) (x y : Int32) (h : pb_H) (Q : Option Value → pb_H → Prop), pb_R 216 141 L J (.int y :: .int x :: st) h Q ↔ pb_R 216 142 L J (.int (x + y) :: st) h Q) ∧
  (∀ (L : pb_L) (J : pb_J) (h : pb_H) (Q : Option Value → pb_H → Prop) (x0 : Int32) (x1 : Nat), pb_R 216 142 L J [.int x0, .ref x1] h Q ↔ pb_is0 (h.2 x1) 12 = true ∧ pb_call 211 [.ref x1, .int x0] h (fun v t => pb_R 216 145 L J (v.toList ++ []) t Q)) ∧
  (∀ (l1 l2 l3 l4 l5 : Option Value) (st : List Value) (h : pb_H) (Q : Option Value → pb_H → Prop) (x : Nat), pb_R 216 145 [some (.ref x), l1, l2, l3, l4, l5] [] st h Q ↔ pb_R 216 146 [some (.ref x), l1, l2, l3, l4, l5] [] (.ref x :: st) h Q) ∧
  (∀ (l1 l2 l3 l4 l5 : Option Value) (st : List Value) (h : pb_H) (Q : Option Value → pb_H → Prop), pb_R 216 145 [some .null, l1, l2, l3, l4, l5] [] st h Q ↔ pb_R 216 146 [some .null, l1, l2, l3, l4, l5] [] (.null :: st) h Q) ∧
  (∀ (L : pb_L) (J : pb_J) (st : List Value) (h : pb_H) (Q : Option Value → pb_H → Prop), pb_R 216 146 L J st h Q ↔ pb_R 216 148 L J (.int (59 : Int32) :: st) h Q) ∧
  (∀ (L : pb_L) (J : pb_J) (h : pb_H) (Q : Option Value → pb_H → Prop) (x0 : Int32) (x1 : Nat), pb_R 216 148 L J [.int x0, .ref x1] h Q ↔ pb_is0 (h.2 x1) 12 = true ∧ pb_call 214 [.ref x1, .int x0] h (fun v t => pb_R 216 151 L J (v.toList ++ []) t Q)) ∧
  (∀ (l1 l2 l3 l4 l5 : Option Value) (st : List Value) (h : pb_H) (Q : Option Value → pb_H → Prop) (x : Nat), pb_R 216 151 [some (.ref x), l1, l2, l3, l4, l5] [] st h Q ↔ pb_R 216 152 [some (.ref x), l1, l2, l3, l4, l5] [] (.ref x :: st) h Q) ∧
  (∀ (l1 l2 l3 l4 l5 : Option Value) (st : List Value) (h : pb_H) (Q : Option Value → pb_H → Prop), pb_R 216 151 [some .null, l1, l2, l3, l4, l5] [] st h Q ↔ pb_R 216 152 [some .null, l1, l2, l3, l4, l5] [] (.null :: st) h Q) ∧
  (∀ (L : pb_L) (J : pb_J) (st : List Value) (h : pb_H) (Q : Option Value → pb_H → Prop), pb_R 216 152 L J st h Q ↔ pb_R 216 154 L J (.int (10 : Int32) :: st) h Q) ∧
  (∀ (L : pb_L) (J : pb_J) (h : pb_H) (Q : Option Value → pb_H → Prop) (x0 : Int32) (x1 : Nat), pb_R 216 154 L J [.int x0, .ref x1] h Q ↔ pb_is0 (h.2 x1) 12 = true ∧ pb_call 209 [.ref x1, .int x0] h (fun v t => pb_R 216 157 L J (v.toList ++ []) t Q)) ∧
  (∀ (l0 l1 l2 l3 l5 : Option Value) (st : List Value) (h : pb_H) (Q : Option Value → pb_H → Prop) (x : Int32), pb_R 216 157 [l0, l1, l2, l3, some (.int x), l5] [] st h Q ↔ pb_R 216 159 [l0, l1, l2, l3, some (.int x), l5] [] (.int x :: st) h Q) ∧
  (∀ (L : pb_L) (J : pb_J) (st : List Value) (h : pb_H) (Q : Option Value → pb_H → Prop) (x : Int32), pb_R 216 159 L J (.int x :: st) h Q ↔ if x = 0 then pb_R 216 182 L J st h Q else pb_R 216 162 L J st h Q) ∧
  (∀ (l1 l2 l3 l4 l5 : Option Value) (st : List Value) (h : pb_H) (Q : Option Value → pb_H → Prop) (x : Nat), pb_R 216 162 [some (.ref x), l1, l2, l3, l4, l5] [] st h Q ↔ pb_R 216 163 [some (.ref x), l1, l2, l3, l4, l5] [] (.ref x :: st) h Q) ∧
  (∀ (l1 l2 l3 l4 l5 : Option Value) (st : List Value) (h : pb_H) (Q : Option Value → pb_H → Prop), pb_R 216 162 [some .null, l1, l2, l3, l4, l5] [] st h Q ↔ pb_R 216 163 [some .null, l1, l2, l3, l4, l5] [] (.null :: st) h Q) ∧
  (∀ (L : pb_L) (J : pb_J) (st : List Value) (h : pb_H) (Q : Option Value → pb_H → Prop) (a : Nat), pb_R 216 163 L J (.ref a :: st) h Q ↔ pb_o (pb_gf (h.2 a) 12 4) (fun v => pb_R 216 166 L J (v :: st) h Q)) ∧
  (∀ (L : pb_L) (J : pb_J) (st : List Value) (h : pb_H) (Q : Option Value → pb_H → Prop), pb_R 216 166 L J st h Q ↔ pb_R 216 169 L J (.int (300 : Int32) :: st) h Q) ∧
  (∀ (L : pb_L) (J : pb_J) (st : List Value) (h : pb_H) (Q : Option Value → pb_H → Prop) (x y : Int32), pb_R 216 169 L J (.int y :: .int x :: st) h Q ↔ if x = y then pb_R 216 182 L J st h Q else pb_R 216 172 L J st h Q) ∧
  (∀ (l1 l2 l3 l4 l5 : Option Value) (st : List Value) (h : pb_H) (Q : Option Value → pb_H → Prop) (x : Nat), pb_R 216 172 [some (.ref x), l1, l2, l3, l4, l5] [] st h Q ↔ pb_R 216 173 [some (.ref x), l1, l2, l3, l4, l5] [] (.ref x :: st) h Q) ∧
  (∀ (l1 l2 l3 l4 l5 : Option Value) (st : List Value) (h : pb_H) (Q : Option Value → pb_H → Prop), pb_R 216 172 [some .null, l1, l2, l3, l4, l5] [] st h Q ↔ pb_R 216 173 [some .null, l1, l2, l3, l4, l5] [] (.null :: st) h Q) ∧
  (∀ (L : pb_L) (J : pb_J) (st : List Value) (h : pb_H) (Q : Option Value → pb_H → Prop) (a : Nat), pb_R 216 173 L J (.ref a :: st) h Q ↔ pb_o (pb_gf (h.2 a) 12 35) (fun v => pb_R 216 176 L J (v :: st) h Q)) ∧
  (∀ (L : pb_L) (J : pb_J) (st : List Value) (h : pb_H) (Q : Option Value → pb_H → Prop), pb_R 216 176 L J st h Q ↔ pb_R 216 179 L J (.int (20000 : Int32) :: st) h Q) ∧
  (∀ (L : pb_L) (J : pb_J) (st : List Value) (h : pb_H) (Q : Option Value → pb_H → Prop) (x y : Int32), pb_R 216 179 L J (.int y :: .int x :: st) h Q ↔ if x ≤ y then pb_R 216 188 L J st h Q else pb_R 216 182 L J st h Q) ∧
  (∀ (l1 l2 l3 l4 l5 : Option Value) (st : List Value) (h : pb_H) (Q : Option Value → pb_H → Prop) (x : Nat), pb_R 216 182 [some (.ref x), l1, l2, l3, l4, l5] [] st h Q ↔ pb_R 216 183 [some (.ref x), l1, l2, l3, l4, l5] [] (.ref x :: st) h Q) ∧
  (∀ (l1 l2 l3 l4 l5 : Option Value) (st : List Value) (h : pb_H) (Q : Option Value → pb_H → Prop), pb_R 216 182 [some .null, l1, l2, l3, l4, l5] [] st h Q ↔ pb_R 216 183 [some .null, l1, l2, l3, l4, l5] [] (.null :: st) h Q) ∧
  (∀ (L : pb_L) (J : pb_J) (st : List Value) (h : pb_H) (Q : Option Value → pb_H → Prop), pb_R 216 183 L J st h Q ↔ pb_R 216 184 L J (.int (4 : Int32) :: st) h Q) ∧
  (∀ (L : pb_L) (J : pb_J) (st : List Value) (h : pb_H) (Q : Option Value → pb_H → Prop) (a : Nat) (x : Int32), pb_R 216 184 L J (.int x :: .ref a :: st) h Q ↔ pb_o (pb_pf (h.2 a) 12 22 (.int x)) (fun c => pb_R 216 187 L J st (pb_set h a c) Q)) ∧
  (∀ (L : pb_L) (J : pb_J) (h : pb_H) (Q : Option Value → pb_H → Prop), pb_R 216 187 L J [] h Q ↔ Q none h) ∧
  (∀ (l1 l2 l3 l4 l5 : Option Value) (st : List Value) (h : pb_H) (Q : Option Value → pb_H → Prop) (x : Nat), pb_R 216 188 [some (.ref x), l1, l2, l3, l4, l5] [] st h Q ↔ pb_R 216 189 [some (.ref x), l1, l2, l3, l4, l5] [] (.ref x :: st) h Q) ∧
  (∀ (l1 l2 l3 l4 l5 : Option Value) (st : List Value) (h : pb_H) (Q : Option Value → pb_H → Prop), pb_R 216 188 [some .null, l1, l2, l3, l4, l5] [] st h Q ↔ pb_R 216 189 [some .null, l1, l2, l3, l4, l5] [] (.null :: st) h Q) ∧
  (∀ (L : pb_L) (J : pb_J) (st : List Value) (h : pb_H) (Q : Option Value → pb_H → Prop), pb_R 216 189 L J st h Q ↔ pb_R 216 192 L J (.int (314 : Int32) :: st) h Q) ∧
  (∀ (L : pb_L) (J : pb_J) (st : List Value) (h : pb_H) (Q : Option Value → pb_H → Prop), pb_R 216 192 L J st h Q ↔ pb_R 216 193 L J (.int (4 : Int32) :: st) h Q) ∧
  (∀ (L : pb_L) (J : pb_J) (h : pb_H) (Q : Option Value → pb_H → Prop) (x0 : Int32) (x1 : Int32) (x2 : Nat), pb_R 216 193 L J [.int x0, .int x1, .ref x2] h Q ↔ pb_is0 (h.2 x2) 12 = true ∧ pb_call 196 [.ref x2, .int x1, .int x0] h (fun v t => pb_R 216 196 L J (v.toList ++ []) t Q)) ∧
  (∀ (l1 l2 l3 l4 l5 : Option Value) (st : List Value) (h : pb_H) (Q : Option Value → pb_H → Prop) (x : Nat), pb_R 216 196 [some (.ref x), l1, l2, l3, l4, l5] [] st h Q ↔ pb_R 216 197 [some (.ref x), l1, l2, l3, l4, l5] [] (.ref x :: st) h Q) ∧
  (∀ (l1 l2 l3 l4 l5 : Option Value) (st : List Value) (h : pb_H) (Q : Option Value → pb_H → Prop), pb_R 216 196 [some .null, l1, l2, l3, l4, l5] [] st h Q ↔ pb_R 216 197 [some .null, l1, l2, l3, l4, l5] [] (.null :: st) h Q) ∧
  (∀ (L : pb_L) (J : pb_J) (st : List Value) (x : Nat) (h : pb_H) (Q : Option Value → pb_H → Prop), pb_R 216 197 L J (.ref x :: st) h Q ↔ pb_R 216 198 L J (.ref x :: .ref x :: st) h Q) ∧
  (∀ (L : pb_L) (J : pb_J) (st : List Value) (h : pb_H) (Q : Option Value → pb_H → Prop) (a : Nat), pb_R 216 198 L J (.ref a :: st) h Q ↔ pb_o (pb_gf (h.2 a) 12 26) (fun v => pb_R 216 201 L J (v :: st) h Q)) ∧
  (∀ (L : pb_L) (J : pb_J) (st : List Value) (h : pb_H) (Q : Option Value → pb_H → Prop), pb_R 216 201 L J st h Q ↔ pb_R 216 202 L J (.int (1 : Int32) :: st) h Q) ∧
  (∀ (L : pb_L) (J : pb_J) (st : List Value) (x y : Int32) (h : pb_H) (Q : Option Value → pb_H → Prop), pb_R 216 202 L J (.int y :: .int x :: st) h Q ↔ pb_R 216 203 L J (.int (x + y) :: st) h Q) ∧
  (∀ (L : pb_L) (J : pb_J) (st : List Value) (h : pb_H) (Q : Option Value → pb_H → Prop) (a : Nat) (x : Int32), pb_R 216 203 L J (.int x :: .ref a :: st) h Q ↔ pb_o (pb_pf (h.2 a) 12 26 (.int x)) (fun c => pb_R 216 206 L J st (pb_set h a c) Q)) ∧
  (∀ (l1 l2 l3 l4 l5 : Option Value) (st : List Value) (h : pb_H) (Q : Option Value → pb_H → Prop) (x : Nat), pb_R 216 206 [some (.ref x), l1, l2, l3, l4, l5] [] st h Q ↔ pb_R 216 207 [some (.ref x), l1, l2, l3, l4, l5] [] (.ref x :: st) h Q) ∧
  (∀ (l1 l2 l3 l4 l5 : Option Value) (st : List Value) (h : pb_H) (Q : Option Value → pb_H → Prop), pb_R 216 206 [some .null, l1, l2, l3, l4, l5] [] st h Q ↔ pb_R 216 207 [some .null, l1, l2, l3, l4, l5] [] (.null :: st) h Q) ∧
  (∀ (l1 l2 l3 l4 l5 : Option Value) (st : List Value) (h : pb_H) (Q : Option Value → pb_H → Prop) (x : Nat), pb_R 216 207 [some (.ref x), l1, l2, l3, l4, l5] [] st h Q ↔ pb_R 216 208 [some (.ref x), l1, l2, l3, l4, l5] [] (.ref x :: st) h Q) ∧
  (∀ (l1 l2 l3 l4 l5 : Option Value) (st : List Value) (h : pb_H) (Q : Option Value → pb_H → Prop), pb_R 216 207 [some .null, l1, l2, l3, l4, l5] [] st h Q ↔ pb_R 216 208 [some .null, l1, l2, l3, l4, l5] [] (.null :: st) h Q) ∧
  (∀ (L : pb_L) (J : pb_J) (st : List Value) (h : pb_H) (Q : Option Value → pb_H → Prop) (a : Nat), pb_R 216 208 L J (.ref a :: st) h Q ↔ pb_o (pb_gf (h.2 a) 12 35) (fun v => pb_R 216 211 L J (v :: st) h Q)) ∧
  (∀ (L : pb_L) (J : pb_J) (st : List Value) (h : pb_H) (Q : Option Value → pb_H → Prop) (a : Nat) (x : Int32), pb_R 216 211 L J (.int x :: .ref a :: st) h Q ↔ pb_o (pb_pf (h.2 a) 12 34 (.int x)) (fun c => pb_R 216 214 L J st (pb_set h a c) Q)) ∧
  (∀ (l1 l2 l3 l4 l5 : Option Value) (st : List Value) (h : pb_H) (Q : Option Value → pb_H → Prop) (x : Nat), pb_R 216 214 [some (.ref x), l1, l2, l3, l4, l5] [] st h Q ↔ pb_R 216 215 [some (.ref x), l1, l2, l3, l4, l5] [] (.ref x :: st) h Q) ∧
  (∀ (l1 l2 l3 l4 l5 : Option Value) (st : List Value) (h : pb_H) (Q : Option Value → pb_H → Prop), pb_R 216 214 [some .null, l1, l2, l3, l4, l5] [] st h Q ↔ pb_R 216 215 [some .null, l1, l2, l3, l4, l5] [] (.null :: st) h Q) ∧
  (∀ (L : pb_L) (J : pb_J) (st : List Value) (h : pb_H) (Q : Option Value → pb_H → Prop) (a : Nat), pb_R 216 215 L J (.ref a :: st) h Q ↔ pb_o (pb_gf (h.2 a) 12 23) (fun v => pb_R 216 218 L J (v :: st) h Q)) ∧
  (∀ (L : pb_L) (J : pb_J) (st : List Value) (h : pb_H) (Q : Option Value → pb_H → Prop) (x : Int32), pb_R 216 218 L J (.int x :: st) h Q ↔ if ¬ x = 0 then pb_R 216 227 L J st h Q else pb_R 216 221 L J st h Q) ∧
  (∀ (l1 l2 l3 l4 l5 : Option Value) (st : List Value) (h : pb_H) (Q : Option Value → pb_H → Prop) (x : Nat), pb_R 216 221 [some (.ref x), l1, l2, l3, l4, l5] [] st h Q ↔ pb_R 216 222 [some (.ref x), l1, l2, l3, l4, l5] [] (.ref x :: st) h Q) ∧
  (∀ (l1 l2 l3 l4 l5 : Option Value) (st : List Value) (h : pb_H) (Q : Option Value → pb_H → Prop), pb_R 216 221 [some .null, l1, l2, l3, l4, l5] [] st h Q ↔ pb_R 216 222 [some .null, l1, l2, l3, l4, l5] [] (.null :: st) h Q) ∧
  (∀ (L : pb_L) (J : pb_J) (st : List Value) (h : pb_H) (Q : Option Value → pb_H → Prop), pb_R 216 222 L J st h Q ↔ pb_R 216 223 L J (.int (3 : Int32) :: st) h Q) ∧
  (∀ (L : pb_L) (J : pb_J) (st : List Value) (h : pb_H) (Q : Option Value → pb_H → Prop) (a : Nat) (x : Int32), pb_R 216 223 L J (.int x :: .ref a :: st) h Q ↔ pb_o (pb_pf (h.2 a) 12 22 (.int x)) (fun c => pb_R 216 226 L J st (pb_set h a c) Q)) ∧
  (∀ (L : pb_L) (J : pb_J) (h : pb_H) (Q : Option Value → pb_H → Prop), pb_R 216 226 L J [] h Q ↔ Q none h) ∧
  (∀ (L : pb_L) (J : pb_J) (st : List Value) (h : pb_H) (Q : Option Value → pb_H → Prop) (a : Nat), pb_R 216 228 L J (.ref a :: st) h Q ↔ pb_o (pb_gf (h.2 a) 12 24) (fun v => pb_R 216 231 L J (v :: st) h Q)) ∧
  (∀ (L : pb_L) (J : pb_J) (st : List Value) (h : pb_H) (Q : Option Value → pb_H → Prop) (x : Int32), pb_R 216 231 L J (.int x :: st) h Q ↔ if x ≤ 0 then pb_R 216 292 L J st h Q else pb_R 216 234 L J st h Q) ∧
  (∀ (l1 l2 l3 l4 l5 : Option Value) (st : List Value) (h : pb_H) (Q : Option Value → pb_H → Prop) (x : Nat), pb_R 216 234 [some (.ref x), l1, l2, l3, l4, l5] [] st h Q ↔ pb_R 216 235 [some (.ref x), l1, l2, l3, l4, l5] [] (.ref x :: st) h Q) ∧
  (∀ (l1 l2 l3 l4 l5 : Option Value) (st : List Value) (h : pb_H) (Q : Option Value → pb_H → Prop), pb_R 216 234 [some .null, l1, l2, l3, l4, l5] [] st h Q ↔ pb_R 216 235 [some .null, l1, l2, l3, l4, l5] [] (.null :: st) h Q) ∧
  (∀ (L : pb_L) (J : pb_J) (st : List Value) (h : pb_H) (Q : Option Value → pb_H → Prop) (a : Nat), pb_R 216 235 L J (.ref a :: st) h Q ↔ pb_o (pb_gf (h.2 a) 12 31) (fun v => pb_R 216 238 L J (v :: st) h Q)) ∧
  (∀ (l1 l2 l3 l4 l5 : Option Value) (st : List Value) (h : pb_H) (Q : Option Value → pb_H → Prop) (x : Nat), pb_R 216 238 [some (.ref x), l1, l2, l3, l4, l5] [] st h Q ↔ pb_R 216 239 [some (.ref x), l1, l2, l3, l4, l5] [] (.ref x :: st) h Q) ∧
  (∀ (l1 l2 l3 l4 l5 : Option Value) (st : List Value) (h : pb_H) (Q : Option Value → pb_H → Prop), pb_R 216 238 [some .null, l1, l2, l3, l4, l5] [] st h Q ↔ pb_R 216 239 [some .null, l1, l2, l3, l4, l5] [] (.null :: st) h Q) ∧
  (∀ (L : pb_L) (J : pb_J) (st : List Value) (h : pb_H) (Q : Option Value → pb_H → Prop) (a : Nat), pb_R 216 239 L J (.ref a :: st) h Q ↔ pb_o (pb_gf (h.2 a) 12 24) (fun v => pb_R 216 242 L J (v :: st) h Q)) ∧
  (∀ (L : pb_L) (J : pb_J) (st : List Value) (h : pb_H) (Q : Option Value → pb_H → Prop), pb_R 216 242 L J st h Q ↔ pb_R 216 243 L J (.int (1 : Int32) :: st) h Q) ∧
  (∀ (L : pb_L) (J : pb_J) (st : List Value) (x y : Int32) (h : pb_H) (Q : Option Value → pb_H → Prop), pb_R 216 243 L J (.int y :: .int x :: st) h Q ↔ pb_R 216 244 L J (.int (x - y) :: st) h Q) ∧
  (∀ (L : pb_L) (J : pb_J) (st : List Value) (h : pb_H) (Q : Option Value → pb_H → Prop) (a : Nat) (i : Int32), pb_R 216 244 L J (.int i :: .ref a :: st) h Q ↔ pb_o (pb_ai (h.2 a) i) (fun v => pb_R 216 245 L J (.int v :: st) h Q)) ∧
  (∀ (l0 l1 l2 l4 l5 : Option Value) (st : List Value) (h : pb_H) (Q : Option Value → pb_H → Prop) (x : Int32), pb_R 216 245 [l0, l1, l2, some (.int x), l4, l5] [] st h Q ↔ pb_R 216 246 [l0, l1, l2, some (.int x), l4, l5] [] (.int x :: st) h Q) ∧
  (∀ (L : pb_L) (J : pb_J) (st : List Value) (h : pb_H) (Q : Option Value → pb_H → Prop) (x y : Int32), pb_R 216 246 L J (.int y :: .int x :: st) h Q ↔ if x ≤ y then pb_R 216 292 L J st h Q else pb_R 216 249 L J st h Q) ∧
  (∀ (l1 l2 l3 l4 l5 : Option Value) (st : List Value) (h : pb_H) (Q : Option Value → pb_H → Prop) (x : Nat), pb_R 216 249 [some (.ref x), l1, l2, l3, l4, l5] [] st h Q ↔ pb_R 216 250 [some (.ref x), l1, l2, l3, l4, l5] [] (.ref x :: st) h Q) ∧
  (∀ (l1 l2 l3 l4 l5 : Option Value) (st : List Value) (h : pb_H) (Q : Option Value → pb_H → Prop), pb_R 216 249 [some .null, l1, l2, l3, l4, l5] [] st h Q ↔ pb_R 216 250 [some .null, l1, l2, l3, l4, l5] [] (.null :: st) h Q) ∧
  (∀ (L : pb_L) (J : pb_J) (st : List Value) (x : Nat) (h : pb_H) (Q : Option Value → pb_H → Prop), pb_R 216 250 L J (.ref x :: st) h Q ↔ pb_R 216 251 L J (.ref x :: .ref x :: st) h Q) ∧
  (∀ (L : pb_L) (J : pb_J) (st : List Value) (h : pb_H) (Q : Option Value → pb_H → Prop) (a : Nat), pb_R 216 251 L J (.ref a :: st) h Q ↔ pb_o (pb_gf (h.2 a) 12 24) (fun v => pb_R 216 254 L J (v :: st) h Q)) ∧
  (∀ (L : pb_L) (J : pb_J) (st : List Value) (h : pb_H) (Q : Option Value → pb_H → Prop), pb_R 216 254 L J st h Q ↔ pb_R 216 255 L J (.int (1 : Int32) :: st) h Q) ∧
  (∀ (L : pb_L) (J : pb_J) (st : List Value) (x y : Int32) (h : pb_H) (Q : Option Value → pb_H → Prop), pb_R 216 255 L J (.int y :: .int x :: st) h Q ↔ pb_R 216 256 L J (.int (x - y) :: st) h Q) ∧
  (∀ (L : pb_L) (J : pb_J) (st : List Value) (h : pb_H) (Q : Option Value → pb_H → Prop) (a : Nat) (x : Int32), pb_R 216 256 L J (.int x :: .ref a :: st) h Q ↔ pb_o (pb_pf (h.2 a) 12 24 (.int x)) (fun c => pb_R 216 259 L J st (pb_set h a c) Q)) ∧
  (∀ (l1 l2 l3 l4 l5 : Option Value) (st : List Value) (h : pb_H) (Q : Option Value → pb_H → Prop) (x : Nat), pb_R 216 259 [some (.ref x), l1, l2, l3, l4, l5] [] st h Q ↔ pb_R 216 260 [some (.ref x), l1, l2, l3, l4, l5] [] (.ref x :: st) h Q) ∧
  (∀ (l1 l2 l3 l4 l5 : Option Value) (st : List Value) (h : pb_H) (Q : Option Value → pb_H → Prop), pb_R 216 259 [some .null, l1, l2, l3, l4, l5] [] st h Q ↔ pb_R 216 260 [some .null, l1, l2, l3, l4, l5] [] (.null :: st) h Q) ∧
  (∀ (L : pb_L) (J : pb_J) (st : List Value) (h : pb_H) (Q : Option Value → pb_H → Prop) (a : Nat), pb_R 216 260 L J (.ref a :: st) h Q ↔ pb_o (pb_gf (h.2 a) 12 30) (fun v => pb_R 216 263 L J (v :: st) h Q)) ∧
  (∀ (l1 l2 l3 l4 l5 : Option Value) (st : List Value) (h : pb_H) (Q : Option Value → pb_H → Prop) (x : Nat), pb_R 216 263 [some (.ref x), l1, l2, l3, l4, l5] [] st h Q ↔ pb_R 216 264 [some (.ref x), l1, l2, l3, l4, l5] [] (.ref x :: st) h Q) ∧
  (∀ (l1 l2 l3 l4 l5 : Option Value) (st : List Value) (h : pb_H) (Q : Option Value → pb_H → Prop), pb_R 216 263 [some .null, l1, l2, l3, l4, l5] [] st h Q ↔ pb_R 216 264 [some .null, l1, l2, l3, l4, l5] [] (.null :: st) h Q) ∧
  (∀ (L : pb_L) (J : pb_J) (st : List Value) (h : pb_H) (Q : Option Value → pb_H → Prop) (a : Nat), pb_R 216 264 L J (.ref a :: st) h Q ↔ pb_o (pb_gf (h.2 a) 12 24) (fun v => pb_R 216 267 L J (v :: st) h Q)) ∧
  (∀ (L : pb_L) (J : pb_J) (st : List Value) (h : pb_H) (Q : Option Value → pb_H → Prop) (a : Nat) (i : Int32), pb_R 216 267 L J (.int i :: .ref a :: st) h Q ↔ pb_o (pb_ai (h.2 a) i) (fun v => pb_R 216 268 L J (.int v :: st) h Q)) ∧
  (∀ (l0 l1 l2 l3 l4 l5 : Option Value) (st : List Value) (h : pb_H) (Q : Option Value → pb_H → Prop) (x : Int32), pb_R 216 268 [l0, l1, l2, l3, l4, l5] [] (.int x :: st) h Q ↔ pb_R 216 270 [l0, l1, l2, l3, l4, some (.int x)] [] st h Q) ∧
  (∀ (l1 l2 l3 l4 l5 : Option Value) (st : List Value) (h : pb_H) (Q : Option Value → pb_H → Prop) (x : Nat), pb_R 216 270 [some (.ref x), l1, l2, l3, l4, l5] [] st h Q ↔ pb_R 216 271 [some (.ref x), l1, l2, l3, l4, l5] [] (.ref x :: st) h Q) ∧
  (∀ (l1 l2 l3 l4 l5 : Option Value) (st : List Value) (h : pb_H) (Q : Option Value → pb_H → Prop), pb_R 216 270 [some .null, l1, l2, l3, l4, l5] [] st h Q ↔ pb_R 216 271 [some .null, l1, l2, l3, l4, l5] [] (.null :: st) h Q) ∧
  (∀ (L : pb_L) (J : pb_J) (st : List Value) (h : pb_H) (Q : Option Value → pb_H → Prop) (a : Nat), pb_R 216 271 L J (.ref a :: st) h Q ↔ pb_o (pb_gf (h.2 a) 12 28) (fun v => pb_R 216 274 L J (v :: st) h Q)) ∧
  (∀ (l0 l1 l2 l3 l4 : Option Value) (st : List Value) (h : pb_H) (Q : Option Value → pb_H → Prop) (x : Int32), pb_R 216 274 [l0, l1, l2, l3, l4, some (.int x)] [] st h Q ↔ pb_R 216 276 [l0, l1, l2, l3, l4, some (.int x)] [] (.int x :: st) h Q) ∧
  (∀ (L : pb_L) (J : pb_J) (st : List Value) (h : pb_H) (Q : Option Value → pb_H → Prop) (x : Int32), pb_R 216 276 L J (.int x :: st) h Q ↔ if 0 ≤ x then pb_R 216 285 L J st h Q else pb_R 216 279 L J st h Q) ∧
  (∀ (l0 l1 l2 l3 l4 : Option Value) (st : List Value) (h : pb_H) (Q : Option Value → pb_H → Prop) (x : Int32), pb_R 216 279 [l0, l1, l2, l3, l4, some (.int x)] [] st h Q ↔ pb_R 216 281 [l0, l1, l2, l3, l4, some (.int x)] [] (.int x :: st) h Q) ∧
  (∀ (L : pb_L) (J : pb_J) (st : List Value) (x : Int32) (h : pb_H) (Q : Option Value → pb_H → Prop), pb_R 216 281 L J (.int x :: st) h Q ↔ pb_R 216 282 L J (.int (-x) :: st) h Q) ∧
  (∀ (L : pb_L) (J : pb_J) (st : List Value) (h : pb_H) (Q : Option Value → pb_H → Prop), pb_R 216 282 L J st h Q ↔ pb_R 216 287 L J st h Q) ∧
  (∀ (l0 l1 l2 l3 l4 : Option Value) (st : List Value) (h : pb_H) (Q : Option Value → pb_H → Prop) (x : Int32), pb_R 216 285 [l0, l1, l2, l3, l4, some (.int x)] [] st h Q ↔ pb_R 216 287 [l0, l1, l2, l3, l4, some (.int x)] [] (.int x :: st) h Q) ∧
  (∀ (L : pb_L) (J : pb_J) (st : List Value) (h : pb_H) (Q : Option Value → pb_H → Prop), pb_R 216 287 L J st h Q ↔ pb_R 216 288 L J (.int (-1 : Int32) :: st) h Q) ∧
  (∀ (L : pb_L) (J : pb_J) (st : List Value) (h : pb_H) (Q : Option Value → pb_H → Prop) (a : Nat) (i x : Int32), pb_R 216 288 L J (.int x :: .int i :: .ref a :: st) h Q ↔ pb_o (pb_si (h.2 a) i x) (fun c => pb_R 216 289 L J st (pb_set h a c) Q)) ∧
  (∀ (L : pb_L) (J : pb_J) (st : List Value) (h : pb_H) (Q : Option Value → pb_H → Prop), pb_R 216 289 L J st h Q ↔ pb_R 216 227 L J st h Q) ∧
  (∀ (l1 l2 l3 l4 l5 : Option Value) (st : List Value) (h : pb_H) (Q : Option Value → pb_H → Prop) (x : Nat), pb_R 216 292 [some (.ref x), l1, l2, l3, l4, l5] [] st h Q ↔ pb_R 216 293 [some (.ref x), l1, l2, l3, l4, l5] [] (.ref x :: st) h Q) ∧
  (∀ (l1 l2 l3 l4 l5 : Option Value) (st : List Value) (h : pb_H) (Q : Option Value → pb_H → Prop), pb_R 216 292 [some .null, l1, l2, l3, l4, l5] [] st h Q ↔ pb_R 216 293 [some .null, l1, l2, l3, l4, l5] [] (.null :: st) h Q) ∧
  (∀ (l0 l1 l2 l4 l5 : Option Value) (st : List Value) (h : pb_H) (Q : Option Value → pb_H → Prop) (x : Int32), pb_R 216 293 [l0, l1, l2, some (.int x), l4, l5] [] st h Q ↔ pb_R 216 294 [l0, l1, l2, some (.int x), l4, l5] [] (.int x :: st) h Q) ∧
  (∀ (L : pb_L) (J : pb_J) (st : List Value) (h : pb_H) (Q : Option Value → pb_H → Prop) (a : Nat) (x : Int32), pb_R 216 294 L J (.int x :: .ref a :: st) h Q ↔ pb_o (pb_pf (h.2 a) 12 23 (.int x)) (fun c => pb_R 216 297 L J st (pb_set h a c) Q)) ∧
  (∀ (L : pb_L) (J : pb_J) (h : pb_H) (Q : Option Value → pb_H → Prop), pb_R 216 297 L J [] h Q ↔ Q none h) := ⟨
  fun l1 l2 l3 l4 l5 st h Q x => pf_S pb_u_216 rfl rfl,
  fun l1 l2 l3 l4 l5 st h Q => pf_S pb_u_216 rfl rfl,
  fun l0 l2 l3 l4 l5 st h Q x => pf_S pb_u_216 rfl rfl,
  fun L J st h Q => pf_S pb_u_216 rfl rfl,
  fun L J h Q x0 x1 x2 => pf_kv pb_u_216 rfl pb_ci_162 rfl ⟨Nat.le_of_ble_eq_true rfl, Nat.le_of_ble_eq_true rfl, Nat.le_of_ble_eq_true rfl, Nat.le_of_ble_eq_true rfl, rfl⟩ rfl rfl,
  fun l1 l2 l3 l4 l5 st h Q x => pf_S pb_u_216 rfl rfl,
  fun l1 l2 l3 l4 l5 st h Q => pf_S pb_u_216 rfl rfl,
  fun l1 l2 l3 l4 l5 st h Q x => pf_S pb_u_216 rfl rfl,
  fun l1 l2 l3 l4 l5 st h Q => pf_S pb_u_216 rfl rfl,
  fun L J st h Q a => pf_gf pb_u_216 rfl rfl,
  fun L J st h Q a x => pf_pf pb_u_216 rfl rfl,
  fun l1 l2 l3 l4 l5 st h Q x => pf_S pb_u_216 rfl rfl,
  fun l1 l2 l3 l4 l5 st h Q => pf_S pb_u_216 rfl rfl,
  fun L J st h Q => pf_S pb_u_216 rfl rfl,
  fun L J h Q x0 x1 => pf_kv pb_u_216 rfl pb_ci_209 rfl ⟨Nat.le_of_ble_eq_true rfl, Nat.le_of_ble_eq_true rfl, Nat.le_of_ble_eq_true rfl, Nat.le_of_ble_eq_true rfl, rfl⟩ rfl rfl,
  fun l1 l2 l3 l4 l5 st h Q x => pf_S pb_u_216 rfl rfl,
  fun l1 l2 l3 l4 l5 st h Q => pf_S pb_u_216 rfl rfl,
  fun L J st h Q => pf_S pb_u_216 rfl rfl,
  fun L J h Q x0 x1 => pf_kv pb_u_216 rfl pb_ci_209 rfl ⟨Nat.le_of_ble_eq_true rfl, Nat.le_of_ble_eq_true rfl, Nat.le_of_ble_eq_true rfl, Nat.le_of_ble_eq_true rfl, rfl⟩ rfl rfl,
  fun l1 l2 l3 l4 l5 st h Q x => pf_S pb_u_216 rfl rfl,
  fun l1 l2 l3 l4 l5 st h Q => pf_S pb_u_216 rfl rfl,
  fun l0 l2 l3 l4 l5 st h Q x => pf_S pb_u_216 rfl rfl,
  fun L J h Q x0 x1 => pf_kv pb_u_216 rfl pb_ci_211 rfl ⟨Nat.le_of_ble_eq_true rfl, Nat.le_of_ble_eq_true rfl, Nat.le_of_ble_eq_true rfl, Nat.le_of_ble_eq_true rfl, rfl⟩ rfl rfl,
  fun l1 l2 l3 l4 l5 st h Q x => pf_S pb_u_216 rfl rfl,
  fun l1 l2 l3 l4 l5 st h Q => pf_S pb_u_216 rfl rfl,
  fun L J st h Q a => pf_gf pb_u_216 rfl rfl,
  fun l0 l1 l2 l3 l4 l5 st h Q x => pf_S pb_u_216 rfl rfl,
  fun l1 l2 l3 l4 l5 st h Q x => pf_S pb_u_216 rfl rfl,
  fun l1 l2 l3 l4 l5 st h Q => pf_S pb_u_216 rfl rfl,
  fun L J st h Q a => pf_gf pb_u_216 rfl rfl,
  fun L J st h Q x => pf_ii pb_u_216 rfl rfl rfl,
  fun l1 l2 l3 l4 l5 st h Q x => pf_S pb_u_216 rfl rfl,
  fun l1 l2 l3 l4 l5 st h Q => pf_S pb_u_216 rfl rfl,
  fun L J h Q x0 => pf_kv pb_u_216 rfl pb_ci_213 rfl ⟨Nat.le_of_ble_eq_true rfl, Nat.le_of_ble_eq_true rfl, Nat.le_of_ble_eq_true rfl, Nat.le_of_ble_eq_true rfl, rfl⟩ rfl rfl,
  fun L J st h Q => pf_S pb_u_216 rfl rfl,
  fun L J st h Q => pf_S pb_u_216 rfl rfl,
  fun l0 l1 l2 l3 l4 l5 st h Q x => pf_S pb_u_216 rfl rfl,
  fun L J st h Q => pf_S pb_u_216 rfl rfl,
  fun l0 l1 l2 l3 l4 l5 st h Q x => pf_S pb_u_216 rfl rfl,
  fun L J st h Q x => pf_ii pb_u_216 rfl rfl rfl,
  fun l0 l1 l2 l4 l5 st h Q x => pf_S pb_u_216 rfl rfl,
  fun L J st h Q x => pf_ii pb_u_216 rfl rfl rfl,
  fun l0 l1 l3 l4 l5 st h Q x => pf_S pb_u_216 rfl rfl,
  fun L J st h Q x => pf_ii pb_u_216 rfl rfl rfl,
  fun l0 l1 l3 l4 l5 st h Q x => pf_S pb_u_216 rfl rfl,
  fun l1 l2 l3 l4 l5 st h Q x => pf_S pb_u_216 rfl rfl,
  fun l1 l2 l3 l4 l5 st h Q => pf_S pb_u_216 rfl rfl,
  fun l0 l1 l3 l4 l5 st h Q x => pf_S pb_u_216 rfl rfl,
  fun L J h Q x0 x1 => pf_kv pb_u_216 rfl pb_ci_215 rfl ⟨Nat.le_of_ble_eq_true rfl, Nat.le_of_ble_eq_true rfl, Nat.le_of_ble_eq_true rfl, Nat.le_of_ble_eq_true rfl, rfl⟩ rfl rfl,
  fun l0 l1 l2 l3 l4 l5 st h Q x => pf_S pb_u_216 rfl rfl,
  fun l1 l2 l3 l4 l5 st h Q x => pf_S pb_u_216 rfl rfl,
  fun l1 l2 l3 l4 l5 st h Q => pf_S pb_u_216 rfl rfl,
  fun L J st h Q a => pf_gf pb_u_216 rfl rfl,
  fun L J st h Q x => pf_ii pb_u_216 rfl rfl rfl,
  fun l0 l1 l2 l3 l5 st h Q x => pf_S pb_u_216 rfl rfl,
  fun L J st h Q x => pf_ii pb_u_216 rfl rfl rfl,
  fun l1 l2 l3 l4 l5 st h Q x => pf_S pb_u_216 rfl rfl,
  fun l1 l2 l3 l4 l5 st h Q => pf_S pb_u_216 rfl rfl,
  fun L J h Q x0 => pf_kv pb_u_216 rfl pb_ci_213 rfl ⟨Nat.le_of_ble_eq_true rfl, Nat.le_of_ble_eq_true rfl, Nat.le_of_ble_eq_true rfl, Nat.le_of_ble_eq_true rfl, rfl⟩ rfl rfl,
  fun L J st h Q => pf_S pb_u_216 rfl rfl,
  fun L J st h Q => pf_S pb_u_216 rfl rfl,
  fun l0 l1 l2 l3 l4 l5 st h Q x => pf_S pb_u_216 rfl rfl,
  fun L J st h Q => pf_S pb_u_216 rfl rfl,
  fun l1 l2 l3 l4 l5 st h Q x => pf_S pb_u_216 rfl rfl,
  fun l1 l2 l3 l4 l5 st h Q => pf_S pb_u_216 rfl rfl,
  fun L J st h Q => pf_S pb_u_216 rfl rfl,
  fun L J h Q x0 x1 => pf_kv pb_u_216 rfl pb_ci_214 rfl ⟨Nat.le_of_ble_eq_true rfl, Nat.le_of_ble_eq_true rfl, Nat.le_of_ble_eq_true rfl, Nat.le_of_ble_eq_true rfl, rfl⟩ rfl rfl,
  fun l1 l2 l3 l4 l5 st h Q x => pf_S pb_u_216 rfl rfl,
  fun l1 l2 l3 l4 l5 st h Q => pf_S pb_u_216 rfl rfl,
  fun L J st h Q => pf_S pb_u_216 rfl rfl,
  fun L J h Q x0 x1 => pf_kv pb_u_216 rfl pb_ci_209 rfl ⟨Nat.le_of_ble_eq_true rfl, Nat.le_of_ble_eq_true rfl, Nat.le_of_ble_eq_true rfl, Nat.le_of_ble_eq_true rfl, rfl⟩ rfl rfl,
  fun l1 l2 l3 l4 l5 st h Q x => pf_S pb_u_216 rfl rfl,
  fun l1 l2 l3 l4 l5 st h Q => pf_S pb_u_216 rfl rfl,
  fun L J st h Q a => pf_gf pb_u_216 rfl rfl,
  fun L J st h Q x => pf_ii pb_u_216 rfl rfl pf_ne,
  fun l1 l2 l3 l4 l5 st h Q x => pf_S pb_u_216 rfl rfl,
  fun l1 l2 l3 l4 l5 st h Q => pf_S pb_u_216 rfl rfl,
  fun L J st h Q => pf_S pb_u_216 rfl rfl,
  fun L J h Q x0 x1 => pf_kv pb_u_216 rfl pb_ci_209 rfl ⟨Nat.le_of_ble_eq_true rfl, Nat.le_of_ble_eq_true rfl, Nat.le_of_ble_eq_true rfl, Nat.le_of_ble_eq_true rfl, rfl⟩ rfl rfl,
  fun l1 l2 l3 l4 l5 st h Q x => pf_S pb_u_216 rfl rfl,
  fun l1 l2 l3 l4 l5 st h Q => pf_S pb_u_216 rfl rfl,
  fun L J st h Q => pf_S pb_u_216 rfl rfl,
  fun L J h Q x0 x1 => pf_kv pb_u_216 rfl pb_ci_209 rfl ⟨Nat.le_of_ble_eq_true rfl, Nat.le_of_ble_eq_true rfl, Nat.le_of_ble_eq_true rfl, Nat.le_of_ble_eq_true rfl, rfl⟩ rfl rfl,
  fun l1 l2 l3 l4 l5 st h Q x => pf_S pb_u_216 rfl rfl,
  fun l1 l2 l3 l4 l5 st h Q => pf_S pb_u_216 rfl rfl,
  fun l1 l2 l3 l4 l5 st h Q x => pf_S pb_u_216 rfl rfl,
  fun l1 l2 l3 l4 l5 st h Q => pf_S pb_u_216 rfl rfl,
  fun L J st h Q a => pf_gf pb_u_216 rfl rfl,
  fun L J st h Q => pf_S pb_u_216 rfl rfl,
  fun L J st x y h Q => pf_S pb_u_216 rfl rfl,
  fun L J h Q x0 x1 => pf_kv pb_u_216 rfl pb_ci_211 rfl ⟨Nat.le_of_ble_eq_true rfl, Nat.le_of_ble_eq_true rfl, Nat.le_of_ble_eq_true rfl, Nat.le_of_ble_eq_true rfl, rfl⟩ rfl rfl,
  fun l1 l2 l3 l4 l5 st h Q x => pf_S pb_u_216 rfl rfl,
  fun l1 l2 l3 l4 l5 st h Q => pf_S pb_u_216 rfl rfl,
  fun L J st h Q => pf_S pb_u_216 rfl rfl,
  fun L J h Q x0 x1 => pf_kv pb_u_216 rfl pb_ci_214 rfl ⟨Nat.le_of_ble_eq_true rfl, Nat.le_of_ble_eq_true rfl, Nat.le_of_ble_eq_true rfl, Nat.le_of_ble_eq_true rfl, rfl⟩ rfl rfl,
  fun l1 l2 l3 l4 l5 st h Q x => pf_S pb_u_216 rfl rfl,
  fun l1 l2 l3 l4 l5 st h Q => pf_S pb_u_216 rfl rfl,
  fun L J st h Q => pf_S pb_u_216 rfl rfl,
  fun L J h Q x0 x1 => pf_kv pb_u_216 rfl pb_ci_209 rfl ⟨Nat.le_of_ble_eq_true rfl, Nat.le_of_ble_eq_true rfl, Nat.le_of_ble_eq_true rfl, Nat.le_of_ble_eq_true rfl, rfl⟩ rfl rfl,
  fun l0 l1 l2 l3 l5 st h Q x => pf_S pb_u_216 rfl rfl,
  fun L J st h Q x => pf_ii pb_u_216 rfl rfl rfl,
  fun l1 l2 l3 l4 l5 st h Q x => pf_S pb_u_216 rfl rfl,
  fun l1 l2 l3 l4 l5 st h Q => pf_S pb_u_216 rfl rfl,
  fun L J st h Q a => pf_gf pb_u_216 rfl rfl,
  fun L J st h Q => pf_S pb_u_216 rfl rfl,
  fun L J st h Q x y => pf_ic pb_u_216 rfl rfl rfl,
  fun l1 l2 l3 l4 l5 st h Q x => pf_S pb_u_216 rfl rfl,
  fun l1 l2 l3 l4 l5 st h Q => pf_S pb_u_216 rfl rfl,
  fun L J st h Q a => pf_gf pb_u_216 rfl rfl,
  fun L J st h Q => pf_S pb_u_216 rfl rfl,
  fun L J st h Q x y => pf_ic pb_u_216 rfl rfl rfl,
  fun l1 l2 l3 l4 l5 st h Q x => pf_S pb_u_216 rfl rfl,
  fun l1 l2 l3 l4 l5 st h Q => pf_S pb_u_216 rfl rfl,
  fun L J st h Q => pf_S pb_u_216 rfl rfl,
  fun L J st h Q a x => pf_pf pb_u_216 rfl rfl,
  fun L J h Q => pf_rv pb_u_216 rfl rfl,
  fun l1 l2 l3 l4 l5 st h Q x => pf_S pb_u_216 rfl rfl,
  fun l1 l2 l3 l4 l5 st h Q => pf_S pb_u_216 rfl rfl,
  fun L J st h Q => pf_S pb_u_216 rfl rfl,
  fun L J st h Q => pf_S pb_u_216 rfl rfl,
  fun L J h Q x0 x1 x2 => pf_kv pb_u_216 rfl pb_ci_196 rfl ⟨Nat.le_of_ble_eq_true rfl, Nat.le_of_ble_eq_true rfl, Nat.le_of_ble_eq_true rfl, Nat.le_of_ble_eq_true rfl, rfl⟩ rfl rfl,
  fun l1 l2 l3 l4 l5 st h Q x => pf_S pb_u_216 rfl rfl,
  fun l1 l2 l3 l4 l5 st h Q => pf_S pb_u_216 rfl rfl,
  fun L J st x h Q => pf_S pb_u_216 rfl rfl,
  fun L J st h Q a => pf_gf pb_u_216 rfl rfl,
  fun L J st h Q => pf_S pb_u_216 rfl rfl,
  fun L J st x y h Q => pf_S pb_u_216 rfl rfl,
  fun L J st h Q a x => pf_pf pb_u_216 rfl rfl,
  fun l1 l2 l3 l4 l5 st h Q x => pf_S pb_u_216 rfl rfl,
  fun l1 l2 l3 l4 l5 st h Q => pf_S pb_u_216 rfl rfl,
  fun l1 l2 l3 l4 l5 st h Q x => pf_S pb_u_216 rfl rfl,
  fun l1 l2 l3 l4 l5 st h Q => pf_S pb_u_216 rfl rfl,
  fun L J st h Q a => pf_gf pb_u_216 rfl rfl,
  fun L J st h Q a x => pf_pf pb_u_216 rfl rfl,
  fun l1 l2 l3 l4 l5 st h Q x => pf_S pb_u_216 rfl rfl,
  fun l1 l2 l3 l4 l5 st h Q => pf_S pb_u_216 rfl rfl,
  fun L J st h Q a => pf_gf pb_u_216 rfl rfl,
  fun L J st h Q x => pf_ii pb_u_216 rfl rfl pf_ne,
  fun l1 l2 l3 l4 l5 st h Q x => pf_S pb_u_216 rfl rfl,
  fun l1 l2 l3 l4 l5 st h Q => pf_S pb_u_216 rfl rfl,
  fun L J st h Q => pf_S pb_u_216 rfl rfl,
  fun L J st h Q a x => pf_pf pb_u_216 rfl rfl,
  fun L J h Q => pf_rv pb_u_216 rfl rfl,
  fun L J st h Q a => pf_gf pb_u_216 rfl rfl,
  fun L J st h Q x => pf_ii pb_u_216 rfl rfl rfl,
  fun l1 l2 l3 l4 l5 st h Q x => pf_S pb_u_216 rfl rfl,
  fun l1 l2 l3 l4 l5 st h Q => pf_S pb_u_216 rfl rfl,
  fun L J st h Q a => pf_gf pb_u_216 rfl rfl,
  fun l1 l2 l3 l4 l5 st h Q x => pf_S pb_u_216 rfl rfl,
  fun l1 l2 l3 l4 l5 st h Q => pf_S pb_u_216 rfl rfl,
  fun L J st h Q a => pf_gf pb_u_216 rfl rfl,
  fun L J st h Q => pf_S pb_u_216 rfl rfl,
  fun L J st x y h Q => pf_S pb_u_216 rfl rfl,
  fun L J st h Q a i => pf_ai pb_u_216 rfl rfl,
  fun l0 l1 l2 l4 l5 st h Q x => pf_S pb_u_216 rfl rfl,
  fun L J st h Q x y => pf_ic pb_u_216 rfl rfl rfl,
  fun l1 l2 l3 l4 l5 st h Q x => pf_S pb_u_216 rfl rfl,
  fun l1 l2 l3 l4 l5 st h Q => pf_S pb_u_216 rfl rfl,
  fun L J st x h Q => pf_S pb_u_216 rfl rfl,
  fun L J st h Q a => pf_gf pb_u_216 rfl rfl,
  fun L J st h Q => pf_S pb_u_216 rfl rfl,
  fun L J st x y h Q => pf_S pb_u_216 rfl rfl,
  fun L J st h Q a x => pf_pf pb_u_216 rfl rfl,
  fun l1 l2 l3 l4 l5 st h Q x => pf_S pb_u_216 rfl rfl,
  fun l1 l2 l3 l4 l5 st h Q => pf_S pb_u_216 rfl rfl,
  fun L J st h Q a => pf_gf pb_u_216 rfl rfl,
  fun l1 l2 l3 l4 l5 st h Q x => pf_S pb_u_216 rfl rfl,
  fun l1 l2 l3 l4 l5 st h Q => pf_S pb_u_216 rfl rfl,
  fun L J st h Q a => pf_gf pb_u_216 rfl rfl,
  fun L J st h Q a i => pf_ai pb_u_216 rfl rfl,
  fun l0 l1 l2 l3 l4 l5 st h Q x => pf_S pb_u_216 rfl rfl,
  fun l1 l2 l3 l4 l5 st h Q x => pf_S pb_u_216 rfl rfl,
  fun l1 l2 l3 l4 l5 st h Q => pf_S pb_u_216 rfl rfl,
  fun L J st h Q a => pf_gf pb_u_216 rfl rfl,
  fun l0 l1 l2 l3 l4 st h Q x => pf_S pb_u_216 rfl rfl,
  fun L J st h Q x => pf_ii pb_u_216 rfl rfl rfl,
  fun l0 l1 l2 l3 l4 st h Q x => pf_S pb_u_216 rfl rfl,
  fun L J st x h Q => pf_S pb_u_216 rfl rfl,
  fun L J st h Q => pf_S pb_u_216 rfl rfl,
  fun l0 l1 l2 l3 l4 st h Q x => pf_S pb_u_216 rfl rfl,
  fun L J st h Q => pf_S pb_u_216 rfl rfl,
  fun L J st h Q a i x => pf_si pb_u_216 rfl rfl,
  fun L J st h Q => pf_S pb_u_216 rfl rfl,
  fun l1 l2 l3 l4 l5 st h Q x => pf_S pb_u_216 rfl rfl,
  fun l1 l2 l3 l4 l5 st h Q => pf_S pb_u_216 rfl rfl,
  fun l0 l1 l2 l4 l5 st h Q x => pf_S pb_u_216 rfl rfl,
  fun L J st h Q a x => pf_pf pb_u_216 rfl rfl,
  fun L J h Q => pf_rv pb_u_216 rfl rfl⟩
theorem pb_c216 (x0 : Nat) (x1 : Int32) (h : pb_H) (Q : Option Value → pb_H → Prop) : pb_call 216 [.ref x0, .int x1] h Q ↔ pb_R 216 0 [some (.ref x0), some (.int x1), none, none, none, none] [] [] h Q := Iff.rfl
/-! 217: PlaneBenchModel.gives(III)V -/
theorem pb_u_217 : pb_t 217 = pb_t217 := rfl
theorem pb_ci_217 : pb_ci 217 = 12 := by decide +kernel
set_option maxRecDepth 100000 in
theorem pb_e217 : (∀ (l1 l2 l3 : Option Value) (st : List Value) (h : pb_H) (Q : Option Value → pb_H → Prop) (x : Nat), pb_R 217 0 [some (.ref x), l1, l2, l3] [] st h Q ↔ pb_R 217 1 [some (.ref x), l1, l2, l3] [] (.ref x :: st) h Q) ∧
  (∀ (l1 l2 l3 : Option Value) (st : List Value) (h : pb_H) (Q : Option Value → pb_H → Prop), pb_R 217 0 [some .null, l1, l2, l3] [] st h Q ↔ pb_R 217 1 [some .null, l1, l2, l3] [] (.null :: st) h Q) ∧
  (∀ (L : pb_L) (J : pb_J) (st : List Value) (h : pb_H) (Q : Option Value → pb_H → Prop) (a : Nat), pb_R 217 1 L J (.ref a :: st) h Q ↔ pb_o (pb_gf (h.2 a) 12 28) (fun v => pb_R 217 4 L J (v :: st) h Q)) ∧
  (∀ (l0 l2 l3 : Option Value) (st : List Value) (h : pb_H) (Q : Option Value → pb_H → Prop) (x : Int32), pb_R 217 4 [l0, some (.int x), l2, l3] [] st h Q ↔ pb_R 217 5 [l0, some (.int x), l2, l3] [] (.int x :: st) h Q) ∧
  (∀ (l0 l1 l3 : Option Value) (st : List Value) (h : pb_H) (Q : Option Value → pb_H → Prop) (x : Int32), pb_R 217 5 [l0, l1, some (.int x), l3] [] st h Q ↔ pb_R 217 6 [l0, l1, some (.int x), l3] [] (.int x :: st) h Q) ∧
  (∀ (L : pb_L) (J : pb_J) (st : List Value) (h : pb_H) (Q : Option Value → pb_H → Prop) (a : Nat) (i x : Int32), pb_R 217 6 L J (.int x :: .int i :: .ref a :: st) h Q ↔ pb_o (pb_si (h.2 a) i x) (fun c => pb_R 217 7 L J st (pb_set h a c) Q)) ∧
  (∀ (l1 l2 l3 : Option Value) (st : List Value) (h : pb_H) (Q : Option Value → pb_H → Prop) (x : Nat), pb_R 217 7 [some (.ref x), l1, l2, l3] [] st h Q ↔ pb_R 217 8 [some (.ref x), l1, l2, l3] [] (.ref x :: st) h Q) ∧
  (∀ (l1 l2 l3 : Option Value) (st : List Value) (h : pb_H) (Q : Option Value → pb_H → Prop), pb_R 217 7 [some .null, l1, l2, l3] [] st h Q ↔ pb_R 217 8 [some .null, l1, l2, l3] [] (.null :: st) h Q) ∧
  (∀ (L : pb_L) (J : pb_J) (st : List Value) (h : pb_H) (Q : Option Value → pb_H → Prop) (a : Nat), pb_R 217 8 L J (.ref a :: st) h Q ↔ pb_o (pb_gf (h.2 a) 12 29) (fun v => pb_R 217 11 L J (v :: st) h Q)) ∧
  (∀ (l0 l2 l3 : Option Value) (st : List Value) (h : pb_H) (Q : Option Value → pb_H → Prop) (x : Int32), pb_R 217 11 [l0, some (.int x), l2, l3] [] st h Q ↔ pb_R 217 12 [l0, some (.int x), l2, l3] [] (.int x :: st) h Q) ∧
  (∀ (l0 l1 l3 : Option Value) (st : List Value) (h : pb_H) (Q : Option Value → pb_H → Prop) (x : Int32), pb_R 217 12 [l0, l1, some (.int x), l3] [] st h Q ↔ pb_R 217 13 [l0, l1, some (.int x), l3] [] (.int x :: st) h Q) ∧
  (∀ (L : pb_L) (J : pb_J) (st : List Value) (h : pb_H) (Q : Option Value → pb_H → Prop) (a : Nat) (i x : Int32), pb_R 217 13 L J (.int x :: .int i :: .ref a :: st) h Q ↔ pb_o (pb_si (h.2 a) i x) (fun c => pb_R 217 14 L J st (pb_set h a c) Q)) ∧
  (∀ (l1 l2 l3 : Option Value) (st : List Value) (h : pb_H) (Q : Option Value → pb_H → Prop) (x : Nat), pb_R 217 14 [some (.ref x), l1, l2, l3] [] st h Q ↔ pb_R 217 15 [some (.ref x), l1, l2, l3] [] (.ref x :: st) h Q) ∧
  (∀ (l1 l2 l3 : Option Value) (st : List Value) (h : pb_H) (Q : Option Value → pb_H → Prop), pb_R 217 14 [some .null, l1, l2, l3] [] st h Q ↔ pb_R 217 15 [some .null, l1, l2, l3] [] (.null :: st) h Q) ∧
  (∀ (L : pb_L) (J : pb_J) (st : List Value) (h : pb_H) (Q : Option Value → pb_H → Prop) (a : Nat), pb_R 217 15 L J (.ref a :: st) h Q ↔ pb_o (pb_gf (h.2 a) 12 30) (fun v => pb_R 217 18 L J (v :: st) h Q)) ∧
  (∀ (l1 l2 l3 : Option Value) (st : List Value) (h : pb_H) (Q : Option Value → pb_H → Prop) (x : Nat), pb_R 217 18 [some (.ref x), l1, l2, l3] [] st h Q ↔ pb_R 217 19 [some (.ref x), l1, l2, l3] [] (.ref x :: st) h Q) ∧
  (∀ (l1 l2 l3 : Option Value) (st : List Value) (h : pb_H) (Q : Option Value → pb_H → Prop), pb_R 217 18 [some .null, l1, l2, l3] [] st h Q ↔ pb_R 217 19 [some .null, l1, l2, l3] [] (.null :: st) h Q) ∧
  (∀ (L : pb_L) (J : pb_J) (st : List Value) (h : pb_H) (Q : Option Value → pb_H → Prop) (a : Nat), pb_R 217 19 L J (.ref a :: st) h Q ↔ pb_o (pb_gf (h.2 a) 12 24) (fun v => pb_R 217 22 L J (v :: st) h Q)) ∧
  (∀ (l0 l1 l3 : Option Value) (st : List Value) (h : pb_H) (Q : Option Value → pb_H → Prop) (x : Int32), pb_R 217 22 [l0, l1, some (.int x), l3] [] st h Q ↔ pb_R 217 23 [l0, l1, some (.int x), l3] [] (.int x :: st) h Q) ∧
  (∀ (L : pb_L) (J : pb_J) (st : List Value) (h : pb_H) (Q : Option Value → pb_H → Prop), pb_R 217 23 L J st h Q ↔ pb_R 217 24 L J (.int (1 : Int32) :: st) h Q) ∧
  (∀ (L : pb_L) (J : pb_J) (st : List Value) (h : pb_H) (Q : Option Value → pb_H → Prop) (x y : Int32), pb_R 217 24 L J (.int y :: .int x :: st) h Q ↔ if ¬ x = y then pb_R 217 31 L J st h Q else pb_R 217 27 L J st h Q) ∧
  (∀ (l0 l2 l3 : Option Value) (st : List Value) (h : pb_H) (Q : Option Value → pb_H → Prop) (x : Int32), pb_R 217 27 [l0, some (.int x), l2, l3] [] st h Q ↔ pb_R 217 28 [l0, some (.int x), l2, l3] [] (.int x :: st) h Q) ∧
  (∀ (L : pb_L) (J : pb_J) (st : List Value) (h : pb_H) (Q : Option Value → pb_H → Prop), pb_R 217 28 L J st h Q ↔ pb_R 217 33 L J st h Q) ∧
  (∀ (l0 l2 l3 : Option Value) (st : List Value) (h : pb_H) (Q : Option Value → pb_H → Prop) (x : Int32), pb_R 217 31 [l0, some (.int x), l2, l3] [] st h Q ↔ pb_R 217 32 [l0, some (.int x), l2, l3] [] (.int x :: st) h Q) ∧
  (∀ (L : pb_L) (J : pb_J) (st : List Value) (x : Int32) (h : pb_H) (Q : Option Value → pb_H → Prop), pb_R 217 32 L J (.int x :: st) h Q ↔ pb_R 217 33 L J (.int (-x) :: st) h Q) ∧
  (∀ (L : pb_L) (J : pb_J) (st : List Value) (h : pb_H) (Q : Option Value → pb_H → Prop) (a : Nat) (i x : Int32), pb_R 217 33 L J (.int x :: .int i :: .ref a :: st) h Q ↔ pb_o (pb_si (h.2 a) i x) (fun c => pb_R 217 34 L J st (pb_set h a c) Q)) ∧
  (∀ (l1 l2 l3 : Option Value) (st : List Value) (h : pb_H) (Q : Option Value → pb_H → Prop) (x : Nat), pb_R 217 34 [some (.ref x), l1, l2, l3] [] st h Q ↔ pb_R 217 35 [some (.ref x), l1, l2, l3] [] (.ref x :: st) h Q) ∧
  (∀ (l1 l2 l3 : Option Value) (st : List Value) (h : pb_H) (Q : Option Value → pb_H → Prop), pb_R 217 34 [some .null, l1, l2, l3] [] st h Q ↔ pb_R 217 35 [some .null, l1, l2, l3] [] (.null :: st) h Q) ∧
  (∀ (L : pb_L) (J : pb_J) (st : List Value) (h : pb_H) (Q : Option Value → pb_H → Prop) (a : Nat), pb_R 217 35 L J (.ref a :: st) h Q ↔ pb_o (pb_gf (h.2 a) 12 31) (fun v => pb_R 217 38 L J (v :: st) h Q)) ∧
  (∀ (l1 l2 l3 : Option Value) (st : List Value) (h : pb_H) (Q : Option Value → pb_H → Prop) (x : Nat), pb_R 217 38 [some (.ref x), l1, l2, l3] [] st h Q ↔ pb_R 217 39 [some (.ref x), l1, l2, l3] [] (.ref x :: st) h Q) ∧
  (∀ (l1 l2 l3 : Option Value) (st : List Value) (h : pb_H) (Q : Option Value → pb_H → Prop), pb_R 217 38 [some .null, l1, l2, l3] [] st h Q ↔ pb_R 217 39 [some .null, l1, l2, l3] [] (.null :: st) h Q) ∧
  (∀ (L : pb_L) (J : pb_J) (st : List Value) (h : pb_H) (Q : Option Value → pb_H → Prop) (a : Nat), pb_R 217 39 L J (.ref a :: st) h Q ↔ pb_o (pb_gf (h.2 a) 12 24) (fun v => pb_R 217 42 L J (v :: st) h Q)) ∧
  (∀ (l1 l2 l3 : Option Value) (st : List Value) (h : pb_H) (Q : Option Value → pb_H → Prop) (x : Nat), pb_R 217 42 [some (.ref x), l1, l2, l3] [] st h Q ↔ pb_R 217 43 [some (.ref x), l1, l2, l3] [] (.ref x :: st) h Q) ∧
  (∀ (l1 l2 l3 : Option Value) (st : List Value) (h : pb_H) (Q : Option Value → pb_H → Prop), pb_R 217 42 [some .null, l1, l2, l3] [] st h Q ↔ pb_R 217 43 [some .null, l1, l2, l3] [] (.null :: st) h Q) ∧
  (∀ (L : pb_L) (J : pb_J) (st : List Value) (h : pb_H) (Q : Option Value → pb_H → Prop) (a : Nat), pb_R 217 43 L J (.ref a :: st) h Q ↔ pb_o (pb_gf (h.2 a) 12 23) (fun v => pb_R 217 46 L J (v :: st) h Q)) ∧
  (∀ (L : pb_L) (J : pb_J) (st : List Value) (h : pb_H) (Q : Option Value → pb_H → Prop) (a : Nat) (i x : Int32), pb_R 217 46 L J (.int x :: .int i :: .ref a :: st) h Q ↔ pb_o (pb_si (h.2 a) i x) (fun c => pb_R 217 47 L J st (pb_set h a c) Q)) ∧
  (∀ (l1 l2 l3 : Option Value) (st : List Value) (h : pb_H) (Q : Option Value → pb_H → Prop) (x : Nat), pb_R 217 47 [some (.ref x), l1, l2, l3] [] st h Q ↔ pb_R 217 48 [some (.ref x), l1, l2, l3] [] (.ref x :: st) h Q) ∧
  (∀ (l1 l2 l3 : Option Value) (st : List Value) (h : pb_H) (Q : Option Value → pb_H → Prop), pb_R 217 47 [some .null, l1, l2, l3] [] st h Q ↔ pb_R 217 48 [some .null, l1, l2, l3] [] (.null :: st) h Q) ∧
  (∀ (L : pb_L) (J : pb_J) (st : List Value) (h : pb_H) (Q : Option Value → pb_H → Prop) (a : Nat), pb_R 217 48 L J (.ref a :: st) h Q ↔ pb_o (pb_gf (h.2 a) 12 32) (fun v => pb_R 217 51 L J (v :: st) h Q)) ∧
  (∀ (l1 l2 l3 : Option Value) (st : List Value) (h : pb_H) (Q : Option Value → pb_H → Prop) (x : Nat), pb_R 217 51 [some (.ref x), l1, l2, l3] [] st h Q ↔ pb_R 217 52 [some (.ref x), l1, l2, l3] [] (.ref x :: st) h Q) ∧
  (∀ (l1 l2 l3 : Option Value) (st : List Value) (h : pb_H) (Q : Option Value → pb_H → Prop), pb_R 217 51 [some .null, l1, l2, l3] [] st h Q ↔ pb_R 217 52 [some .null, l1, l2, l3] [] (.null :: st) h Q) ∧
  (∀ (L : pb_L) (J : pb_J) (st : List Value) (h : pb_H) (Q : Option Value → pb_H → Prop) (a : Nat), pb_R 217 52 L J (.ref a :: st) h Q ↔ pb_o (pb_gf (h.2 a) 12 24) (fun v => pb_R 217 55 L J (v :: st) h Q)) ∧
  (∀ (l0 l1 l2 : Option Value) (st : List Value) (h : pb_H) (Q : Option Value → pb_H → Prop) (x : Int32), pb_R 217 55 [l0, l1, l2, some (.int x)] [] st h Q ↔ pb_R 217 56 [l0, l1, l2, some (.int x)] [] (.int x :: st) h Q) ∧
  (∀ (L : pb_L) (J : pb_J) (st : List Value) (h : pb_H) (Q : Option Value → pb_H → Prop) (a : Nat) (i x : Int32), pb_R 217 56 L J (.int x :: .int i :: .ref a :: st) h Q ↔ pb_o (pb_si (h.2 a) i x) (fun c => pb_R 217 57 L J st (pb_set h a c) Q)) ∧
  (∀ (l1 l2 l3 : Option Value) (st : List Value) (h : pb_H) (Q : Option Value → pb_H → Prop) (x : Nat), pb_R 217 57 [some (.ref x), l1, l2, l3] [] st h Q ↔ pb_R 217 58 [some (.ref x), l1, l2, l3] [] (.ref x :: st) h Q) ∧
  (∀ (l1 l2 l3 : Option Value) (st : List Value) (h : pb_H) (Q : Option Value → pb_H → Prop), pb_R 217 57 [some .null, l1, l2, l3] [] st h Q ↔ pb_R 217 58 [some .null, l1, l2, l3] [] (.null :: st) h Q) ∧
  (∀ (L : pb_L) (J : pb_J) (st : List Value) (x : Nat) (h : pb_H) (Q : Option Value → pb_H → Prop), pb_R 217 58 L J (.ref x :: st) h Q ↔ pb_R 217 59 L J (.ref x :: .ref x :: st) h Q) ∧
  (∀ (L : pb_L) (J : pb_J) (st : List Value) (h : pb_H) (Q : Option Value → pb_H → Prop) (a : Nat), pb_R 217 59 L J (.ref a :: st) h Q ↔ pb_o (pb_gf (h.2 a) 12 24) (fun v => pb_R 217 62 L J (v :: st) h Q)) ∧
  (∀ (L : pb_L) (J : pb_J) (st : List Value) (h : pb_H) (Q : Option Value → pb_H → Prop), pb_R 217 62 L J st h Q ↔ pb_R 217 63 L J (.int (1 : Int32) :: st) h Q) ∧
  (∀ (L : pb_L) (J : pb_J) (st : List Value) (x y : Int32) (h : pb_H) (Q : Option Value → pb_H → Prop), pb_R 217 63 L J (.int y :: .int x :: st) h Q ↔ pb_R 217 64 L J (.int (x + y) :: st) h Q) ∧
  (∀ (L : pb_L) (J : pb_J) (st : List Value) (h : pb_H) (Q : Option Value → pb_H → Prop) (a : Nat) (x : Int32), pb_R 217 64 L J (.int x :: .ref a :: st) h Q ↔ pb_o (pb_pf (h.2 a) 12 24 (.int x)) (fun c => pb_R 217 67 L J st (pb_set h a c) Q)) ∧
  (∀ (L : pb_L) (J : pb_J) (h : pb_H) (Q : Option Value → pb_H → Prop), pb_R 217 67 L J [] h Q ↔ Q none h) := ⟨
  fun l1 l2 l3 st h Q x => pf_S pb_u_217 rfl rfl,
  fun l1 l2 l3 st h Q => pf_S pb_u_217 rfl rfl,
  fun L J st h Q a => pf_gf pb_u_217 rfl rfl,
  fun l0 l2 l3 st h Q x => pf_S pb_u_217 rfl rfl,
  fun l0 l1 l3 st h Q x => pf_S pb_u_217 rfl rfl,
  fun L J st h Q a i x => pf_si pb_u_217 rfl rfl,
  fun l1 l2 l3 st h Q x => pf_S pb_u_217 rfl rfl,
  fun l1 l2 l3 st h Q => pf_S pb_u_217 rfl rfl,
  fun L J st h Q a => pf_gf pb_u_217 rfl rfl,
  fun l0 l2 l3 st h Q x => pf_S pb_u_217 rfl rfl,
  fun l0 l1 l3 st h Q x => pf_S pb_u_217 rfl rfl,
  fun L J st h Q a i x => pf_si pb_u_217 rfl rfl,
  fun l1 l2 l3 st h Q x => pf_S pb_u_217 rfl rfl,
  fun l1 l2 l3 st h Q => pf_S pb_u_217 rfl rfl,
  fun L J st h Q a => pf_gf pb_u_217 rfl rfl,
  fun l1 l2 l3 st h Q x => pf_S pb_u_217 rfl rfl,
  fun l1 l2 l3 st h Q => pf_S pb_u_217 rfl rfl,
  fun L J st h Q a => pf_gf pb_u_217 rfl rfl,
  fun l0 l1 l3 st h Q x => pf_S pb_u_217 rfl rfl,
  fun L J st h Q => pf_S pb_u_217 rfl rfl,
  fun L J st h Q x y => pf_ic pb_u_217 rfl rfl pf_ne,
  fun l0 l2 l3 st h Q x => pf_S pb_u_217 rfl rfl,
  fun L J st h Q => pf_S pb_u_217 rfl rfl,
  fun l0 l2 l3 st h Q x => pf_S pb_u_217 rfl rfl,
  fun L J st x h Q => pf_S pb_u_217 rfl rfl,
  fun L J st h Q a i x => pf_si pb_u_217 rfl rfl,
  fun l1 l2 l3 st h Q x => pf_S pb_u_217 rfl rfl,
  fun l1 l2 l3 st h Q => pf_S pb_u_217 rfl rfl,
  fun L J st h Q a => pf_gf pb_u_217 rfl rfl,
  fun l1 l2 l3 st h Q x => pf_S pb_u_217 rfl rfl,
  fun l1 l2 l3 st h Q => pf_S pb_u_217 rfl rfl,
  fun L J st h Q a => pf_gf pb_u_217 rfl rfl,
  fun l1 l2 l3 st h Q x => pf_S pb_u_217 rfl rfl,
  fun l1 l2 l3 st h Q => pf_S pb_u_217 rfl rfl,
  fun L J st h Q a => pf_gf pb_u_217 rfl rfl,
  fun L J st h Q a i x => pf_si pb_u_217 rfl rfl,
  fun l1 l2 l3 st h Q x => pf_S pb_u_217 rfl rfl,
  fun l1 l2 l3 st h Q => pf_S pb_u_217 rfl rfl,
  fun L J st h Q a => pf_gf pb_u_217 rfl rfl,
  fun l1 l2 l3 st h Q x => pf_S pb_u_217 rfl rfl,
  fun l1 l2 l3 st h Q => pf_S pb_u_217 rfl rfl,
  fun L J st h Q a => pf_gf pb_u_217 rfl rfl,
  fun l0 l1 l2 st h Q x => pf_S pb_u_217 rfl rfl,
  fun L J st h Q a i x => pf_si pb_u_217 rfl rfl,
  fun l1 l2 l3 st h Q x => pf_S pb_u_217 rfl rfl,
  fun l1 l2 l3 st h Q => pf_S pb_u_217 rfl rfl,
  fun L J st x h Q => pf_S pb_u_217 rfl rfl,
  fun L J st h Q a => pf_gf pb_u_217 rfl rfl,
  fun L J st h Q => pf_S pb_u_217 rfl rfl,
  fun L J st x y h Q => pf_S pb_u_217 rfl rfl,
  fun L J st h Q a x => pf_pf pb_u_217 rfl rfl,
  fun L J h Q => pf_rv pb_u_217 rfl rfl⟩
theorem pb_c217 (x0 : Nat) (x1 : Int32) (x2 : Int32) (x3 : Int32) (h : pb_H) (Q : Option Value → pb_H → Prop) : pb_call 217 [.ref x0, .int x1, .int x2, .int x3] h Q ↔ pb_R 217 0 [some (.ref x0), some (.int x1), some (.int x2), some (.int x3)] [] [] h Q := Iff.rfl
/-! 218: PlaneBenchModel.act()V -/
theorem pb_u_218 : pb_t 218 = pb_t218 := rfl
theorem pb_ci_218 : pb_ci 218 = 12 := by decide +kernel
set_option maxRecDepth 100000 in
theorem pb_q218_2 (l0 l2 : Option Value) (st : List Value) (h : pb_H) (Q : Option Value → pb_H → Prop) (x : Int32) : pb_R 218 2 [l0, some (.int x), l2] [] st h Q ↔ pb_R 218 3 [l0, some (.int x), l2] [] (.int x :: st) h Q := pf_S pb_u_218 rfl rfl
set_option maxRecDepth 100000 in
theorem pb_q218_70 (l0 l2 : Option Value) (st : List Value) (h : pb_H) (Q : Option Value → pb_H → Prop) (x : Int32) : pb_R 218 70 [l0, some (.int x), l2] [] st h Q ↔ pb_R 218 71 [l0, some (.int x), l2] [] (.int x :: st) h Q := pf_S pb_u_218 rfl rfl
set_option maxRecDepth 100000 in
theorem pb_e218 : (∀ (L : pb_L) (J : pb_J) (st : List Value) (h : pb_H) (Q : Option Value → pb_H → Prop), pb_R 218 0 L J st h Q ↔ pb_R 218 1 L J (.int (1 : Int32) :: st) h Q) ∧
  (∀ (l0 l1 l2 : Option Value) (st : List Value) (h : pb_H) (Q : Option Value → pb_H → Prop) (x : Int32), pb_R 218 1 [l0, l1, l2] [] (.int x :: st) h Q ↔ pb_R 218 2 [l0, some (.int x), l2] [] st h Q) ∧
  (∀ (l1 l2 : Option Value) (st : List Value) (h : pb_H) (Q : Option Value → pb_H → Prop) (x : Nat), pb_R 218 3 [some (.ref x), l1, l2] [] st h Q ↔ pb_R 218 4 [some (.ref x), l1, l2] [] (.ref x :: st) h Q) ∧
  (∀ (l1 l2 : Option Value) (st : List Value) (h : pb_H) (Q : Option Value → pb_H → Prop), pb_R 218 3 [some .null, l1, l2] [] st h Q ↔ pb_R 218 4 [some .null, l1, l2] [] (.null :: st) h Q) ∧
  (∀ (L : pb_L) (J : pb_J) (st : List Value) (h : pb_H) (Q : Option Value → pb_H → Prop) (a : Nat), pb_R 218 4 L J (.ref a :: st) h Q ↔ pb_o (pb_gf (h.2 a) 12 4) (fun v => pb_R 218 7 L J (v :: st) h Q)) ∧
  (∀ (L : pb_L) (J : pb_J) (st : List Value) (h : pb_H) (Q : Option Value → pb_H → Prop) (x y : Int32), pb_R 218 7 L J (.int y :: .int x :: st) h Q ↔ if y < x then pb_R 218 68 L J st h Q else pb_R 218 10 L J st h Q) ∧
  (∀ (l1 l2 : Option Value) (st : List Value) (h : pb_H) (Q : Option Value → pb_H → Prop) (x : Nat), pb_R 218 10 [some (.ref x), l1, l2] [] st h Q ↔ pb_R 218 11 [some (.ref x), l1, l2] [] (.ref x :: st) h Q) ∧
  (∀ (l1 l2 : Option Value) (st : List Value) (h : pb_H) (Q : Option Value → pb_H → Prop), pb_R 218 10 [some .null, l1, l2] [] st h Q ↔ pb_R 218 11 [some .null, l1, l2] [] (.null :: st) h Q) ∧
  (∀ (l0 l2 : Option Value) (st : List Value) (h : pb_H) (Q : Option Value → pb_H → Prop) (x : Int32), pb_R 218 11 [l0, some (.int x), l2] [] st h Q ↔ pb_R 218 12 [l0, some (.int x), l2] [] (.int x :: st) h Q) ∧
  (∀ (l1 l2 : Option Value) (st : List Value) (h : pb_H) (Q : Option Value → pb_H → Prop) (x : Nat), pb_R 218 12 [some (.ref x), l1, l2] [] st h Q ↔ pb_R 218 13 [some (.ref x), l1, l2] [] (.ref x :: st) h Q) ∧
  (∀ (l1 l2 : Option Value) (st : List Value) (h : pb_H) (Q : Option Value → pb_H → Prop), pb_R 218 12 [some .null, l1, l2] [] st h Q ↔ pb_R 218 13 [some .null, l1, l2] [] (.null :: st) h Q) ∧
  (∀ (L : pb_L) (J : pb_J) (st : List Value) (h : pb_H) (Q : Option Value → pb_H → Prop) (a : Nat), pb_R 218 13 L J (.ref a :: st) h Q ↔ pb_o (pb_gf (h.2 a) 12 28) (fun v => pb_R 218 16 L J (v :: st) h Q)) ∧
  (∀ (L : pb_L) (J : pb_J) (h : pb_H) (Q : Option Value → pb_H → Prop) (x0 : Nat) (x1 : Int32) (x2 : Nat), pb_R 218 16 L J [.ref x0, .int x1, .ref x2] h Q ↔ pb_is0 (h.2 x2) 12 = true ∧ pb_call 172 [.ref x2, .int x1, .ref x0] h (fun v t => pb_R 218 19 L J (v.toList ++ []) t Q)) ∧
  (∀ (l0 l1 l2 : Option Value) (st : List Value) (h : pb_H) (Q : Option Value → pb_H → Prop) (x : Int32), pb_R 218 19 [l0, l1, l2] [] (.int x :: st) h Q ↔ pb_R 218 20 [l0, l1, some (.int x)] [] st h Q) ∧
  (∀ (l0 l1 : Option Value) (st : List Value) (h : pb_H) (Q : Option Value → pb_H → Prop) (x : Int32), pb_R 218 20 [l0, l1, some (.int x)] [] st h Q ↔ pb_R 218 21 [l0, l1, some (.int x)] [] (.int x :: st) h Q) ∧
  (∀ (L : pb_L) (J : pb_J) (st : List Value) (h : pb_H) (Q : Option Value → pb_H → Prop), pb_R 218 21 L J st h Q ↔ pb_R 218 22 L J (.int (-1 : Int32) :: st) h Q) ∧
  (∀ (L : pb_L) (J : pb_J) (st : List Value) (h : pb_H) (Q : Option Value → pb_H → Prop) (x y : Int32), pb_R 218 22 L J (.int y :: .int x :: st) h Q ↔ if ¬ x = y then pb_R 218 31 L J st h Q else pb_R 218 25 L J st h Q) ∧
  (∀ (l1 l2 : Option Value) (st : List Value) (h : pb_H) (Q : Option Value → pb_H → Prop) (x : Nat), pb_R 218 25 [some (.ref x), l1, l2] [] st h Q ↔ pb_R 218 26 [some (.ref x), l1, l2] [] (.ref x :: st) h Q) ∧
  (∀ (l1 l2 : Option Value) (st : List Value) (h : pb_H) (Q : Option Value → pb_H → Prop), pb_R 218 25 [some .null, l1, l2] [] st h Q ↔ pb_R 218 26 [some .null, l1, l2] [] (.null :: st) h Q) ∧
  (∀ (l0 l2 : Option Value) (st : List Value) (h : pb_H) (Q : Option Value → pb_H → Prop) (x : Int32), pb_R 218 26 [l0, some (.int x), l2] [] st h Q ↔ pb_R 218 27 [l0, some (.int x), l2] [] (.int x :: st) h Q) ∧
  (∀ (L : pb_L) (J : pb_J) (h : pb_H) (Q : Option Value → pb_H → Prop) (x0 : Int32) (x1 : Nat), pb_R 218 27 L J [.int x0, .ref x1] h Q ↔ pb_is0 (h.2 x1) 12 = true ∧ pb_call 216 [.ref x1, .int x0] h (fun v t => pb_R 218 30 L J (v.toList ++ []) t Q)) ∧
  (∀ (L : pb_L) (J : pb_J) (h : pb_H) (Q : Option Value → pb_H → Prop), pb_R 218 30 L J [] h Q ↔ Q none h) ∧
  (∀ (l0 l1 : Option Value) (st : List Value) (h : pb_H) (Q : Option Value → pb_H → Prop) (x : Int32), pb_R 218 31 [l0, l1, some (.int x)] [] st h Q ↔ pb_R 218 32 [l0, l1, some (.int x)] [] (.int x :: st) h Q) ∧
  (∀ (L : pb_L) (J : pb_J) (st : List Value) (h : pb_H) (Q : Option Value → pb_H → Prop) (x : Int32), pb_R 218 32 L J (.int x :: st) h Q ↔ if x ≤ 0 then pb_R 218 62 L J st h Q else pb_R 218 35 L J st h Q) ∧
  (∀ (l1 l2 : Option Value) (st : List Value) (h : pb_H) (Q : Option Value → pb_H → Prop) (x : Nat), pb_R 218 35 [some (.ref x), l1, l2] [] st h Q ↔ pb_R 218 36 [some (.ref x), l1, l2] [] (.ref x :: st) h Q) ∧
  (∀ (l1 l2 : Option Value) (st : List Value) (h : pb_H) (Q : Option Value → pb_H → Prop), pb_R 218 35 [some .null, l1, l2] [] st h Q ↔ pb_R 218 36 [some .null, l1, l2] [] (.null :: st) h Q) ∧
  (∀ (l0 l1 : Option Value) (st : List Value) (h : pb_H) (Q : Option Value → pb_H → Prop) (x : Int32), pb_R 218 36 [l0, l1, some (.int x)] [] st h Q ↔ pb_R 218 37 [l0, l1, some (.int x)] [] (.int x :: st) h Q) ∧
  (∀ (l1 l2 : Option Value) (st : List Value) (h : pb_H) (Q : Option Value → pb_H → Prop) (x : Nat), pb_R 218 37 [some (.ref x), l1, l2] [] st h Q ↔ pb_R 218 38 [some (.ref x), l1, l2] [] (.ref x :: st) h Q) ∧
  (∀ (l1 l2 : Option Value) (st : List Value) (h : pb_H) (Q : Option Value → pb_H → Prop), pb_R 218 37 [some .null, l1, l2] [] st h Q ↔ pb_R 218 38 [some .null, l1, l2] [] (.null :: st) h Q) ∧
  (∀ (L : pb_L) (J : pb_J) (st : List Value) (h : pb_H) (Q : Option Value → pb_H → Prop) (a : Nat), pb_R 218 38 L J (.ref a :: st) h Q ↔ pb_o (pb_gf (h.2 a) 12 1) (fun v => pb_R 218 41 L J (v :: st) h Q)) ∧
  (∀ (l0 l2 : Option Value) (st : List Value) (h : pb_H) (Q : Option Value → pb_H → Prop) (x : Int32), pb_R 218 41 [l0, some (.int x), l2] [] st h Q ↔ pb_R 218 42 [l0, some (.int x), l2] [] (.int x :: st) h Q) ∧
  (∀ (L : pb_L) (J : pb_J) (st : List Value) (h : pb_H) (Q : Option Value → pb_H → Prop), pb_R 218 42 L J st h Q ↔ pb_R 218 44 L J (.int (17 : Int32) :: st) h Q) ∧
  (∀ (L : pb_L) (J : pb_J) (st : List Value) (x y : Int32) (h : pb_H) (Q : Option Value → pb_H → Prop), pb_R 218 44 L J (.int y :: .int x :: st) h Q ↔ pb_R 218 45 L J (.int (x * y) :: st) h Q) ∧
  (∀ (l0 l1 : Option Value) (st : List Value) (h : pb_H) (Q : Option Value → pb_H → Prop) (x : Int32), pb_R 218 45 [l0, l1, some (.int x)] [] st h Q ↔ pb_R 218 46 [l0, l1, some (.int x)] [] (.int x :: st) h Q) ∧
  (∀ (L : pb_L) (J : pb_J) (st : List Value) (x y : Int32) (h : pb_H) (Q : Option Value → pb_H → Prop), pb_R 218 46 L J (.int y :: .int x :: st) h Q ↔ pb_R 218 47 L J (.int (x + y) :: st) h Q) ∧
  (∀ (L : pb_L) (J : pb_J) (st : List Value) (h : pb_H) (Q : Option Value → pb_H → Prop) (a : Nat) (i : Int32), pb_R 218 47 L J (.int i :: .ref a :: st) h Q ↔ pb_o (pb_ai (h.2 a) i) (fun v => pb_R 218 48 L J (.int v :: st) h Q)) ∧
  (∀ (L : pb_L) (J : pb_J) (st : List Value) (h : pb_H) (Q : Option Value → pb_H → Prop), pb_R 218 48 L J st h Q ↔ pb_R 218 49 L J (.int (1 : Int32) :: st) h Q) ∧
  (∀ (L : pb_L) (J : pb_J) (st : List Value) (h : pb_H) (Q : Option Value → pb_H → Prop) (x y : Int32), pb_R 218 49 L J (.int y :: .int x :: st) h Q ↔ if ¬ x = y then pb_R 218 56 L J st h Q else pb_R 218 52 L J st h Q) ∧
  (∀ (L : pb_L) (J : pb_J) (st : List Value) (h : pb_H) (Q : Option Value → pb_H → Prop), pb_R 218 52 L J st h Q ↔ pb_R 218 53 L J (.int (1 : Int32) :: st) h Q) ∧
  (∀ (L : pb_L) (J : pb_J) (st : List Value) (h : pb_H) (Q : Option Value → pb_H → Prop), pb_R 218 53 L J st h Q ↔ pb_R 218 57 L J st h Q) ∧
  (∀ (L : pb_L) (J : pb_J) (st : List Value) (h : pb_H) (Q : Option Value → pb_H → Prop), pb_R 218 56 L J st h Q ↔ pb_R 218 57 L J (.int (0 : Int32) :: st) h Q) ∧
  (∀ (l0 l2 : Option Value) (st : List Value) (h : pb_H) (Q : Option Value → pb_H → Prop) (x : Int32), pb_R 218 57 [l0, some (.int x), l2] [] st h Q ↔ pb_R 218 58 [l0, some (.int x), l2] [] (.int x :: st) h Q) ∧
  (∀ (L : pb_L) (J : pb_J) (h : pb_H) (Q : Option Value → pb_H → Prop) (x0 : Int32) (x1 : Int32) (x2 : Int32) (x3 : Nat), pb_R 218 58 L J [.int x0, .int x1, .int x2, .ref x3] h Q ↔ pb_is0 (h.2 x3) 12 = true ∧ pb_call 217 [.ref x3, .int x2, .int x1, .int x0] h (fun v t => pb_R 218 61 L J (v.toList ++ []) t Q)) ∧
  (∀ (L : pb_L) (J : pb_J) (h : pb_H) (Q : Option Value → pb_H → Prop), pb_R 218 61 L J [] h Q ↔ Q none h) ∧
  (∀ (l0 l2 : Option Value) (st : List Value) (h : pb_H) (Q : Option Value → pb_H → Prop) (x : Int32), pb_R 218 62 [l0, some (.int x), l2] [] st h Q ↔ pb_R 218 65 [l0, some (.int (x + (1 : Int32))), l2] [] st h Q) ∧
  (∀ (L : pb_L) (J : pb_J) (st : List Value) (h : pb_H) (Q : Option Value → pb_H → Prop), pb_R 218 65 L J st h Q ↔ pb_R 218 2 L J st h Q) ∧
  (∀ (L : pb_L) (J : pb_J) (st : List Value) (h : pb_H) (Q : Option Value → pb_H → Prop), pb_R 218 68 L J st h Q ↔ pb_R 218 69 L J (.int (1 : Int32) :: st) h Q) ∧
  (∀ (l0 l1 l2 : Option Value) (st : List Value) (h : pb_H) (Q : Option Value → pb_H → Prop) (x : Int32), pb_R 218 69 [l0, l1, l2] [] (.int x :: st) h Q ↔ pb_R 218 70 [l0, some (.int x), l2] [] st h Q) ∧
  (∀ (l1 l2 : Option Value) (st : List Value) (h : pb_H) (Q : Option Value → pb_H → Prop) (x : Nat), pb_R 218 71 [some (.ref x), l1, l2] [] st h Q ↔ pb_R 218 72 [some (.ref x), l1, l2] [] (.ref x :: st) h Q) ∧
  (∀ (l1 l2 : Option Value) (st : List Value) (h : pb_H) (Q : Option Value → pb_H → Prop), pb_R 218 71 [some .null, l1, l2] [] st h Q ↔ pb_R 218 72 [some .null, l1, l2] [] (.null :: st) h Q) ∧
  (∀ (L : pb_L) (J : pb_J) (st : List Value) (h : pb_H) (Q : Option Value → pb_H → Prop) (a : Nat), pb_R 218 72 L J (.ref a :: st) h Q ↔ pb_o (pb_gf (h.2 a) 12 3) (fun v => pb_R 218 75 L J (v :: st) h Q)) ∧
  (∀ (L : pb_L) (J : pb_J) (st : List Value) (h : pb_H) (Q : Option Value → pb_H → Prop) (x y : Int32), pb_R 218 75 L J (.int y :: .int x :: st) h Q ↔ if y < x then pb_R 218 127 L J st h Q else pb_R 218 78 L J st h Q) ∧
  (∀ (l1 l2 : Option Value) (st : List Value) (h : pb_H) (Q : Option Value → pb_H → Prop) (x : Nat), pb_R 218 78 [some (.ref x), l1, l2] [] st h Q ↔ pb_R 218 79 [some (.ref x), l1, l2] [] (.ref x :: st) h Q) ∧
  (∀ (l1 l2 : Option Value) (st : List Value) (h : pb_H) (Q : Option Value → pb_H → Prop), pb_R 218 78 [some .null, l1, l2] [] st h Q ↔ pb_R 218 79 [some .null, l1, l2] [] (.null :: st) h Q) ∧
  (∀ (L : pb_L) (J : pb_J) (st : List Value) (h : pb_H) (Q : Option Value → pb_H → Prop) (a : Nat), pb_R 218 79 L J (.ref a :: st) h Q ↔ pb_o (pb_gf (h.2 a) 12 28) (fun v => pb_R 218 82 L J (v :: st) h Q)) ∧
  (∀ (l0 l2 : Option Value) (st : List Value) (h : pb_H) (Q : Option Value → pb_H → Prop) (x : Int32), pb_R 218 82 [l0, some (.int x), l2] [] st h Q ↔ pb_R 218 83 [l0, some (.int x), l2] [] (.int x :: st) h Q) ∧
  (∀ (L : pb_L) (J : pb_J) (st : List Value) (h : pb_H) (Q : Option Value → pb_H → Prop) (a : Nat) (i : Int32), pb_R 218 83 L J (.int i :: .ref a :: st) h Q ↔ pb_o (pb_ai (h.2 a) i) (fun v => pb_R 218 84 L J (.int v :: st) h Q)) ∧
  (∀ (L : pb_L) (J : pb_J) (st : List Value) (h : pb_H) (Q : Option Value → pb_H → Prop), pb_R 218 84 L J st h Q ↔ pb_R 218 85 L J (.int (-1 : Int32) :: st) h Q) ∧
  (∀ (L : pb_L) (J : pb_J) (st : List Value) (h : pb_H) (Q : Option Value → pb_H → Prop) (x y : Int32), pb_R 218 85 L J (.int y :: .int x :: st) h Q ↔ if ¬ x = y then pb_R 218 121 L J st h Q else pb_R 218 88 L J st h Q) ∧
  (∀ (l1 l2 : Option Value) (st : List Value) (h : pb_H) (Q : Option Value → pb_H → Prop) (x : Nat), pb_R 218 88 [some (.ref x), l1, l2] [] st h Q ↔ pb_R 218 89 [some (.ref x), l1, l2] [] (.ref x :: st) h Q) ∧
  (∀ (l1 l2 : Option Value) (st : List Value) (h : pb_H) (Q : Option Value → pb_H → Prop), pb_R 218 88 [some .null, l1, l2] [] st h Q ↔ pb_R 218 89 [some .null, l1, l2] [] (.null :: st) h Q) ∧
  (∀ (L : pb_L) (J : pb_J) (st : List Value) (x : Nat) (h : pb_H) (Q : Option Value → pb_H → Prop), pb_R 218 89 L J (.ref x :: st) h Q ↔ pb_R 218 90 L J (.ref x :: .ref x :: st) h Q) ∧
  (∀ (L : pb_L) (J : pb_J) (st : List Value) (h : pb_H) (Q : Option Value → pb_H → Prop) (a : Nat), pb_R 218 90 L J (.ref a :: st) h Q ↔ pb_o (pb_gf (h.2 a) 12 23) (fun v => pb_R 218 93 L J (v :: st) h Q)) ∧
  (∀ (L : pb_L) (J : pb_J) (st : List Value) (h : pb_H) (Q : Option Value → pb_H → Prop), pb_R 218 93 L J st h Q ↔ pb_R 218 94 L J (.int (1 : Int32) :: st) h Q) ∧
  (∀ (L : pb_L) (J : pb_J) (st : List Value) (x y : Int32) (h : pb_H) (Q : Option Value → pb_H → Prop), pb_R 218 94 L J (.int y :: .int x :: st) h Q ↔ pb_R 218 95 L J (.int (x + y) :: st) h Q) ∧
  (∀ (L : pb_L) (J : pb_J) (st : List Value) (h : pb_H) (Q : Option Value → pb_H → Prop) (a : Nat) (x : Int32), pb_R 218 95 L J (.int x :: .ref a :: st) h Q ↔ pb_o (pb_pf (h.2 a) 12 23 (.int x)) (fun c => pb_R 218 98 L J st (pb_set h a c) Q)) ∧
  (∀ (l1 l2 : Option Value) (st : List Value) (h : pb_H) (Q : Option Value → pb_H → Prop) (x : Nat), pb_R 218 98 [some (.ref x), l1, l2] [] st h Q ↔ pb_R 218 99 [some (.ref x), l1, l2] [] (.ref x :: st) h Q) ∧
  (∀ (l1 l2 : Option Value) (st : List Value) (h : pb_H) (Q : Option Value → pb_H → Prop), pb_R 218 98 [some .null, l1, l2] [] st h Q ↔ pb_R 218 99 [some .null, l1, l2] [] (.null :: st) h Q) ∧
  (∀ (L : pb_L) (J : pb_J) (st : List Value) (x : Nat) (h : pb_H) (Q : Option Value → pb_H → Prop), pb_R 218 99 L J (.ref x :: st) h Q ↔ pb_R 218 100 L J (.ref x :: .ref x :: st) h Q) ∧
  (∀ (L : pb_L) (J : pb_J) (st : List Value) (h : pb_H) (Q : Option Value → pb_H → Prop) (a : Nat), pb_R 218 100 L J (.ref a :: st) h Q ↔ pb_o (pb_gf (h.2 a) 12 25) (fun v => pb_R 218 103 L J (v :: st) h Q)) ∧
  (∀ (L : pb_L) (J : pb_J) (st : List Value) (h : pb_H) (Q : Option Value → pb_H → Prop), pb_R 218 103 L J st h Q ↔ pb_R 218 104 L J (.int (1 : Int32) :: st) h Q) ∧
  (∀ (L : pb_L) (J : pb_J) (st : List Value) (x y : Int32) (h : pb_H) (Q : Option Value → pb_H → Prop), pb_R 218 104 L J (.int y :: .int x :: st) h Q ↔ pb_R 218 105 L J (.int (x + y) :: st) h Q) ∧
  (∀ (L : pb_L) (J : pb_J) (st : List Value) (h : pb_H) (Q : Option Value → pb_H → Prop) (a : Nat) (x : Int32), pb_R 218 105 L J (.int x :: .ref a :: st) h Q ↔ pb_o (pb_pf (h.2 a) 12 25 (.int x)) (fun c => pb_R 218 108 L J st (pb_set h a c) Q)) ∧
  (∀ (l1 l2 : Option Value) (st : List Value) (h : pb_H) (Q : Option Value → pb_H → Prop) (x : Nat), pb_R 218 108 [some (.ref x), l1, l2] [] st h Q ↔ pb_R 218 109 [some (.ref x), l1, l2] [] (.ref x :: st) h Q) ∧
  (∀ (l1 l2 : Option Value) (st : List Value) (h : pb_H) (Q : Option Value → pb_H → Prop), pb_R 218 108 [some .null, l1, l2] [] st h Q ↔ pb_R 218 109 [some .null, l1, l2] [] (.null :: st) h Q) ∧
  (∀ (l0 l2 : Option Value) (st : List Value) (h : pb_H) (Q : Option Value → pb_H → Prop) (x : Int32), pb_R 218 109 [l0, some (.int x), l2] [] st h Q ↔ pb_R 218 110 [l0, some (.int x), l2] [] (.int x :: st) h Q) ∧
  (∀ (l1 l2 : Option Value) (st : List Value) (h : pb_H) (Q : Option Value → pb_H → Prop) (x : Nat), pb_R 218 110 [some (.ref x), l1, l2] [] st h Q ↔ pb_R 218 111 [some (.ref x), l1, l2] [] (.ref x :: st) h Q) ∧
  (∀ (l1 l2 : Option Value) (st : List Value) (h : pb_H) (Q : Option Value → pb_H → Prop), pb_R 218 110 [some .null, l1, l2] [] st h Q ↔ pb_R 218 111 [some .null, l1, l2] [] (.null :: st) h Q) ∧
  (∀ (L : pb_L) (J : pb_J) (st : List Value) (h : pb_H) (Q : Option Value → pb_H → Prop) (a : Nat), pb_R 218 111 L J (.ref a :: st) h Q ↔ pb_o (pb_gf (h.2 a) 12 29) (fun v => pb_R 218 114 L J (v :: st) h Q)) ∧
  (∀ (l0 l2 : Option Value) (st : List Value) (h : pb_H) (Q : Option Value → pb_H → Prop) (x : Int32), pb_R 218 114 [l0, some (.int x), l2] [] st h Q ↔ pb_R 218 115 [l0, some (.int x), l2] [] (.int x :: st) h Q) ∧
  (∀ (L : pb_L) (J : pb_J) (st : List Value) (h : pb_H) (Q : Option Value → pb_H → Prop) (a : Nat) (i : Int32), pb_R 218 115 L J (.int i :: .ref a :: st) h Q ↔ pb_o (pb_ai (h.2 a) i) (fun v => pb_R 218 116 L J (.int v :: st) h Q)) ∧
  (∀ (L : pb_L) (J : pb_J) (st : List Value) (h : pb_H) (Q : Option Value → pb_H → Prop), pb_R 218 116 L J st h Q ↔ pb_R 218 117 L J (.int (0 : Int32) :: st) h Q) ∧
  (∀ (L : pb_L) (J : pb_J) (h : pb_H) (Q : Option Value → pb_H → Prop) (x0 : Int32) (x1 : Int32) (x2 : Int32) (x3 : Nat), pb_R 218 117 L J [.int x0, .int x1, .int x2, .ref x3] h Q ↔ pb_is0 (h.2 x3) 12 = true ∧ pb_call 217 [.ref x3, .int x2, .int x1, .int x0] h (fun v t => pb_R 218 120 L J (v.toList ++ []) t Q)) ∧
  (∀ (L : pb_L) (J : pb_J) (h : pb_H) (Q : Option Value → pb_H → Prop), pb_R 218 120 L J [] h Q ↔ Q none h) ∧
  (∀ (l0 l2 : Option Value) (st : List Value) (h : pb_H) (Q : Option Value → pb_H → Prop) (x : Int32), pb_R 218 121 [l0, some (.int x), l2] [] st h Q ↔ pb_R 218 124 [l0, some (.int (x + (1 : Int32))), l2] [] st h Q) ∧
  (∀ (L : pb_L) (J : pb_J) (st : List Value) (h : pb_H) (Q : Option Value → pb_H → Prop), pb_R 218 124 L J st h Q ↔ pb_R 218 70 L J st h Q) ∧
  (∀ (l1 l2 : Option Value) (st : List Value) (h : pb_H) (Q : Option Value → pb_H → Prop) (x : Nat), pb_R 218 127 [some (.ref x), l1, l2] [] st h Q ↔ pb_R 218 128 [some (.ref x), l1, l2] [] (.ref x :: st) h Q) ∧
  (∀ (l1 l2 : Option Value) (st : List Value) (h : pb_H) (Q : Option Value → pb_H → Prop), pb_R 218 127 [some .null, l1, l2] [] st h Q ↔ pb_R 218 128 [some .null, l1, l2] [] (.null :: st) h Q) ∧
  (∀ (L : pb_L) (J : pb_J) (st : List Value) (h : pb_H) (Q : Option Value → pb_H → Prop), pb_R 218 128 L J st h Q ↔ pb_R 218 129 L J (.int (2 : Int32) :: st) h Q) ∧
  (∀ (L : pb_L) (J : pb_J) (st : List Value) (h : pb_H) (Q : Option Value → pb_H → Prop) (a : Nat) (x : Int32), pb_R 218 129 L J (.int x :: .ref a :: st) h Q ↔ pb_o (pb_pf (h.2 a) 12 22 (.int x)) (fun c => pb_R 218 132 L J st (pb_set h a c) Q)) ∧
  (∀ (L : pb_L) (J : pb_J) (h : pb_H) (Q : Option Value → pb_H → Prop), pb_R 218 132 L J [] h Q ↔ Q none h) := ⟨
  fun L J st h Q => pf_S pb_u_218 rfl rfl,
  fun l0 l1 l2 st h Q x => pf_S pb_u_218 rfl rfl,
  fun l1 l2 st h Q x => pf_S pb_u_218 rfl rfl,
  fun l1 l2 st h Q => pf_S pb_u_218 rfl rfl,
  fun L J st h Q a => pf_gf pb_u_218 rfl rfl,
  fun L J st h Q x y => pf_ic pb_u_218 rfl rfl rfl,
  fun l1 l2 st h Q x => pf_S pb_u_218 rfl rfl,
  fun l1 l2 st h Q => pf_S pb_u_218 rfl rfl,
  fun l0 l2 st h Q x => pf_S pb_u_218 rfl rfl,
  fun l1 l2 st h Q x => pf_S pb_u_218 rfl rfl,
  fun l1 l2 st h Q => pf_S pb_u_218 rfl rfl,
  fun L J st h Q a => pf_gf pb_u_218 rfl rfl,
  fun L J h Q x0 x1 x2 => pf_kv pb_u_218 rfl pb_ci_172 rfl ⟨Nat.le_of_ble_eq_true rfl, Nat.le_of_ble_eq_true rfl, Nat.le_of_ble_eq_true rfl, Nat.le_of_ble_eq_true rfl, rfl⟩ rfl rfl,
  fun l0 l1 l2 st h Q x => pf_S pb_u_218 rfl rfl,
  fun l0 l1 st h Q x => pf_S pb_u_218 rfl rfl,
  fun L J st h Q => pf_S pb_u_218 rfl rfl,
  fun L J st h Q x y => pf_ic pb_u_218 rfl rfl pf_ne,
  fun l1 l2 st h Q x => pf_S pb_u_218 rfl rfl,
  fun l1 l2 st h Q => pf_S pb_u_218 rfl rfl,
  fun l0 l2 st h Q x => pf_S pb_u_218 rfl rfl,
  fun L J h Q x0 x1 => pf_kv pb_u_218 rfl pb_ci_216 rfl ⟨Nat.le_of_ble_eq_true rfl, Nat.le_of_ble_eq_true rfl, Nat.le_of_ble_eq_true rfl, Nat.le_of_ble_eq_true rfl, rfl⟩ rfl rfl,
  fun L J h Q => pf_rv pb_u_218 rfl rfl,
  fun l0 l1 st h Q x => pf_S pb_u_218 rfl rfl,
  fun L J st h Q x => pf_ii pb_u_218 rfl rfl rfl,
  fun l1 l2 st h Q x => pf_S pb_u_218 rfl rfl,
  fun l1 l2 st h Q => pf_S pb_u_218 rfl rfl,
  fun l0 l1 st h Q x => pf_S pb_u_218 rfl rfl,
  fun l1 l2 st h Q x => pf_S pb_u_218 rfl rfl,
  fun l1 l2 st h Q => pf_S pb_u_218 rfl rfl,
  fun L J st h Q a => pf_gf pb_u_218 rfl rfl,
  fun l0 l2 st h Q x => pf_S pb_u_218 rfl rfl,
  fun L J st h Q => pf_S pb_u_218 rfl rfl,
  fun L J st x y h Q => pf_S pb_u_218 rfl rfl,
  fun l0 l1 st h Q x => pf_S pb_u_218 rfl rfl,
  fun L J st x y h Q => pf_S pb_u_218 rfl rfl,
  fun L J st h Q a i => pf_ai pb_u_218 rfl rfl,
  fun L J st h Q => pf_S pb_u_218 rfl rfl,
  fun L J st h Q x y => pf_ic pb_u_218 rfl rfl pf_ne,
  fun L J st h Q => pf_S pb_u_218 rfl rfl,
  fun L J st h Q => pf_S pb_u_218 rfl rfl,
  fun L J st h Q => pf_S pb_u_218 rfl rfl,
  fun l0 l2 st h Q x => pf_S pb_u_218 rfl rfl,
  fun L J h Q x0 x1 x2 x3 => pf_kv pb_u_218 rfl pb_ci_217 rfl ⟨Nat.le_of_ble_eq_true rfl, Nat.le_of_ble_eq_true rfl, Nat.le_of_ble_eq_true rfl, Nat.le_of_ble_eq_true rfl, rfl⟩ rfl rfl,
  fun L J h Q => pf_rv pb_u_218 rfl rfl,
  fun l0 l2 st h Q x => pf_S pb_u_218 rfl rfl,
  fun L J st h Q => pf_S pb_u_218 rfl rfl,
  fun L J st h Q => pf_S pb_u_218 rfl rfl,
  fun l0 l1 l2 st h Q x => pf_S pb_u_218 rfl rfl,
  fun l1 l2 st h Q x => pf_S pb_u_218 rfl rfl,
  fun l1 l2 st h Q => pf_S pb_u_218 rfl rfl,
  fun L J st h Q a => pf_gf pb_u_218 rfl rfl,
  fun L J st h Q x y => pf_ic pb_u_218 rfl rfl rfl,
  fun l1 l2 st h Q x => pf_S pb_u_218 rfl rfl,
  fun l1 l2 st h Q => pf_S pb_u_218 rfl rfl,
  fun L J st h Q a => pf_gf pb_u_218 rfl rfl,
  fun l0 l2 st h Q x => pf_S pb_u_218 rfl rfl,
  fun L J st h Q a i => pf_ai pb_u_218 rfl rfl,
  fun L J st h Q => pf_S pb_u_218 rfl rfl,
  fun L J st h Q x y => pf_ic pb_u_218 rfl rfl pf_ne,
  fun l1 l2 st h Q x => pf_S pb_u_218 rfl rfl,
  fun l1 l2 st h Q => pf_S pb_u_218 rfl rfl,
  fun L J st x h Q => pf_S pb_u_218 rfl rfl,
  fun L J st h Q a => pf_gf pb_u_218 rfl rfl,
  fun L J st h Q => pf_S pb_u_218 rfl rfl,
  fun L J st x y h Q => pf_S pb_u_218 rfl rfl,
  fun L J st h Q a x => pf_pf pb_u_218 rfl rfl,
  fun l1 l2 st h Q x => pf_S pb_u_218 rfl rfl,
  fun l1 l2 st h Q => pf_S pb_u_218 rfl rfl,
  fun L J st x h Q => pf_S pb_u_218 rfl rfl,
  fun L J st h Q a => pf_gf pb_u_218 rfl rfl,
  fun L J st h Q => pf_S pb_u_218 rfl rfl,
  fun L J st x y h Q => pf_S pb_u_218 rfl rfl,
  fun L J st h Q a x => pf_pf pb_u_218 rfl rfl,
  fun l1 l2 st h Q x => pf_S pb_u_218 rfl rfl,
  fun l1 l2 st h Q => pf_S pb_u_218 rfl rfl,
  fun l0 l2 st h Q x => pf_S pb_u_218 rfl rfl,
  fun l1 l2 st h Q x => pf_S pb_u_218 rfl rfl,
  fun l1 l2 st h Q => pf_S pb_u_218 rfl rfl,
  fun L J st h Q a => pf_gf pb_u_218 rfl rfl,
  fun l0 l2 st h Q x => pf_S pb_u_218 rfl rfl,
  fun L J st h Q a i => pf_ai pb_u_218 rfl rfl,
  fun L J st h Q => pf_S pb_u_218 rfl rfl,
  fun L J h Q x0 x1 x2 x3 => pf_kv pb_u_218 rfl pb_ci_217 rfl ⟨Nat.le_of_ble_eq_true rfl, Nat.le_of_ble_eq_true rfl, Nat.le_of_ble_eq_true rfl, Nat.le_of_ble_eq_true rfl, rfl⟩ rfl rfl,
  fun L J h Q => pf_rv pb_u_218 rfl rfl,
  fun l0 l2 st h Q x => pf_S pb_u_218 rfl rfl,
  fun L J st h Q => pf_S pb_u_218 rfl rfl,
  fun l1 l2 st h Q x => pf_S pb_u_218 rfl rfl,
  fun l1 l2 st h Q => pf_S pb_u_218 rfl rfl,
  fun L J st h Q => pf_S pb_u_218 rfl rfl,
  fun L J st h Q a x => pf_pf pb_u_218 rfl rfl,
  fun L J h Q => pf_rv pb_u_218 rfl rfl⟩
theorem pb_c218 (x0 : Nat) (h : pb_H) (Q : Option Value → pb_H → Prop) : pb_call 218 [.ref x0] h Q ↔ pb_R 218 0 [some (.ref x0), none, none] [] [] h Q := Iff.rfl
/-! 219: PlaneBenchModel.run(I)I -/
theorem pb_u_219 : pb_t 219 = pb_t219 := rfl
theorem pb_ci_219 : pb_ci 219 = 12 := by decide +kernel
set_option maxRecDepth 100000 in
theorem pb_q219_22 (l0 l1 : Option Value) (st : List Value) (h : pb_H) (Q : Option Value → pb_H → Prop) (x : Int32) : pb_R 219 22 [l0, l1, some (.int x)] [] st h Q ↔ pb_R 219 23 [l0, l1, some (.int x)] [] (.int x :: st) h Q := pf_S pb_u_219 rfl rfl
set_option maxRecDepth 100000 in
theorem pb_e219 : (∀ (l1 l2 : Option Value) (st : List Value) (h : pb_H) (Q : Option Value → pb_H → Prop) (x : Nat), pb_R 219 0 [some (.ref x), l1, l2] [] st h Q ↔ pb_R 219 1 [some (.ref x), l1, l2] [] (.ref x :: st) h Q) ∧
  (∀ (l1 l2 : Option Value) (st : List Value) (h : pb_H) (Q : Option Value → pb_H → Prop), pb_R 219 0 [some .null, l1, l2] [] st h Q ↔ pb_R 219 1 [some .null, l1, l2] [] (.null :: st) h Q) ∧
  (∀ (L : pb_L) (J : pb_J) (st : List Value) (h : pb_H) (Q : Option Value → pb_H → Prop) (a : Nat), pb_R 219 1 L J (.ref a :: st) h Q ↔ pb_o (pb_gf (h.2 a) 12 22) (fun v => pb_R 219 4 L J (v :: st) h Q)) ∧
  (∀ (L : pb_L) (J : pb_J) (st : List Value) (h : pb_H) (Q : Option Value → pb_H → Prop) (x : Int32), pb_R 219 4 L J (.int x :: st) h Q ↔ if x = 0 then pb_R 219 18 L J st h Q else pb_R 219 7 L J st h Q) ∧
  (∀ (l0 l2 : Option Value) (st : List Value) (h : pb_H) (Q : Option Value → pb_H → Prop) (x : Int32), pb_R 219 7 [l0, some (.int x), l2] [] st h Q ↔ pb_R 219 8 [l0, some (.int x), l2] [] (.int x :: st) h Q) ∧
  (∀ (L : pb_L) (J : pb_J) (st : List Value) (h : pb_H) (Q : Option Value → pb_H → Prop) (x : Int32), pb_R 219 8 L J (.int x :: st) h Q ↔ if x < 0 then pb_R 219 18 L J st h Q else pb_R 219 11 L J st h Q) ∧
  (∀ (l0 l2 : Option Value) (st : List Value) (h : pb_H) (Q : Option Value → pb_H → Prop) (x : Int32), pb_R 219 11 [l0, some (.int x), l2] [] st h Q ↔ pb_R 219 12 [l0, some (.int x), l2] [] (.int x :: st) h Q) ∧
  (∀ (L : pb_L) (J : pb_J) (st : List Value) (h : pb_H) (Q : Option Value → pb_H → Prop), pb_R 219 12 L J st h Q ↔ pb_R 219 15 L J (.int (500 : Int32) :: st) h Q) ∧
  (∀ (L : pb_L) (J : pb_J) (st : List Value) (h : pb_H) (Q : Option Value → pb_H → Prop) (x y : Int32), pb_R 219 15 L J (.int y :: .int x :: st) h Q ↔ if x ≤ y then pb_R 219 20 L J st h Q else pb_R 219 18 L J st h Q) ∧
  (∀ (L : pb_L) (J : pb_J) (st : List Value) (h : pb_H) (Q : Option Value → pb_H → Prop), pb_R 219 18 L J st h Q ↔ pb_R 219 19 L J (.int (-1 : Int32) :: st) h Q) ∧
  (∀ (L : pb_L) (J : pb_J) (h : pb_H) (Q : Option Value → pb_H → Prop) (x : Int32), pb_R 219 19 L J [.int x] h Q ↔ Q (some (.int x)) h) ∧
  (∀ (L : pb_L) (J : pb_J) (st : List Value) (h : pb_H) (Q : Option Value → pb_H → Prop), pb_R 219 20 L J st h Q ↔ pb_R 219 21 L J (.int (0 : Int32) :: st) h Q) ∧
  (∀ (l0 l1 l2 : Option Value) (st : List Value) (h : pb_H) (Q : Option Value → pb_H → Prop) (x : Int32), pb_R 219 21 [l0, l1, l2] [] (.int x :: st) h Q ↔ pb_R 219 22 [l0, l1, some (.int x)] [] st h Q) ∧
  (∀ (l0 l2 : Option Value) (st : List Value) (h : pb_H) (Q : Option Value → pb_H → Prop) (x : Int32), pb_R 219 23 [l0, some (.int x), l2] [] st h Q ↔ pb_R 219 24 [l0, some (.int x), l2] [] (.int x :: st) h Q) ∧
  (∀ (L : pb_L) (J : pb_J) (st : List Value) (h : pb_H) (Q : Option Value → pb_H → Prop) (x y : Int32), pb_R 219 24 L J (.int y :: .int x :: st) h Q ↔ if y ≤ x then pb_R 219 55 L J st h Q else pb_R 219 27 L J st h Q) ∧
  (∀ (l1 l2 : Option Value) (st : List Value) (h : pb_H) (Q : Option Value → pb_H → Prop) (x : Nat), pb_R 219 27 [some (.ref x), l1, l2] [] st h Q ↔ pb_R 219 28 [some (.ref x), l1, l2] [] (.ref x :: st) h Q) ∧
  (∀ (l1 l2 : Option Value) (st : List Value) (h : pb_H) (Q : Option Value → pb_H → Prop), pb_R 219 27 [some .null, l1, l2] [] st h Q ↔ pb_R 219 28 [some .null, l1, l2] [] (.null :: st) h Q) ∧
  (∀ (L : pb_L) (J : pb_J) (st : List Value) (h : pb_H) (Q : Option Value → pb_H → Prop) (a : Nat), pb_R 219 28 L J (.ref a :: st) h Q ↔ pb_o (pb_gf (h.2 a) 12 22) (fun v => pb_R 219 31 L J (v :: st) h Q)) ∧
  (∀ (L : pb_L) (J : pb_J) (st : List Value) (h : pb_H) (Q : Option Value → pb_H → Prop), pb_R 219 31 L J st h Q ↔ pb_R 219 32 L J (.int (1 : Int32) :: st) h Q) ∧
  (∀ (L : pb_L) (J : pb_J) (st : List Value) (h : pb_H) (Q : Option Value → pb_H → Prop) (x y : Int32), pb_R 219 32 L J (.int y :: .int x :: st) h Q ↔ if ¬ x = y then pb_R 219 55 L J st h Q else pb_R 219 35 L J st h Q) ∧
  (∀ (l1 l2 : Option Value) (st : List Value) (h : pb_H) (Q : Option Value → pb_H → Prop) (x : Nat), pb_R 219 35 [some (.ref x), l1, l2] [] st h Q ↔ pb_R 219 36 [some (.ref x), l1, l2] [] (.ref x :: st) h Q) ∧
  (∀ (l1 l2 : Option Value) (st : List Value) (h : pb_H) (Q : Option Value → pb_H → Prop), pb_R 219 35 [some .null, l1, l2] [] st h Q ↔ pb_R 219 36 [some .null, l1, l2] [] (.null :: st) h Q) ∧
  (∀ (L : pb_L) (J : pb_J) (h : pb_H) (Q : Option Value → pb_H → Prop) (x0 : Nat), pb_R 219 36 L J [.ref x0] h Q ↔ pb_is0 (h.2 x0) 12 = true ∧ pb_call 218 [.ref x0] h (fun v t => pb_R 219 39 L J (v.toList ++ []) t Q)) ∧
  (∀ (l1 l2 : Option Value) (st : List Value) (h : pb_H) (Q : Option Value → pb_H → Prop) (x : Nat), pb_R 219 39 [some (.ref x), l1, l2] [] st h Q ↔ pb_R 219 40 [some (.ref x), l1, l2] [] (.ref x :: st) h Q) ∧
  (∀ (l1 l2 : Option Value) (st : List Value) (h : pb_H) (Q : Option Value → pb_H → Prop), pb_R 219 39 [some .null, l1, l2] [] st h Q ↔ pb_R 219 40 [some .null, l1, l2] [] (.null :: st) h Q) ∧
  (∀ (L : pb_L) (J : pb_J) (st : List Value) (x : Nat) (h : pb_H) (Q : Option Value → pb_H → Prop), pb_R 219 40 L J (.ref x :: st) h Q ↔ pb_R 219 41 L J (.ref x :: .ref x :: st) h Q) ∧
  (∀ (L : pb_L) (J : pb_J) (st : List Value) (h : pb_H) (Q : Option Value → pb_H → Prop) (a : Nat), pb_R 219 41 L J (.ref a :: st) h Q ↔ pb_o (pb_gf (h.2 a) 12 27) (fun v => pb_R 219 44 L J (v :: st) h Q)) ∧
  (∀ (L : pb_L) (J : pb_J) (st : List Value) (h : pb_H) (Q : Option Value → pb_H → Prop), pb_R 219 44 L J st h Q ↔ pb_R 219 45 L J (.int (1 : Int32) :: st) h Q) ∧
  (∀ (L : pb_L) (J : pb_J) (st : List Value) (x y : Int32) (h : pb_H) (Q : Option Value → pb_H → Prop), pb_R 219 45 L J (.int y :: .int x :: st) h Q ↔ pb_R 219 46 L J (.int (x + y) :: st) h Q) ∧
  (∀ (L : pb_L) (J : pb_J) (st : List Value) (h : pb_H) (Q : Option Value → pb_H → Prop) (a : Nat) (x : Int32), pb_R 219 46 L J (.int x :: .ref a :: st) h Q ↔ pb_o (pb_pf (h.2 a) 12 27 (.int x)) (fun c => pb_R 219 49 L J st (pb_set h a c) Q)) ∧
  (∀ (l0 l1 : Option Value) (st : List Value) (h : pb_H) (Q : Option Value → pb_H → Prop) (x : Int32), pb_R 219 49 [l0, l1, some (.int x)] [] st h Q ↔ pb_R 219 52 [l0, l1, some (.int (x + (1 : Int32)))] [] st h Q) ∧
  (∀ (L : pb_L) (J : pb_J) (st : List Value) (h : pb_H) (Q : Option Value → pb_H → Prop), pb_R 219 52 L J st h Q ↔ pb_R 219 22 L J st h Q) ∧
  (∀ (l0 l1 : Option Value) (st : List Value) (h : pb_H) (Q : Option Value → pb_H → Prop) (x : Int32), pb_R 219 55 [l0, l1, some (.int x)] [] st h Q ↔ pb_R 219 56 [l0, l1, some (.int x)] [] (.int x :: st) h Q) ∧
  (∀ (L : pb_L) (J : pb_J) (h : pb_H) (Q : Option Value → pb_H → Prop) (x : Int32), pb_R 219 56 L J [.int x] h Q ↔ Q (some (.int x)) h) := ⟨
  fun l1 l2 st h Q x => pf_S pb_u_219 rfl rfl,
  fun l1 l2 st h Q => pf_S pb_u_219 rfl rfl,
  fun L J st h Q a => pf_gf pb_u_219 rfl rfl,
  fun L J st h Q x => pf_ii pb_u_219 rfl rfl rfl,
  fun l0 l2 st h Q x => pf_S pb_u_219 rfl rfl,
  fun L J st h Q x => pf_ii pb_u_219 rfl rfl rfl,
  fun l0 l2 st h Q x => pf_S pb_u_219 rfl rfl,
  fun L J st h Q => pf_S pb_u_219 rfl rfl,
  fun L J st h Q x y => pf_ic pb_u_219 rfl rfl rfl,
  fun L J st h Q => pf_S pb_u_219 rfl rfl,
  fun L J h Q x => pf_ri pb_u_219 rfl rfl,
  fun L J st h Q => pf_S pb_u_219 rfl rfl,
  fun l0 l1 l2 st h Q x => pf_S pb_u_219 rfl rfl,
  fun l0 l2 st h Q x => pf_S pb_u_219 rfl rfl,
  fun L J st h Q x y => pf_ic pb_u_219 rfl rfl rfl,
  fun l1 l2 st h Q x => pf_S pb_u_219 rfl rfl,
  fun l1 l2 st h Q => pf_S pb_u_219 rfl rfl,
  fun L J st h Q a => pf_gf pb_u_219 rfl rfl,
  fun L J st h Q => pf_S pb_u_219 rfl rfl,
  fun L J st h Q x y => pf_ic pb_u_219 rfl rfl pf_ne,
  fun l1 l2 st h Q x => pf_S pb_u_219 rfl rfl,
  fun l1 l2 st h Q => pf_S pb_u_219 rfl rfl,
  fun L J h Q x0 => pf_kv pb_u_219 rfl pb_ci_218 rfl ⟨Nat.le_of_ble_eq_true rfl, Nat.le_of_ble_eq_true rfl, Nat.le_of_ble_eq_true rfl, Nat.le_of_ble_eq_true rfl, rfl⟩ rfl rfl,
  fun l1 l2 st h Q x => pf_S pb_u_219 rfl rfl,
  fun l1 l2 st h Q => pf_S pb_u_219 rfl rfl,
  fun L J st x h Q => pf_S pb_u_219 rfl rfl,
  fun L J st h Q a => pf_gf pb_u_219 rfl rfl,
  fun L J st h Q => pf_S pb_u_219 rfl rfl,
  fun L J st x y h Q => pf_S pb_u_219 rfl rfl,
  fun L J st h Q a x => pf_pf pb_u_219 rfl rfl,
  fun l0 l1 st h Q x => pf_S pb_u_219 rfl rfl,
  fun L J st h Q => pf_S pb_u_219 rfl rfl,
  fun l0 l1 st h Q x => pf_S pb_u_219 rfl rfl,
  fun L J h Q x => pf_ri pb_u_219 rfl rfl⟩
theorem pb_c219 (x0 : Nat) (x1 : Int32) (h : pb_H) (Q : Option Value → pb_H → Prop) : pb_call 219 [.ref x0, .int x1] h Q ↔ pb_R 219 0 [some (.ref x0), some (.int x1), none] [] [] h Q := Iff.rfl
/-! 220: PlaneBenchModel.value(I)I -/
theorem pb_u_220 : pb_t 220 = pb_t220 := rfl
theorem pb_ci_220 : pb_ci 220 = 12 := by decide +kernel
set_option maxRecDepth 100000 in
theorem pb_e220 : (∀ (l0 : Option Value) (st : List Value) (h : pb_H) (Q : Option Value → pb_H → Prop) (x : Int32), pb_R 220 0 [l0, some (.int x)] [] st h Q ↔ pb_R 220 1 [l0, some (.int x)] [] (.int x :: st) h Q) ∧
  (∀ (L : pb_L) (J : pb_J) (st : List Value) (h : pb_H) (Q : Option Value → pb_H → Prop), pb_R 220 1 L J st h Q ↔ pb_R 220 2 L J (.int (1 : Int32) :: st) h Q) ∧
  (∀ (L : pb_L) (J : pb_J) (st : List Value) (h : pb_H) (Q : Option Value → pb_H → Prop) (x y : Int32), pb_R 220 2 L J (.int y :: .int x :: st) h Q ↔ if x < y then pb_R 220 22 L J st h Q else pb_R 220 5 L J st h Q) ∧
  (∀ (l0 : Option Value) (st : List Value) (h : pb_H) (Q : Option Value → pb_H → Prop) (x : Int32), pb_R 220 5 [l0, some (.int x)] [] st h Q ↔ pb_R 220 6 [l0, some (.int x)] [] (.int x :: st) h Q) ∧
  (∀ (l1 : Option Value) (st : List Value) (h : pb_H) (Q : Option Value → pb_H → Prop) (x : Nat), pb_R 220 6 [some (.ref x), l1] [] st h Q ↔ pb_R 220 7 [some (.ref x), l1] [] (.ref x :: st) h Q) ∧
  (∀ (l1 : Option Value) (st : List Value) (h : pb_H) (Q : Option Value → pb_H → Prop), pb_R 220 6 [some .null, l1] [] st h Q ↔ pb_R 220 7 [some .null, l1] [] (.null :: st) h Q) ∧
  (∀ (L : pb_L) (J : pb_J) (st : List Value) (h : pb_H) (Q : Option Value → pb_H → Prop) (a : Nat), pb_R 220 7 L J (.ref a :: st) h Q ↔ pb_o (pb_gf (h.2 a) 12 3) (fun v => pb_R 220 10 L J (v :: st) h Q)) ∧
  (∀ (L : pb_L) (J : pb_J) (st : List Value) (h : pb_H) (Q : Option Value → pb_H → Prop) (x y : Int32), pb_R 220 10 L J (.int y :: .int x :: st) h Q ↔ if y < x then pb_R 220 22 L J st h Q else pb_R 220 13 L J st h Q) ∧
  (∀ (l1 : Option Value) (st : List Value) (h : pb_H) (Q : Option Value → pb_H → Prop) (x : Nat), pb_R 220 13 [some (.ref x), l1] [] st h Q ↔ pb_R 220 14 [some (.ref x), l1] [] (.ref x :: st) h Q) ∧
  (∀ (l1 : Option Value) (st : List Value) (h : pb_H) (Q : Option Value → pb_H → Prop), pb_R 220 13 [some .null, l1] [] st h Q ↔ pb_R 220 14 [some .null, l1] [] (.null :: st) h Q) ∧
  (∀ (L : pb_L) (J : pb_J) (st : List Value) (h : pb_H) (Q : Option Value → pb_H → Prop) (a : Nat), pb_R 220 14 L J (.ref a :: st) h Q ↔ pb_o (pb_gf (h.2 a) 12 28) (fun v => pb_R 220 17 L J (v :: st) h Q)) ∧
  (∀ (l0 : Option Value) (st : List Value) (h : pb_H) (Q : Option Value → pb_H → Prop) (x : Int32), pb_R 220 17 [l0, some (.int x)] [] st h Q ↔ pb_R 220 18 [l0, some (.int x)] [] (.int x :: st) h Q) ∧
  (∀ (L : pb_L) (J : pb_J) (st : List Value) (h : pb_H) (Q : Option Value → pb_H → Prop) (a : Nat) (i : Int32), pb_R 220 18 L J (.int i :: .ref a :: st) h Q ↔ pb_o (pb_ai (h.2 a) i) (fun v => pb_R 220 19 L J (.int v :: st) h Q)) ∧
  (∀ (L : pb_L) (J : pb_J) (st : List Value) (h : pb_H) (Q : Option Value → pb_H → Prop), pb_R 220 19 L J st h Q ↔ pb_R 220 23 L J st h Q) ∧
  (∀ (L : pb_L) (J : pb_J) (st : List Value) (h : pb_H) (Q : Option Value → pb_H → Prop), pb_R 220 22 L J st h Q ↔ pb_R 220 23 L J (.int (-1 : Int32) :: st) h Q) ∧
  (∀ (L : pb_L) (J : pb_J) (h : pb_H) (Q : Option Value → pb_H → Prop) (x : Int32), pb_R 220 23 L J [.int x] h Q ↔ Q (some (.int x)) h) := ⟨
  fun l0 st h Q x => pf_S pb_u_220 rfl rfl,
  fun L J st h Q => pf_S pb_u_220 rfl rfl,
  fun L J st h Q x y => pf_ic pb_u_220 rfl rfl rfl,
  fun l0 st h Q x => pf_S pb_u_220 rfl rfl,
  fun l1 st h Q x => pf_S pb_u_220 rfl rfl,
  fun l1 st h Q => pf_S pb_u_220 rfl rfl,
  fun L J st h Q a => pf_gf pb_u_220 rfl rfl,
  fun L J st h Q x y => pf_ic pb_u_220 rfl rfl rfl,
  fun l1 st h Q x => pf_S pb_u_220 rfl rfl,
  fun l1 st h Q => pf_S pb_u_220 rfl rfl,
  fun L J st h Q a => pf_gf pb_u_220 rfl rfl,
  fun l0 st h Q x => pf_S pb_u_220 rfl rfl,
  fun L J st h Q a i => pf_ai pb_u_220 rfl rfl,
  fun L J st h Q => pf_S pb_u_220 rfl rfl,
  fun L J st h Q => pf_S pb_u_220 rfl rfl,
  fun L J h Q x => pf_ri pb_u_220 rfl rfl⟩
theorem pb_c220 (x0 : Nat) (x1 : Int32) (h : pb_H) (Q : Option Value → pb_H → Prop) : pb_call 220 [.ref x0, .int x1] h Q ↔ pb_R 220 0 [some (.ref x0), some (.int x1)] [] [] h Q := Iff.rfl
/-! 221: PlaneBenchModel.trail(II)I -/
theorem pb_u_221 : pb_t 221 = pb_t221 := rfl
theorem pb_ci_221 : pb_ci 221 = 12 := by decide +kernel
set_option maxRecDepth 100000 in
theorem pb_e221 : (∀ (l0 l2 : Option Value) (st : List Value) (h : pb_H) (Q : Option Value → pb_H → Prop) (x : Int32), pb_R 221 0 [l0, some (.int x), l2] [] st h Q ↔ pb_R 221 1 [l0, some (.int x), l2] [] (.int x :: st) h Q) ∧
  (∀ (L : pb_L) (J : pb_J) (st : List Value) (h : pb_H) (Q : Option Value → pb_H → Prop) (x : Int32), pb_R 221 1 L J (.int x :: st) h Q ↔ if x < 0 then pb_R 221 21 L J st h Q else pb_R 221 4 L J st h Q) ∧
  (∀ (l0 l2 : Option Value) (st : List Value) (h : pb_H) (Q : Option Value → pb_H → Prop) (x : Int32), pb_R 221 4 [l0, some (.int x), l2] [] st h Q ↔ pb_R 221 5 [l0, some (.int x), l2] [] (.int x :: st) h Q) ∧
  (∀ (l1 l2 : Option Value) (st : List Value) (h : pb_H) (Q : Option Value → pb_H → Prop) (x : Nat), pb_R 221 5 [some (.ref x), l1, l2] [] st h Q ↔ pb_R 221 6 [some (.ref x), l1, l2] [] (.ref x :: st) h Q) ∧
  (∀ (l1 l2 : Option Value) (st : List Value) (h : pb_H) (Q : Option Value → pb_H → Prop), pb_R 221 5 [some .null, l1, l2] [] st h Q ↔ pb_R 221 6 [some .null, l1, l2] [] (.null :: st) h Q) ∧
  (∀ (L : pb_L) (J : pb_J) (st : List Value) (h : pb_H) (Q : Option Value → pb_H → Prop) (a : Nat), pb_R 221 6 L J (.ref a :: st) h Q ↔ pb_o (pb_gf (h.2 a) 12 24) (fun v => pb_R 221 9 L J (v :: st) h Q)) ∧
  (∀ (L : pb_L) (J : pb_J) (st : List Value) (h : pb_H) (Q : Option Value → pb_H → Prop) (x y : Int32), pb_R 221 9 L J (.int y :: .int x :: st) h Q ↔ if y ≤ x then pb_R 221 21 L J st h Q else pb_R 221 12 L J st h Q) ∧
  (∀ (l0 l1 : Option Value) (st : List Value) (h : pb_H) (Q : Option Value → pb_H → Prop) (x : Int32), pb_R 221 12 [l0, l1, some (.int x)] [] st h Q ↔ pb_R 221 13 [l0, l1, some (.int x)] [] (.int x :: st) h Q) ∧
  (∀ (L : pb_L) (J : pb_J) (st : List Value) (h : pb_H) (Q : Option Value → pb_H → Prop) (x : Int32), pb_R 221 13 L J (.int x :: st) h Q ↔ if x < 0 then pb_R 221 21 L J st h Q else pb_R 221 16 L J st h Q) ∧
  (∀ (l0 l1 : Option Value) (st : List Value) (h : pb_H) (Q : Option Value → pb_H → Prop) (x : Int32), pb_R 221 16 [l0, l1, some (.int x)] [] st h Q ↔ pb_R 221 17 [l0, l1, some (.int x)] [] (.int x :: st) h Q) ∧
  (∀ (L : pb_L) (J : pb_J) (st : List Value) (h : pb_H) (Q : Option Value → pb_H → Prop), pb_R 221 17 L J st h Q ↔ pb_R 221 18 L J (.int (2 : Int32) :: st) h Q) ∧
  (∀ (L : pb_L) (J : pb_J) (st : List Value) (h : pb_H) (Q : Option Value → pb_H → Prop) (x y : Int32), pb_R 221 18 L J (.int y :: .int x :: st) h Q ↔ if x ≤ y then pb_R 221 23 L J st h Q else pb_R 221 21 L J st h Q) ∧
  (∀ (L : pb_L) (J : pb_J) (st : List Value) (h : pb_H) (Q : Option Value → pb_H → Prop), pb_R 221 21 L J st h Q ↔ pb_R 221 22 L J (.int (0 : Int32) :: st) h Q) ∧
  (∀ (L : pb_L) (J : pb_J) (h : pb_H) (Q : Option Value → pb_H → Prop) (x : Int32), pb_R 221 22 L J [.int x] h Q ↔ Q (some (.int x)) h) ∧
  (∀ (l0 l1 : Option Value) (st : List Value) (h : pb_H) (Q : Option Value → pb_H → Prop) (x : Int32), pb_R 221 23 [l0, l1, some (.int x)] [] st h Q ↔ pb_R 221 24 [l0, l1, some (.int x)] [] (.int x :: st) h Q) ∧
  (∀ (L : pb_L) (J : pb_J) (st : List Value) (h : pb_H) (Q : Option Value → pb_H → Prop) (x : Int32), pb_R 221 24 L J (.int x :: st) h Q ↔ if ¬ x = 0 then pb_R 221 36 L J st h Q else pb_R 221 27 L J st h Q) ∧
  (∀ (l1 l2 : Option Value) (st : List Value) (h : pb_H) (Q : Option Value → pb_H → Prop) (x : Nat), pb_R 221 27 [some (.ref x), l1, l2] [] st h Q ↔ pb_R 221 28 [some (.ref x), l1, l2] [] (.ref x :: st) h Q) ∧
  (∀ (l1 l2 : Option Value) (st : List Value) (h : pb_H) (Q : Option Value → pb_H → Prop), pb_R 221 27 [some .null, l1, l2] [] st h Q ↔ pb_R 221 28 [some .null, l1, l2] [] (.null :: st) h Q) ∧
  (∀ (L : pb_L) (J : pb_J) (st : List Value) (h : pb_H) (Q : Option Value → pb_H → Prop) (a : Nat), pb_R 221 28 L J (.ref a :: st) h Q ↔ pb_o (pb_gf (h.2 a) 12 30) (fun v => pb_R 221 31 L J (v :: st) h Q)) ∧
  (∀ (l0 l2 : Option Value) (st : List Value) (h : pb_H) (Q : Option Value → pb_H → Prop) (x : Int32), pb_R 221 31 [l0, some (.int x), l2] [] st h Q ↔ pb_R 221 32 [l0, some (.int x), l2] [] (.int x :: st) h Q) ∧
  (∀ (L : pb_L) (J : pb_J) (st : List Value) (h : pb_H) (Q : Option Value → pb_H → Prop) (a : Nat) (i : Int32), pb_R 221 32 L J (.int i :: .ref a :: st) h Q ↔ pb_o (pb_ai (h.2 a) i) (fun v => pb_R 221 33 L J (.int v :: st) h Q)) ∧
  (∀ (L : pb_L) (J : pb_J) (st : List Value) (h : pb_H) (Q : Option Value → pb_H → Prop), pb_R 221 33 L J st h Q ↔ pb_R 221 56 L J st h Q) ∧
  (∀ (l0 l1 : Option Value) (st : List Value) (h : pb_H) (Q : Option Value → pb_H → Prop) (x : Int32), pb_R 221 36 [l0, l1, some (.int x)] [] st h Q ↔ pb_R 221 37 [l0, l1, some (.int x)] [] (.int x :: st) h Q) ∧
  (∀ (L : pb_L) (J : pb_J) (st : List Value) (h : pb_H) (Q : Option Value → pb_H → Prop), pb_R 221 37 L J st h Q ↔ pb_R 221 38 L J (.int (1 : Int32) :: st) h Q) ∧
  (∀ (L : pb_L) (J : pb_J) (st : List Value) (h : pb_H) (Q : Option Value → pb_H → Prop) (x y : Int32), pb_R 221 38 L J (.int y :: .int x :: st) h Q ↔ if ¬ x = y then pb_R 221 50 L J st h Q else pb_R 221 41 L J st h Q) ∧
  (∀ (l1 l2 : Option Value) (st : List Value) (h : pb_H) (Q : Option Value → pb_H → Prop) (x : Nat), pb_R 221 41 [some (.ref x), l1, l2] [] st h Q ↔ pb_R 221 42 [some (.ref x), l1, l2] [] (.ref x :: st) h Q) ∧
  (∀ (l1 l2 : Option Value) (st : List Value) (h : pb_H) (Q : Option Value → pb_H → Prop), pb_R 221 41 [some .null, l1, l2] [] st h Q ↔ pb_R 221 42 [some .null, l1, l2] [] (.null :: st) h Q) ∧
  (∀ (L : pb_L) (J : pb_J) (st : List Value) (h : pb_H) (Q : Option Value → pb_H → Prop) (a : Nat), pb_R 221 42 L J (.ref a :: st) h Q ↔ pb_o (pb_gf (h.2 a) 12 31) (fun v => pb_R 221 45 L J (v :: st) h Q)) ∧
  (∀ (l0 l2 : Option Value) (st : List Value) (h : pb_H) (Q : Option Value → pb_H → Prop) (x : Int32), pb_R 221 45 [l0, some (.int x), l2] [] st h Q ↔ pb_R 221 46 [l0, some (.int x), l2] [] (.int x :: st) h Q) ∧
  (∀ (L : pb_L) (J : pb_J) (st : List Value) (h : pb_H) (Q : Option Value → pb_H → Prop) (a : Nat) (i : Int32), pb_R 221 46 L J (.int i :: .ref a :: st) h Q ↔ pb_o (pb_ai (h.2 a) i) (fun v => pb_R 221 47 L J (.int v :: st) h Q)) ∧
  (∀ (L : pb_L) (J : pb_J) (st : List Value) (h : pb_H) (Q : Option Value → pb_H → Prop), pb_R 221 47 L J st h Q ↔ pb_R 221 56 L J st h Q) ∧
  (∀ (l1 l2 : Option Value) (st : List Value) (h : pb_H) (Q : Option Value → pb_H → Prop) (x : Nat), pb_R 221 50 [some (.ref x), l1, l2] [] st h Q ↔ pb_R 221 51 [some (.ref x), l1, l2] [] (.ref x :: st) h Q) ∧
  (∀ (l1 l2 : Option Value) (st : List Value) (h : pb_H) (Q : Option Value → pb_H → Prop), pb_R 221 50 [some .null, l1, l2] [] st h Q ↔ pb_R 221 51 [some .null, l1, l2] [] (.null :: st) h Q) ∧
  (∀ (L : pb_L) (J : pb_J) (st : List Value) (h : pb_H) (Q : Option Value → pb_H → Prop) (a : Nat), pb_R 221 51 L J (.ref a :: st) h Q ↔ pb_o (pb_gf (h.2 a) 12 32) (fun v => pb_R 221 54 L J (v :: st) h Q)) ∧
  (∀ (l0 l2 : Option Value) (st : List Value) (h : pb_H) (Q : Option Value → pb_H → Prop) (x : Int32), pb_R 221 54 [l0, some (.int x), l2] [] st h Q ↔ pb_R 221 55 [l0, some (.int x), l2] [] (.int x :: st) h Q) ∧
  (∀ (L : pb_L) (J : pb_J) (st : List Value) (h : pb_H) (Q : Option Value → pb_H → Prop) (a : Nat) (i : Int32), pb_R 221 55 L J (.int i :: .ref a :: st) h Q ↔ pb_o (pb_ai (h.2 a) i) (fun v => pb_R 221 56 L J (.int v :: st) h Q)) ∧
  (∀ (L : pb_L) (J : pb_J) (h : pb_H) (Q : Option Value → pb_H → Prop) (x : Int32), pb_R 221 56 L J [.int x] h Q ↔ Q (some (.int x)) h) := ⟨
  fun l0 l2 st h Q x => pf_S pb_u_221 rfl rfl,
  fun L J st h Q x => pf_ii pb_u_221 rfl rfl rfl,
  fun l0 l2 st h Q x => pf_S pb_u_221 rfl rfl,
  fun l1 l2 st h Q x => pf_S pb_u_221 rfl rfl,
  fun l1 l2 st h Q => pf_S pb_u_221 rfl rfl,
  fun L J st h Q a => pf_gf pb_u_221 rfl rfl,
  fun L J st h Q x y => pf_ic pb_u_221 rfl rfl rfl,
  fun l0 l1 st h Q x => pf_S pb_u_221 rfl rfl,
  fun L J st h Q x => pf_ii pb_u_221 rfl rfl rfl,
  fun l0 l1 st h Q x => pf_S pb_u_221 rfl rfl,
  fun L J st h Q => pf_S pb_u_221 rfl rfl,
  fun L J st h Q x y => pf_ic pb_u_221 rfl rfl rfl,
  fun L J st h Q => pf_S pb_u_221 rfl rfl,
  fun L J h Q x => pf_ri pb_u_221 rfl rfl,
  fun l0 l1 st h Q x => pf_S pb_u_221 rfl rfl,
  fun L J st h Q x => pf_ii pb_u_221 rfl rfl pf_ne,
  fun l1 l2 st h Q x => pf_S pb_u_221 rfl rfl,
  fun l1 l2 st h Q => pf_S pb_u_221 rfl rfl,
  fun L J st h Q a => pf_gf pb_u_221 rfl rfl,
  fun l0 l2 st h Q x => pf_S pb_u_221 rfl rfl,
  fun L J st h Q a i => pf_ai pb_u_221 rfl rfl,
  fun L J st h Q => pf_S pb_u_221 rfl rfl,
  fun l0 l1 st h Q x => pf_S pb_u_221 rfl rfl,
  fun L J st h Q => pf_S pb_u_221 rfl rfl,
  fun L J st h Q x y => pf_ic pb_u_221 rfl rfl pf_ne,
  fun l1 l2 st h Q x => pf_S pb_u_221 rfl rfl,
  fun l1 l2 st h Q => pf_S pb_u_221 rfl rfl,
  fun L J st h Q a => pf_gf pb_u_221 rfl rfl,
  fun l0 l2 st h Q x => pf_S pb_u_221 rfl rfl,
  fun L J st h Q a i => pf_ai pb_u_221 rfl rfl,
  fun L J st h Q => pf_S pb_u_221 rfl rfl,
  fun l1 l2 st h Q x => pf_S pb_u_221 rfl rfl,
  fun l1 l2 st h Q => pf_S pb_u_221 rfl rfl,
  fun L J st h Q a => pf_gf pb_u_221 rfl rfl,
  fun l0 l2 st h Q x => pf_S pb_u_221 rfl rfl,
  fun L J st h Q a i => pf_ai pb_u_221 rfl rfl,
  fun L J h Q x => pf_ri pb_u_221 rfl rfl⟩
theorem pb_c221 (x0 : Nat) (x1 : Int32) (x2 : Int32) (h : pb_H) (Q : Option Value → pb_H → Prop) : pb_call 221 [.ref x0, .int x1, .int x2] h Q ↔ pb_R 221 0 [some (.ref x0), some (.int x1), some (.int x2)] [] [] h Q := Iff.rfl
/-! 222: PlaneBenchModel.proof(I)I -/
theorem pb_u_222 : pb_t 222 = pb_t222 := rfl
theorem pb_ci_222 : pb_ci 222 = 12 := by decide +kernel
set_option maxRecDepth 100000 in
theorem pb_e222 : (∀ (l0 : Option Value) (st : List Value) (h : pb_H) (Q : Option Value → pb_H → Prop) (x : Int32), pb_R 222 0 [l0, some (.int x)] [] st h Q ↔ pb_R 222 1 [l0, some (.int x)] [] (.int x :: st) h Q) ∧
  (∀ (L : pb_L) (J : pb_J) (st : List Value) (h : pb_H) (Q : Option Value → pb_H → Prop) (x : Int32), pb_R 222 1 L J (.int x :: st) h Q ↔ if x < 0 then pb_R 222 21 L J st h Q else pb_R 222 4 L J st h Q) ∧
  (∀ (l0 : Option Value) (st : List Value) (h : pb_H) (Q : Option Value → pb_H → Prop) (x : Int32), pb_R 222 4 [l0, some (.int x)] [] st h Q ↔ pb_R 222 5 [l0, some (.int x)] [] (.int x :: st) h Q) ∧
  (∀ (l1 : Option Value) (st : List Value) (h : pb_H) (Q : Option Value → pb_H → Prop) (x : Nat), pb_R 222 5 [some (.ref x), l1] [] st h Q ↔ pb_R 222 6 [some (.ref x), l1] [] (.ref x :: st) h Q) ∧
  (∀ (l1 : Option Value) (st : List Value) (h : pb_H) (Q : Option Value → pb_H → Prop), pb_R 222 5 [some .null, l1] [] st h Q ↔ pb_R 222 6 [some .null, l1] [] (.null :: st) h Q) ∧
  (∀ (L : pb_L) (J : pb_J) (st : List Value) (h : pb_H) (Q : Option Value → pb_H → Prop) (a : Nat), pb_R 222 6 L J (.ref a :: st) h Q ↔ pb_o (pb_gf (h.2 a) 12 34) (fun v => pb_R 222 9 L J (v :: st) h Q)) ∧
  (∀ (L : pb_L) (J : pb_J) (st : List Value) (h : pb_H) (Q : Option Value → pb_H → Prop) (x y : Int32), pb_R 222 9 L J (.int y :: .int x :: st) h Q ↔ if y ≤ x then pb_R 222 21 L J st h Q else pb_R 222 12 L J st h Q) ∧
  (∀ (l1 : Option Value) (st : List Value) (h : pb_H) (Q : Option Value → pb_H → Prop) (x : Nat), pb_R 222 12 [some (.ref x), l1] [] st h Q ↔ pb_R 222 13 [some (.ref x), l1] [] (.ref x :: st) h Q) ∧
  (∀ (l1 : Option Value) (st : List Value) (h : pb_H) (Q : Option Value → pb_H → Prop), pb_R 222 12 [some .null, l1] [] st h Q ↔ pb_R 222 13 [some .null, l1] [] (.null :: st) h Q) ∧
  (∀ (L : pb_L) (J : pb_J) (st : List Value) (h : pb_H) (Q : Option Value → pb_H → Prop) (a : Nat), pb_R 222 13 L J (.ref a :: st) h Q ↔ pb_o (pb_gf (h.2 a) 12 33) (fun v => pb_R 222 16 L J (v :: st) h Q)) ∧
  (∀ (l0 : Option Value) (st : List Value) (h : pb_H) (Q : Option Value → pb_H → Prop) (x : Int32), pb_R 222 16 [l0, some (.int x)] [] st h Q ↔ pb_R 222 17 [l0, some (.int x)] [] (.int x :: st) h Q) ∧
  (∀ (L : pb_L) (J : pb_J) (st : List Value) (h : pb_H) (Q : Option Value → pb_H → Prop) (a : Nat) (i : Int32), pb_R 222 17 L J (.int i :: .ref a :: st) h Q ↔ pb_o (pb_ab (h.2 a) i) (fun v => pb_R 222 18 L J (.int v :: st) h Q)) ∧
  (∀ (L : pb_L) (J : pb_J) (st : List Value) (h : pb_H) (Q : Option Value → pb_H → Prop), pb_R 222 18 L J st h Q ↔ pb_R 222 22 L J st h Q) ∧
  (∀ (L : pb_L) (J : pb_J) (st : List Value) (h : pb_H) (Q : Option Value → pb_H → Prop), pb_R 222 21 L J st h Q ↔ pb_R 222 22 L J (.int (-1 : Int32) :: st) h Q) ∧
  (∀ (L : pb_L) (J : pb_J) (h : pb_H) (Q : Option Value → pb_H → Prop) (x : Int32), pb_R 222 22 L J [.int x] h Q ↔ Q (some (.int x)) h) := ⟨
  fun l0 st h Q x => pf_S pb_u_222 rfl rfl,
  fun L J st h Q x => pf_ii pb_u_222 rfl rfl rfl,
  fun l0 st h Q x => pf_S pb_u_222 rfl rfl,
  fun l1 st h Q x => pf_S pb_u_222 rfl rfl,
  fun l1 st h Q => pf_S pb_u_222 rfl rfl,
  fun L J st h Q a => pf_gf pb_u_222 rfl rfl,
  fun L J st h Q x y => pf_ic pb_u_222 rfl rfl rfl,
  fun l1 st h Q x => pf_S pb_u_222 rfl rfl,
  fun l1 st h Q => pf_S pb_u_222 rfl rfl,
  fun L J st h Q a => pf_gf pb_u_222 rfl rfl,
  fun l0 st h Q x => pf_S pb_u_222 rfl rfl,
  fun L J st h Q a i => pf_ab pb_u_222 rfl rfl,
  fun L J st h Q => pf_S pb_u_222 rfl rfl,
  fun L J st h Q => pf_S pb_u_222 rfl rfl,
  fun L J h Q x => pf_ri pb_u_222 rfl rfl⟩
theorem pb_c222 (x0 : Nat) (x1 : Int32) (h : pb_H) (Q : Option Value → pb_H → Prop) : pb_call 222 [.ref x0, .int x1] h Q ↔ pb_R 222 0 [some (.ref x0), some (.int x1)] [] [] h Q := Iff.rfl
/-! 223: PlaneBenchModel.count(I)I -/
theorem pb_u_223 : pb_t 223 = pb_t223 := rfl
theorem pb_ci_223 : pb_ci 223 = 12 := by decide +kernel
set_option maxRecDepth 100000 in
theorem pb_q223_3 (L : pb_L) (J : pb_J) (st : List Value) (h : pb_H) (Q : Option Value → pb_H → Prop) (x : Int32) : pb_R 223 3 L J (.int x :: st) h Q ↔ if x = 0 then pb_R 223 60 L J st h Q else (if x = 1 then pb_R 223 65 L J st h Q else (if x = 2 then pb_R 223 70 L J st h Q else (if x = 3 then pb_R 223 75 L J st h Q else (if x = 4 then pb_R 223 80 L J st h Q else (if x = 5 then pb_R 223 85 L J st h Q else (if x = 6 then pb_R 223 90 L J st h Q else (if x = 7 then pb_R 223 95 L J st h Q else (if x = 8 then pb_R 223 100 L J st h Q else (if x = 9 then pb_R 223 105 L J st h Q else (if x = 10 then pb_R 223 139 L J st h Q else (pb_R 223 144 L J st h Q))))))))))) := by
  by_cases c0 : x = 0
  · subst c0
    rw [if_pos rfl]
    exact pf_S pb_u_223 rfl rfl
  rw [if_neg c0]
  by_cases c1 : x = 1
  · subst c1
    rw [if_pos rfl]
    exact pf_S pb_u_223 rfl rfl
  rw [if_neg c1]
  by_cases c2 : x = 2
  · subst c2
    rw [if_pos rfl]
    exact pf_S pb_u_223 rfl rfl
  rw [if_neg c2]
  by_cases c3 : x = 3
  · subst c3
    rw [if_pos rfl]
    exact pf_S pb_u_223 rfl rfl
  rw [if_neg c3]
  by_cases c4 : x = 4
  · subst c4
    rw [if_pos rfl]
    exact pf_S pb_u_223 rfl rfl
  rw [if_neg c4]
  by_cases c5 : x = 5
  · subst c5
    rw [if_pos rfl]
    exact pf_S pb_u_223 rfl rfl
  rw [if_neg c5]
  by_cases c6 : x = 6
  · subst c6
    rw [if_pos rfl]
    exact pf_S pb_u_223 rfl rfl
  rw [if_neg c6]
  by_cases c7 : x = 7
  · subst c7
    rw [if_pos rfl]
    exact pf_S pb_u_223 rfl rfl
  rw [if_neg c7]
  by_cases c8 : x = 8
  · subst c8
    rw [if_pos rfl]
    exact pf_S pb_u_223 rfl rfl
  rw [if_neg c8]
  by_cases c9 : x = 9
  · subst c9
    rw [if_pos rfl]
    exact pf_S pb_u_223 rfl rfl
  rw [if_neg c9]
  by_cases c10 : x = 10
  · subst c10
    rw [if_pos rfl]
    exact pf_S pb_u_223 rfl rfl
  rw [if_neg c10]
  refine pf_S pb_u_223 rfl ?_
  have hout : x.toInt < 0 ∨ 10 < x.toInt := by
    apply Classical.byContradiction
    intro hc
    have h2 : x.toInt = 0 ∨ x.toInt = 1 ∨ x.toInt = 2 ∨ x.toInt = 3 ∨ x.toInt = 4 ∨ x.toInt = 5 ∨ x.toInt = 6 ∨ x.toInt = 7 ∨ x.toInt = 8 ∨ x.toInt = 9 ∨ x.toInt = 10 := by omega
    rcases h2 with h2 | h2 | h2 | h2 | h2 | h2 | h2 | h2 | h2 | h2 | h2
    · exact pf_ni (k := 0) (fun e => c0 (e.trans rfl)) h2
    · exact pf_ni (k := 1) (fun e => c1 (e.trans rfl)) h2
    · exact pf_ni (k := 2) (fun e => c2 (e.trans rfl)) h2
    · exact pf_ni (k := 3) (fun e => c3 (e.trans rfl)) h2
    · exact pf_ni (k := 4) (fun e => c4 (e.trans rfl)) h2
    · exact pf_ni (k := 5) (fun e => c5 (e.trans rfl)) h2
    · exact pf_ni (k := 6) (fun e => c6 (e.trans rfl)) h2
    · exact pf_ni (k := 7) (fun e => c7 (e.trans rfl)) h2
    · exact pf_ni (k := 8) (fun e => c8 (e.trans rfl)) h2
    · exact pf_ni (k := 9) (fun e => c9 (e.trans rfl)) h2
    · exact pf_ni (k := 10) (fun e => c10 (e.trans rfl)) h2
  simp only [pb_S, pb_A, pb_B, pb_C, if_pos hout]
  rfl
set_option maxRecDepth 100000 in
theorem pb_q223_107 (l0 l1 l2 : Option Value) (st : List Value) (h : pb_H) (Q : Option Value → pb_H → Prop) (x : Int32) : pb_R 223 107 [l0, l1, l2, some (.int x)] [] st h Q ↔ pb_R 223 108 [l0, l1, l2, some (.int x)] [] (.int x :: st) h Q := pf_S pb_u_223 rfl rfl
set_option maxRecDepth 100000 in
theorem pb_e223 : (∀ (L : pb_L) (J : pb_J) (st : List Value) (h : pb_H) (Q : Option Value → pb_H → Prop), pb_R 223 0 L J st h Q ↔ pb_R 223 1 L J (.int (0 : Int32) :: st) h Q) ∧
  (∀ (l0 l1 l2 l3 : Option Value) (st : List Value) (h : pb_H) (Q : Option Value → pb_H → Prop) (x : Int32), pb_R 223 1 [l0, l1, l2, l3] [] (.int x :: st) h Q ↔ pb_R 223 2 [l0, l1, some (.int x), l3] [] st h Q) ∧
  (∀ (l0 l2 l3 : Option Value) (st : List Value) (h : pb_H) (Q : Option Value → pb_H → Prop) (x : Int32), pb_R 223 2 [l0, some (.int x), l2, l3] [] st h Q ↔ pb_R 223 3 [l0, some (.int x), l2, l3] [] (.int x :: st) h Q) ∧
  (∀ (L : pb_L) (J : pb_J) (st : List Value) (h : pb_H) (Q : Option Value → pb_H → Prop) (x : Int32), pb_R 223 3 L J (.int x :: st) h Q ↔ if x = 0 then pb_R 223 60 L J st h Q else (if x = 1 then pb_R 223 65 L J st h Q else (if x = 2 then pb_R 223 70 L J st h Q else (if x = 3 then pb_R 223 75 L J st h Q else (if x = 4 then pb_R 223 80 L J st h Q else (if x = 5 then pb_R 223 85 L J st h Q else (if x = 6 then pb_R 223 90 L J st h Q else (if x = 7 then pb_R 223 95 L J st h Q else (if x = 8 then pb_R 223 100 L J st h Q else (if x = 9 then pb_R 223 105 L J st h Q else (if x = 10 then pb_R 223 139 L J st h Q else (pb_R 223 144 L J st h Q)))))))))))) ∧
  (∀ (l1 l2 l3 : Option Value) (st : List Value) (h : pb_H) (Q : Option Value → pb_H → Prop) (x : Nat), pb_R 223 60 [some (.ref x), l1, l2, l3] [] st h Q ↔ pb_R 223 61 [some (.ref x), l1, l2, l3] [] (.ref x :: st) h Q) ∧
  (∀ (l1 l2 l3 : Option Value) (st : List Value) (h : pb_H) (Q : Option Value → pb_H → Prop), pb_R 223 60 [some .null, l1, l2, l3] [] st h Q ↔ pb_R 223 61 [some .null, l1, l2, l3] [] (.null :: st) h Q) ∧
  (∀ (L : pb_L) (J : pb_J) (st : List Value) (h : pb_H) (Q : Option Value → pb_H → Prop) (a : Nat), pb_R 223 61 L J (.ref a :: st) h Q ↔ pb_o (pb_gf (h.2 a) 12 4) (fun v => pb_R 223 64 L J (v :: st) h Q)) ∧
  (∀ (L : pb_L) (J : pb_J) (h : pb_H) (Q : Option Value → pb_H → Prop) (x : Int32), pb_R 223 64 L J [.int x] h Q ↔ Q (some (.int x)) h) ∧
  (∀ (l1 l2 l3 : Option Value) (st : List Value) (h : pb_H) (Q : Option Value → pb_H → Prop) (x : Nat), pb_R 223 65 [some (.ref x), l1, l2, l3] [] st h Q ↔ pb_R 223 66 [some (.ref x), l1, l2, l3] [] (.ref x :: st) h Q) ∧
  (∀ (l1 l2 l3 : Option Value) (st : List Value) (h : pb_H) (Q : Option Value → pb_H → Prop), pb_R 223 65 [some .null, l1, l2, l3] [] st h Q ↔ pb_R 223 66 [some .null, l1, l2, l3] [] (.null :: st) h Q) ∧
  (∀ (L : pb_L) (J : pb_J) (st : List Value) (h : pb_H) (Q : Option Value → pb_H → Prop) (a : Nat), pb_R 223 66 L J (.ref a :: st) h Q ↔ pb_o (pb_gf (h.2 a) 12 5) (fun v => pb_R 223 69 L J (v :: st) h Q)) ∧
  (∀ (L : pb_L) (J : pb_J) (h : pb_H) (Q : Option Value → pb_H → Prop) (x : Int32), pb_R 223 69 L J [.int x] h Q ↔ Q (some (.int x)) h) ∧
  (∀ (l1 l2 l3 : Option Value) (st : List Value) (h : pb_H) (Q : Option Value → pb_H → Prop) (x : Nat), pb_R 223 70 [some (.ref x), l1, l2, l3] [] st h Q ↔ pb_R 223 71 [some (.ref x), l1, l2, l3] [] (.ref x :: st) h Q) ∧
  (∀ (l1 l2 l3 : Option Value) (st : List Value) (h : pb_H) (Q : Option Value → pb_H → Prop), pb_R 223 70 [some .null, l1, l2, l3] [] st h Q ↔ pb_R 223 71 [some .null, l1, l2, l3] [] (.null :: st) h Q) ∧
  (∀ (L : pb_L) (J : pb_J) (st : List Value) (h : pb_H) (Q : Option Value → pb_H → Prop) (a : Nat), pb_R 223 71 L J (.ref a :: st) h Q ↔ pb_o (pb_gf (h.2 a) 12 34) (fun v => pb_R 223 74 L J (v :: st) h Q)) ∧
  (∀ (L : pb_L) (J : pb_J) (h : pb_H) (Q : Option Value → pb_H → Prop) (x : Int32), pb_R 223 74 L J [.int x] h Q ↔ Q (some (.int x)) h) ∧
  (∀ (l1 l2 l3 : Option Value) (st : List Value) (h : pb_H) (Q : Option Value → pb_H → Prop) (x : Nat), pb_R 223 75 [some (.ref x), l1, l2, l3] [] st h Q ↔ pb_R 223 76 [some (.ref x), l1, l2, l3] [] (.ref x :: st) h Q) ∧
  (∀ (l1 l2 l3 : Option Value) (st : List Value) (h : pb_H) (Q : Option Value → pb_H → Prop), pb_R 223 75 [some .null, l1, l2, l3] [] st h Q ↔ pb_R 223 76 [some .null, l1, l2, l3] [] (.null :: st) h Q) ∧
  (∀ (L : pb_L) (J : pb_J) (st : List Value) (h : pb_H) (Q : Option Value → pb_H → Prop) (a : Nat), pb_R 223 76 L J (.ref a :: st) h Q ↔ pb_o (pb_gf (h.2 a) 12 22) (fun v => pb_R 223 79 L J (v :: st) h Q)) ∧
  (∀ (L : pb_L) (J : pb_J) (h : pb_H) (Q : Option Value → pb_H → Prop) (x : Int32), pb_R 223 79 L J [.int x] h Q ↔ Q (some (.int x)) h) ∧
  (∀ (l1 l2 l3 : Option Value) (st : List Value) (h : pb_H) (Q : Option Value → pb_H → Prop) (x : Nat), pb_R 223 80 [some (.ref x), l1, l2, l3] [] st h Q ↔ pb_R 223 81 [some (.ref x), l1, l2, l3] [] (.ref x :: st) h Q) ∧
  (∀ (l1 l2 l3 : Option Value) (st : List Value) (h : pb_H) (Q : Option Value → pb_H → Prop), pb_R 223 80 [some .null, l1, l2, l3] [] st h Q ↔ pb_R 223 81 [some .null, l1, l2, l3] [] (.null :: st) h Q) ∧
  (∀ (L : pb_L) (J : pb_J) (st : List Value) (h : pb_H) (Q : Option Value → pb_H → Prop) (a : Nat), pb_R 223 81 L J (.ref a :: st) h Q ↔ pb_o (pb_gf (h.2 a) 12 24) (fun v => pb_R 223 84 L J (v :: st) h Q)) ∧
  (∀ (L : pb_L) (J : pb_J) (h : pb_H) (Q : Option Value → pb_H → Prop) (x : Int32), pb_R 223 84 L J [.int x] h Q ↔ Q (some (.int x)) h) ∧
  (∀ (l1 l2 l3 : Option Value) (st : List Value) (h : pb_H) (Q : Option Value → pb_H → Prop) (x : Nat), pb_R 223 85 [some (.ref x), l1, l2, l3] [] st h Q ↔ pb_R 223 86 [some (.ref x), l1, l2, l3] [] (.ref x :: st) h Q) ∧
  (∀ (l1 l2 l3 : Option Value) (st : List Value) (h : pb_H) (Q : Option Value → pb_H → Prop), pb_R 223 85 [some .null, l1, l2, l3] [] st h Q ↔ pb_R 223 86 [some .null, l1, l2, l3] [] (.null :: st) h Q) ∧
  (∀ (L : pb_L) (J : pb_J) (st : List Value) (h : pb_H) (Q : Option Value → pb_H → Prop) (a : Nat), pb_R 223 86 L J (.ref a :: st) h Q ↔ pb_o (pb_gf (h.2 a) 12 23) (fun v => pb_R 223 89 L J (v :: st) h Q)) ∧
  (∀ (L : pb_L) (J : pb_J) (h : pb_H) (Q : Option Value → pb_H → Prop) (x : Int32), pb_R 223 89 L J [.int x] h Q ↔ Q (some (.int x)) h) ∧
  (∀ (l1 l2 l3 : Option Value) (st : List Value) (h : pb_H) (Q : Option Value → pb_H → Prop) (x : Nat), pb_R 223 90 [some (.ref x), l1, l2, l3] [] st h Q ↔ pb_R 223 91 [some (.ref x), l1, l2, l3] [] (.ref x :: st) h Q) ∧
  (∀ (l1 l2 l3 : Option Value) (st : List Value) (h : pb_H) (Q : Option Value → pb_H → Prop), pb_R 223 90 [some .null, l1, l2, l3] [] st h Q ↔ pb_R 223 91 [some .null, l1, l2, l3] [] (.null :: st) h Q) ∧
  (∀ (L : pb_L) (J : pb_J) (st : List Value) (h : pb_H) (Q : Option Value → pb_H → Prop) (a : Nat), pb_R 223 91 L J (.ref a :: st) h Q ↔ pb_o (pb_gf (h.2 a) 12 25) (fun v => pb_R 223 94 L J (v :: st) h Q)) ∧
  (∀ (L : pb_L) (J : pb_J) (h : pb_H) (Q : Option Value → pb_H → Prop) (x : Int32), pb_R 223 94 L J [.int x] h Q ↔ Q (some (.int x)) h) ∧
  (∀ (l1 l2 l3 : Option Value) (st : List Value) (h : pb_H) (Q : Option Value → pb_H → Prop) (x : Nat), pb_R 223 95 [some (.ref x), l1, l2, l3] [] st h Q ↔ pb_R 223 96 [some (.ref x), l1, l2, l3] [] (.ref x :: st) h Q) ∧
  (∀ (l1 l2 l3 : Option Value) (st : List Value) (h : pb_H) (Q : Option Value → pb_H → Prop), pb_R 223 95 [some .null, l1, l2, l3] [] st h Q ↔ pb_R 223 96 [some .null, l1, l2, l3] [] (.null :: st) h Q) ∧
  (∀ (L : pb_L) (J : pb_J) (st : List Value) (h : pb_H) (Q : Option Value → pb_H → Prop) (a : Nat), pb_R 223 96 L J (.ref a :: st) h Q ↔ pb_o (pb_gf (h.2 a) 12 26) (fun v => pb_R 223 99 L J (v :: st) h Q)) ∧
  (∀ (L : pb_L) (J : pb_J) (h : pb_H) (Q : Option Value → pb_H → Prop) (x : Int32), pb_R 223 99 L J [.int x] h Q ↔ Q (some (.int x)) h) ∧
  (∀ (l1 l2 l3 : Option Value) (st : List Value) (h : pb_H) (Q : Option Value → pb_H → Prop) (x : Nat), pb_R 223 100 [some (.ref x), l1, l2, l3] [] st h Q ↔ pb_R 223 101 [some (.ref x), l1, l2, l3] [] (.ref x :: st) h Q) ∧
  (∀ (l1 l2 l3 : Option Value) (st : List Value) (h : pb_H) (Q : Option Value → pb_H → Prop), pb_R 223 100 [some .null, l1, l2, l3] [] st h Q ↔ pb_R 223 101 [some .null, l1, l2, l3] [] (.null :: st) h Q) ∧
  (∀ (L : pb_L) (J : pb_J) (st : List Value) (h : pb_H) (Q : Option Value → pb_H → Prop) (a : Nat), pb_R 223 101 L J (.ref a :: st) h Q ↔ pb_o (pb_gf (h.2 a) 12 27) (fun v => pb_R 223 104 L J (v :: st) h Q)) ∧
  (∀ (L : pb_L) (J : pb_J) (h : pb_H) (Q : Option Value → pb_H → Prop) (x : Int32), pb_R 223 104 L J [.int x] h Q ↔ Q (some (.int x)) h) ∧
  (∀ (L : pb_L) (J : pb_J) (st : List Value) (h : pb_H) (Q : Option Value → pb_H → Prop), pb_R 223 105 L J st h Q ↔ pb_R 223 106 L J (.int (1 : Int32) :: st) h Q) ∧
  (∀ (l0 l1 l2 l3 : Option Value) (st : List Value) (h : pb_H) (Q : Option Value → pb_H → Prop) (x : Int32), pb_R 223 106 [l0, l1, l2, l3] [] (.int x :: st) h Q ↔ pb_R 223 107 [l0, l1, l2, some (.int x)] [] st h Q) ∧
  (∀ (l1 l2 l3 : Option Value) (st : List Value) (h : pb_H) (Q : Option Value → pb_H → Prop) (x : Nat), pb_R 223 108 [some (.ref x), l1, l2, l3] [] st h Q ↔ pb_R 223 109 [some (.ref x), l1, l2, l3] [] (.ref x :: st) h Q) ∧
  (∀ (l1 l2 l3 : Option Value) (st : List Value) (h : pb_H) (Q : Option Value → pb_H → Prop), pb_R 223 108 [some .null, l1, l2, l3] [] st h Q ↔ pb_R 223 109 [some .null, l1, l2, l3] [] (.null :: st) h Q) ∧
  (∀ (L : pb_L) (J : pb_J) (st : List Value) (h : pb_H) (Q : Option Value → pb_H → Prop) (a : Nat), pb_R 223 109 L J (.ref a :: st) h Q ↔ pb_o (pb_gf (h.2 a) 12 4) (fun v => pb_R 223 112 L J (v :: st) h Q)) ∧
  (∀ (L : pb_L) (J : pb_J) (st : List Value) (h : pb_H) (Q : Option Value → pb_H → Prop) (x y : Int32), pb_R 223 112 L J (.int y :: .int x :: st) h Q ↔ if y < x then pb_R 223 137 L J st h Q else pb_R 223 115 L J st h Q) ∧
  (∀ (l1 l2 l3 : Option Value) (st : List Value) (h : pb_H) (Q : Option Value → pb_H → Prop) (x : Nat), pb_R 223 115 [some (.ref x), l1, l2, l3] [] st h Q ↔ pb_R 223 116 [some (.ref x), l1, l2, l3] [] (.ref x :: st) h Q) ∧
  (∀ (l1 l2 l3 : Option Value) (st : List Value) (h : pb_H) (Q : Option Value → pb_H → Prop), pb_R 223 115 [some .null, l1, l2, l3] [] st h Q ↔ pb_R 223 116 [some .null, l1, l2, l3] [] (.null :: st) h Q) ∧
  (∀ (l0 l1 l2 : Option Value) (st : List Value) (h : pb_H) (Q : Option Value → pb_H → Prop) (x : Int32), pb_R 223 116 [l0, l1, l2, some (.int x)] [] st h Q ↔ pb_R 223 117 [l0, l1, l2, some (.int x)] [] (.int x :: st) h Q) ∧
  (∀ (L : pb_L) (J : pb_J) (h : pb_H) (Q : Option Value → pb_H → Prop) (x0 : Int32) (x1 : Nat), pb_R 223 117 L J [.int x0, .ref x1] h Q ↔ pb_is0 (h.2 x1) 12 = true ∧ pb_call 170 [.ref x1, .int x0] h (fun v t => pb_R 223 120 L J (v.toList ++ []) t Q)) ∧
  (∀ (L : pb_L) (J : pb_J) (st : List Value) (h : pb_H) (Q : Option Value → pb_H → Prop) (x : Int32), pb_R 223 120 L J (.int x :: st) h Q ↔ if x = 0 then pb_R 223 129 L J st h Q else pb_R 223 123 L J st h Q) ∧
  (∀ (l0 l1 l3 : Option Value) (st : List Value) (h : pb_H) (Q : Option Value → pb_H → Prop) (x : Int32), pb_R 223 123 [l0, l1, some (.int x), l3] [] st h Q ↔ pb_R 223 124 [l0, l1, some (.int x), l3] [] (.int x :: st) h Q) ∧
  (∀ (L : pb_L) (J : pb_J) (st : List Value) (h : pb_H) (Q : Option Value → pb_H → Prop), pb_R 223 124 L J st h Q ↔ pb_R 223 125 L J (.int (1 : Int32) :: st) h Q) ∧
  (∀ (L : pb_L) (J : pb_J) (st : List Value) (x y : Int32) (h : pb_H) (Q : Option Value → pb_H → Prop), pb_R 223 125 L J (.int y :: .int x :: st) h Q ↔ pb_R 223 126 L J (.int (x + y) :: st) h Q) ∧
  (∀ (L : pb_L) (J : pb_J) (st : List Value) (h : pb_H) (Q : Option Value → pb_H → Prop), pb_R 223 126 L J st h Q ↔ pb_R 223 130 L J st h Q) ∧
  (∀ (l0 l1 l3 : Option Value) (st : List Value) (h : pb_H) (Q : Option Value → pb_H → Prop) (x : Int32), pb_R 223 129 [l0, l1, some (.int x), l3] [] st h Q ↔ pb_R 223 130 [l0, l1, some (.int x), l3] [] (.int x :: st) h Q) ∧
  (∀ (l0 l1 l2 l3 : Option Value) (st : List Value) (h : pb_H) (Q : Option Value → pb_H → Prop) (x : Int32), pb_R 223 130 [l0, l1, l2, l3] [] (.int x :: st) h Q ↔ pb_R 223 131 [l0, l1, some (.int x), l3] [] st h Q) ∧
  (∀ (l0 l1 l2 : Option Value) (st : List Value) (h : pb_H) (Q : Option Value → pb_H → Prop) (x : Int32), pb_R 223 131 [l0, l1, l2, some (.int x)] [] st h Q ↔ pb_R 223 134 [l0, l1, l2, some (.int (x + (1 : Int32)))] [] st h Q) ∧
  (∀ (L : pb_L) (J : pb_J) (st : List Value) (h : pb_H) (Q : Option Value → pb_H → Prop), pb_R 223 134 L J st h Q ↔ pb_R 223 107 L J st h Q) ∧
  (∀ (l0 l1 l3 : Option Value) (st : List Value) (h : pb_H) (Q : Option Value → pb_H → Prop) (x : Int32), pb_R 223 137 [l0, l1, some (.int x), l3] [] st h Q ↔ pb_R 223 138 [l0, l1, some (.int x), l3] [] (.int x :: st) h Q) ∧
  (∀ (L : pb_L) (J : pb_J) (h : pb_H) (Q : Option Value → pb_H → Prop) (x : Int32), pb_R 223 138 L J [.int x] h Q ↔ Q (some (.int x)) h) ∧
  (∀ (l1 l2 l3 : Option Value) (st : List Value) (h : pb_H) (Q : Option Value → pb_H → Prop) (x : Nat), pb_R 223 139 [some (.ref x), l1, l2, l3] [] st h Q ↔ pb_R 223 140 [some (.ref x), l1, l2, l3] [] (.ref x :: st) h Q) ∧
  (∀ (l1 l2 l3 : Option Value) (st : List Value) (h : pb_H) (Q : Option Value → pb_H → Prop), pb_R 223 139 [some .null, l1, l2, l3] [] st h Q ↔ pb_R 223 140 [some .null, l1, l2, l3] [] (.null :: st) h Q) ∧
  (∀ (L : pb_L) (J : pb_J) (st : List Value) (h : pb_H) (Q : Option Value → pb_H → Prop) (a : Nat), pb_R 223 140 L J (.ref a :: st) h Q ↔ pb_o (pb_gf (h.2 a) 12 7) (fun v => pb_R 223 143 L J (v :: st) h Q)) ∧
  (∀ (L : pb_L) (J : pb_J) (h : pb_H) (Q : Option Value → pb_H → Prop) (x : Int32), pb_R 223 143 L J [.int x] h Q ↔ Q (some (.int x)) h) ∧
  (∀ (L : pb_L) (J : pb_J) (st : List Value) (h : pb_H) (Q : Option Value → pb_H → Prop), pb_R 223 144 L J st h Q ↔ pb_R 223 145 L J (.int (-1 : Int32) :: st) h Q) ∧
  (∀ (L : pb_L) (J : pb_J) (h : pb_H) (Q : Option Value → pb_H → Prop) (x : Int32), pb_R 223 145 L J [.int x] h Q ↔ Q (some (.int x)) h) := ⟨
  fun L J st h Q => pf_S pb_u_223 rfl rfl,
  fun l0 l1 l2 l3 st h Q x => pf_S pb_u_223 rfl rfl,
  fun l0 l2 l3 st h Q x => pf_S pb_u_223 rfl rfl,
  fun L J st h Q x => pb_q223_3 L J st h Q x,
  fun l1 l2 l3 st h Q x => pf_S pb_u_223 rfl rfl,
  fun l1 l2 l3 st h Q => pf_S pb_u_223 rfl rfl,
  fun L J st h Q a => pf_gf pb_u_223 rfl rfl,
  fun L J h Q x => pf_ri pb_u_223 rfl rfl,
  fun l1 l2 l3 st h Q x => pf_S pb_u_223 rfl rfl,
  fun l1 l2 l3 st h Q => pf_S pb_u_223 rfl rfl,
  fun L J st h Q a => pf_gf pb_u_223 rfl rfl,
  fun L J h Q x => pf_ri pb_u_223 rfl rfl,
  fun l1 l2 l3 st h Q x => pf_S pb_u_223 rfl rfl,
  fun l1 l2 l3 st h Q => pf_S pb_u_223 rfl rfl,
  fun L J st h Q a => pf_gf pb_u_223 rfl rfl,
  fun L J h Q x => pf_ri pb_u_223 rfl rfl,
  fun l1 l2 l3 st h Q x => pf_S pb_u_223 rfl rfl,
  fun l1 l2 l3 st h Q => pf_S pb_u_223 rfl rfl,
  fun L J st h Q a => pf_gf pb_u_223 rfl rfl,
  fun L J h Q x => pf_ri pb_u_223 rfl rfl,
  fun l1 l2 l3 st h Q x => pf_S pb_u_223 rfl rfl,
  fun l1 l2 l3 st h Q => pf_S pb_u_223 rfl rfl,
  fun L J st h Q a => pf_gf pb_u_223 rfl rfl,
  fun L J h Q x => pf_ri pb_u_223 rfl rfl,
  fun l1 l2 l3 st h Q x => pf_S pb_u_223 rfl rfl,
  fun l1 l2 l3 st h Q => pf_S pb_u_223 rfl rfl,
  fun L J st h Q a => pf_gf pb_u_223 rfl rfl,
  fun L J h Q x => pf_ri pb_u_223 rfl rfl,
  fun l1 l2 l3 st h Q x => pf_S pb_u_223 rfl rfl,
  fun l1 l2 l3 st h Q => pf_S pb_u_223 rfl rfl,
  fun L J st h Q a => pf_gf pb_u_223 rfl rfl,
  fun L J h Q x => pf_ri pb_u_223 rfl rfl,
  fun l1 l2 l3 st h Q x => pf_S pb_u_223 rfl rfl,
  fun l1 l2 l3 st h Q => pf_S pb_u_223 rfl rfl,
  fun L J st h Q a => pf_gf pb_u_223 rfl rfl,
  fun L J h Q x => pf_ri pb_u_223 rfl rfl,
  fun l1 l2 l3 st h Q x => pf_S pb_u_223 rfl rfl,
  fun l1 l2 l3 st h Q => pf_S pb_u_223 rfl rfl,
  fun L J st h Q a => pf_gf pb_u_223 rfl rfl,
  fun L J h Q x => pf_ri pb_u_223 rfl rfl,
  fun L J st h Q => pf_S pb_u_223 rfl rfl,
  fun l0 l1 l2 l3 st h Q x => pf_S pb_u_223 rfl rfl,
  fun l1 l2 l3 st h Q x => pf_S pb_u_223 rfl rfl,
  fun l1 l2 l3 st h Q => pf_S pb_u_223 rfl rfl,
  fun L J st h Q a => pf_gf pb_u_223 rfl rfl,
  fun L J st h Q x y => pf_ic pb_u_223 rfl rfl rfl,
  fun l1 l2 l3 st h Q x => pf_S pb_u_223 rfl rfl,
  fun l1 l2 l3 st h Q => pf_S pb_u_223 rfl rfl,
  fun l0 l1 l2 st h Q x => pf_S pb_u_223 rfl rfl,
  fun L J h Q x0 x1 => pf_kv pb_u_223 rfl pb_ci_170 rfl ⟨Nat.le_of_ble_eq_true rfl, Nat.le_of_ble_eq_true rfl, Nat.le_of_ble_eq_true rfl, Nat.le_of_ble_eq_true rfl, rfl⟩ rfl rfl,
  fun L J st h Q x => pf_ii pb_u_223 rfl rfl rfl,
  fun l0 l1 l3 st h Q x => pf_S pb_u_223 rfl rfl,
  fun L J st h Q => pf_S pb_u_223 rfl rfl,
  fun L J st x y h Q => pf_S pb_u_223 rfl rfl,
  fun L J st h Q => pf_S pb_u_223 rfl rfl,
  fun l0 l1 l3 st h Q x => pf_S pb_u_223 rfl rfl,
  fun l0 l1 l2 l3 st h Q x => pf_S pb_u_223 rfl rfl,
  fun l0 l1 l2 st h Q x => pf_S pb_u_223 rfl rfl,
  fun L J st h Q => pf_S pb_u_223 rfl rfl,
  fun l0 l1 l3 st h Q x => pf_S pb_u_223 rfl rfl,
  fun L J h Q x => pf_ri pb_u_223 rfl rfl,
  fun l1 l2 l3 st h Q x => pf_S pb_u_223 rfl rfl,
  fun l1 l2 l3 st h Q => pf_S pb_u_223 rfl rfl,
  fun L J st h Q a => pf_gf pb_u_223 rfl rfl,
  fun L J h Q x => pf_ri pb_u_223 rfl rfl,
  fun L J st h Q => pf_S pb_u_223 rfl rfl,
  fun L J h Q x => pf_ri pb_u_223 rfl rfl⟩
theorem pb_c223 (x0 : Nat) (x1 : Int32) (h : pb_H) (Q : Option Value → pb_H → Prop) : pb_call 223 [.ref x0, .int x1] h Q ↔ pb_R 223 0 [some (.ref x0), some (.int x1), none, none] [] [] h Q := Iff.rfl
/-! 224: PlaneBenchLaw.cell([II)I -/
theorem pb_u_224 : pb_t 224 = pb_t224 := rfl
set_option maxRecDepth 100000 in
theorem pb_e224 : (∀ (l0 : Option Value) (st : List Value) (h : pb_H) (Q : Option Value → pb_H → Prop) (x : Int32), pb_R 224 0 [l0, some (.int x)] [] st h Q ↔ pb_R 224 1 [l0, some (.int x)] [] (.int x :: st) h Q) ∧
  (∀ (l1 : Option Value) (st : List Value) (h : pb_H) (Q : Option Value → pb_H → Prop) (x : Nat), pb_R 224 1 [some (.ref x), l1] [] st h Q ↔ pb_R 224 2 [some (.ref x), l1] [] (.ref x :: st) h Q) ∧
  (∀ (l1 : Option Value) (st : List Value) (h : pb_H) (Q : Option Value → pb_H → Prop), pb_R 224 1 [some .null, l1] [] st h Q ↔ pb_R 224 2 [some .null, l1] [] (.null :: st) h Q) ∧
  (∀ (L : pb_L) (J : pb_J) (st : List Value) (h : pb_H) (Q : Option Value → pb_H → Prop) (a : Nat), pb_R 224 2 L J (.ref a :: st) h Q ↔ pb_o (pb_al2 (h.2 a)) (fun n => pb_R 224 3 L J (.int (Int32.ofNat n) :: st) h Q)) ∧
  (∀ (L : pb_L) (J : pb_J) (st : List Value) (h : pb_H) (Q : Option Value → pb_H → Prop) (x y : Int32), pb_R 224 3 L J (.int y :: .int x :: st) h Q ↔ if y ≤ x then pb_R 224 12 L J st h Q else pb_R 224 6 L J st h Q) ∧
  (∀ (l1 : Option Value) (st : List Value) (h : pb_H) (Q : Option Value → pb_H → Prop) (x : Nat), pb_R 224 6 [some (.ref x), l1] [] st h Q ↔ pb_R 224 7 [some (.ref x), l1] [] (.ref x :: st) h Q) ∧
  (∀ (l1 : Option Value) (st : List Value) (h : pb_H) (Q : Option Value → pb_H → Prop), pb_R 224 6 [some .null, l1] [] st h Q ↔ pb_R 224 7 [some .null, l1] [] (.null :: st) h Q) ∧
  (∀ (l0 : Option Value) (st : List Value) (h : pb_H) (Q : Option Value → pb_H → Prop) (x : Int32), pb_R 224 7 [l0, some (.int x)] [] st h Q ↔ pb_R 224 8 [l0, some (.int x)] [] (.int x :: st) h Q) ∧
  (∀ (L : pb_L) (J : pb_J) (st : List Value) (h : pb_H) (Q : Option Value → pb_H → Prop) (a : Nat) (i : Int32), pb_R 224 8 L J (.int i :: .ref a :: st) h Q ↔ pb_o (pb_ai (h.2 a) i) (fun v => pb_R 224 9 L J (.int v :: st) h Q)) ∧
  (∀ (L : pb_L) (J : pb_J) (st : List Value) (h : pb_H) (Q : Option Value → pb_H → Prop), pb_R 224 9 L J st h Q ↔ pb_R 224 13 L J st h Q) ∧
  (∀ (L : pb_L) (J : pb_J) (st : List Value) (h : pb_H) (Q : Option Value → pb_H → Prop), pb_R 224 12 L J st h Q ↔ pb_R 224 13 L J (.int (0 : Int32) :: st) h Q) ∧
  (∀ (L : pb_L) (J : pb_J) (h : pb_H) (Q : Option Value → pb_H → Prop) (x : Int32), pb_R 224 13 L J [.int x] h Q ↔ Q (some (.int x)) h) := ⟨
  fun l0 st h Q x => pf_S pb_u_224 rfl rfl,
  fun l1 st h Q x => pf_S pb_u_224 rfl rfl,
  fun l1 st h Q => pf_S pb_u_224 rfl rfl,
  fun L J st h Q a => pf_le pb_u_224 rfl rfl,
  fun L J st h Q x y => pf_ic pb_u_224 rfl rfl rfl,
  fun l1 st h Q x => pf_S pb_u_224 rfl rfl,
  fun l1 st h Q => pf_S pb_u_224 rfl rfl,
  fun l0 st h Q x => pf_S pb_u_224 rfl rfl,
  fun L J st h Q a i => pf_ai pb_u_224 rfl rfl,
  fun L J st h Q => pf_S pb_u_224 rfl rfl,
  fun L J st h Q => pf_S pb_u_224 rfl rfl,
  fun L J h Q x => pf_ri pb_u_224 rfl rfl⟩
theorem pb_c224 (x0 : Nat) (x1 : Int32) (h : pb_H) (Q : Option Value → pb_H → Prop) : pb_call 224 [.ref x0, .int x1] h Q ↔ pb_R 224 0 [some (.ref x0), some (.int x1)] [] [] h Q := Iff.rfl
/-! 225: PlaneBenchLaw.law([I)Z -/
theorem pb_u_225 : pb_t 225 = pb_t225 := rfl
set_option maxRecDepth 100000 in
theorem pb_q225_28 (l0 l1 l2 : Option Value) (st : List Value) (h : pb_H) (Q : Option Value → pb_H → Prop) (x : Int32) : pb_R 225 28 [l0, l1, l2, some (.int x)] [] st h Q ↔ pb_R 225 29 [l0, l1, l2, some (.int x)] [] (.int x :: st) h Q := pf_S pb_u_225 rfl rfl
set_option maxRecDepth 100000 in
theorem pb_q225_43 (L : pb_L) (J : pb_J) (st : List Value) (h : pb_H) (Q : Option Value → pb_H → Prop) (x : Int32) : pb_R 225 43 L J (.int x :: st) h Q ↔ if x = 0 then pb_R 225 116 L J st h Q else (if x = 1 then pb_R 225 179 L J st h Q else (if x = 2 then pb_R 225 202 L J st h Q else (if x = 3 then pb_R 225 215 L J st h Q else (if x = 4 then pb_R 225 228 L J st h Q else (if x = 5 then pb_R 225 251 L J st h Q else (if x = 6 then pb_R 225 284 L J st h Q else (if x = 7 then pb_R 225 327 L J st h Q else (if x = 8 then pb_R 225 360 L J st h Q else (if x = 9 then pb_R 225 383 L J st h Q else (if x = 10 then pb_R 225 396 L J st h Q else (if x = 11 then pb_R 225 419 L J st h Q else (if x = 12 then pb_R 225 442 L J st h Q else (if x = 13 then pb_R 225 475 L J st h Q else (if x = 14 then pb_R 225 498 L J st h Q else (pb_R 225 521 L J st h Q))))))))))))))) := by
  by_cases c0 : x = 0
  · subst c0
    rw [if_pos rfl]
    exact pf_S pb_u_225 rfl rfl
  rw [if_neg c0]
  by_cases c1 : x = 1
  · subst c1
    rw [if_pos rfl]
    exact pf_S pb_u_225 rfl rfl
  rw [if_neg c1]
  by_cases c2 : x = 2
  · subst c2
    rw [if_pos rfl]
    exact pf_S pb_u_225 rfl rfl
  rw [if_neg c2]
  by_cases c3 : x = 3
  · subst c3
    rw [if_pos rfl]
    exact pf_S pb_u_225 rfl rfl
  rw [if_neg c3]
  by_cases c4 : x = 4
  · subst c4
    rw [if_pos rfl]
    exact pf_S pb_u_225 rfl rfl
  rw [if_neg c4]
  by_cases c5 : x = 5
  · subst c5
    rw [if_pos rfl]
    exact pf_S pb_u_225 rfl rfl
  rw [if_neg c5]
  by_cases c6 : x = 6
  · subst c6
    rw [if_pos rfl]
    exact pf_S pb_u_225 rfl rfl
  rw [if_neg c6]
  by_cases c7 : x = 7
  · subst c7
    rw [if_pos rfl]
    exact pf_S pb_u_225 rfl rfl
  rw [if_neg c7]
  by_cases c8 : x = 8
  · subst c8
    rw [if_pos rfl]
    exact pf_S pb_u_225 rfl rfl
  rw [if_neg c8]
  by_cases c9 : x = 9
  · subst c9
    rw [if_pos rfl]
    exact pf_S pb_u_225 rfl rfl
  rw [if_neg c9]
  by_cases c10 : x = 10
  · subst c10
    rw [if_pos rfl]
    exact pf_S pb_u_225 rfl rfl
  rw [if_neg c10]
  by_cases c11 : x = 11
  · subst c11
    rw [if_pos rfl]
    exact pf_S pb_u_225 rfl rfl
  rw [if_neg c11]
  by_cases c12 : x = 12
  · subst c12
    rw [if_pos rfl]
    exact pf_S pb_u_225 rfl rfl
  rw [if_neg c12]
  by_cases c13 : x = 13
  · subst c13
    rw [if_pos rfl]
    exact pf_S pb_u_225 rfl rfl
  rw [if_neg c13]
  by_cases c14 : x = 14
  · subst c14
    rw [if_pos rfl]
    exact pf_S pb_u_225 rfl rfl
  rw [if_neg c14]
  refine pf_S pb_u_225 rfl ?_
  have hout : x.toInt < 0 ∨ 14 < x.toInt := by
    apply Classical.byContradiction
    intro hc
    have h2 : x.toInt = 0 ∨ x.toInt = 1 ∨ x.toInt = 2 ∨ x.toInt = 3 ∨ x.toInt = 4 ∨ x.toInt = 5 ∨ x.toInt = 6 ∨ x.toInt = 7 ∨ x.toInt = 8 ∨ x.toInt = 9 ∨ x.toInt = 10 ∨ x.toInt = 11 ∨ x.toInt = 12 ∨ x.toInt = 13 ∨ x.toInt = 14 := by omega
    rcases h2 with h2 | h2 | h2 | h2 | h2 | h2 | h2 | h2 | h2 | h2 | h2 | h2 | h2 | h2 | h2
    · exact pf_ni (k := 0) (fun e => c0 (e.trans rfl)) h2
    · exact pf_ni (k := 1) (fun e => c1 (e.trans rfl)) h2
    · exact pf_ni (k := 2) (fun e => c2 (e.trans rfl)) h2
    · exact pf_ni (k := 3) (fun e => c3 (e.trans rfl)) h2
    · exact pf_ni (k := 4) (fun e => c4 (e.trans rfl)) h2
    · exact pf_ni (k := 5) (fun e => c5 (e.trans rfl)) h2
    · exact pf_ni (k := 6) (fun e => c6 (e.trans rfl)) h2
    · exact pf_ni (k := 7) (fun e => c7 (e.trans rfl)) h2
    · exact pf_ni (k := 8) (fun e => c8 (e.trans rfl)) h2
    · exact pf_ni (k := 9) (fun e => c9 (e.trans rfl)) h2
    · exact pf_ni (k := 10) (fun e => c10 (e.trans rfl)) h2
    · exact pf_ni (k := 11) (fun e => c11 (e.trans rfl)) h2
    · exact pf_ni (k := 12) (fun e => c12 (e.trans rfl)) h2
    · exact pf_ni (k := 13) (fun e => c13 (e.trans rfl)) h2
    · exact pf_ni (k := 14) (fun e => c14 (e.trans rfl)) h2
  simp only [pb_S, pb_A, pb_B, pb_C, if_pos hout]
  rfl
set_option maxRecDepth 100000 in
theorem pb_e225 : (∀ (L : pb_L) (J : pb_J) (st : List Value) (h : pb_H) (Q : Option Value → pb_H → Prop), pb_R 225 0 L J st h Q ↔ pb_R 225 3 L J (.ref h.1 :: st) (pb_new h (.inr (11, pb_df 11))) Q) ∧
  (∀ (L : pb_L) (J : pb_J) (st : List Value) (x : Nat) (h : pb_H) (Q : Option Value → pb_H → Prop), pb_R 225 3 L J (.ref x :: st) h Q ↔ pb_R 225 4 L J (.ref x :: .ref x :: st) h Q) ∧
  (∀ (l1 l2 l3 : Option Value) (st : List Value) (h : pb_H) (Q : Option Value → pb_H → Prop) (x : Nat), pb_R 225 4 [some (.ref x), l1, l2, l3] [] st h Q ↔ pb_R 225 5 [some (.ref x), l1, l2, l3] [] (.ref x :: st) h Q) ∧
  (∀ (l1 l2 l3 : Option Value) (st : List Value) (h : pb_H) (Q : Option Value → pb_H → Prop), pb_R 225 4 [some .null, l1, l2, l3] [] st h Q ↔ pb_R 225 5 [some .null, l1, l2, l3] [] (.null :: st) h Q) ∧
  (∀ (L : pb_L) (J : pb_J) (st : List Value) (h : pb_H) (Q : Option Value → pb_H → Prop), pb_R 225 5 L J st h Q ↔ pb_R 225 6 L J (.int (0 : Int32) :: st) h Q) ∧
  (∀ (L : pb_L) (J : pb_J) (h : pb_H) (Q : Option Value → pb_H → Prop) (x0 : Int32) (x1 : Nat) (x2 : Nat) (x3 : Nat), pb_R 225 6 L J [.int x0, .ref x1, .ref x2, .ref x3] h Q ↔ pb_call 224 [.ref x1, .int x0] h (fun v t => pb_R 225 9 L J (v.toList ++ [.ref x2, .ref x3]) t Q)) ∧
  (∀ (L : pb_L) (J : pb_J) (h : pb_H) (Q : Option Value → pb_H → Prop) (x0 : Int32) (x1 : Nat) (x2 : Nat), pb_R 225 9 L J [.int x0, .ref x1, .ref x2] h Q ↔ pb_call 123 [.ref x1, .int x0] h (fun v t => pb_R 225 12 L J (v.toList ++ [.ref x2]) t Q)) ∧
  (∀ (l0 l1 l2 l3 : Option Value) (st : List Value) (h : pb_H) (Q : Option Value → pb_H → Prop) (x : Nat), pb_R 225 12 [l0, l1, l2, l3] [] (.ref x :: st) h Q ↔ pb_R 225 13 [l0, some (.ref x), l2, l3] [] st h Q) ∧
  (∀ (l0 l1 l2 l3 : Option Value) (st : List Value) (h : pb_H) (Q : Option Value → pb_H → Prop), pb_R 225 12 [l0, l1, l2, l3] [] (.null :: st) h Q ↔ pb_R 225 13 [l0, some .null, l2, l3] [] st h Q) ∧
  (∀ (L : pb_L) (J : pb_J) (st : List Value) (h : pb_H) (Q : Option Value → pb_H → Prop), pb_R 225 13 L J st h Q ↔ pb_R 225 16 L J (.ref h.1 :: st) (pb_new h (.inr (12, pb_df 12))) Q) ∧
  (∀ (L : pb_L) (J : pb_J) (st : List Value) (x : Nat) (h : pb_H) (Q : Option Value → pb_H → Prop), pb_R 225 16 L J (.ref x :: st) h Q ↔ pb_R 225 17 L J (.ref x :: .ref x :: st) h Q) ∧
  (∀ (l1 l2 l3 : Option Value) (st : List Value) (h : pb_H) (Q : Option Value → pb_H → Prop) (x : Nat), pb_R 225 17 [some (.ref x), l1, l2, l3] [] st h Q ↔ pb_R 225 18 [some (.ref x), l1, l2, l3] [] (.ref x :: st) h Q) ∧
  (∀ (l1 l2 l3 : Option Value) (st : List Value) (h : pb_H) (Q : Option Value → pb_H → Prop), pb_R 225 17 [some .null, l1, l2, l3] [] st h Q ↔ pb_R 225 18 [some .null, l1, l2, l3] [] (.null :: st) h Q) ∧
  (∀ (L : pb_L) (J : pb_J) (st : List Value) (h : pb_H) (Q : Option Value → pb_H → Prop), pb_R 225 18 L J st h Q ↔ pb_R 225 19 L J (.int (0 : Int32) :: st) h Q) ∧
  (∀ (L : pb_L) (J : pb_J) (h : pb_H) (Q : Option Value → pb_H → Prop) (x0 : Int32) (x1 : Nat) (x2 : Nat) (x3 : Nat), pb_R 225 19 L J [.int x0, .ref x1, .ref x2, .ref x3] h Q ↔ pb_call 224 [.ref x1, .int x0] h (fun v t => pb_R 225 22 L J (v.toList ++ [.ref x2, .ref x3]) t Q)) ∧
  (∀ (L : pb_L) (J : pb_J) (h : pb_H) (Q : Option Value → pb_H → Prop) (x0 : Int32) (x1 : Nat) (x2 : Nat), pb_R 225 22 L J [.int x0, .ref x1, .ref x2] h Q ↔ pb_call 139 [.ref x1, .int x0] h (fun v t => pb_R 225 25 L J (v.toList ++ [.ref x2]) t Q)) ∧
  (∀ (l0 l1 l2 l3 : Option Value) (st : List Value) (h : pb_H) (Q : Option Value → pb_H → Prop) (x : Nat), pb_R 225 25 [l0, l1, l2, l3] [] (.ref x :: st) h Q ↔ pb_R 225 26 [l0, l1, some (.ref x), l3] [] st h Q) ∧
  (∀ (l0 l1 l2 l3 : Option Value) (st : List Value) (h : pb_H) (Q : Option Value → pb_H → Prop), pb_R 225 25 [l0, l1, l2, l3] [] (.null :: st) h Q ↔ pb_R 225 26 [l0, l1, some .null, l3] [] st h Q) ∧
  (∀ (L : pb_L) (J : pb_J) (st : List Value) (h : pb_H) (Q : Option Value → pb_H → Prop), pb_R 225 26 L J st h Q ↔ pb_R 225 27 L J (.int (1 : Int32) :: st) h Q) ∧
  (∀ (l0 l1 l2 l3 : Option Value) (st : List Value) (h : pb_H) (Q : Option Value → pb_H → Prop) (x : Int32), pb_R 225 27 [l0, l1, l2, l3] [] (.int x :: st) h Q ↔ pb_R 225 28 [l0, l1, l2, some (.int x)] [] st h Q) ∧
  (∀ (l1 l2 l3 : Option Value) (st : List Value) (h : pb_H) (Q : Option Value → pb_H → Prop) (x : Nat), pb_R 225 29 [some (.ref x), l1, l2, l3] [] st h Q ↔ pb_R 225 30 [some (.ref x), l1, l2, l3] [] (.ref x :: st) h Q) ∧
  (∀ (l1 l2 l3 : Option Value) (st : List Value) (h : pb_H) (Q : Option Value → pb_H → Prop), pb_R 225 29 [some .null, l1, l2, l3] [] st h Q ↔ pb_R 225 30 [some .null, l1, l2, l3] [] (.null :: st) h Q) ∧
  (∀ (L : pb_L) (J : pb_J) (st : List Value) (h : pb_H) (Q : Option Value → pb_H → Prop) (a : Nat), pb_R 225 30 L J (.ref a :: st) h Q ↔ pb_o (pb_al2 (h.2 a)) (fun n => pb_R 225 31 L J (.int (Int32.ofNat n) :: st) h Q)) ∧
  (∀ (L : pb_L) (J : pb_J) (st : List Value) (h : pb_H) (Q : Option Value → pb_H → Prop), pb_R 225 31 L J st h Q ↔ pb_R 225 33 L J (.int (6 : Int32) :: st) h Q) ∧
  (∀ (L : pb_L) (J : pb_J) (st : List Value) (x y : Int32) (h : pb_H) (Q : Option Value → pb_H → Prop), pb_R 225 33 L J (.int y :: .int x :: st) h Q ↔ pb_R 225 34 L J (.int (x - y) :: st) h Q) ∧
  (∀ (L : pb_L) (J : pb_J) (st : List Value) (h : pb_H) (Q : Option Value → pb_H → Prop) (x y : Int32), pb_R 225 34 L J (.int y :: .int x :: st) h Q ↔ if y < x then pb_R 225 527 L J st h Q else pb_R 225 37 L J st h Q) ∧
  (∀ (l1 l2 l3 : Option Value) (st : List Value) (h : pb_H) (Q : Option Value → pb_H → Prop) (x : Nat), pb_R 225 37 [some (.ref x), l1, l2, l3] [] st h Q ↔ pb_R 225 38 [some (.ref x), l1, l2, l3] [] (.ref x :: st) h Q) ∧
  (∀ (l1 l2 l3 : Option Value) (st : List Value) (h : pb_H) (Q : Option Value → pb_H → Prop), pb_R 225 37 [some .null, l1, l2, l3] [] st h Q ↔ pb_R 225 38 [some .null, l1, l2, l3] [] (.null :: st) h Q) ∧
  (∀ (l0 l1 l2 : Option Value) (st : List Value) (h : pb_H) (Q : Option Value → pb_H → Prop) (x : Int32), pb_R 225 38 [l0, l1, l2, some (.int x)] [] st h Q ↔ pb_R 225 39 [l0, l1, l2, some (.int x)] [] (.int x :: st) h Q) ∧
  (∀ (L : pb_L) (J : pb_J) (st : List Value) (h : pb_H) (Q : Option Value → pb_H → Prop) (a : Nat) (i : Int32), pb_R 225 39 L J (.int i :: .ref a :: st) h Q ↔ pb_o (pb_ai (h.2 a) i) (fun v => pb_R 225 40 L J (.int v :: st) h Q)) ∧
  (∀ (L : pb_L) (J : pb_J) (st : List Value) (h : pb_H) (Q : Option Value → pb_H → Prop), pb_R 225 40 L J st h Q ↔ pb_R 225 42 L J (.int (15 : Int32) :: st) h Q) ∧
  (∀ (L : pb_L) (J : pb_J) (st : List Value) (x y : Int32) (h : pb_H) (Q : Option Value → pb_H → Prop), pb_R 225 42 L J (.int y :: .int x :: st) h Q ↔ pb_R 225 43 L J (.int (x &&& y) :: st) h Q) ∧
  (∀ (L : pb_L) (J : pb_J) (st : List Value) (h : pb_H) (Q : Option Value → pb_H → Prop) (x : Int32), pb_R 225 43 L J (.int x :: st) h Q ↔ if x = 0 then pb_R 225 116 L J st h Q else (if x = 1 then pb_R 225 179 L J st h Q else (if x = 2 then pb_R 225 202 L J st h Q else (if x = 3 then pb_R 225 215 L J st h Q else (if x = 4 then pb_R 225 228 L J st h Q else (if x = 5 then pb_R 225 251 L J st h Q else (if x = 6 then pb_R 225 284 L J st h Q else (if x = 7 then pb_R 225 327 L J st h Q else (if x = 8 then pb_R 225 360 L J st h Q else (if x = 9 then pb_R 225 383 L J st h Q else (if x = 10 then pb_R 225 396 L J st h Q else (if x = 11 then pb_R 225 419 L J st h Q else (if x = 12 then pb_R 225 442 L J st h Q else (if x = 13 then pb_R 225 475 L J st h Q else (if x = 14 then pb_R 225 498 L J st h Q else (pb_R 225 521 L J st h Q)))))))))))))))) ∧
  (∀ (l0 l2 l3 : Option Value) (st : List Value) (h : pb_H) (Q : Option Value → pb_H → Prop) (x : Nat), pb_R 225 116 [l0, some (.ref x), l2, l3] [] st h Q ↔ pb_R 225 117 [l0, some (.ref x), l2, l3] [] (.ref x :: st) h Q) ∧
  (∀ (l0 l2 l3 : Option Value) (st : List Value) (h : pb_H) (Q : Option Value → pb_H → Prop), pb_R 225 116 [l0, some .null, l2, l3] [] st h Q ↔ pb_R 225 117 [l0, some .null, l2, l3] [] (.null :: st) h Q) ∧
  (∀ (l1 l2 l3 : Option Value) (st : List Value) (h : pb_H) (Q : Option Value → pb_H → Prop) (x : Nat), pb_R 225 117 [some (.ref x), l1, l2, l3] [] st h Q ↔ pb_R 225 118 [some (.ref x), l1, l2, l3] [] (.ref x :: st) h Q) ∧
  (∀ (l1 l2 l3 : Option Value) (st : List Value) (h : pb_H) (Q : Option Value → pb_H → Prop), pb_R 225 117 [some .null, l1, l2, l3] [] st h Q ↔ pb_R 225 118 [some .null, l1, l2, l3] [] (.null :: st) h Q) ∧
  (∀ (l0 l1 l2 : Option Value) (st : List Value) (h : pb_H) (Q : Option Value → pb_H → Prop) (x : Int32), pb_R 225 118 [l0, l1, l2, some (.int x)] [] st h Q ↔ pb_R 225 119 [l0, l1, l2, some (.int x)] [] (.int x :: st) h Q) ∧
  (∀ (L : pb_L) (J : pb_J) (st : List Value) (h : pb_H) (Q : Option Value → pb_H → Prop), pb_R 225 119 L J st h Q ↔ pb_R 225 120 L J (.int (1 : Int32) :: st) h Q) ∧
  (∀ (L : pb_L) (J : pb_J) (st : List Value) (x y : Int32) (h : pb_H) (Q : Option Value → pb_H → Prop), pb_R 225 120 L J (.int y :: .int x :: st) h Q ↔ pb_R 225 121 L J (.int (x + y) :: st) h Q) ∧
  (∀ (L : pb_L) (J : pb_J) (st : List Value) (h : pb_H) (Q : Option Value → pb_H → Prop) (a : Nat) (i : Int32), pb_R 225 121 L J (.int i :: .ref a :: st) h Q ↔ pb_o (pb_ai (h.2 a) i) (fun v => pb_R 225 122 L J (.int v :: st) h Q)) ∧
  (∀ (l1 l2 l3 : Option Value) (st : List Value) (h : pb_H) (Q : Option Value → pb_H → Prop) (x : Nat), pb_R 225 122 [some (.ref x), l1, l2, l3] [] st h Q ↔ pb_R 225 123 [some (.ref x), l1, l2, l3] [] (.ref x :: st) h Q) ∧
  (∀ (l1 l2 l3 : Option Value) (st : List Value) (h : pb_H) (Q : Option Value → pb_H → Prop), pb_R 225 122 [some .null, l1, l2, l3] [] st h Q ↔ pb_R 225 123 [some .null, l1, l2, l3] [] (.null :: st) h Q) ∧
  (∀ (l0 l1 l2 : Option Value) (st : List Value) (h : pb_H) (Q : Option Value → pb_H → Prop) (x : Int32), pb_R 225 123 [l0, l1, l2, some (.int x)] [] st h Q ↔ pb_R 225 124 [l0, l1, l2, some (.int x)] [] (.int x :: st) h Q) ∧
  (∀ (L : pb_L) (J : pb_J) (st : List Value) (h : pb_H) (Q : Option Value → pb_H → Prop), pb_R 225 124 L J st h Q ↔ pb_R 225 125 L J (.int (2 : Int32) :: st) h Q) ∧
  (∀ (L : pb_L) (J : pb_J) (st : List Value) (x y : Int32) (h : pb_H) (Q : Option Value → pb_H → Prop), pb_R 225 125 L J (.int y :: .int x :: st) h Q ↔ pb_R 225 126 L J (.int (x + y) :: st) h Q) ∧
  (∀ (L : pb_L) (J : pb_J) (st : List Value) (h : pb_H) (Q : Option Value → pb_H → Prop) (a : Nat) (i : Int32), pb_R 225 126 L J (.int i :: .ref a :: st) h Q ↔ pb_o (pb_ai (h.2 a) i) (fun v => pb_R 225 127 L J (.int v :: st) h Q)) ∧
  (∀ (l1 l2 l3 : Option Value) (st : List Value) (h : pb_H) (Q : Option Value → pb_H → Prop) (x : Nat), pb_R 225 127 [some (.ref x), l1, l2, l3] [] st h Q ↔ pb_R 225 128 [some (.ref x), l1, l2, l3] [] (.ref x :: st) h Q) ∧
  (∀ (l1 l2 l3 : Option Value) (st : List Value) (h : pb_H) (Q : Option Value → pb_H → Prop), pb_R 225 127 [some .null, l1, l2, l3] [] st h Q ↔ pb_R 225 128 [some .null, l1, l2, l3] [] (.null :: st) h Q) ∧
  (∀ (l0 l1 l2 : Option Value) (st : List Value) (h : pb_H) (Q : Option Value → pb_H → Prop) (x : Int32), pb_R 225 128 [l0, l1, l2, some (.int x)] [] st h Q ↔ pb_R 225 129 [l0, l1, l2, some (.int x)] [] (.int x :: st) h Q) ∧
  (∀ (L : pb_L) (J : pb_J) (st : List Value) (h : pb_H) (Q : Option Value → pb_H → Prop), pb_R 225 129 L J st h Q ↔ pb_R 225 130 L J (.int (3 : Int32) :: st) h Q) ∧
  (∀ (L : pb_L) (J : pb_J) (st : List Value) (x y : Int32) (h : pb_H) (Q : Option Value → pb_H → Prop), pb_R 225 130 L J (.int y :: .int x :: st) h Q ↔ pb_R 225 131 L J (.int (x + y) :: st) h Q) ∧
  (∀ (L : pb_L) (J : pb_J) (st : List Value) (h : pb_H) (Q : Option Value → pb_H → Prop) (a : Nat) (i : Int32), pb_R 225 131 L J (.int i :: .ref a :: st) h Q ↔ pb_o (pb_ai (h.2 a) i) (fun v => pb_R 225 132 L J (.int v :: st) h Q)) ∧
  (∀ (l1 l2 l3 : Option Value) (st : List Value) (h : pb_H) (Q : Option Value → pb_H → Prop) (x : Nat), pb_R 225 132 [some (.ref x), l1, l2, l3] [] st h Q ↔ pb_R 225 133 [some (.ref x), l1, l2, l3] [] (.ref x :: st) h Q) ∧
  (∀ (l1 l2 l3 : Option Value) (st : List Value) (h : pb_H) (Q : Option Value → pb_H → Prop), pb_R 225 132 [some .null, l1, l2, l3] [] st h Q ↔ pb_R 225 133 [some .null, l1, l2, l3] [] (.null :: st) h Q) ∧
  (∀ (l0 l1 l2 : Option Value) (st : List Value) (h : pb_H) (Q : Option Value → pb_H → Prop) (x : Int32), pb_R 225 133 [l0, l1, l2, some (.int x)] [] st h Q ↔ pb_R 225 134 [l0, l1, l2, some (.int x)] [] (.int x :: st) h Q) ∧
  (∀ (L : pb_L) (J : pb_J) (st : List Value) (h : pb_H) (Q : Option Value → pb_H → Prop), pb_R 225 134 L J st h Q ↔ pb_R 225 135 L J (.int (4 : Int32) :: st) h Q) ∧
  (∀ (L : pb_L) (J : pb_J) (st : List Value) (x y : Int32) (h : pb_H) (Q : Option Value → pb_H → Prop), pb_R 225 135 L J (.int y :: .int x :: st) h Q ↔ pb_R 225 136 L J (.int (x + y) :: st) h Q) ∧
  (∀ (L : pb_L) (J : pb_J) (st : List Value) (h : pb_H) (Q : Option Value → pb_H → Prop) (a : Nat) (i : Int32), pb_R 225 136 L J (.int i :: .ref a :: st) h Q ↔ pb_o (pb_ai (h.2 a) i) (fun v => pb_R 225 137 L J (.int v :: st) h Q)) ∧
  (∀ (l1 l2 l3 : Option Value) (st : List Value) (h : pb_H) (Q : Option Value → pb_H → Prop) (x : Nat), pb_R 225 137 [some (.ref x), l1, l2, l3] [] st h Q ↔ pb_R 225 138 [some (.ref x), l1, l2, l3] [] (.ref x :: st) h Q) ∧
  (∀ (l1 l2 l3 : Option Value) (st : List Value) (h : pb_H) (Q : Option Value → pb_H → Prop), pb_R 225 137 [some .null, l1, l2, l3] [] st h Q ↔ pb_R 225 138 [some .null, l1, l2, l3] [] (.null :: st) h Q) ∧
  (∀ (l0 l1 l2 : Option Value) (st : List Value) (h : pb_H) (Q : Option Value → pb_H → Prop) (x : Int32), pb_R 225 138 [l0, l1, l2, some (.int x)] [] st h Q ↔ pb_R 225 139 [l0, l1, l2, some (.int x)] [] (.int x :: st) h Q) ∧
  (∀ (L : pb_L) (J : pb_J) (st : List Value) (h : pb_H) (Q : Option Value → pb_H → Prop), pb_R 225 139 L J st h Q ↔ pb_R 225 140 L J (.int (5 : Int32) :: st) h Q) ∧
  (∀ (L : pb_L) (J : pb_J) (st : List Value) (x y : Int32) (h : pb_H) (Q : Option Value → pb_H → Prop), pb_R 225 140 L J (.int y :: .int x :: st) h Q ↔ pb_R 225 141 L J (.int (x + y) :: st) h Q) ∧
  (∀ (L : pb_L) (J : pb_J) (st : List Value) (h : pb_H) (Q : Option Value → pb_H → Prop) (a : Nat) (i : Int32), pb_R 225 141 L J (.int i :: .ref a :: st) h Q ↔ pb_o (pb_ai (h.2 a) i) (fun v => pb_R 225 142 L J (.int v :: st) h Q)) ∧
  (∀ (L : pb_L) (J : pb_J) (h : pb_H) (Q : Option Value → pb_H → Prop) (x0 : Int32) (x1 : Int32) (x2 : Int32) (x3 : Int32) (x4 : Int32) (x5 : Nat), pb_R 225 142 L J [.int x0, .int x1, .int x2, .int x3, .int x4, .ref x5] h Q ↔ pb_is0 (h.2 x5) 11 = true ∧ pb_call 124 [.ref x5, .int x4, .int x3, .int x2, .int x1, .int x0] h (fun v t => pb_R 225 145 L J (v.toList ++ []) t Q)) ∧
  (∀ (l0 l1 l3 : Option Value) (st : List Value) (h : pb_H) (Q : Option Value → pb_H → Prop) (x : Nat), pb_R 225 145 [l0, l1, some (.ref x), l3] [] st h Q ↔ pb_R 225 146 [l0, l1, some (.ref x), l3] [] (.ref x :: st) h Q) ∧
  (∀ (l0 l1 l3 : Option Value) (st : List Value) (h : pb_H) (Q : Option Value → pb_H → Prop), pb_R 225 145 [l0, l1, some .null, l3] [] st h Q ↔ pb_R 225 146 [l0, l1, some .null, l3] [] (.null :: st) h Q) ∧
  (∀ (l1 l2 l3 : Option Value) (st : List Value) (h : pb_H) (Q : Option Value → pb_H → Prop) (x : Nat), pb_R 225 146 [some (.ref x), l1, l2, l3] [] st h Q ↔ pb_R 225 147 [some (.ref x), l1, l2, l3] [] (.ref x :: st) h Q) ∧
  (∀ (l1 l2 l3 : Option Value) (st : List Value) (h : pb_H) (Q : Option Value → pb_H → Prop), pb_R 225 146 [some .null, l1, l2, l3] [] st h Q ↔ pb_R 225 147 [some .null, l1, l2, l3] [] (.null :: st) h Q) ∧
  (∀ (l0 l1 l2 : Option Value) (st : List Value) (h : pb_H) (Q : Option Value → pb_H → Prop) (x : Int32), pb_R 225 147 [l0, l1, l2, some (.int x)] [] st h Q ↔ pb_R 225 148 [l0, l1, l2, some (.int x)] [] (.int x :: st) h Q) ∧
  (∀ (L : pb_L) (J : pb_J) (st : List Value) (h : pb_H) (Q : Option Value → pb_H → Prop), pb_R 225 148 L J st h Q ↔ pb_R 225 149 L J (.int (1 : Int32) :: st) h Q) ∧
  (∀ (L : pb_L) (J : pb_J) (st : List Value) (x y : Int32) (h : pb_H) (Q : Option Value → pb_H → Prop), pb_R 225 149 L J (.int y :: .int x :: st) h Q ↔ pb_R 225 150 L J (.int (x + y) :: st) h Q) ∧
  (∀ (L : pb_L) (J : pb_J) (st : List Value) (h : pb_H) (Q : Option Value → pb_H → Prop) (a : Nat) (i : Int32), pb_R 225 150 L J (.int i :: .ref a :: st) h Q ↔ pb_o (pb_ai (h.2 a) i) (fun v => pb_R 225 151 L J (.int v :: st) h Q)) ∧
  (∀ (l1 l2 l3 : Option Value) (st : List Value) (h : pb_H) (Q : Option Value → pb_H → Prop) (x : Nat), pb_R 225 151 [some (.ref x), l1, l2, l3] [] st h Q ↔ pb_R 225 152 [some (.ref x), l1, l2, l3] [] (.ref x :: st) h Q) ∧
  (∀ (l1 l2 l3 : Option Value) (st : List Value) (h : pb_H) (Q : Option Value → pb_H → Prop), pb_R 225 151 [some .null, l1, l2, l3] [] st h Q ↔ pb_R 225 152 [some .null, l1, l2, l3] [] (.null :: st) h Q) ∧
  (∀ (l0 l1 l2 : Option Value) (st : List Value) (h : pb_H) (Q : Option Value → pb_H → Prop) (x : Int32), pb_R 225 152 [l0, l1, l2, some (.int x)] [] st h Q ↔ pb_R 225 153 [l0, l1, l2, some (.int x)] [] (.int x :: st) h Q) ∧
  (∀ (L : pb_L) (J : pb_J) (st : List Value) (h : pb_H) (Q : Option Value → pb_H → Prop), pb_R 225 153 L J st h Q ↔ pb_R 225 154 L J (.int (2 : Int32) :: st) h Q) ∧
  (∀ (L : pb_L) (J : pb_J) (st : List Value) (x y : Int32) (h : pb_H) (Q : Option Value → pb_H → Prop), pb_R 225 154 L J (.int y :: .int x :: st) h Q ↔ pb_R 225 155 L J (.int (x + y) :: st) h Q) ∧
  (∀ (L : pb_L) (J : pb_J) (st : List Value) (h : pb_H) (Q : Option Value → pb_H → Prop) (a : Nat) (i : Int32), pb_R 225 155 L J (.int i :: .ref a :: st) h Q ↔ pb_o (pb_ai (h.2 a) i) (fun v => pb_R 225 156 L J (.int v :: st) h Q)) ∧
  (∀ (l1 l2 l3 : Option Value) (st : List Value) (h : pb_H) (Q : Option Value → pb_H → Prop) (x : Nat), pb_R 225 156 [some (.ref x), l1, l2, l3] [] st h Q ↔ pb_R 225 157 [some (.ref x), l1, l2, l3] [] (.ref x :: st) h Q) ∧
  (∀ (l1 l2 l3 : Option Value) (st : List Value) (h : pb_H) (Q : Option Value → pb_H → Prop), pb_R 225 156 [some .null, l1, l2, l3] [] st h Q ↔ pb_R 225 157 [some .null, l1, l2, l3] [] (.null :: st) h Q) ∧
  (∀ (l0 l1 l2 : Option Value) (st : List Value) (h : pb_H) (Q : Option Value → pb_H → Prop) (x : Int32), pb_R 225 157 [l0, l1, l2, some (.int x)] [] st h Q ↔ pb_R 225 158 [l0, l1, l2, some (.int x)] [] (.int x :: st) h Q) ∧
  (∀ (L : pb_L) (J : pb_J) (st : List Value) (h : pb_H) (Q : Option Value → pb_H → Prop), pb_R 225 158 L J st h Q ↔ pb_R 225 159 L J (.int (3 : Int32) :: st) h Q) ∧
  (∀ (L : pb_L) (J : pb_J) (st : List Value) (x y : Int32) (h : pb_H) (Q : Option Value → pb_H → Prop), pb_R 225 159 L J (.int y :: .int x :: st) h Q ↔ pb_R 225 160 L J (.int (x + y) :: st) h Q) ∧
  (∀ (L : pb_L) (J : pb_J) (st : List Value) (h : pb_H) (Q : Option Value → pb_H → Prop) (a : Nat) (i : Int32), pb_R 225 160 L J (.int i :: .ref a :: st) h Q ↔ pb_o (pb_ai (h.2 a) i) (fun v => pb_R 225 161 L J (.int v :: st) h Q)) ∧
  (∀ (l1 l2 l3 : Option Value) (st : List Value) (h : pb_H) (Q : Option Value → pb_H → Prop) (x : Nat), pb_R 225 161 [some (.ref x), l1, l2, l3] [] st h Q ↔ pb_R 225 162 [some (.ref x), l1, l2, l3] [] (.ref x :: st) h Q) ∧
  (∀ (l1 l2 l3 : Option Value) (st : List Value) (h : pb_H) (Q : Option Value → pb_H → Prop), pb_R 225 161 [some .null, l1, l2, l3] [] st h Q ↔ pb_R 225 162 [some .null, l1, l2, l3] [] (.null :: st) h Q) ∧
  (∀ (l0 l1 l2 : Option Value) (st : List Value) (h : pb_H) (Q : Option Value → pb_H → Prop) (x : Int32), pb_R 225 162 [l0, l1, l2, some (.int x)] [] st h Q ↔ pb_R 225 163 [l0, l1, l2, some (.int x)] [] (.int x :: st) h Q) ∧
  (∀ (L : pb_L) (J : pb_J) (st : List Value) (h : pb_H) (Q : Option Value → pb_H → Prop), pb_R 225 163 L J st h Q ↔ pb_R 225 164 L J (.int (4 : Int32) :: st) h Q) ∧
  (∀ (L : pb_L) (J : pb_J) (st : List Value) (x y : Int32) (h : pb_H) (Q : Option Value → pb_H → Prop), pb_R 225 164 L J (.int y :: .int x :: st) h Q ↔ pb_R 225 165 L J (.int (x + y) :: st) h Q) ∧
  (∀ (L : pb_L) (J : pb_J) (st : List Value) (h : pb_H) (Q : Option Value → pb_H → Prop) (a : Nat) (i : Int32), pb_R 225 165 L J (.int i :: .ref a :: st) h Q ↔ pb_o (pb_ai (h.2 a) i) (fun v => pb_R 225 166 L J (.int v :: st) h Q)) ∧
  (∀ (l1 l2 l3 : Option Value) (st : List Value) (h : pb_H) (Q : Option Value → pb_H → Prop) (x : Nat), pb_R 225 166 [some (.ref x), l1, l2, l3] [] st h Q ↔ pb_R 225 167 [some (.ref x), l1, l2, l3] [] (.ref x :: st) h Q) ∧
  (∀ (l1 l2 l3 : Option Value) (st : List Value) (h : pb_H) (Q : Option Value → pb_H → Prop), pb_R 225 166 [some .null, l1, l2, l3] [] st h Q ↔ pb_R 225 167 [some .null, l1, l2, l3] [] (.null :: st) h Q) ∧
  (∀ (l0 l1 l2 : Option Value) (st : List Value) (h : pb_H) (Q : Option Value → pb_H → Prop) (x : Int32), pb_R 225 167 [l0, l1, l2, some (.int x)] [] st h Q ↔ pb_R 225 168 [l0, l1, l2, some (.int x)] [] (.int x :: st) h Q) ∧
  (∀ (L : pb_L) (J : pb_J) (st : List Value) (h : pb_H) (Q : Option Value → pb_H → Prop), pb_R 225 168 L J st h Q ↔ pb_R 225 169 L J (.int (5 : Int32) :: st) h Q) ∧
  (∀ (L : pb_L) (J : pb_J) (st : List Value) (x y : Int32) (h : pb_H) (Q : Option Value → pb_H → Prop), pb_R 225 169 L J (.int y :: .int x :: st) h Q ↔ pb_R 225 170 L J (.int (x + y) :: st) h Q) ∧
  (∀ (L : pb_L) (J : pb_J) (st : List Value) (h : pb_H) (Q : Option Value → pb_H → Prop) (a : Nat) (i : Int32), pb_R 225 170 L J (.int i :: .ref a :: st) h Q ↔ pb_o (pb_ai (h.2 a) i) (fun v => pb_R 225 171 L J (.int v :: st) h Q)) ∧
  (∀ (L : pb_L) (J : pb_J) (h : pb_H) (Q : Option Value → pb_H → Prop) (x0 : Int32) (x1 : Int32) (x2 : Int32) (x3 : Int32) (x4 : Int32) (x5 : Nat) (x6 : Int32), pb_R 225 171 L J [.int x0, .int x1, .int x2, .int x3, .int x4, .ref x5, .int x6] h Q ↔ pb_is0 (h.2 x5) 12 = true ∧ pb_call 141 [.ref x5, .int x4, .int x3, .int x2, .int x1, .int x0] h (fun v t => pb_R 225 174 L J (v.toList ++ [.int x6]) t Q)) ∧
  (∀ (L : pb_L) (J : pb_J) (st : List Value) (h : pb_H) (Q : Option Value → pb_H → Prop) (x y : Int32), pb_R 225 174 L J (.int y :: .int x :: st) h Q ↔ if x = y then pb_R 225 521 L J st h Q else pb_R 225 177 L J st h Q) ∧
  (∀ (L : pb_L) (J : pb_J) (st : List Value) (h : pb_H) (Q : Option Value → pb_H → Prop), pb_R 225 177 L J st h Q ↔ pb_R 225 178 L J (.int (0 : Int32) :: st) h Q) ∧
  (∀ (L : pb_L) (J : pb_J) (h : pb_H) (Q : Option Value → pb_H → Prop) (x : Int32), pb_R 225 178 L J [.int x] h Q ↔ narrow .boolean (.int x) = .int x ∧ Q (some (.int x)) h) ∧
  (∀ (l0 l2 l3 : Option Value) (st : List Value) (h : pb_H) (Q : Option Value → pb_H → Prop) (x : Nat), pb_R 225 179 [l0, some (.ref x), l2, l3] [] st h Q ↔ pb_R 225 180 [l0, some (.ref x), l2, l3] [] (.ref x :: st) h Q) ∧
  (∀ (l0 l2 l3 : Option Value) (st : List Value) (h : pb_H) (Q : Option Value → pb_H → Prop), pb_R 225 179 [l0, some .null, l2, l3] [] st h Q ↔ pb_R 225 180 [l0, some .null, l2, l3] [] (.null :: st) h Q) ∧
  (∀ (l1 l2 l3 : Option Value) (st : List Value) (h : pb_H) (Q : Option Value → pb_H → Prop) (x : Nat), pb_R 225 180 [some (.ref x), l1, l2, l3] [] st h Q ↔ pb_R 225 181 [some (.ref x), l1, l2, l3] [] (.ref x :: st) h Q) ∧
  (∀ (l1 l2 l3 : Option Value) (st : List Value) (h : pb_H) (Q : Option Value → pb_H → Prop), pb_R 225 180 [some .null, l1, l2, l3] [] st h Q ↔ pb_R 225 181 [some .null, l1, l2, l3] [] (.null :: st) h Q) ∧
  (∀ (l0 l1 l2 : Option Value) (st : List Value) (h : pb_H) (Q : Option Value → pb_H → Prop) (x : Int32), pb_R 225 181 [l0, l1, l2, some (.int x)] [] st h Q ↔ pb_R 225 182 [l0, l1, l2, some (.int x)] [] (.int x :: st) h Q) ∧
  (∀ (L : pb_L) (J : pb_J) (st : List Value) (h : pb_H) (Q : Option Value → pb_H → Prop), pb_R 225 182 L J st h Q ↔ pb_R 225 183 L J (.int (1 : Int32) :: st) h Q) ∧
  (∀ (L : pb_L) (J : pb_J) (st : List Value) (x y : Int32) (h : pb_H) (Q : Option Value → pb_H → Prop), pb_R 225 183 L J (.int y :: .int x :: st) h Q ↔ pb_R 225 184 L J (.int (x + y) :: st) h Q) ∧
  (∀ (L : pb_L) (J : pb_J) (st : List Value) (h : pb_H) (Q : Option Value → pb_H → Prop) (a : Nat) (i : Int32), pb_R 225 184 L J (.int i :: .ref a :: st) h Q ↔ pb_o (pb_ai (h.2 a) i) (fun v => pb_R 225 185 L J (.int v :: st) h Q)) ∧
  (∀ (L : pb_L) (J : pb_J) (h : pb_H) (Q : Option Value → pb_H → Prop) (x0 : Int32) (x1 : Nat), pb_R 225 185 L J [.int x0, .ref x1] h Q ↔ pb_is0 (h.2 x1) 11 = true ∧ pb_call 125 [.ref x1, .int x0] h (fun v t => pb_R 225 188 L J (v.toList ++ []) t Q)) ∧
  (∀ (l0 l1 l3 : Option Value) (st : List Value) (h : pb_H) (Q : Option Value → pb_H → Prop) (x : Nat), pb_R 225 188 [l0, l1, some (.ref x), l3] [] st h Q ↔ pb_R 225 189 [l0, l1, some (.ref x), l3] [] (.ref x :: st) h Q) ∧
  (∀ (l0 l1 l3 : Option Value) (st : List Value) (h : pb_H) (Q : Option Value → pb_H → Prop), pb_R 225 188 [l0, l1, some .null, l3] [] st h Q ↔ pb_R 225 189 [l0, l1, some .null, l3] [] (.null :: st) h Q) ∧
  (∀ (l1 l2 l3 : Option Value) (st : List Value) (h : pb_H) (Q : Option Value → pb_H → Prop) (x : Nat), pb_R 225 189 [some (.ref x), l1, l2, l3] [] st h Q ↔ pb_R 225 190 [some (.ref x), l1, l2, l3] [] (.ref x :: st) h Q) ∧
  (∀ (l1 l2 l3 : Option Value) (st : List Value) (h : pb_H) (Q : Option Value → pb_H → Prop), pb_R 225 189 [some .null, l1, l2, l3] [] st h Q ↔ pb_R 225 190 [some .null, l1, l2, l3] [] (.null :: st) h Q) ∧
  (∀ (l0 l1 l2 : Option Value) (st : List Value) (h : pb_H) (Q : Option Value → pb_H → Prop) (x : Int32), pb_R 225 190 [l0, l1, l2, some (.int x)] [] st h Q ↔ pb_R 225 191 [l0, l1, l2, some (.int x)] [] (.int x :: st) h Q) ∧
  (∀ (L : pb_L) (J : pb_J) (st : List Value) (h : pb_H) (Q : Option Value → pb_H → Prop), pb_R 225 191 L J st h Q ↔ pb_R 225 192 L J (.int (1 : Int32) :: st) h Q) ∧
  (∀ (L : pb_L) (J : pb_J) (st : List Value) (x y : Int32) (h : pb_H) (Q : Option Value → pb_H → Prop), pb_R 225 192 L J (.int y :: .int x :: st) h Q ↔ pb_R 225 193 L J (.int (x + y) :: st) h Q) ∧
  (∀ (L : pb_L) (J : pb_J) (st : List Value) (h : pb_H) (Q : Option Value → pb_H → Prop) (a : Nat) (i : Int32), pb_R 225 193 L J (.int i :: .ref a :: st) h Q ↔ pb_o (pb_ai (h.2 a) i) (fun v => pb_R 225 194 L J (.int v :: st) h Q)) ∧
  (∀ (L : pb_L) (J : pb_J) (h : pb_H) (Q : Option Value → pb_H → Prop) (x0 : Int32) (x1 : Nat) (x2 : Int32), pb_R 225 194 L J [.int x0, .ref x1, .int x2] h Q ↔ pb_is0 (h.2 x1) 12 = true ∧ pb_call 142 [.ref x1, .int x0] h (fun v t => pb_R 225 197 L J (v.toList ++ [.int x2]) t Q)) ∧
  (∀ (L : pb_L) (J : pb_J) (st : List Value) (h : pb_H) (Q : Option Value → pb_H → Prop) (x y : Int32), pb_R 225 197 L J (.int y :: .int x :: st) h Q ↔ if x = y then pb_R 225 521 L J st h Q else pb_R 225 200 L J st h Q) ∧
  (∀ (L : pb_L) (J : pb_J) (st : List Value) (h : pb_H) (Q : Option Value → pb_H → Prop), pb_R 225 200 L J st h Q ↔ pb_R 225 201 L J (.int (0 : Int32) :: st) h Q) ∧
  (∀ (L : pb_L) (J : pb_J) (h : pb_H) (Q : Option Value → pb_H → Prop) (x : Int32), pb_R 225 201 L J [.int x] h Q ↔ narrow .boolean (.int x) = .int x ∧ Q (some (.int x)) h) ∧
  (∀ (l0 l2 l3 : Option Value) (st : List Value) (h : pb_H) (Q : Option Value → pb_H → Prop) (x : Nat), pb_R 225 202 [l0, some (.ref x), l2, l3] [] st h Q ↔ pb_R 225 203 [l0, some (.ref x), l2, l3] [] (.ref x :: st) h Q) ∧
  (∀ (l0 l2 l3 : Option Value) (st : List Value) (h : pb_H) (Q : Option Value → pb_H → Prop), pb_R 225 202 [l0, some .null, l2, l3] [] st h Q ↔ pb_R 225 203 [l0, some .null, l2, l3] [] (.null :: st) h Q) ∧
  (∀ (L : pb_L) (J : pb_J) (h : pb_H) (Q : Option Value → pb_H → Prop) (x0 : Nat), pb_R 225 203 L J [.ref x0] h Q ↔ pb_is0 (h.2 x0) 11 = true ∧ pb_call 126 [.ref x0] h (fun v t => pb_R 225 206 L J (v.toList ++ []) t Q)) ∧
  (∀ (l0 l1 l3 : Option Value) (st : List Value) (h : pb_H) (Q : Option Value → pb_H → Prop) (x : Nat), pb_R 225 206 [l0, l1, some (.ref x), l3] [] st h Q ↔ pb_R 225 207 [l0, l1, some (.ref x), l3] [] (.ref x :: st) h Q) ∧
  (∀ (l0 l1 l3 : Option Value) (st : List Value) (h : pb_H) (Q : Option Value → pb_H → Prop), pb_R 225 206 [l0, l1, some .null, l3] [] st h Q ↔ pb_R 225 207 [l0, l1, some .null, l3] [] (.null :: st) h Q) ∧
  (∀ (L : pb_L) (J : pb_J) (h : pb_H) (Q : Option Value → pb_H → Prop) (x0 : Nat) (x1 : Int32), pb_R 225 207 L J [.ref x0, .int x1] h Q ↔ pb_is0 (h.2 x0) 12 = true ∧ pb_call 192 [.ref x0] h (fun v t => pb_R 225 210 L J (v.toList ++ [.int x1]) t Q)) ∧
  (∀ (L : pb_L) (J : pb_J) (st : List Value) (h : pb_H) (Q : Option Value → pb_H → Prop) (x y : Int32), pb_R 225 210 L J (.int y :: .int x :: st) h Q ↔ if x = y then pb_R 225 521 L J st h Q else pb_R 225 213 L J st h Q) ∧
  (∀ (L : pb_L) (J : pb_J) (st : List Value) (h : pb_H) (Q : Option Value → pb_H → Prop), pb_R 225 213 L J st h Q ↔ pb_R 225 214 L J (.int (0 : Int32) :: st) h Q) ∧
  (∀ (L : pb_L) (J : pb_J) (h : pb_H) (Q : Option Value → pb_H → Prop) (x : Int32), pb_R 225 214 L J [.int x] h Q ↔ narrow .boolean (.int x) = .int x ∧ Q (some (.int x)) h) ∧
  (∀ (l0 l2 l3 : Option Value) (st : List Value) (h : pb_H) (Q : Option Value → pb_H → Prop) (x : Nat), pb_R 225 215 [l0, some (.ref x), l2, l3] [] st h Q ↔ pb_R 225 216 [l0, some (.ref x), l2, l3] [] (.ref x :: st) h Q) ∧
  (∀ (l0 l2 l3 : Option Value) (st : List Value) (h : pb_H) (Q : Option Value → pb_H → Prop), pb_R 225 215 [l0, some .null, l2, l3] [] st h Q ↔ pb_R 225 216 [l0, some .null, l2, l3] [] (.null :: st) h Q) ∧
  (∀ (L : pb_L) (J : pb_J) (h : pb_H) (Q : Option Value → pb_H → Prop) (x0 : Nat), pb_R 225 216 L J [.ref x0] h Q ↔ pb_is0 (h.2 x0) 11 = true ∧ pb_call 127 [.ref x0] h (fun v t => pb_R 225 219 L J (v.toList ++ []) t Q)) ∧
  (∀ (l0 l1 l3 : Option Value) (st : List Value) (h : pb_H) (Q : Option Value → pb_H → Prop) (x : Nat), pb_R 225 219 [l0, l1, some (.ref x), l3] [] st h Q ↔ pb_R 225 220 [l0, l1, some (.ref x), l3] [] (.ref x :: st) h Q) ∧
  (∀ (l0 l1 l3 : Option Value) (st : List Value) (h : pb_H) (Q : Option Value → pb_H → Prop), pb_R 225 219 [l0, l1, some .null, l3] [] st h Q ↔ pb_R 225 220 [l0, l1, some .null, l3] [] (.null :: st) h Q) ∧
  (∀ (L : pb_L) (J : pb_J) (h : pb_H) (Q : Option Value → pb_H → Prop) (x0 : Nat) (x1 : Int32), pb_R 225 220 L J [.ref x0, .int x1] h Q ↔ pb_is0 (h.2 x0) 12 = true ∧ pb_call 201 [.ref x0] h (fun v t => pb_R 225 223 L J (v.toList ++ [.int x1]) t Q)) ∧
  (∀ (L : pb_L) (J : pb_J) (st : List Value) (h : pb_H) (Q : Option Value → pb_H → Prop) (x y : Int32), pb_R 225 223 L J (.int y :: .int x :: st) h Q ↔ if x = y then pb_R 225 521 L J st h Q else pb_R 225 226 L J st h Q) ∧
  (∀ (L : pb_L) (J : pb_J) (st : List Value) (h : pb_H) (Q : Option Value → pb_H → Prop), pb_R 225 226 L J st h Q ↔ pb_R 225 227 L J (.int (0 : Int32) :: st) h Q) ∧
  (∀ (L : pb_L) (J : pb_J) (h : pb_H) (Q : Option Value → pb_H → Prop) (x : Int32), pb_R 225 227 L J [.int x] h Q ↔ narrow .boolean (.int x) = .int x ∧ Q (some (.int x)) h) ∧
  (∀ (l0 l2 l3 : Option Value) (st : List Value) (h : pb_H) (Q : Option Value → pb_H → Prop) (x : Nat), pb_R 225 228 [l0, some (.ref x), l2, l3] [] st h Q ↔ pb_R 225 229 [l0, some (.ref x), l2, l3] [] (.ref x :: st) h Q) ∧
  (∀ (l0 l2 l3 : Option Value) (st : List Value) (h : pb_H) (Q : Option Value → pb_H → Prop), pb_R 225 228 [l0, some .null, l2, l3] [] st h Q ↔ pb_R 225 229 [l0, some .null, l2, l3] [] (.null :: st) h Q) ∧
  (∀ (l1 l2 l3 : Option Value) (st : List Value) (h : pb_H) (Q : Option Value → pb_H → Prop) (x : Nat), pb_R 225 229 [some (.ref x), l1, l2, l3] [] st h Q ↔ pb_R 225 230 [some (.ref x), l1, l2, l3] [] (.ref x :: st) h Q) ∧
  (∀ (l1 l2 l3 : Option Value) (st : List Value) (h : pb_H) (Q : Option Value → pb_H → Prop), pb_R 225 229 [some .null, l1, l2, l3] [] st h Q ↔ pb_R 225 230 [some .null, l1, l2, l3] [] (.null :: st) h Q) ∧
  (∀ (l0 l1 l2 : Option Value) (st : List Value) (h : pb_H) (Q : Option Value → pb_H → Prop) (x : Int32), pb_R 225 230 [l0, l1, l2, some (.int x)] [] st h Q ↔ pb_R 225 231 [l0, l1, l2, some (.int x)] [] (.int x :: st) h Q) ∧
  (∀ (L : pb_L) (J : pb_J) (st : List Value) (h : pb_H) (Q : Option Value → pb_H → Prop), pb_R 225 231 L J st h Q ↔ pb_R 225 232 L J (.int (1 : Int32) :: st) h Q) ∧
  (∀ (L : pb_L) (J : pb_J) (st : List Value) (x y : Int32) (h : pb_H) (Q : Option Value → pb_H → Prop), pb_R 225 232 L J (.int y :: .int x :: st) h Q ↔ pb_R 225 233 L J (.int (x + y) :: st) h Q) ∧
  (∀ (L : pb_L) (J : pb_J) (st : List Value) (h : pb_H) (Q : Option Value → pb_H → Prop) (a : Nat) (i : Int32), pb_R 225 233 L J (.int i :: .ref a :: st) h Q ↔ pb_o (pb_ai (h.2 a) i) (fun v => pb_R 225 234 L J (.int v :: st) h Q)) ∧
  (∀ (L : pb_L) (J : pb_J) (h : pb_H) (Q : Option Value → pb_H → Prop) (x0 : Int32) (x1 : Nat), pb_R 225 234 L J [.int x0, .ref x1] h Q ↔ pb_is0 (h.2 x1) 11 = true ∧ pb_call 128 [.ref x1, .int x0] h (fun v t => pb_R 225 237 L J (v.toList ++ []) t Q)) ∧
  (∀ (l0 l1 l3 : Option Value) (st : List Value) (h : pb_H) (Q : Option Value → pb_H → Prop) (x : Nat), pb_R 225 237 [l0, l1, some (.ref x), l3] [] st h Q ↔ pb_R 225 238 [l0, l1, some (.ref x), l3] [] (.ref x :: st) h Q) ∧
  (∀ (l0 l1 l3 : Option Value) (st : List Value) (h : pb_H) (Q : Option Value → pb_H → Prop), pb_R 225 237 [l0, l1, some .null, l3] [] st h Q ↔ pb_R 225 238 [l0, l1, some .null, l3] [] (.null :: st) h Q) ∧
  (∀ (l1 l2 l3 : Option Value) (st : List Value) (h : pb_H) (Q : Option Value → pb_H → Prop) (x : Nat), pb_R 225 238 [some (.ref x), l1, l2, l3] [] st h Q ↔ pb_R 225 239 [some (.ref x), l1, l2, l3] [] (.ref x :: st) h Q) ∧
  (∀ (l1 l2 l3 : Option Value) (st : List Value) (h : pb_H) (Q : Option Value → pb_H → Prop), pb_R 225 238 [some .null, l1, l2, l3] [] st h Q ↔ pb_R 225 239 [some .null, l1, l2, l3] [] (.null :: st) h Q) ∧
  (∀ (l0 l1 l2 : Option Value) (st : List Value) (h : pb_H) (Q : Option Value → pb_H → Prop) (x : Int32), pb_R 225 239 [l0, l1, l2, some (.int x)] [] st h Q ↔ pb_R 225 240 [l0, l1, l2, some (.int x)] [] (.int x :: st) h Q) ∧
  (∀ (L : pb_L) (J : pb_J) (st : List Value) (h : pb_H) (Q : Option Value → pb_H → Prop), pb_R 225 240 L J st h Q ↔ pb_R 225 241 L J (.int (1 : Int32) :: st) h Q) ∧
  (∀ (L : pb_L) (J : pb_J) (st : List Value) (x y : Int32) (h : pb_H) (Q : Option Value → pb_H → Prop), pb_R 225 241 L J (.int y :: .int x :: st) h Q ↔ pb_R 225 242 L J (.int (x + y) :: st) h Q) ∧
  (∀ (L : pb_L) (J : pb_J) (st : List Value) (h : pb_H) (Q : Option Value → pb_H → Prop) (a : Nat) (i : Int32), pb_R 225 242 L J (.int i :: .ref a :: st) h Q ↔ pb_o (pb_ai (h.2 a) i) (fun v => pb_R 225 243 L J (.int v :: st) h Q)) ∧
  (∀ (L : pb_L) (J : pb_J) (h : pb_H) (Q : Option Value → pb_H → Prop) (x0 : Int32) (x1 : Nat) (x2 : Int32), pb_R 225 243 L J [.int x0, .ref x1, .int x2] h Q ↔ pb_is0 (h.2 x1) 12 = true ∧ pb_call 202 [.ref x1, .int x0] h (fun v t => pb_R 225 246 L J (v.toList ++ [.int x2]) t Q)) ∧
  (∀ (L : pb_L) (J : pb_J) (st : List Value) (h : pb_H) (Q : Option Value → pb_H → Prop) (x y : Int32), pb_R 225 246 L J (.int y :: .int x :: st) h Q ↔ if x = y then pb_R 225 521 L J st h Q else pb_R 225 249 L J st h Q) ∧
  (∀ (L : pb_L) (J : pb_J) (st : List Value) (h : pb_H) (Q : Option Value → pb_H → Prop), pb_R 225 249 L J st h Q ↔ pb_R 225 250 L J (.int (0 : Int32) :: st) h Q) ∧
  (∀ (L : pb_L) (J : pb_J) (h : pb_H) (Q : Option Value → pb_H → Prop) (x : Int32), pb_R 225 250 L J [.int x] h Q ↔ narrow .boolean (.int x) = .int x ∧ Q (some (.int x)) h) ∧
  (∀ (l0 l2 l3 : Option Value) (st : List Value) (h : pb_H) (Q : Option Value → pb_H → Prop) (x : Nat), pb_R 225 251 [l0, some (.ref x), l2, l3] [] st h Q ↔ pb_R 225 252 [l0, some (.ref x), l2, l3] [] (.ref x :: st) h Q) ∧
  (∀ (l0 l2 l3 : Option Value) (st : List Value) (h : pb_H) (Q : Option Value → pb_H → Prop), pb_R 225 251 [l0, some .null, l2, l3] [] st h Q ↔ pb_R 225 252 [l0, some .null, l2, l3] [] (.null :: st) h Q) ∧
  (∀ (l1 l2 l3 : Option Value) (st : List Value) (h : pb_H) (Q : Option Value → pb_H → Prop) (x : Nat), pb_R 225 252 [some (.ref x), l1, l2, l3] [] st h Q ↔ pb_R 225 253 [some (.ref x), l1, l2, l3] [] (.ref x :: st) h Q) ∧
  (∀ (l1 l2 l3 : Option Value) (st : List Value) (h : pb_H) (Q : Option Value → pb_H → Prop), pb_R 225 252 [some .null, l1, l2, l3] [] st h Q ↔ pb_R 225 253 [some .null, l1, l2, l3] [] (.null :: st) h Q) ∧
  (∀ (l0 l1 l2 : Option Value) (st : List Value) (h : pb_H) (Q : Option Value → pb_H → Prop) (x : Int32), pb_R 225 253 [l0, l1, l2, some (.int x)] [] st h Q ↔ pb_R 225 254 [l0, l1, l2, some (.int x)] [] (.int x :: st) h Q) ∧
  (∀ (L : pb_L) (J : pb_J) (st : List Value) (h : pb_H) (Q : Option Value → pb_H → Prop), pb_R 225 254 L J st h Q ↔ pb_R 225 255 L J (.int (1 : Int32) :: st) h Q) ∧
  (∀ (L : pb_L) (J : pb_J) (st : List Value) (x y : Int32) (h : pb_H) (Q : Option Value → pb_H → Prop), pb_R 225 255 L J (.int y :: .int x :: st) h Q ↔ pb_R 225 256 L J (.int (x + y) :: st) h Q) ∧
  (∀ (L : pb_L) (J : pb_J) (st : List Value) (h : pb_H) (Q : Option Value → pb_H → Prop) (a : Nat) (i : Int32), pb_R 225 256 L J (.int i :: .ref a :: st) h Q ↔ pb_o (pb_ai (h.2 a) i) (fun v => pb_R 225 257 L J (.int v :: st) h Q)) ∧
  (∀ (l1 l2 l3 : Option Value) (st : List Value) (h : pb_H) (Q : Option Value → pb_H → Prop) (x : Nat), pb_R 225 257 [some (.ref x), l1, l2, l3] [] st h Q ↔ pb_R 225 258 [some (.ref x), l1, l2, l3] [] (.ref x :: st) h Q) ∧
  (∀ (l1 l2 l3 : Option Value) (st : List Value) (h : pb_H) (Q : Option Value → pb_H → Prop), pb_R 225 257 [some .null, l1, l2, l3] [] st h Q ↔ pb_R 225 258 [some .null, l1, l2, l3] [] (.null :: st) h Q) ∧
  (∀ (l0 l1 l2 : Option Value) (st : List Value) (h : pb_H) (Q : Option Value → pb_H → Prop) (x : Int32), pb_R 225 258 [l0, l1, l2, some (.int x)] [] st h Q ↔ pb_R 225 259 [l0, l1, l2, some (.int x)] [] (.int x :: st) h Q) ∧
  (∀ (L : pb_L) (J : pb_J) (st : List Value) (h : pb_H) (Q : Option Value → pb_H → Prop), pb_R 225 259 L J st h Q ↔ pb_R 225 260 L J (.int (2 : Int32) :: st) h Q) ∧
  (∀ (L : pb_L) (J : pb_J) (st : List Value) (x y : Int32) (h : pb_H) (Q : Option Value → pb_H → Prop), pb_R 225 260 L J (.int y :: .int x :: st) h Q ↔ pb_R 225 261 L J (.int (x + y) :: st) h Q) ∧
  (∀ (L : pb_L) (J : pb_J) (st : List Value) (h : pb_H) (Q : Option Value → pb_H → Prop) (a : Nat) (i : Int32), pb_R 225 261 L J (.int i :: .ref a :: st) h Q ↔ pb_o (pb_ai (h.2 a) i) (fun v => pb_R 225 262 L J (.int v :: st) h Q)) ∧
  (∀ (L : pb_L) (J : pb_J) (h : pb_H) (Q : Option Value → pb_H → Prop) (x0 : Int32) (x1 : Int32) (x2 : Nat), pb_R 225 262 L J [.int x0, .int x1, .ref x2] h Q ↔ pb_is0 (h.2 x2) 11 = true ∧ pb_call 129 [.ref x2, .int x1, .int x0] h (fun v t => pb_R 225 265 L J (v.toList ++ []) t Q)) ∧
  (∀ (l0 l1 l3 : Option Value) (st : List Value) (h : pb_H) (Q : Option Value → pb_H → Prop) (x : Nat), pb_R 225 265 [l0, l1, some (.ref x), l3] [] st h Q ↔ pb_R 225 266 [l0, l1, some (.ref x), l3] [] (.ref x :: st) h Q) ∧
  (∀ (l0 l1 l3 : Option Value) (st : List Value) (h : pb_H) (Q : Option Value → pb_H → Prop), pb_R 225 265 [l0, l1, some .null, l3] [] st h Q ↔ pb_R 225 266 [l0, l1, some .null, l3] [] (.null :: st) h Q) ∧
  (∀ (l1 l2 l3 : Option Value) (st : List Value) (h : pb_H) (Q : Option Value → pb_H → Prop) (x : Nat), pb_R 225 266 [some (.ref x), l1, l2, l3] [] st h Q ↔ pb_R 225 267 [some (.ref x), l1, l2, l3] [] (.ref x :: st) h Q) ∧
  (∀ (l1 l2 l3 : Option Value) (st : List Value) (h : pb_H) (Q : Option Value → pb_H → Prop), pb_R 225 266 [some .null, l1, l2, l3] [] st h Q ↔ pb_R 225 267 [some .null, l1, l2, l3] [] (.null :: st) h Q) ∧
  (∀ (l0 l1 l2 : Option Value) (st : List Value) (h : pb_H) (Q : Option Value → pb_H → Prop) (x : Int32), pb_R 225 267 [l0, l1, l2, some (.int x)] [] st h Q ↔ pb_R 225 268 [l0, l1, l2, some (.int x)] [] (.int x :: st) h Q) ∧
  (∀ (L : pb_L) (J : pb_J) (st : List Value) (h : pb_H) (Q : Option Value → pb_H → Prop), pb_R 225 268 L J st h Q ↔ pb_R 225 269 L J (.int (1 : Int32) :: st) h Q) ∧
  (∀ (L : pb_L) (J : pb_J) (st : List Value) (x y : Int32) (h : pb_H) (Q : Option Value → pb_H → Prop), pb_R 225 269 L J (.int y :: .int x :: st) h Q ↔ pb_R 225 270 L J (.int (x + y) :: st) h Q) ∧
  (∀ (L : pb_L) (J : pb_J) (st : List Value) (h : pb_H) (Q : Option Value → pb_H → Prop) (a : Nat) (i : Int32), pb_R 225 270 L J (.int i :: .ref a :: st) h Q ↔ pb_o (pb_ai (h.2 a) i) (fun v => pb_R 225 271 L J (.int v :: st) h Q)) ∧
  (∀ (l1 l2 l3 : Option Value) (st : List Value) (h : pb_H) (Q : Option Value → pb_H → Prop) (x : Nat), pb_R 225 271 [some (.ref x), l1, l2, l3] [] st h Q ↔ pb_R 225 272 [some (.ref x), l1, l2, l3] [] (.ref x :: st) h Q) ∧
  (∀ (l1 l2 l3 : Option Value) (st : List Value) (h : pb_H) (Q : Option Value → pb_H → Prop), pb_R 225 271 [some .null, l1, l2, l3] [] st h Q ↔ pb_R 225 272 [some .null, l1, l2, l3] [] (.null :: st) h Q) ∧
  (∀ (l0 l1 l2 : Option Value) (st : List Value) (h : pb_H) (Q : Option Value → pb_H → Prop) (x : Int32), pb_R 225 272 [l0, l1, l2, some (.int x)] [] st h Q ↔ pb_R 225 273 [l0, l1, l2, some (.int x)] [] (.int x :: st) h Q) ∧
  (∀ (L : pb_L) (J : pb_J) (st : List Value) (h : pb_H) (Q : Option Value → pb_H → Prop), pb_R 225 273 L J st h Q ↔ pb_R 225 274 L J (.int (2 : Int32) :: st) h Q) ∧
  (∀ (L : pb_L) (J : pb_J) (st : List Value) (x y : Int32) (h : pb_H) (Q : Option Value → pb_H → Prop), pb_R 225 274 L J (.int y :: .int x :: st) h Q ↔ pb_R 225 275 L J (.int (x + y) :: st) h Q) ∧
  (∀ (L : pb_L) (J : pb_J) (st : List Value) (h : pb_H) (Q : Option Value → pb_H → Prop) (a : Nat) (i : Int32), pb_R 225 275 L J (.int i :: .ref a :: st) h Q ↔ pb_o (pb_ai (h.2 a) i) (fun v => pb_R 225 276 L J (.int v :: st) h Q)) ∧
  (∀ (L : pb_L) (J : pb_J) (h : pb_H) (Q : Option Value → pb_H → Prop) (x0 : Int32) (x1 : Int32) (x2 : Nat) (x3 : Int32), pb_R 225 276 L J [.int x0, .int x1, .ref x2, .int x3] h Q ↔ pb_is0 (h.2 x2) 12 = true ∧ pb_call 204 [.ref x2, .int x1, .int x0] h (fun v t => pb_R 225 279 L J (v.toList ++ [.int x3]) t Q)) ∧
  (∀ (L : pb_L) (J : pb_J) (st : List Value) (h : pb_H) (Q : Option Value → pb_H → Prop) (x y : Int32), pb_R 225 279 L J (.int y :: .int x :: st) h Q ↔ if x = y then pb_R 225 521 L J st h Q else pb_R 225 282 L J st h Q) ∧
  (∀ (L : pb_L) (J : pb_J) (st : List Value) (h : pb_H) (Q : Option Value → pb_H → Prop), pb_R 225 282 L J st h Q ↔ pb_R 225 283 L J (.int (0 : Int32) :: st) h Q) ∧
  (∀ (L : pb_L) (J : pb_J) (h : pb_H) (Q : Option Value → pb_H → Prop) (x : Int32), pb_R 225 283 L J [.int x] h Q ↔ narrow .boolean (.int x) = .int x ∧ Q (some (.int x)) h) ∧
  (∀ (l0 l2 l3 : Option Value) (st : List Value) (h : pb_H) (Q : Option Value → pb_H → Prop) (x : Nat), pb_R 225 284 [l0, some (.ref x), l2, l3] [] st h Q ↔ pb_R 225 285 [l0, some (.ref x), l2, l3] [] (.ref x :: st) h Q) ∧
  (∀ (l0 l2 l3 : Option Value) (st : List Value) (h : pb_H) (Q : Option Value → pb_H → Prop), pb_R 225 284 [l0, some .null, l2, l3] [] st h Q ↔ pb_R 225 285 [l0, some .null, l2, l3] [] (.null :: st) h Q) ∧
  (∀ (l1 l2 l3 : Option Value) (st : List Value) (h : pb_H) (Q : Option Value → pb_H → Prop) (x : Nat), pb_R 225 285 [some (.ref x), l1, l2, l3] [] st h Q ↔ pb_R 225 286 [some (.ref x), l1, l2, l3] [] (.ref x :: st) h Q) ∧
  (∀ (l1 l2 l3 : Option Value) (st : List Value) (h : pb_H) (Q : Option Value → pb_H → Prop), pb_R 225 285 [some .null, l1, l2, l3] [] st h Q ↔ pb_R 225 286 [some .null, l1, l2, l3] [] (.null :: st) h Q) ∧
  (∀ (l0 l1 l2 : Option Value) (st : List Value) (h : pb_H) (Q : Option Value → pb_H → Prop) (x : Int32), pb_R 225 286 [l0, l1, l2, some (.int x)] [] st h Q ↔ pb_R 225 287 [l0, l1, l2, some (.int x)] [] (.int x :: st) h Q) ∧
  (∀ (L : pb_L) (J : pb_J) (st : List Value) (h : pb_H) (Q : Option Value → pb_H → Prop), pb_R 225 287 L J st h Q ↔ pb_R 225 288 L J (.int (1 : Int32) :: st) h Q) ∧
  (∀ (L : pb_L) (J : pb_J) (st : List Value) (x y : Int32) (h : pb_H) (Q : Option Value → pb_H → Prop), pb_R 225 288 L J (.int y :: .int x :: st) h Q ↔ pb_R 225 289 L J (.int (x + y) :: st) h Q) ∧
  (∀ (L : pb_L) (J : pb_J) (st : List Value) (h : pb_H) (Q : Option Value → pb_H → Prop) (a : Nat) (i : Int32), pb_R 225 289 L J (.int i :: .ref a :: st) h Q ↔ pb_o (pb_ai (h.2 a) i) (fun v => pb_R 225 290 L J (.int v :: st) h Q)) ∧
  (∀ (l1 l2 l3 : Option Value) (st : List Value) (h : pb_H) (Q : Option Value → pb_H → Prop) (x : Nat), pb_R 225 290 [some (.ref x), l1, l2, l3] [] st h Q ↔ pb_R 225 291 [some (.ref x), l1, l2, l3] [] (.ref x :: st) h Q) ∧
  (∀ (l1 l2 l3 : Option Value) (st : List Value) (h : pb_H) (Q : Option Value → pb_H → Prop), pb_R 225 290 [some .null, l1, l2, l3] [] st h Q ↔ pb_R 225 291 [some .null, l1, l2, l3] [] (.null :: st) h Q) ∧
  (∀ (l0 l1 l2 : Option Value) (st : List Value) (h : pb_H) (Q : Option Value → pb_H → Prop) (x : Int32), pb_R 225 291 [l0, l1, l2, some (.int x)] [] st h Q ↔ pb_R 225 292 [l0, l1, l2, some (.int x)] [] (.int x :: st) h Q) ∧
  (∀ (L : pb_L) (J : pb_J) (st : List Value) (h : pb_H) (Q : Option Value → pb_H → Prop), pb_R 225 292 L J st h Q ↔ pb_R 225 293 L J (.int (2 : Int32) :: st) h Q) ∧
  (∀ (L : pb_L) (J : pb_J) (st : List Value) (x y : Int32) (h : pb_H) (Q : Option Value → pb_H → Prop), pb_R 225 293 L J (.int y :: .int x :: st) h Q ↔ pb_R 225 294 L J (.int (x + y) :: st) h Q) ∧
  (∀ (L : pb_L) (J : pb_J) (st : List Value) (h : pb_H) (Q : Option Value → pb_H → Prop) (a : Nat) (i : Int32), pb_R 225 294 L J (.int i :: .ref a :: st) h Q ↔ pb_o (pb_ai (h.2 a) i) (fun v => pb_R 225 295 L J (.int v :: st) h Q)) ∧
  (∀ (l1 l2 l3 : Option Value) (st : List Value) (h : pb_H) (Q : Option Value → pb_H → Prop) (x : Nat), pb_R 225 295 [some (.ref x), l1, l2, l3] [] st h Q ↔ pb_R 225 296 [some (.ref x), l1, l2, l3] [] (.ref x :: st) h Q) ∧
  (∀ (l1 l2 l3 : Option Value) (st : List Value) (h : pb_H) (Q : Option Value → pb_H → Prop), pb_R 225 295 [some .null, l1, l2, l3] [] st h Q ↔ pb_R 225 296 [some .null, l1, l2, l3] [] (.null :: st) h Q) ∧
  (∀ (l0 l1 l2 : Option Value) (st : List Value) (h : pb_H) (Q : Option Value → pb_H → Prop) (x : Int32), pb_R 225 296 [l0, l1, l2, some (.int x)] [] st h Q ↔ pb_R 225 297 [l0, l1, l2, some (.int x)] [] (.int x :: st) h Q) ∧
  (∀ (L : pb_L) (J : pb_J) (st : List Value) (h : pb_H) (Q : Option Value → pb_H → Prop), pb_R 225 297 L J st h Q ↔ pb_R 225 298 L J (.int (3 : Int32) :: st) h Q) ∧
  (∀ (L : pb_L) (J : pb_J) (st : List Value) (x y : Int32) (h : pb_H) (Q : Option Value → pb_H → Prop), pb_R 225 298 L J (.int y :: .int x :: st) h Q ↔ pb_R 225 299 L J (.int (x + y) :: st) h Q) ∧
  (∀ (L : pb_L) (J : pb_J) (st : List Value) (h : pb_H) (Q : Option Value → pb_H → Prop) (a : Nat) (i : Int32), pb_R 225 299 L J (.int i :: .ref a :: st) h Q ↔ pb_o (pb_ai (h.2 a) i) (fun v => pb_R 225 300 L J (.int v :: st) h Q)) ∧
  (∀ (L : pb_L) (J : pb_J) (h : pb_H) (Q : Option Value → pb_H → Prop) (x0 : Int32) (x1 : Int32) (x2 : Int32) (x3 : Nat), pb_R 225 300 L J [.int x0, .int x1, .int x2, .ref x3] h Q ↔ pb_is0 (h.2 x3) 11 = true ∧ pb_call 130 [.ref x3, .int x2, .int x1, .int x0] h (fun v t => pb_R 225 303 L J (v.toList ++ []) t Q)) ∧
  (∀ (l0 l1 l3 : Option Value) (st : List Value) (h : pb_H) (Q : Option Value → pb_H → Prop) (x : Nat), pb_R 225 303 [l0, l1, some (.ref x), l3] [] st h Q ↔ pb_R 225 304 [l0, l1, some (.ref x), l3] [] (.ref x :: st) h Q) ∧
  (∀ (l0 l1 l3 : Option Value) (st : List Value) (h : pb_H) (Q : Option Value → pb_H → Prop), pb_R 225 303 [l0, l1, some .null, l3] [] st h Q ↔ pb_R 225 304 [l0, l1, some .null, l3] [] (.null :: st) h Q) ∧
  (∀ (l1 l2 l3 : Option Value) (st : List Value) (h : pb_H) (Q : Option Value → pb_H → Prop) (x : Nat), pb_R 225 304 [some (.ref x), l1, l2, l3] [] st h Q ↔ pb_R 225 305 [some (.ref x), l1, l2, l3] [] (.ref x :: st) h Q) ∧
  (∀ (l1 l2 l3 : Option Value) (st : List Value) (h : pb_H) (Q : Option Value → pb_H → Prop), pb_R 225 304 [some .null, l1, l2, l3] [] st h Q ↔ pb_R 225 305 [some .null, l1, l2, l3] [] (.null :: st) h Q) ∧
  (∀ (l0 l1 l2 : Option Value) (st : List Value) (h : pb_H) (Q : Option Value → pb_H → Prop) (x : Int32), pb_R 225 305 [l0, l1, l2, some (.int x)] [] st h Q ↔ pb_R 225 306 [l0, l1, l2, some (.int x)] [] (.int x :: st) h Q) ∧
  (∀ (L : pb_L) (J : pb_J) (st : List Value) (h : pb_H) (Q : Option Value → pb_H → Prop), pb_R 225 306 L J st h Q ↔ pb_R 225 307 L J (.int (1 : Int32) :: st) h Q) ∧
  (∀ (L : pb_L) (J : pb_J) (st : List Value) (x y : Int32) (h : pb_H) (Q : Option Value → pb_H → Prop), pb_R 225 307 L J (.int y :: .int x :: st) h Q ↔ pb_R 225 308 L J (.int (x + y) :: st) h Q) ∧
  (∀ (L : pb_L) (J : pb_J) (st : List Value) (h : pb_H) (Q : Option Value → pb_H → Prop) (a : Nat) (i : Int32), pb_R 225 308 L J (.int i :: .ref a :: st) h Q ↔ pb_o (pb_ai (h.2 a) i) (fun v => pb_R 225 309 L J (.int v :: st) h Q)) ∧
  (∀ (l1 l2 l3 : Option Value) (st : List Value) (h : pb_H) (Q : Option Value → pb_H → Prop) (x : Nat), pb_R 225 309 [some (.ref x), l1, l2, l3] [] st h Q ↔ pb_R 225 310 [some (.ref x), l1, l2, l3] [] (.ref x :: st) h Q) ∧
  (∀ (l1 l2 l3 : Option Value) (st : List Value) (h : pb_H) (Q : Option Value → pb_H → Prop), pb_R 225 309 [some .null, l1, l2, l3] [] st h Q ↔ pb_R 225 310 [some .null, l1, l2, l3] [] (.null :: st) h Q) ∧
  (∀ (l0 l1 l2 : Option Value) (st : List Value) (h : pb_H) (Q : Option Value → pb_H → Prop) (x : Int32), pb_R 225 310 [l0, l1, l2, some (.int x)] [] st h Q ↔ pb_R 225 311 [l0, l1, l2, some (.int x)] [] (.int x :: st) h Q) ∧
  (∀ (L : pb_L) (J : pb_J) (st : List Value) (h : pb_H) (Q : Option Value → pb_H → Prop), pb_R 225 311 L J st h Q ↔ pb_R 225 312 L J (.int (2 : Int32) :: st) h Q) ∧
  (∀ (L : pb_L) (J : pb_J) (st : List Value) (x y : Int32) (h : pb_H) (Q : Option Value → pb_H → Prop), pb_R 225 312 L J (.int y :: .int x :: st) h Q ↔ pb_R 225 313 L J (.int (x + y) :: st) h Q) ∧
  (∀ (L : pb_L) (J : pb_J) (st : List Value) (h : pb_H) (Q : Option Value → pb_H → Prop) (a : Nat) (i : Int32), pb_R 225 313 L J (.int i :: .ref a :: st) h Q ↔ pb_o (pb_ai (h.2 a) i) (fun v => pb_R 225 314 L J (.int v :: st) h Q)) ∧
  (∀ (l1 l2 l3 : Option Value) (st : List Value) (h : pb_H) (Q : Option Value → pb_H → Prop) (x : Nat), pb_R 225 314 [some (.ref x), l1, l2, l3] [] st h Q ↔ pb_R 225 315 [some (.ref x), l1, l2, l3] [] (.ref x :: st) h Q) ∧
  (∀ (l1 l2 l3 : Option Value) (st : List Value) (h : pb_H) (Q : Option Value → pb_H → Prop), pb_R 225 314 [some .null, l1, l2, l3] [] st h Q ↔ pb_R 225 315 [some .null, l1, l2, l3] [] (.null :: st) h Q) ∧
  (∀ (l0 l1 l2 : Option Value) (st : List Value) (h : pb_H) (Q : Option Value → pb_H → Prop) (x : Int32), pb_R 225 315 [l0, l1, l2, some (.int x)] [] st h Q ↔ pb_R 225 316 [l0, l1, l2, some (.int x)] [] (.int x :: st) h Q) ∧
  (∀ (L : pb_L) (J : pb_J) (st : List Value) (h : pb_H) (Q : Option Value → pb_H → Prop), pb_R 225 316 L J st h Q ↔ pb_R 225 317 L J (.int (3 : Int32) :: st) h Q) ∧
  (∀ (L : pb_L) (J : pb_J) (st : List Value) (x y : Int32) (h : pb_H) (Q : Option Value → pb_H → Prop), pb_R 225 317 L J (.int y :: .int x :: st) h Q ↔ pb_R 225 318 L J (.int (x + y) :: st) h Q) ∧
  (∀ (L : pb_L) (J : pb_J) (st : List Value) (h : pb_H) (Q : Option Value → pb_H → Prop) (a : Nat) (i : Int32), pb_R 225 318 L J (.int i :: .ref a :: st) h Q ↔ pb_o (pb_ai (h.2 a) i) (fun v => pb_R 225 319 L J (.int v :: st) h Q)) ∧
  (∀ (L : pb_L) (J : pb_J) (h : pb_H) (Q : Option Value → pb_H → Prop) (x0 : Int32) (x1 : Int32) (x2 : Int32) (x3 : Nat) (x4 : Int32), pb_R 225 319 L J [.int x0, .int x1, .int x2, .ref x3, .int x4] h Q ↔ pb_is0 (h.2 x3) 12 = true ∧ pb_call 205 [.ref x3, .int x2, .int x1, .int x0] h (fun v t => pb_R 225 322 L J (v.toList ++ [.int x4]) t Q)) ∧
  (∀ (L : pb_L) (J : pb_J) (st : List Value) (h : pb_H) (Q : Option Value → pb_H → Prop) (x y : Int32), pb_R 225 322 L J (.int y :: .int x :: st) h Q ↔ if x = y then pb_R 225 521 L J st h Q else pb_R 225 325 L J st h Q) ∧
  (∀ (L : pb_L) (J : pb_J) (st : List Value) (h : pb_H) (Q : Option Value → pb_H → Prop), pb_R 225 325 L J st h Q ↔ pb_R 225 326 L J (.int (0 : Int32) :: st) h Q) ∧
  (∀ (L : pb_L) (J : pb_J) (h : pb_H) (Q : Option Value → pb_H → Prop) (x : Int32), pb_R 225 326 L J [.int x] h Q ↔ narrow .boolean (.int x) = .int x ∧ Q (some (.int x)) h) ∧
  (∀ (l0 l2 l3 : Option Value) (st : List Value) (h : pb_H) (Q : Option Value → pb_H → Prop) (x : Nat), pb_R 225 327 [l0, some (.ref x), l2, l3] [] st h Q ↔ pb_R 225 328 [l0, some (.ref x), l2, l3] [] (.ref x :: st) h Q) ∧
  (∀ (l0 l2 l3 : Option Value) (st : List Value) (h : pb_H) (Q : Option Value → pb_H → Prop), pb_R 225 327 [l0, some .null, l2, l3] [] st h Q ↔ pb_R 225 328 [l0, some .null, l2, l3] [] (.null :: st) h Q) ∧
  (∀ (l1 l2 l3 : Option Value) (st : List Value) (h : pb_H) (Q : Option Value → pb_H → Prop) (x : Nat), pb_R 225 328 [some (.ref x), l1, l2, l3] [] st h Q ↔ pb_R 225 329 [some (.ref x), l1, l2, l3] [] (.ref x :: st) h Q) ∧
  (∀ (l1 l2 l3 : Option Value) (st : List Value) (h : pb_H) (Q : Option Value → pb_H → Prop), pb_R 225 328 [some .null, l1, l2, l3] [] st h Q ↔ pb_R 225 329 [some .null, l1, l2, l3] [] (.null :: st) h Q) ∧
  (∀ (l0 l1 l2 : Option Value) (st : List Value) (h : pb_H) (Q : Option Value → pb_H → Prop) (x : Int32), pb_R 225 329 [l0, l1, l2, some (.int x)] [] st h Q ↔ pb_R 225 330 [l0, l1, l2, some (.int x)] [] (.int x :: st) h Q) ∧
  (∀ (L : pb_L) (J : pb_J) (st : List Value) (h : pb_H) (Q : Option Value → pb_H → Prop), pb_R 225 330 L J st h Q ↔ pb_R 225 331 L J (.int (1 : Int32) :: st) h Q) ∧
  (∀ (L : pb_L) (J : pb_J) (st : List Value) (x y : Int32) (h : pb_H) (Q : Option Value → pb_H → Prop), pb_R 225 331 L J (.int y :: .int x :: st) h Q ↔ pb_R 225 332 L J (.int (x + y) :: st) h Q) ∧
  (∀ (L : pb_L) (J : pb_J) (st : List Value) (h : pb_H) (Q : Option Value → pb_H → Prop) (a : Nat) (i : Int32), pb_R 225 332 L J (.int i :: .ref a :: st) h Q ↔ pb_o (pb_ai (h.2 a) i) (fun v => pb_R 225 333 L J (.int v :: st) h Q)) ∧
  (∀ (l1 l2 l3 : Option Value) (st : List Value) (h : pb_H) (Q : Option Value → pb_H → Prop) (x : Nat), pb_R 225 333 [some (.ref x), l1, l2, l3] [] st h Q ↔ pb_R 225 334 [some (.ref x), l1, l2, l3] [] (.ref x :: st) h Q) ∧
  (∀ (l1 l2 l3 : Option Value) (st : List Value) (h : pb_H) (Q : Option Value → pb_H → Prop), pb_R 225 333 [some .null, l1, l2, l3] [] st h Q ↔ pb_R 225 334 [some .null, l1, l2, l3] [] (.null :: st) h Q) ∧
  (∀ (l0 l1 l2 : Option Value) (st : List Value) (h : pb_H) (Q : Option Value → pb_H → Prop) (x : Int32), pb_R 225 334 [l0, l1, l2, some (.int x)] [] st h Q ↔ pb_R 225 335 [l0, l1, l2, some (.int x)] [] (.int x :: st) h Q) ∧
  (∀ (L : pb_L) (J : pb_J) (st : List Value) (h : pb_H) (Q : Option Value → pb_H → Prop), pb_R 225 335 L J st h Q ↔ pb_R 225 336 L J (.int (2 : Int32) :: st) h Q) ∧
  (∀ (L : pb_L) (J : pb_J) (st : List Value) (x y : Int32) (h : pb_H) (Q : Option Value → pb_H → Prop), pb_R 225 336 L J (.int y :: .int x :: st) h Q ↔ pb_R 225 337 L J (.int (x + y) :: st) h Q) ∧
  (∀ (L : pb_L) (J : pb_J) (st : List Value) (h : pb_H) (Q : Option Value → pb_H → Prop) (a : Nat) (i : Int32), pb_R 225 337 L J (.int i :: .ref a :: st) h Q ↔ pb_o (pb_ai (h.2 a) i) (fun v => pb_R 225 338 L J (.int v :: st) h Q)) ∧
  (∀ (L : pb_L) (J : pb_J) (h : pb_H) (Q : Option Value → pb_H → Prop) (x0 : Int32) (x1 : Int32) (x2 : Nat), pb_R 225 338 L J [.int x0, .int x1, .ref x2] h Q ↔ pb_is0 (h.2 x2) 11 = true ∧ pb_call 131 [.ref x2, .int x1, .int x0] h (fun v t => pb_R 225 341 L J (v.toList ++ []) t Q)) ∧
  (∀ (l0 l1 l3 : Option Value) (st : List Value) (h : pb_H) (Q : Option Value → pb_H → Prop) (x : Nat), pb_R 225 341 [l0, l1, some (.ref x), l3] [] st h Q ↔ pb_R 225 342 [l0, l1, some (.ref x), l3] [] (.ref x :: st) h Q) ∧
  (∀ (l0 l1 l3 : Option Value) (st : List Value) (h : pb_H) (Q : Option Value → pb_H → Prop), pb_R 225 341 [l0, l1, some .null, l3] [] st h Q ↔ pb_R 225 342 [l0, l1, some .null, l3] [] (.null :: st) h Q) ∧
  (∀ (l1 l2 l3 : Option Value) (st : List Value) (h : pb_H) (Q : Option Value → pb_H → Prop) (x : Nat), pb_R 225 342 [some (.ref x), l1, l2, l3] [] st h Q ↔ pb_R 225 343 [some (.ref x), l1, l2, l3] [] (.ref x :: st) h Q) ∧
  (∀ (l1 l2 l3 : Option Value) (st : List Value) (h : pb_H) (Q : Option Value → pb_H → Prop), pb_R 225 342 [some .null, l1, l2, l3] [] st h Q ↔ pb_R 225 343 [some .null, l1, l2, l3] [] (.null :: st) h Q) ∧
  (∀ (l0 l1 l2 : Option Value) (st : List Value) (h : pb_H) (Q : Option Value → pb_H → Prop) (x : Int32), pb_R 225 343 [l0, l1, l2, some (.int x)] [] st h Q ↔ pb_R 225 344 [l0, l1, l2, some (.int x)] [] (.int x :: st) h Q) ∧
  (∀ (L : pb_L) (J : pb_J) (st : List Value) (h : pb_H) (Q : Option Value → pb_H → Prop), pb_R 225 344 L J st h Q ↔ pb_R 225 345 L J (.int (1 : Int32) :: st) h Q) ∧
  (∀ (L : pb_L) (J : pb_J) (st : List Value) (x y : Int32) (h : pb_H) (Q : Option Value → pb_H → Prop), pb_R 225 345 L J (.int y :: .int x :: st) h Q ↔ pb_R 225 346 L J (.int (x + y) :: st) h Q) ∧
  (∀ (L : pb_L) (J : pb_J) (st : List Value) (h : pb_H) (Q : Option Value → pb_H → Prop) (a : Nat) (i : Int32), pb_R 225 346 L J (.int i :: .ref a :: st) h Q ↔ pb_o (pb_ai (h.2 a) i) (fun v => pb_R 225 347 L J (.int v :: st) h Q)) ∧
  (∀ (l1 l2 l3 : Option Value) (st : List Value) (h : pb_H) (Q : Option Value → pb_H → Prop) (x : Nat), pb_R 225 347 [some (.ref x), l1, l2, l3] [] st h Q ↔ pb_R 225 348 [some (.ref x), l1, l2, l3] [] (.ref x :: st) h Q) ∧
  (∀ (l1 l2 l3 : Option Value) (st : List Value) (h : pb_H) (Q : Option Value → pb_H → Prop), pb_R 225 347 [some .null, l1, l2, l3] [] st h Q ↔ pb_R 225 348 [some .null, l1, l2, l3] [] (.null :: st) h Q) ∧
  (∀ (l0 l1 l2 : Option Value) (st : List Value) (h : pb_H) (Q : Option Value → pb_H → Prop) (x : Int32), pb_R 225 348 [l0, l1, l2, some (.int x)] [] st h Q ↔ pb_R 225 349 [l0, l1, l2, some (.int x)] [] (.int x :: st) h Q) ∧
  (∀ (L : pb_L) (J : pb_J) (st : List Value) (h : pb_H) (Q : Option Value → pb_H → Prop), pb_R 225 349 L J st h Q ↔ pb_R 225 350 L J (.int (2 : Int32) :: st) h Q) ∧
  (∀ (L : pb_L) (J : pb_J) (st : List Value) (x y : Int32) (h : pb_H) (Q : Option Value → pb_H → Prop), pb_R 225 350 L J (.int y :: .int x :: st) h Q ↔ pb_R 225 351 L J (.int (x + y) :: st) h Q) ∧
  (∀ (L : pb_L) (J : pb_J) (st : List Value) (h : pb_H) (Q : Option Value → pb_H → Prop) (a : Nat) (i : Int32), pb_R 225 351 L J (.int i :: .ref a :: st) h Q ↔ pb_o (pb_ai (h.2 a) i) (fun v => pb_R 225 352 L J (.int v :: st) h Q)) ∧
  (∀ (L : pb_L) (J : pb_J) (h : pb_H) (Q : Option Value → pb_H → Prop) (x0 : Int32) (x1 : Int32) (x2 : Nat) (x3 : Int32), pb_R 225 352 L J [.int x0, .int x1, .ref x2, .int x3] h Q ↔ pb_is0 (h.2 x2) 12 = true ∧ pb_call 206 [.ref x2, .int x1, .int x0] h (fun v t => pb_R 225 355 L J (v.toList ++ [.int x3]) t Q)) ∧
  (∀ (L : pb_L) (J : pb_J) (st : List Value) (h : pb_H) (Q : Option Value → pb_H → Prop) (x y : Int32), pb_R 225 355 L J (.int y :: .int x :: st) h Q ↔ if x = y then pb_R 225 521 L J st h Q else pb_R 225 358 L J st h Q) ∧
  (∀ (L : pb_L) (J : pb_J) (st : List Value) (h : pb_H) (Q : Option Value → pb_H → Prop), pb_R 225 358 L J st h Q ↔ pb_R 225 359 L J (.int (0 : Int32) :: st) h Q) ∧
  (∀ (L : pb_L) (J : pb_J) (h : pb_H) (Q : Option Value → pb_H → Prop) (x : Int32), pb_R 225 359 L J [.int x] h Q ↔ narrow .boolean (.int x) = .int x ∧ Q (some (.int x)) h) ∧
  (∀ (l0 l2 l3 : Option Value) (st : List Value) (h : pb_H) (Q : Option Value → pb_H → Prop) (x : Nat), pb_R 225 360 [l0, some (.ref x), l2, l3] [] st h Q ↔ pb_R 225 361 [l0, some (.ref x), l2, l3] [] (.ref x :: st) h Q) ∧
  (∀ (l0 l2 l3 : Option Value) (st : List Value) (h : pb_H) (Q : Option Value → pb_H → Prop), pb_R 225 360 [l0, some .null, l2, l3] [] st h Q ↔ pb_R 225 361 [l0, some .null, l2, l3] [] (.null :: st) h Q) ∧
  (∀ (l1 l2 l3 : Option Value) (st : List Value) (h : pb_H) (Q : Option Value → pb_H → Prop) (x : Nat), pb_R 225 361 [some (.ref x), l1, l2, l3] [] st h Q ↔ pb_R 225 362 [some (.ref x), l1, l2, l3] [] (.ref x :: st) h Q) ∧
  (∀ (l1 l2 l3 : Option Value) (st : List Value) (h : pb_H) (Q : Option Value → pb_H → Prop), pb_R 225 361 [some .null, l1, l2, l3] [] st h Q ↔ pb_R 225 362 [some .null, l1, l2, l3] [] (.null :: st) h Q) ∧
  (∀ (l0 l1 l2 : Option Value) (st : List Value) (h : pb_H) (Q : Option Value → pb_H → Prop) (x : Int32), pb_R 225 362 [l0, l1, l2, some (.int x)] [] st h Q ↔ pb_R 225 363 [l0, l1, l2, some (.int x)] [] (.int x :: st) h Q) ∧
  (∀ (L : pb_L) (J : pb_J) (st : List Value) (h : pb_H) (Q : Option Value → pb_H → Prop), pb_R 225 363 L J st h Q ↔ pb_R 225 364 L J (.int (1 : Int32) :: st) h Q) ∧
  (∀ (L : pb_L) (J : pb_J) (st : List Value) (x y : Int32) (h : pb_H) (Q : Option Value → pb_H → Prop), pb_R 225 364 L J (.int y :: .int x :: st) h Q ↔ pb_R 225 365 L J (.int (x + y) :: st) h Q) ∧
  (∀ (L : pb_L) (J : pb_J) (st : List Value) (h : pb_H) (Q : Option Value → pb_H → Prop) (a : Nat) (i : Int32), pb_R 225 365 L J (.int i :: .ref a :: st) h Q ↔ pb_o (pb_ai (h.2 a) i) (fun v => pb_R 225 366 L J (.int v :: st) h Q)) ∧
  (∀ (L : pb_L) (J : pb_J) (h : pb_H) (Q : Option Value → pb_H → Prop) (x0 : Int32) (x1 : Nat), pb_R 225 366 L J [.int x0, .ref x1] h Q ↔ pb_is0 (h.2 x1) 11 = true ∧ pb_call 132 [.ref x1, .int x0] h (fun v t => pb_R 225 369 L J (v.toList ++ []) t Q)) ∧
  (∀ (l0 l1 l3 : Option Value) (st : List Value) (h : pb_H) (Q : Option Value → pb_H → Prop) (x : Nat), pb_R 225 369 [l0, l1, some (.ref x), l3] [] st h Q ↔ pb_R 225 370 [l0, l1, some (.ref x), l3] [] (.ref x :: st) h Q) ∧
  (∀ (l0 l1 l3 : Option Value) (st : List Value) (h : pb_H) (Q : Option Value → pb_H → Prop), pb_R 225 369 [l0, l1, some .null, l3] [] st h Q ↔ pb_R 225 370 [l0, l1, some .null, l3] [] (.null :: st) h Q) ∧
  (∀ (l1 l2 l3 : Option Value) (st : List Value) (h : pb_H) (Q : Option Value → pb_H → Prop) (x : Nat), pb_R 225 370 [some (.ref x), l1, l2, l3] [] st h Q ↔ pb_R 225 371 [some (.ref x), l1, l2, l3] [] (.ref x :: st) h Q) ∧
  (∀ (l1 l2 l3 : Option Value) (st : List Value) (h : pb_H) (Q : Option Value → pb_H → Prop), pb_R 225 370 [some .null, l1, l2, l3] [] st h Q ↔ pb_R 225 371 [some .null, l1, l2, l3] [] (.null :: st) h Q) ∧
  (∀ (l0 l1 l2 : Option Value) (st : List Value) (h : pb_H) (Q : Option Value → pb_H → Prop) (x : Int32), pb_R 225 371 [l0, l1, l2, some (.int x)] [] st h Q ↔ pb_R 225 372 [l0, l1, l2, some (.int x)] [] (.int x :: st) h Q) ∧
  (∀ (L : pb_L) (J : pb_J) (st : List Value) (h : pb_H) (Q : Option Value → pb_H → Prop), pb_R 225 372 L J st h Q ↔ pb_R 225 373 L J (.int (1 : Int32) :: st) h Q) ∧
  (∀ (L : pb_L) (J : pb_J) (st : List Value) (x y : Int32) (h : pb_H) (Q : Option Value → pb_H → Prop), pb_R 225 373 L J (.int y :: .int x :: st) h Q ↔ pb_R 225 374 L J (.int (x + y) :: st) h Q) ∧
  (∀ (L : pb_L) (J : pb_J) (st : List Value) (h : pb_H) (Q : Option Value → pb_H → Prop) (a : Nat) (i : Int32), pb_R 225 374 L J (.int i :: .ref a :: st) h Q ↔ pb_o (pb_ai (h.2 a) i) (fun v => pb_R 225 375 L J (.int v :: st) h Q)) ∧
  (∀ (L : pb_L) (J : pb_J) (h : pb_H) (Q : Option Value → pb_H → Prop) (x0 : Int32) (x1 : Nat) (x2 : Int32), pb_R 225 375 L J [.int x0, .ref x1, .int x2] h Q ↔ pb_is0 (h.2 x1) 12 = true ∧ pb_call 207 [.ref x1, .int x0] h (fun v t => pb_R 225 378 L J (v.toList ++ [.int x2]) t Q)) ∧
  (∀ (L : pb_L) (J : pb_J) (st : List Value) (h : pb_H) (Q : Option Value → pb_H → Prop) (x y : Int32), pb_R 225 378 L J (.int y :: .int x :: st) h Q ↔ if x = y then pb_R 225 521 L J st h Q else pb_R 225 381 L J st h Q) ∧
  (∀ (L : pb_L) (J : pb_J) (st : List Value) (h : pb_H) (Q : Option Value → pb_H → Prop), pb_R 225 381 L J st h Q ↔ pb_R 225 382 L J (.int (0 : Int32) :: st) h Q) ∧
  (∀ (L : pb_L) (J : pb_J) (h : pb_H) (Q : Option Value → pb_H → Prop) (x : Int32), pb_R 225 382 L J [.int x] h Q ↔ narrow .boolean (.int x) = .int x ∧ Q (some (.int x)) h) ∧
  (∀ (l0 l2 l3 : Option Value) (st : List Value) (h : pb_H) (Q : Option Value → pb_H → Prop) (x : Nat), pb_R 225 383 [l0, some (.ref x), l2, l3] [] st h Q ↔ pb_R 225 384 [l0, some (.ref x), l2, l3] [] (.ref x :: st) h Q) ∧
  (∀ (l0 l2 l3 : Option Value) (st : List Value) (h : pb_H) (Q : Option Value → pb_H → Prop), pb_R 225 383 [l0, some .null, l2, l3] [] st h Q ↔ pb_R 225 384 [l0, some .null, l2, l3] [] (.null :: st) h Q) ∧
  (∀ (L : pb_L) (J : pb_J) (h : pb_H) (Q : Option Value → pb_H → Prop) (x0 : Nat), pb_R 225 384 L J [.ref x0] h Q ↔ pb_is0 (h.2 x0) 11 = true ∧ pb_call 133 [.ref x0] h (fun v t => pb_R 225 387 L J (v.toList ++ []) t Q)) ∧
  (∀ (l0 l1 l3 : Option Value) (st : List Value) (h : pb_H) (Q : Option Value → pb_H → Prop) (x : Nat), pb_R 225 387 [l0, l1, some (.ref x), l3] [] st h Q ↔ pb_R 225 388 [l0, l1, some (.ref x), l3] [] (.ref x :: st) h Q) ∧
  (∀ (l0 l1 l3 : Option Value) (st : List Value) (h : pb_H) (Q : Option Value → pb_H → Prop), pb_R 225 387 [l0, l1, some .null, l3] [] st h Q ↔ pb_R 225 388 [l0, l1, some .null, l3] [] (.null :: st) h Q) ∧
  (∀ (L : pb_L) (J : pb_J) (h : pb_H) (Q : Option Value → pb_H → Prop) (x0 : Nat) (x1 : Int32), pb_R 225 388 L J [.ref x0, .int x1] h Q ↔ pb_is0 (h.2 x0) 12 = true ∧ pb_call 208 [.ref x0] h (fun v t => pb_R 225 391 L J (v.toList ++ [.int x1]) t Q)) ∧
  (∀ (L : pb_L) (J : pb_J) (st : List Value) (h : pb_H) (Q : Option Value → pb_H → Prop) (x y : Int32), pb_R 225 391 L J (.int y :: .int x :: st) h Q ↔ if x = y then pb_R 225 521 L J st h Q else pb_R 225 394 L J st h Q) ∧
  (∀ (L : pb_L) (J : pb_J) (st : List Value) (h : pb_H) (Q : Option Value → pb_H → Prop), pb_R 225 394 L J st h Q ↔ pb_R 225 395 L J (.int (0 : Int32) :: st) h Q) ∧
  (∀ (L : pb_L) (J : pb_J) (h : pb_H) (Q : Option Value → pb_H → Prop) (x : Int32), pb_R 225 395 L J [.int x] h Q ↔ narrow .boolean (.int x) = .int x ∧ Q (some (.int x)) h) ∧
  (∀ (l0 l2 l3 : Option Value) (st : List Value) (h : pb_H) (Q : Option Value → pb_H → Prop) (x : Nat), pb_R 225 396 [l0, some (.ref x), l2, l3] [] st h Q ↔ pb_R 225 397 [l0, some (.ref x), l2, l3] [] (.ref x :: st) h Q) ∧
  (∀ (l0 l2 l3 : Option Value) (st : List Value) (h : pb_H) (Q : Option Value → pb_H → Prop), pb_R 225 396 [l0, some .null, l2, l3] [] st h Q ↔ pb_R 225 397 [l0, some .null, l2, l3] [] (.null :: st) h Q) ∧
  (∀ (l1 l2 l3 : Option Value) (st : List Value) (h : pb_H) (Q : Option Value → pb_H → Prop) (x : Nat), pb_R 225 397 [some (.ref x), l1, l2, l3] [] st h Q ↔ pb_R 225 398 [some (.ref x), l1, l2, l3] [] (.ref x :: st) h Q) ∧
  (∀ (l1 l2 l3 : Option Value) (st : List Value) (h : pb_H) (Q : Option Value → pb_H → Prop), pb_R 225 397 [some .null, l1, l2, l3] [] st h Q ↔ pb_R 225 398 [some .null, l1, l2, l3] [] (.null :: st) h Q) ∧
  (∀ (l0 l1 l2 : Option Value) (st : List Value) (h : pb_H) (Q : Option Value → pb_H → Prop) (x : Int32), pb_R 225 398 [l0, l1, l2, some (.int x)] [] st h Q ↔ pb_R 225 399 [l0, l1, l2, some (.int x)] [] (.int x :: st) h Q) ∧
  (∀ (L : pb_L) (J : pb_J) (st : List Value) (h : pb_H) (Q : Option Value → pb_H → Prop), pb_R 225 399 L J st h Q ↔ pb_R 225 400 L J (.int (1 : Int32) :: st) h Q) ∧
  (∀ (L : pb_L) (J : pb_J) (st : List Value) (x y : Int32) (h : pb_H) (Q : Option Value → pb_H → Prop), pb_R 225 400 L J (.int y :: .int x :: st) h Q ↔ pb_R 225 401 L J (.int (x + y) :: st) h Q) ∧
  (∀ (L : pb_L) (J : pb_J) (st : List Value) (h : pb_H) (Q : Option Value → pb_H → Prop) (a : Nat) (i : Int32), pb_R 225 401 L J (.int i :: .ref a :: st) h Q ↔ pb_o (pb_ai (h.2 a) i) (fun v => pb_R 225 402 L J (.int v :: st) h Q)) ∧
  (∀ (L : pb_L) (J : pb_J) (h : pb_H) (Q : Option Value → pb_H → Prop) (x0 : Int32) (x1 : Nat), pb_R 225 402 L J [.int x0, .ref x1] h Q ↔ pb_is0 (h.2 x1) 11 = true ∧ pb_call 134 [.ref x1, .int x0] h (fun v t => pb_R 225 405 L J (v.toList ++ []) t Q)) ∧
  (∀ (l0 l1 l3 : Option Value) (st : List Value) (h : pb_H) (Q : Option Value → pb_H → Prop) (x : Nat), pb_R 225 405 [l0, l1, some (.ref x), l3] [] st h Q ↔ pb_R 225 406 [l0, l1, some (.ref x), l3] [] (.ref x :: st) h Q) ∧
  (∀ (l0 l1 l3 : Option Value) (st : List Value) (h : pb_H) (Q : Option Value → pb_H → Prop), pb_R 225 405 [l0, l1, some .null, l3] [] st h Q ↔ pb_R 225 406 [l0, l1, some .null, l3] [] (.null :: st) h Q) ∧
  (∀ (l1 l2 l3 : Option Value) (st : List Value) (h : pb_H) (Q : Option Value → pb_H → Prop) (x : Nat), pb_R 225 406 [some (.ref x), l1, l2, l3] [] st h Q ↔ pb_R 225 407 [some (.ref x), l1, l2, l3] [] (.ref x :: st) h Q) ∧
  (∀ (l1 l2 l3 : Option Value) (st : List Value) (h : pb_H) (Q : Option Value → pb_H → Prop), pb_R 225 406 [some .null, l1, l2, l3] [] st h Q ↔ pb_R 225 407 [some .null, l1, l2, l3] [] (.null :: st) h Q) ∧
  (∀ (l0 l1 l2 : Option Value) (st : List Value) (h : pb_H) (Q : Option Value → pb_H → Prop) (x : Int32), pb_R 225 407 [l0, l1, l2, some (.int x)] [] st h Q ↔ pb_R 225 408 [l0, l1, l2, some (.int x)] [] (.int x :: st) h Q) ∧
  (∀ (L : pb_L) (J : pb_J) (st : List Value) (h : pb_H) (Q : Option Value → pb_H → Prop), pb_R 225 408 L J st h Q ↔ pb_R 225 409 L J (.int (1 : Int32) :: st) h Q) ∧
  (∀ (L : pb_L) (J : pb_J) (st : List Value) (x y : Int32) (h : pb_H) (Q : Option Value → pb_H → Prop), pb_R 225 409 L J (.int y :: .int x :: st) h Q ↔ pb_R 225 410 L J (.int (x + y) :: st) h Q) ∧
  (∀ (L : pb_L) (J : pb_J) (st : List Value) (h : pb_H) (Q : Option Value → pb_H → Prop) (a : Nat) (i : Int32), pb_R 225 410 L J (.int i :: .ref a :: st) h Q ↔ pb_o (pb_ai (h.2 a) i) (fun v => pb_R 225 411 L J (.int v :: st) h Q)) ∧
  (∀ (L : pb_L) (J : pb_J) (h : pb_H) (Q : Option Value → pb_H → Prop) (x0 : Int32) (x1 : Nat) (x2 : Int32), pb_R 225 411 L J [.int x0, .ref x1, .int x2] h Q ↔ pb_is0 (h.2 x1) 12 = true ∧ pb_call 219 [.ref x1, .int x0] h (fun v t => pb_R 225 414 L J (v.toList ++ [.int x2]) t Q)) ∧
  (∀ (L : pb_L) (J : pb_J) (st : List Value) (h : pb_H) (Q : Option Value → pb_H → Prop) (x y : Int32), pb_R 225 414 L J (.int y :: .int x :: st) h Q ↔ if x = y then pb_R 225 521 L J st h Q else pb_R 225 417 L J st h Q) ∧
  (∀ (L : pb_L) (J : pb_J) (st : List Value) (h : pb_H) (Q : Option Value → pb_H → Prop), pb_R 225 417 L J st h Q ↔ pb_R 225 418 L J (.int (0 : Int32) :: st) h Q) ∧
  (∀ (L : pb_L) (J : pb_J) (h : pb_H) (Q : Option Value → pb_H → Prop) (x : Int32), pb_R 225 418 L J [.int x] h Q ↔ narrow .boolean (.int x) = .int x ∧ Q (some (.int x)) h) ∧
  (∀ (l0 l2 l3 : Option Value) (st : List Value) (h : pb_H) (Q : Option Value → pb_H → Prop) (x : Nat), pb_R 225 419 [l0, some (.ref x), l2, l3] [] st h Q ↔ pb_R 225 420 [l0, some (.ref x), l2, l3] [] (.ref x :: st) h Q) ∧
  (∀ (l0 l2 l3 : Option Value) (st : List Value) (h : pb_H) (Q : Option Value → pb_H → Prop), pb_R 225 419 [l0, some .null, l2, l3] [] st h Q ↔ pb_R 225 420 [l0, some .null, l2, l3] [] (.null :: st) h Q) ∧
  (∀ (l1 l2 l3 : Option Value) (st : List Value) (h : pb_H) (Q : Option Value → pb_H → Prop) (x : Nat), pb_R 225 420 [some (.ref x), l1, l2, l3] [] st h Q ↔ pb_R 225 421 [some (.ref x), l1, l2, l3] [] (.ref x :: st) h Q) ∧
  (∀ (l1 l2 l3 : Option Value) (st : List Value) (h : pb_H) (Q : Option Value → pb_H → Prop), pb_R 225 420 [some .null, l1, l2, l3] [] st h Q ↔ pb_R 225 421 [some .null, l1, l2, l3] [] (.null :: st) h Q) ∧
  (∀ (l0 l1 l2 : Option Value) (st : List Value) (h : pb_H) (Q : Option Value → pb_H → Prop) (x : Int32), pb_R 225 421 [l0, l1, l2, some (.int x)] [] st h Q ↔ pb_R 225 422 [l0, l1, l2, some (.int x)] [] (.int x :: st) h Q) ∧
  (∀ (L : pb_L) (J : pb_J) (st : List Value) (h : pb_H) (Q : Option Value → pb_H → Prop), pb_R 225 422 L J st h Q ↔ pb_R 225 423 L J (.int (1 : Int32) :: st) h Q) ∧
  (∀ (L : pb_L) (J : pb_J) (st : List Value) (x y : Int32) (h : pb_H) (Q : Option Value → pb_H → Prop), pb_R 225 423 L J (.int y :: .int x :: st) h Q ↔ pb_R 225 424 L J (.int (x + y) :: st) h Q) ∧
  (∀ (L : pb_L) (J : pb_J) (st : List Value) (h : pb_H) (Q : Option Value → pb_H → Prop) (a : Nat) (i : Int32), pb_R 225 424 L J (.int i :: .ref a :: st) h Q ↔ pb_o (pb_ai (h.2 a) i) (fun v => pb_R 225 425 L J (.int v :: st) h Q)) ∧
  (∀ (L : pb_L) (J : pb_J) (h : pb_H) (Q : Option Value → pb_H → Prop) (x0 : Int32) (x1 : Nat), pb_R 225 425 L J [.int x0, .ref x1] h Q ↔ pb_is0 (h.2 x1) 11 = true ∧ pb_call 135 [.ref x1, .int x0] h (fun v t => pb_R 225 428 L J (v.toList ++ []) t Q)) ∧
  (∀ (l0 l1 l3 : Option Value) (st : List Value) (h : pb_H) (Q : Option Value → pb_H → Prop) (x : Nat), pb_R 225 428 [l0, l1, some (.ref x), l3] [] st h Q ↔ pb_R 225 429 [l0, l1, some (.ref x), l3] [] (.ref x :: st) h Q) ∧
  (∀ (l0 l1 l3 : Option Value) (st : List Value) (h : pb_H) (Q : Option Value → pb_H → Prop), pb_R 225 428 [l0, l1, some .null, l3] [] st h Q ↔ pb_R 225 429 [l0, l1, some .null, l3] [] (.null :: st) h Q) ∧
  (∀ (l1 l2 l3 : Option Value) (st : List Value) (h : pb_H) (Q : Option Value → pb_H → Prop) (x : Nat), pb_R 225 429 [some (.ref x), l1, l2, l3] [] st h Q ↔ pb_R 225 430 [some (.ref x), l1, l2, l3] [] (.ref x :: st) h Q) ∧
  (∀ (l1 l2 l3 : Option Value) (st : List Value) (h : pb_H) (Q : Option Value → pb_H → Prop), pb_R 225 429 [some .null, l1, l2, l3] [] st h Q ↔ pb_R 225 430 [some .null, l1, l2, l3] [] (.null :: st) h Q) ∧
  (∀ (l0 l1 l2 : Option Value) (st : List Value) (h : pb_H) (Q : Option Value → pb_H → Prop) (x : Int32), pb_R 225 430 [l0, l1, l2, some (.int x)] [] st h Q ↔ pb_R 225 431 [l0, l1, l2, some (.int x)] [] (.int x :: st) h Q) ∧
  (∀ (L : pb_L) (J : pb_J) (st : List Value) (h : pb_H) (Q : Option Value → pb_H → Prop), pb_R 225 431 L J st h Q ↔ pb_R 225 432 L J (.int (1 : Int32) :: st) h Q) ∧
  (∀ (L : pb_L) (J : pb_J) (st : List Value) (x y : Int32) (h : pb_H) (Q : Option Value → pb_H → Prop), pb_R 225 432 L J (.int y :: .int x :: st) h Q ↔ pb_R 225 433 L J (.int (x + y) :: st) h Q) ∧
  (∀ (L : pb_L) (J : pb_J) (st : List Value) (h : pb_H) (Q : Option Value → pb_H → Prop) (a : Nat) (i : Int32), pb_R 225 433 L J (.int i :: .ref a :: st) h Q ↔ pb_o (pb_ai (h.2 a) i) (fun v => pb_R 225 434 L J (.int v :: st) h Q)) ∧
  (∀ (L : pb_L) (J : pb_J) (h : pb_H) (Q : Option Value → pb_H → Prop) (x0 : Int32) (x1 : Nat) (x2 : Int32), pb_R 225 434 L J [.int x0, .ref x1, .int x2] h Q ↔ pb_is0 (h.2 x1) 12 = true ∧ pb_call 220 [.ref x1, .int x0] h (fun v t => pb_R 225 437 L J (v.toList ++ [.int x2]) t Q)) ∧
  (∀ (L : pb_L) (J : pb_J) (st : List Value) (h : pb_H) (Q : Option Value → pb_H → Prop) (x y : Int32), pb_R 225 437 L J (.int y :: .int x :: st) h Q ↔ if x = y then pb_R 225 521 L J st h Q else pb_R 225 440 L J st h Q) ∧
  (∀ (L : pb_L) (J : pb_J) (st : List Value) (h : pb_H) (Q : Option Value → pb_H → Prop), pb_R 225 440 L J st h Q ↔ pb_R 225 441 L J (.int (0 : Int32) :: st) h Q) ∧
  (∀ (L : pb_L) (J : pb_J) (h : pb_H) (Q : Option Value → pb_H → Prop) (x : Int32), pb_R 225 441 L J [.int x] h Q ↔ narrow .boolean (.int x) = .int x ∧ Q (some (.int x)) h) ∧
  (∀ (l0 l2 l3 : Option Value) (st : List Value) (h : pb_H) (Q : Option Value → pb_H → Prop) (x : Nat), pb_R 225 442 [l0, some (.ref x), l2, l3] [] st h Q ↔ pb_R 225 443 [l0, some (.ref x), l2, l3] [] (.ref x :: st) h Q) ∧
  (∀ (l0 l2 l3 : Option Value) (st : List Value) (h : pb_H) (Q : Option Value → pb_H → Prop), pb_R 225 442 [l0, some .null, l2, l3] [] st h Q ↔ pb_R 225 443 [l0, some .null, l2, l3] [] (.null :: st) h Q) ∧
  (∀ (l1 l2 l3 : Option Value) (st : List Value) (h : pb_H) (Q : Option Value → pb_H → Prop) (x : Nat), pb_R 225 443 [some (.ref x), l1, l2, l3] [] st h Q ↔ pb_R 225 444 [some (.ref x), l1, l2, l3] [] (.ref x :: st) h Q) ∧
  (∀ (l1 l2 l3 : Option Value) (st : List Value) (h : pb_H) (Q : Option Value → pb_H → Prop), pb_R 225 443 [some .null, l1, l2, l3] [] st h Q ↔ pb_R 225 444 [some .null, l1, l2, l3] [] (.null :: st) h Q) ∧
  (∀ (l0 l1 l2 : Option Value) (st : List Value) (h : pb_H) (Q : Option Value → pb_H → Prop) (x : Int32), pb_R 225 444 [l0, l1, l2, some (.int x)] [] st h Q ↔ pb_R 225 445 [l0, l1, l2, some (.int x)] [] (.int x :: st) h Q) ∧
  (∀ (L : pb_L) (J : pb_J) (st : List Value) (h : pb_H) (Q : Option Value → pb_H → Prop), pb_R 225 445 L J st h Q ↔ pb_R 225 446 L J (.int (1 : Int32) :: st) h Q) ∧
  (∀ (L : pb_L) (J : pb_J) (st : List Value) (x y : Int32) (h : pb_H) (Q : Option Value → pb_H → Prop), pb_R 225 446 L J (.int y :: .int x :: st) h Q ↔ pb_R 225 447 L J (.int (x + y) :: st) h Q) ∧
  (∀ (L : pb_L) (J : pb_J) (st : List Value) (h : pb_H) (Q : Option Value → pb_H → Prop) (a : Nat) (i : Int32), pb_R 225 447 L J (.int i :: .ref a :: st) h Q ↔ pb_o (pb_ai (h.2 a) i) (fun v => pb_R 225 448 L J (.int v :: st) h Q)) ∧
  (∀ (l1 l2 l3 : Option Value) (st : List Value) (h : pb_H) (Q : Option Value → pb_H → Prop) (x : Nat), pb_R 225 448 [some (.ref x), l1, l2, l3] [] st h Q ↔ pb_R 225 449 [some (.ref x), l1, l2, l3] [] (.ref x :: st) h Q) ∧
  (∀ (l1 l2 l3 : Option Value) (st : List Value) (h : pb_H) (Q : Option Value → pb_H → Prop), pb_R 225 448 [some .null, l1, l2, l3] [] st h Q ↔ pb_R 225 449 [some .null, l1, l2, l3] [] (.null :: st) h Q) ∧
  (∀ (l0 l1 l2 : Option Value) (st : List Value) (h : pb_H) (Q : Option Value → pb_H → Prop) (x : Int32), pb_R 225 449 [l0, l1, l2, some (.int x)] [] st h Q ↔ pb_R 225 450 [l0, l1, l2, some (.int x)] [] (.int x :: st) h Q) ∧
  (∀ (L : pb_L) (J : pb_J) (st : List Value) (h : pb_H) (Q : Option Value → pb_H → Prop), pb_R 225 450 L J st h Q ↔ pb_R 225 451 L J (.int (2 : Int32) :: st) h Q) ∧
  (∀ (L : pb_L) (J : pb_J) (st : List Value) (x y : Int32) (h : pb_H) (Q : Option Value → pb_H → Prop), pb_R 225 451 L J (.int y :: .int x :: st) h Q ↔ pb_R 225 452 L J (.int (x + y) :: st) h Q) ∧
  (∀ (L : pb_L) (J : pb_J) (st : List Value) (h : pb_H) (Q : Option Value → pb_H → Prop) (a : Nat) (i : Int32), pb_R 225 452 L J (.int i :: .ref a :: st) h Q ↔ pb_o (pb_ai (h.2 a) i) (fun v => pb_R 225 453 L J (.int v :: st) h Q)) ∧
  (∀ (L : pb_L) (J : pb_J) (h : pb_H) (Q : Option Value → pb_H → Prop) (x0 : Int32) (x1 : Int32) (x2 : Nat), pb_R 225 453 L J [.int x0, .int x1, .ref x2] h Q ↔ pb_is0 (h.2 x2) 11 = true ∧ pb_call 136 [.ref x2, .int x1, .int x0] h (fun v t => pb_R 225 456 L J (v.toList ++ []) t Q)) ∧
  (∀ (l0 l1 l3 : Option Value) (st : List Value) (h : pb_H) (Q : Option Value → pb_H → Prop) (x : Nat), pb_R 225 456 [l0, l1, some (.ref x), l3] [] st h Q ↔ pb_R 225 457 [l0, l1, some (.ref x), l3] [] (.ref x :: st) h Q) ∧
  (∀ (l0 l1 l3 : Option Value) (st : List Value) (h : pb_H) (Q : Option Value → pb_H → Prop), pb_R 225 456 [l0, l1, some .null, l3] [] st h Q ↔ pb_R 225 457 [l0, l1, some .null, l3] [] (.null :: st) h Q) ∧
  (∀ (l1 l2 l3 : Option Value) (st : List Value) (h : pb_H) (Q : Option Value → pb_H → Prop) (x : Nat), pb_R 225 457 [some (.ref x), l1, l2, l3] [] st h Q ↔ pb_R 225 458 [some (.ref x), l1, l2, l3] [] (.ref x :: st) h Q) ∧
  (∀ (l1 l2 l3 : Option Value) (st : List Value) (h : pb_H) (Q : Option Value → pb_H → Prop), pb_R 225 457 [some .null, l1, l2, l3] [] st h Q ↔ pb_R 225 458 [some .null, l1, l2, l3] [] (.null :: st) h Q) ∧
  (∀ (l0 l1 l2 : Option Value) (st : List Value) (h : pb_H) (Q : Option Value → pb_H → Prop) (x : Int32), pb_R 225 458 [l0, l1, l2, some (.int x)] [] st h Q ↔ pb_R 225 459 [l0, l1, l2, some (.int x)] [] (.int x :: st) h Q) ∧
  (∀ (L : pb_L) (J : pb_J) (st : List Value) (h : pb_H) (Q : Option Value → pb_H → Prop), pb_R 225 459 L J st h Q ↔ pb_R 225 460 L J (.int (1 : Int32) :: st) h Q) ∧
  (∀ (L : pb_L) (J : pb_J) (st : List Value) (x y : Int32) (h : pb_H) (Q : Option Value → pb_H → Prop), pb_R 225 460 L J (.int y :: .int x :: st) h Q ↔ pb_R 225 461 L J (.int (x + y) :: st) h Q) ∧
  (∀ (L : pb_L) (J : pb_J) (st : List Value) (h : pb_H) (Q : Option Value → pb_H → Prop) (a : Nat) (i : Int32), pb_R 225 461 L J (.int i :: .ref a :: st) h Q ↔ pb_o (pb_ai (h.2 a) i) (fun v => pb_R 225 462 L J (.int v :: st) h Q)) ∧
  (∀ (l1 l2 l3 : Option Value) (st : List Value) (h : pb_H) (Q : Option Value → pb_H → Prop) (x : Nat), pb_R 225 462 [some (.ref x), l1, l2, l3] [] st h Q ↔ pb_R 225 463 [some (.ref x), l1, l2, l3] [] (.ref x :: st) h Q) ∧
  (∀ (l1 l2 l3 : Option Value) (st : List Value) (h : pb_H) (Q : Option Value → pb_H → Prop), pb_R 225 462 [some .null, l1, l2, l3] [] st h Q ↔ pb_R 225 463 [some .null, l1, l2, l3] [] (.null :: st) h Q) ∧
  (∀ (l0 l1 l2 : Option Value) (st : List Value) (h : pb_H) (Q : Option Value → pb_H → Prop) (x : Int32), pb_R 225 463 [l0, l1, l2, some (.int x)] [] st h Q ↔ pb_R 225 464 [l0, l1, l2, some (.int x)] [] (.int x :: st) h Q) ∧
  (∀ (L : pb_L) (J : pb_J) (st : List Value) (h : pb_H) (Q : Option Value → pb_H → Prop), pb_R 225 464 L J st h Q ↔ pb_R 225 465 L J (.int (2 : Int32) :: st) h Q) ∧
  (∀ (L : pb_L) (J : pb_J) (st : List Value) (x y : Int32) (h : pb_H) (Q : Option Value → pb_H → Prop), pb_R 225 465 L J (.int y :: .int x :: st) h Q ↔ pb_R 225 466 L J (.int (x + y) :: st) h Q) ∧
  (∀ (L : pb_L) (J : pb_J) (st : List Value) (h : pb_H) (Q : Option Value → pb_H → Prop) (a : Nat) (i : Int32), pb_R 225 466 L J (.int i :: .ref a :: st) h Q ↔ pb_o (pb_ai (h.2 a) i) (fun v => pb_R 225 467 L J (.int v :: st) h Q)) ∧
  (∀ (L : pb_L) (J : pb_J) (h : pb_H) (Q : Option Value → pb_H → Prop) (x0 : Int32) (x1 : Int32) (x2 : Nat) (x3 : Int32), pb_R 225 467 L J [.int x0, .int x1, .ref x2, .int x3] h Q ↔ pb_is0 (h.2 x2) 12 = true ∧ pb_call 221 [.ref x2, .int x1, .int x0] h (fun v t => pb_R 225 470 L J (v.toList ++ [.int x3]) t Q)) ∧
  (∀ (L : pb_L) (J : pb_J) (st : List Value) (h : pb_H) (Q : Option Value → pb_H → Prop) (x y : Int32), pb_R 225 470 L J (.int y :: .int x :: st) h Q ↔ if x = y then pb_R 225 521 L J st h Q else pb_R 225 473 L J st h Q) ∧
  (∀ (L : pb_L) (J : pb_J) (st : List Value) (h : pb_H) (Q : Option Value → pb_H → Prop), pb_R 225 473 L J st h Q ↔ pb_R 225 474 L J (.int (0 : Int32) :: st) h Q) ∧
  (∀ (L : pb_L) (J : pb_J) (h : pb_H) (Q : Option Value → pb_H → Prop) (x : Int32), pb_R 225 474 L J [.int x] h Q ↔ narrow .boolean (.int x) = .int x ∧ Q (some (.int x)) h) ∧
  (∀ (l0 l2 l3 : Option Value) (st : List Value) (h : pb_H) (Q : Option Value → pb_H → Prop) (x : Nat), pb_R 225 475 [l0, some (.ref x), l2, l3] [] st h Q ↔ pb_R 225 476 [l0, some (.ref x), l2, l3] [] (.ref x :: st) h Q) ∧
  (∀ (l0 l2 l3 : Option Value) (st : List Value) (h : pb_H) (Q : Option Value → pb_H → Prop), pb_R 225 475 [l0, some .null, l2, l3] [] st h Q ↔ pb_R 225 476 [l0, some .null, l2, l3] [] (.null :: st) h Q) ∧
  (∀ (l1 l2 l3 : Option Value) (st : List Value) (h : pb_H) (Q : Option Value → pb_H → Prop) (x : Nat), pb_R 225 476 [some (.ref x), l1, l2, l3] [] st h Q ↔ pb_R 225 477 [some (.ref x), l1, l2, l3] [] (.ref x :: st) h Q) ∧
  (∀ (l1 l2 l3 : Option Value) (st : List Value) (h : pb_H) (Q : Option Value → pb_H → Prop), pb_R 225 476 [some .null, l1, l2, l3] [] st h Q ↔ pb_R 225 477 [some .null, l1, l2, l3] [] (.null :: st) h Q) ∧
  (∀ (l0 l1 l2 : Option Value) (st : List Value) (h : pb_H) (Q : Option Value → pb_H → Prop) (x : Int32), pb_R 225 477 [l0, l1, l2, some (.int x)] [] st h Q ↔ pb_R 225 478 [l0, l1, l2, some (.int x)] [] (.int x :: st) h Q) ∧
  (∀ (L : pb_L) (J : pb_J) (st : List Value) (h : pb_H) (Q : Option Value → pb_H → Prop), pb_R 225 478 L J st h Q ↔ pb_R 225 479 L J (.int (1 : Int32) :: st) h Q) ∧
  (∀ (L : pb_L) (J : pb_J) (st : List Value) (x y : Int32) (h : pb_H) (Q : Option Value → pb_H → Prop), pb_R 225 479 L J (.int y :: .int x :: st) h Q ↔ pb_R 225 480 L J (.int (x + y) :: st) h Q) ∧
  (∀ (L : pb_L) (J : pb_J) (st : List Value) (h : pb_H) (Q : Option Value → pb_H → Prop) (a : Nat) (i : Int32), pb_R 225 480 L J (.int i :: .ref a :: st) h Q ↔ pb_o (pb_ai (h.2 a) i) (fun v => pb_R 225 481 L J (.int v :: st) h Q)) ∧
  (∀ (L : pb_L) (J : pb_J) (h : pb_H) (Q : Option Value → pb_H → Prop) (x0 : Int32) (x1 : Nat), pb_R 225 481 L J [.int x0, .ref x1] h Q ↔ pb_is0 (h.2 x1) 11 = true ∧ pb_call 137 [.ref x1, .int x0] h (fun v t => pb_R 225 484 L J (v.toList ++ []) t Q)) ∧
  (∀ (l0 l1 l3 : Option Value) (st : List Value) (h : pb_H) (Q : Option Value → pb_H → Prop) (x : Nat), pb_R 225 484 [l0, l1, some (.ref x), l3] [] st h Q ↔ pb_R 225 485 [l0, l1, some (.ref x), l3] [] (.ref x :: st) h Q) ∧
  (∀ (l0 l1 l3 : Option Value) (st : List Value) (h : pb_H) (Q : Option Value → pb_H → Prop), pb_R 225 484 [l0, l1, some .null, l3] [] st h Q ↔ pb_R 225 485 [l0, l1, some .null, l3] [] (.null :: st) h Q) ∧
  (∀ (l1 l2 l3 : Option Value) (st : List Value) (h : pb_H) (Q : Option Value → pb_H → Prop) (x : Nat), pb_R 225 485 [some (.ref x), l1, l2, l3] [] st h Q ↔ pb_R 225 486 [some (.ref x), l1, l2, l3] [] (.ref x :: st) h Q) ∧
  (∀ (l1 l2 l3 : Option Value) (st : List Value) (h : pb_H) (Q : Option Value → pb_H → Prop), pb_R 225 485 [some .null, l1, l2, l3] [] st h Q ↔ pb_R 225 486 [some .null, l1, l2, l3] [] (.null :: st) h Q) ∧
  (∀ (l0 l1 l2 : Option Value) (st : List Value) (h : pb_H) (Q : Option Value → pb_H → Prop) (x : Int32), pb_R 225 486 [l0, l1, l2, some (.int x)] [] st h Q ↔ pb_R 225 487 [l0, l1, l2, some (.int x)] [] (.int x :: st) h Q) ∧
  (∀ (L : pb_L) (J : pb_J) (st : List Value) (h : pb_H) (Q : Option Value → pb_H → Prop), pb_R 225 487 L J st h Q ↔ pb_R 225 488 L J (.int (1 : Int32) :: st) h Q) ∧
  (∀ (L : pb_L) (J : pb_J) (st : List Value) (x y : Int32) (h : pb_H) (Q : Option Value → pb_H → Prop), pb_R 225 488 L J (.int y :: .int x :: st) h Q ↔ pb_R 225 489 L J (.int (x + y) :: st) h Q) ∧
  (∀ (L : pb_L) (J : pb_J) (st : List Value) (h : pb_H) (Q : Option Value → pb_H → Prop) (a : Nat) (i : Int32), pb_R 225 489 L J (.int i :: .ref a :: st) h Q ↔ pb_o (pb_ai (h.2 a) i) (fun v => pb_R 225 490 L J (.int v :: st) h Q)) ∧
  (∀ (L : pb_L) (J : pb_J) (h : pb_H) (Q : Option Value → pb_H → Prop) (x0 : Int32) (x1 : Nat) (x2 : Int32), pb_R 225 490 L J [.int x0, .ref x1, .int x2] h Q ↔ pb_is0 (h.2 x1) 12 = true ∧ pb_call 222 [.ref x1, .int x0] h (fun v t => pb_R 225 493 L J (v.toList ++ [.int x2]) t Q)) ∧
  (∀ (L : pb_L) (J : pb_J) (st : List Value) (h : pb_H) (Q : Option Value → pb_H → Prop) (x y : Int32), pb_R 225 493 L J (.int y :: .int x :: st) h Q ↔ if x = y then pb_R 225 521 L J st h Q else pb_R 225 496 L J st h Q) ∧
  (∀ (L : pb_L) (J : pb_J) (st : List Value) (h : pb_H) (Q : Option Value → pb_H → Prop), pb_R 225 496 L J st h Q ↔ pb_R 225 497 L J (.int (0 : Int32) :: st) h Q) ∧
  (∀ (L : pb_L) (J : pb_J) (h : pb_H) (Q : Option Value → pb_H → Prop) (x : Int32), pb_R 225 497 L J [.int x] h Q ↔ narrow .boolean (.int x) = .int x ∧ Q (some (.int x)) h) ∧
  (∀ (l0 l2 l3 : Option Value) (st : List Value) (h : pb_H) (Q : Option Value → pb_H → Prop) (x : Nat), pb_R 225 498 [l0, some (.ref x), l2, l3] [] st h Q ↔ pb_R 225 499 [l0, some (.ref x), l2, l3] [] (.ref x :: st) h Q) ∧
  (∀ (l0 l2 l3 : Option Value) (st : List Value) (h : pb_H) (Q : Option Value → pb_H → Prop), pb_R 225 498 [l0, some .null, l2, l3] [] st h Q ↔ pb_R 225 499 [l0, some .null, l2, l3] [] (.null :: st) h Q) ∧
  (∀ (l1 l2 l3 : Option Value) (st : List Value) (h : pb_H) (Q : Option Value → pb_H → Prop) (x : Nat), pb_R 225 499 [some (.ref x), l1, l2, l3] [] st h Q ↔ pb_R 225 500 [some (.ref x), l1, l2, l3] [] (.ref x :: st) h Q) ∧
  (∀ (l1 l2 l3 : Option Value) (st : List Value) (h : pb_H) (Q : Option Value → pb_H → Prop), pb_R 225 499 [some .null, l1, l2, l3] [] st h Q ↔ pb_R 225 500 [some .null, l1, l2, l3] [] (.null :: st) h Q) ∧
  (∀ (l0 l1 l2 : Option Value) (st : List Value) (h : pb_H) (Q : Option Value → pb_H → Prop) (x : Int32), pb_R 225 500 [l0, l1, l2, some (.int x)] [] st h Q ↔ pb_R 225 501 [l0, l1, l2, some (.int x)] [] (.int x :: st) h Q) ∧
  (∀ (L : pb_L) (J : pb_J) (st : List Value) (h : pb_H) (Q : Option Value → pb_H → Prop), pb_R 225 501 L J st h Q ↔ pb_R 225 502 L J (.int (1 : Int32) :: st) h Q) ∧
  (∀ (L : pb_L) (J : pb_J) (st : List Value) (x y : Int32) (h : pb_H) (Q : Option Value → pb_H → Prop), pb_R 225 502 L J (.int y :: .int x :: st) h Q ↔ pb_R 225 503 L J (.int (x + y) :: st) h Q) ∧
  (∀ (L : pb_L) (J : pb_J) (st : List Value) (h : pb_H) (Q : Option Value → pb_H → Prop) (a : Nat) (i : Int32), pb_R 225 503 L J (.int i :: .ref a :: st) h Q ↔ pb_o (pb_ai (h.2 a) i) (fun v => pb_R 225 504 L J (.int v :: st) h Q)) ∧
  (∀ (L : pb_L) (J : pb_J) (h : pb_H) (Q : Option Value → pb_H → Prop) (x0 : Int32) (x1 : Nat), pb_R 225 504 L J [.int x0, .ref x1] h Q ↔ pb_is0 (h.2 x1) 11 = true ∧ pb_call 138 [.ref x1, .int x0] h (fun v t => pb_R 225 507 L J (v.toList ++ []) t Q)) ∧
  (∀ (l0 l1 l3 : Option Value) (st : List Value) (h : pb_H) (Q : Option Value → pb_H → Prop) (x : Nat), pb_R 225 507 [l0, l1, some (.ref x), l3] [] st h Q ↔ pb_R 225 508 [l0, l1, some (.ref x), l3] [] (.ref x :: st) h Q) ∧
  (∀ (l0 l1 l3 : Option Value) (st : List Value) (h : pb_H) (Q : Option Value → pb_H → Prop), pb_R 225 507 [l0, l1, some .null, l3] [] st h Q ↔ pb_R 225 508 [l0, l1, some .null, l3] [] (.null :: st) h Q) ∧
  (∀ (l1 l2 l3 : Option Value) (st : List Value) (h : pb_H) (Q : Option Value → pb_H → Prop) (x : Nat), pb_R 225 508 [some (.ref x), l1, l2, l3] [] st h Q ↔ pb_R 225 509 [some (.ref x), l1, l2, l3] [] (.ref x :: st) h Q) ∧
  (∀ (l1 l2 l3 : Option Value) (st : List Value) (h : pb_H) (Q : Option Value → pb_H → Prop), pb_R 225 508 [some .null, l1, l2, l3] [] st h Q ↔ pb_R 225 509 [some .null, l1, l2, l3] [] (.null :: st) h Q) ∧
  (∀ (l0 l1 l2 : Option Value) (st : List Value) (h : pb_H) (Q : Option Value → pb_H → Prop) (x : Int32), pb_R 225 509 [l0, l1, l2, some (.int x)] [] st h Q ↔ pb_R 225 510 [l0, l1, l2, some (.int x)] [] (.int x :: st) h Q) ∧
  (∀ (L : pb_L) (J : pb_J) (st : List Value) (h : pb_H) (Q : Option Value → pb_H → Prop), pb_R 225 510 L J st h Q ↔ pb_R 225 511 L J (.int (1 : Int32) :: st) h Q) ∧
  (∀ (L : pb_L) (J : pb_J) (st : List Value) (x y : Int32) (h : pb_H) (Q : Option Value → pb_H → Prop), pb_R 225 511 L J (.int y :: .int x :: st) h Q ↔ pb_R 225 512 L J (.int (x + y) :: st) h Q) ∧
  (∀ (L : pb_L) (J : pb_J) (st : List Value) (h : pb_H) (Q : Option Value → pb_H → Prop) (a : Nat) (i : Int32), pb_R 225 512 L J (.int i :: .ref a :: st) h Q ↔ pb_o (pb_ai (h.2 a) i) (fun v => pb_R 225 513 L J (.int v :: st) h Q)) ∧
  (∀ (L : pb_L) (J : pb_J) (h : pb_H) (Q : Option Value → pb_H → Prop) (x0 : Int32) (x1 : Nat) (x2 : Int32), pb_R 225 513 L J [.int x0, .ref x1, .int x2] h Q ↔ pb_is0 (h.2 x1) 12 = true ∧ pb_call 223 [.ref x1, .int x0] h (fun v t => pb_R 225 516 L J (v.toList ++ [.int x2]) t Q)) ∧
  (∀ (L : pb_L) (J : pb_J) (st : List Value) (h : pb_H) (Q : Option Value → pb_H → Prop) (x y : Int32), pb_R 225 516 L J (.int y :: .int x :: st) h Q ↔ if x = y then pb_R 225 521 L J st h Q else pb_R 225 519 L J st h Q) ∧
  (∀ (L : pb_L) (J : pb_J) (st : List Value) (h : pb_H) (Q : Option Value → pb_H → Prop), pb_R 225 519 L J st h Q ↔ pb_R 225 520 L J (.int (0 : Int32) :: st) h Q) ∧
  (∀ (L : pb_L) (J : pb_J) (h : pb_H) (Q : Option Value → pb_H → Prop) (x : Int32), pb_R 225 520 L J [.int x] h Q ↔ narrow .boolean (.int x) = .int x ∧ Q (some (.int x)) h) ∧
  (∀ (l0 l1 l2 : Option Value) (st : List Value) (h : pb_H) (Q : Option Value → pb_H → Prop) (x : Int32), pb_R 225 521 [l0, l1, l2, some (.int x)] [] st h Q ↔ pb_R 225 524 [l0, l1, l2, some (.int (x + (6 : Int32)))] [] st h Q) ∧
  (∀ (L : pb_L) (J : pb_J) (st : List Value) (h : pb_H) (Q : Option Value → pb_H → Prop), pb_R 225 524 L J st h Q ↔ pb_R 225 28 L J st h Q) ∧
  (∀ (L : pb_L) (J : pb_J) (st : List Value) (h : pb_H) (Q : Option Value → pb_H → Prop), pb_R 225 527 L J st h Q ↔ pb_R 225 528 L J (.int (1 : Int32) :: st) h Q) ∧
  (∀ (L : pb_L) (J : pb_J) (h : pb_H) (Q : Option Value → pb_H → Prop) (x : Int32), pb_R 225 528 L J [.int x] h Q ↔ narrow .boolean (.int x) = .int x ∧ Q (some (.int x)) h) := ⟨
  fun L J st h Q => pf_S pb_u_225 rfl rfl,
  fun L J st x h Q => pf_S pb_u_225 rfl rfl,
  fun l1 l2 l3 st h Q x => pf_S pb_u_225 rfl rfl,
  fun l1 l2 l3 st h Q => pf_S pb_u_225 rfl rfl,
  fun L J st h Q => pf_S pb_u_225 rfl rfl,
  fun L J h Q x0 x1 x2 x3 => pf_ks pb_u_225 rfl rfl rfl rfl,
  fun L J h Q x0 x1 x2 => pf_kp pb_u_225 rfl rfl rfl rfl,
  fun l0 l1 l2 l3 st h Q x => pf_S pb_u_225 rfl rfl,
  fun l0 l1 l2 l3 st h Q => pf_S pb_u_225 rfl rfl,
  fun L J st h Q => pf_S pb_u_225 rfl rfl,
  fun L J st x h Q => pf_S pb_u_225 rfl rfl,
  fun l1 l2 l3 st h Q x => pf_S pb_u_225 rfl rfl,
  fun l1 l2 l3 st h Q => pf_S pb_u_225 rfl rfl,
  fun L J st h Q => pf_S pb_u_225 rfl rfl,
  fun L J h Q x0 x1 x2 x3 => pf_ks pb_u_225 rfl rfl rfl rfl,
  fun L J h Q x0 x1 x2 => pf_kp pb_u_225 rfl rfl rfl rfl,
  fun l0 l1 l2 l3 st h Q x => pf_S pb_u_225 rfl rfl,
  fun l0 l1 l2 l3 st h Q => pf_S pb_u_225 rfl rfl,
  fun L J st h Q => pf_S pb_u_225 rfl rfl,
  fun l0 l1 l2 l3 st h Q x => pf_S pb_u_225 rfl rfl,
  fun l1 l2 l3 st h Q x => pf_S pb_u_225 rfl rfl,
  fun l1 l2 l3 st h Q => pf_S pb_u_225 rfl rfl,
  fun L J st h Q a => pf_le pb_u_225 rfl rfl,
  fun L J st h Q => pf_S pb_u_225 rfl rfl,
  fun L J st x y h Q => pf_S pb_u_225 rfl rfl,
  fun L J st h Q x y => pf_ic pb_u_225 rfl rfl rfl,
  fun l1 l2 l3 st h Q x => pf_S pb_u_225 rfl rfl,
  fun l1 l2 l3 st h Q => pf_S pb_u_225 rfl rfl,
  fun l0 l1 l2 st h Q x => pf_S pb_u_225 rfl rfl,
  fun L J st h Q a i => pf_ai pb_u_225 rfl rfl,
  fun L J st h Q => pf_S pb_u_225 rfl rfl,
  fun L J st x y h Q => pf_S pb_u_225 rfl rfl,
  fun L J st h Q x => pb_q225_43 L J st h Q x,
  fun l0 l2 l3 st h Q x => pf_S pb_u_225 rfl rfl,
  fun l0 l2 l3 st h Q => pf_S pb_u_225 rfl rfl,
  fun l1 l2 l3 st h Q x => pf_S pb_u_225 rfl rfl,
  fun l1 l2 l3 st h Q => pf_S pb_u_225 rfl rfl,
  fun l0 l1 l2 st h Q x => pf_S pb_u_225 rfl rfl,
  fun L J st h Q => pf_S pb_u_225 rfl rfl,
  fun L J st x y h Q => pf_S pb_u_225 rfl rfl,
  fun L J st h Q a i => pf_ai pb_u_225 rfl rfl,
  fun l1 l2 l3 st h Q x => pf_S pb_u_225 rfl rfl,
  fun l1 l2 l3 st h Q => pf_S pb_u_225 rfl rfl,
  fun l0 l1 l2 st h Q x => pf_S pb_u_225 rfl rfl,
  fun L J st h Q => pf_S pb_u_225 rfl rfl,
  fun L J st x y h Q => pf_S pb_u_225 rfl rfl,
  fun L J st h Q a i => pf_ai pb_u_225 rfl rfl,
  fun l1 l2 l3 st h Q x => pf_S pb_u_225 rfl rfl,
  fun l1 l2 l3 st h Q => pf_S pb_u_225 rfl rfl,
  fun l0 l1 l2 st h Q x => pf_S pb_u_225 rfl rfl,
  fun L J st h Q => pf_S pb_u_225 rfl rfl,
  fun L J st x y h Q => pf_S pb_u_225 rfl rfl,
  fun L J st h Q a i => pf_ai pb_u_225 rfl rfl,
  fun l1 l2 l3 st h Q x => pf_S pb_u_225 rfl rfl,
  fun l1 l2 l3 st h Q => pf_S pb_u_225 rfl rfl,
  fun l0 l1 l2 st h Q x => pf_S pb_u_225 rfl rfl,
  fun L J st h Q => pf_S pb_u_225 rfl rfl,
  fun L J st x y h Q => pf_S pb_u_225 rfl rfl,
  fun L J st h Q a i => pf_ai pb_u_225 rfl rfl,
  fun l1 l2 l3 st h Q x => pf_S pb_u_225 rfl rfl,
  fun l1 l2 l3 st h Q => pf_S pb_u_225 rfl rfl,
  fun l0 l1 l2 st h Q x => pf_S pb_u_225 rfl rfl,
  fun L J st h Q => pf_S pb_u_225 rfl rfl,
  fun L J st x y h Q => pf_S pb_u_225 rfl rfl,
  fun L J st h Q a i => pf_ai pb_u_225 rfl rfl,
  fun L J h Q x0 x1 x2 x3 x4 x5 => pf_kv pb_u_225 rfl pb_ci_124 rfl ⟨Nat.le_of_ble_eq_true rfl, Nat.le_of_ble_eq_true rfl, Nat.le_of_ble_eq_true rfl, Nat.le_of_ble_eq_true rfl, rfl⟩ rfl rfl,
  fun l0 l1 l3 st h Q x => pf_S pb_u_225 rfl rfl,
  fun l0 l1 l3 st h Q => pf_S pb_u_225 rfl rfl,
  fun l1 l2 l3 st h Q x => pf_S pb_u_225 rfl rfl,
  fun l1 l2 l3 st h Q => pf_S pb_u_225 rfl rfl,
  fun l0 l1 l2 st h Q x => pf_S pb_u_225 rfl rfl,
  fun L J st h Q => pf_S pb_u_225 rfl rfl,
  fun L J st x y h Q => pf_S pb_u_225 rfl rfl,
  fun L J st h Q a i => pf_ai pb_u_225 rfl rfl,
  fun l1 l2 l3 st h Q x => pf_S pb_u_225 rfl rfl,
  fun l1 l2 l3 st h Q => pf_S pb_u_225 rfl rfl,
  fun l0 l1 l2 st h Q x => pf_S pb_u_225 rfl rfl,
  fun L J st h Q => pf_S pb_u_225 rfl rfl,
  fun L J st x y h Q => pf_S pb_u_225 rfl rfl,
  fun L J st h Q a i => pf_ai pb_u_225 rfl rfl,
  fun l1 l2 l3 st h Q x => pf_S pb_u_225 rfl rfl,
  fun l1 l2 l3 st h Q => pf_S pb_u_225 rfl rfl,
  fun l0 l1 l2 st h Q x => pf_S pb_u_225 rfl rfl,
  fun L J st h Q => pf_S pb_u_225 rfl rfl,
  fun L J st x y h Q => pf_S pb_u_225 rfl rfl,
  fun L J st h Q a i => pf_ai pb_u_225 rfl rfl,
  fun l1 l2 l3 st h Q x => pf_S pb_u_225 rfl rfl,
  fun l1 l2 l3 st h Q => pf_S pb_u_225 rfl rfl,
  fun l0 l1 l2 st h Q x => pf_S pb_u_225 rfl rfl,
  fun L J st h Q => pf_S pb_u_225 rfl rfl,
  fun L J st x y h Q => pf_S pb_u_225 rfl rfl,
  fun L J st h Q a i => pf_ai pb_u_225 rfl rfl,
  fun l1 l2 l3 st h Q x => pf_S pb_u_225 rfl rfl,
  fun l1 l2 l3 st h Q => pf_S pb_u_225 rfl rfl,
  fun l0 l1 l2 st h Q x => pf_S pb_u_225 rfl rfl,
  fun L J st h Q => pf_S pb_u_225 rfl rfl,
  fun L J st x y h Q => pf_S pb_u_225 rfl rfl,
  fun L J st h Q a i => pf_ai pb_u_225 rfl rfl,
  fun L J h Q x0 x1 x2 x3 x4 x5 x6 => pf_kv pb_u_225 rfl pb_ci_141 rfl ⟨Nat.le_of_ble_eq_true rfl, Nat.le_of_ble_eq_true rfl, Nat.le_of_ble_eq_true rfl, Nat.le_of_ble_eq_true rfl, rfl⟩ rfl rfl,
  fun L J st h Q x y => pf_ic pb_u_225 rfl rfl rfl,
  fun L J st h Q => pf_S pb_u_225 rfl rfl,
  fun L J h Q x => pf_rz pb_u_225 rfl rfl,
  fun l0 l2 l3 st h Q x => pf_S pb_u_225 rfl rfl,
  fun l0 l2 l3 st h Q => pf_S pb_u_225 rfl rfl,
  fun l1 l2 l3 st h Q x => pf_S pb_u_225 rfl rfl,
  fun l1 l2 l3 st h Q => pf_S pb_u_225 rfl rfl,
  fun l0 l1 l2 st h Q x => pf_S pb_u_225 rfl rfl,
  fun L J st h Q => pf_S pb_u_225 rfl rfl,
  fun L J st x y h Q => pf_S pb_u_225 rfl rfl,
  fun L J st h Q a i => pf_ai pb_u_225 rfl rfl,
  fun L J h Q x0 x1 => pf_kv pb_u_225 rfl pb_ci_125 rfl ⟨Nat.le_of_ble_eq_true rfl, Nat.le_of_ble_eq_true rfl, Nat.le_of_ble_eq_true rfl, Nat.le_of_ble_eq_true rfl, rfl⟩ rfl rfl,
  fun l0 l1 l3 st h Q x => pf_S pb_u_225 rfl rfl,
  fun l0 l1 l3 st h Q => pf_S pb_u_225 rfl rfl,
  fun l1 l2 l3 st h Q x => pf_S pb_u_225 rfl rfl,
  fun l1 l2 l3 st h Q => pf_S pb_u_225 rfl rfl,
  fun l0 l1 l2 st h Q x => pf_S pb_u_225 rfl rfl,
  fun L J st h Q => pf_S pb_u_225 rfl rfl,
  fun L J st x y h Q => pf_S pb_u_225 rfl rfl,
  fun L J st h Q a i => pf_ai pb_u_225 rfl rfl,
  fun L J h Q x0 x1 x2 => pf_kv pb_u_225 rfl pb_ci_142 rfl ⟨Nat.le_of_ble_eq_true rfl, Nat.le_of_ble_eq_true rfl, Nat.le_of_ble_eq_true rfl, Nat.le_of_ble_eq_true rfl, rfl⟩ rfl rfl,
  fun L J st h Q x y => pf_ic pb_u_225 rfl rfl rfl,
  fun L J st h Q => pf_S pb_u_225 rfl rfl,
  fun L J h Q x => pf_rz pb_u_225 rfl rfl,
  fun l0 l2 l3 st h Q x => pf_S pb_u_225 rfl rfl,
  fun l0 l2 l3 st h Q => pf_S pb_u_225 rfl rfl,
  fun L J h Q x0 => pf_kv pb_u_225 rfl pb_ci_126 rfl ⟨Nat.le_of_ble_eq_true rfl, Nat.le_of_ble_eq_true rfl, Nat.le_of_ble_eq_true rfl, Nat.le_of_ble_eq_true rfl, rfl⟩ rfl rfl,
  fun l0 l1 l3 st h Q x => pf_S pb_u_225 rfl rfl,
  fun l0 l1 l3 st h Q => pf_S pb_u_225 rfl rfl,
  fun L J h Q x0 x1 => pf_kv pb_u_225 rfl pb_ci_192 rfl ⟨Nat.le_of_ble_eq_true rfl, Nat.le_of_ble_eq_true rfl, Nat.le_of_ble_eq_true rfl, Nat.le_of_ble_eq_true rfl, rfl⟩ rfl rfl,
  fun L J st h Q x y => pf_ic pb_u_225 rfl rfl rfl,
  fun L J st h Q => pf_S pb_u_225 rfl rfl,
  fun L J h Q x => pf_rz pb_u_225 rfl rfl,
  fun l0 l2 l3 st h Q x => pf_S pb_u_225 rfl rfl,
  fun l0 l2 l3 st h Q => pf_S pb_u_225 rfl rfl,
  fun L J h Q x0 => pf_kv pb_u_225 rfl pb_ci_127 rfl ⟨Nat.le_of_ble_eq_true rfl, Nat.le_of_ble_eq_true rfl, Nat.le_of_ble_eq_true rfl, Nat.le_of_ble_eq_true rfl, rfl⟩ rfl rfl,
  fun l0 l1 l3 st h Q x => pf_S pb_u_225 rfl rfl,
  fun l0 l1 l3 st h Q => pf_S pb_u_225 rfl rfl,
  fun L J h Q x0 x1 => pf_kv pb_u_225 rfl pb_ci_201 rfl ⟨Nat.le_of_ble_eq_true rfl, Nat.le_of_ble_eq_true rfl, Nat.le_of_ble_eq_true rfl, Nat.le_of_ble_eq_true rfl, rfl⟩ rfl rfl,
  fun L J st h Q x y => pf_ic pb_u_225 rfl rfl rfl,
  fun L J st h Q => pf_S pb_u_225 rfl rfl,
  fun L J h Q x => pf_rz pb_u_225 rfl rfl,
  fun l0 l2 l3 st h Q x => pf_S pb_u_225 rfl rfl,
  fun l0 l2 l3 st h Q => pf_S pb_u_225 rfl rfl,
  fun l1 l2 l3 st h Q x => pf_S pb_u_225 rfl rfl,
  fun l1 l2 l3 st h Q => pf_S pb_u_225 rfl rfl,
  fun l0 l1 l2 st h Q x => pf_S pb_u_225 rfl rfl,
  fun L J st h Q => pf_S pb_u_225 rfl rfl,
  fun L J st x y h Q => pf_S pb_u_225 rfl rfl,
  fun L J st h Q a i => pf_ai pb_u_225 rfl rfl,
  fun L J h Q x0 x1 => pf_kv pb_u_225 rfl pb_ci_128 rfl ⟨Nat.le_of_ble_eq_true rfl, Nat.le_of_ble_eq_true rfl, Nat.le_of_ble_eq_true rfl, Nat.le_of_ble_eq_true rfl, rfl⟩ rfl rfl,
  fun l0 l1 l3 st h Q x => pf_S pb_u_225 rfl rfl,
  fun l0 l1 l3 st h Q => pf_S pb_u_225 rfl rfl,
  fun l1 l2 l3 st h Q x => pf_S pb_u_225 rfl rfl,
  fun l1 l2 l3 st h Q => pf_S pb_u_225 rfl rfl,
  fun l0 l1 l2 st h Q x => pf_S pb_u_225 rfl rfl,
  fun L J st h Q => pf_S pb_u_225 rfl rfl,
  fun L J st x y h Q => pf_S pb_u_225 rfl rfl,
  fun L J st h Q a i => pf_ai pb_u_225 rfl rfl,
  fun L J h Q x0 x1 x2 => pf_kv pb_u_225 rfl pb_ci_202 rfl ⟨Nat.le_of_ble_eq_true rfl, Nat.le_of_ble_eq_true rfl, Nat.le_of_ble_eq_true rfl, Nat.le_of_ble_eq_true rfl, rfl⟩ rfl rfl,
  fun L J st h Q x y => pf_ic pb_u_225 rfl rfl rfl,
  fun L J st h Q => pf_S pb_u_225 rfl rfl,
  fun L J h Q x => pf_rz pb_u_225 rfl rfl,
  fun l0 l2 l3 st h Q x => pf_S pb_u_225 rfl rfl,
  fun l0 l2 l3 st h Q => pf_S pb_u_225 rfl rfl,
  fun l1 l2 l3 st h Q x => pf_S pb_u_225 rfl rfl,
  fun l1 l2 l3 st h Q => pf_S pb_u_225 rfl rfl,
  fun l0 l1 l2 st h Q x => pf_S pb_u_225 rfl rfl,
  fun L J st h Q => pf_S pb_u_225 rfl rfl,
  fun L J st x y h Q => pf_S pb_u_225 rfl rfl,
  fun L J st h Q a i => pf_ai pb_u_225 rfl rfl,
  fun l1 l2 l3 st h Q x => pf_S pb_u_225 rfl rfl,
  fun l1 l2 l3 st h Q => pf_S pb_u_225 rfl rfl,
  fun l0 l1 l2 st h Q x => pf_S pb_u_225 rfl rfl,
  fun L J st h Q => pf_S pb_u_225 rfl rfl,
  fun L J st x y h Q => pf_S pb_u_225 rfl rfl,
  fun L J st h Q a i => pf_ai pb_u_225 rfl rfl,
  fun L J h Q x0 x1 x2 => pf_kv pb_u_225 rfl pb_ci_129 rfl ⟨Nat.le_of_ble_eq_true rfl, Nat.le_of_ble_eq_true rfl, Nat.le_of_ble_eq_true rfl, Nat.le_of_ble_eq_true rfl, rfl⟩ rfl rfl,
  fun l0 l1 l3 st h Q x => pf_S pb_u_225 rfl rfl,
  fun l0 l1 l3 st h Q => pf_S pb_u_225 rfl rfl,
  fun l1 l2 l3 st h Q x => pf_S pb_u_225 rfl rfl,
  fun l1 l2 l3 st h Q => pf_S pb_u_225 rfl rfl,
  fun l0 l1 l2 st h Q x => pf_S pb_u_225 rfl rfl,
  fun L J st h Q => pf_S pb_u_225 rfl rfl,
  fun L J st x y h Q => pf_S pb_u_225 rfl rfl,
  fun L J st h Q a i => pf_ai pb_u_225 rfl rfl,
  fun l1 l2 l3 st h Q x => pf_S pb_u_225 rfl rfl,
  fun l1 l2 l3 st h Q => pf_S pb_u_225 rfl rfl,
  fun l0 l1 l2 st h Q x => pf_S pb_u_225 rfl rfl,
  fun L J st h Q => pf_S pb_u_225 rfl rfl,
  fun L J st x y h Q => pf_S pb_u_225 rfl rfl,
  fun L J st h Q a i => pf_ai pb_u_225 rfl rfl,
  fun L J h Q x0 x1 x2 x3 => pf_kv pb_u_225 rfl pb_ci_204 rfl ⟨Nat.le_of_ble_eq_true rfl, Nat.le_of_ble_eq_true rfl, Nat.le_of_ble_eq_true rfl, Nat.le_of_ble_eq_true rfl, rfl⟩ rfl rfl,
  fun L J st h Q x y => pf_ic pb_u_225 rfl rfl rfl,
  fun L J st h Q => pf_S pb_u_225 rfl rfl,
  fun L J h Q x => pf_rz pb_u_225 rfl rfl,
  fun l0 l2 l3 st h Q x => pf_S pb_u_225 rfl rfl,
  fun l0 l2 l3 st h Q => pf_S pb_u_225 rfl rfl,
  fun l1 l2 l3 st h Q x => pf_S pb_u_225 rfl rfl,
  fun l1 l2 l3 st h Q => pf_S pb_u_225 rfl rfl,
  fun l0 l1 l2 st h Q x => pf_S pb_u_225 rfl rfl,
  fun L J st h Q => pf_S pb_u_225 rfl rfl,
  fun L J st x y h Q => pf_S pb_u_225 rfl rfl,
  fun L J st h Q a i => pf_ai pb_u_225 rfl rfl,
  fun l1 l2 l3 st h Q x => pf_S pb_u_225 rfl rfl,
  fun l1 l2 l3 st h Q => pf_S pb_u_225 rfl rfl,
  fun l0 l1 l2 st h Q x => pf_S pb_u_225 rfl rfl,
  fun L J st h Q => pf_S pb_u_225 rfl rfl,
  fun L J st x y h Q => pf_S pb_u_225 rfl rfl,
  fun L J st h Q a i => pf_ai pb_u_225 rfl rfl,
  fun l1 l2 l3 st h Q x => pf_S pb_u_225 rfl rfl,
  fun l1 l2 l3 st h Q => pf_S pb_u_225 rfl rfl,
  fun l0 l1 l2 st h Q x => pf_S pb_u_225 rfl rfl,
  fun L J st h Q => pf_S pb_u_225 rfl rfl,
  fun L J st x y h Q => pf_S pb_u_225 rfl rfl,
  fun L J st h Q a i => pf_ai pb_u_225 rfl rfl,
  fun L J h Q x0 x1 x2 x3 => pf_kv pb_u_225 rfl pb_ci_130 rfl ⟨Nat.le_of_ble_eq_true rfl, Nat.le_of_ble_eq_true rfl, Nat.le_of_ble_eq_true rfl, Nat.le_of_ble_eq_true rfl, rfl⟩ rfl rfl,
  fun l0 l1 l3 st h Q x => pf_S pb_u_225 rfl rfl,
  fun l0 l1 l3 st h Q => pf_S pb_u_225 rfl rfl,
  fun l1 l2 l3 st h Q x => pf_S pb_u_225 rfl rfl,
  fun l1 l2 l3 st h Q => pf_S pb_u_225 rfl rfl,
  fun l0 l1 l2 st h Q x => pf_S pb_u_225 rfl rfl,
  fun L J st h Q => pf_S pb_u_225 rfl rfl,
  fun L J st x y h Q => pf_S pb_u_225 rfl rfl,
  fun L J st h Q a i => pf_ai pb_u_225 rfl rfl,
  fun l1 l2 l3 st h Q x => pf_S pb_u_225 rfl rfl,
  fun l1 l2 l3 st h Q => pf_S pb_u_225 rfl rfl,
  fun l0 l1 l2 st h Q x => pf_S pb_u_225 rfl rfl,
  fun L J st h Q => pf_S pb_u_225 rfl rfl,
  fun L J st x y h Q => pf_S pb_u_225 rfl rfl,
  fun L J st h Q a i => pf_ai pb_u_225 rfl rfl,
  fun l1 l2 l3 st h Q x => pf_S pb_u_225 rfl rfl,
  fun l1 l2 l3 st h Q => pf_S pb_u_225 rfl rfl,
  fun l0 l1 l2 st h Q x => pf_S pb_u_225 rfl rfl,
  fun L J st h Q => pf_S pb_u_225 rfl rfl,
  fun L J st x y h Q => pf_S pb_u_225 rfl rfl,
  fun L J st h Q a i => pf_ai pb_u_225 rfl rfl,
  fun L J h Q x0 x1 x2 x3 x4 => pf_kv pb_u_225 rfl pb_ci_205 rfl ⟨Nat.le_of_ble_eq_true rfl, Nat.le_of_ble_eq_true rfl, Nat.le_of_ble_eq_true rfl, Nat.le_of_ble_eq_true rfl, rfl⟩ rfl rfl,
  fun L J st h Q x y => pf_ic pb_u_225 rfl rfl rfl,
  fun L J st h Q => pf_S pb_u_225 rfl rfl,
  fun L J h Q x => pf_rz pb_u_225 rfl rfl,
  fun l0 l2 l3 st h Q x => pf_S pb_u_225 rfl rfl,
  fun l0 l2 l3 st h Q => pf_S pb_u_225 rfl rfl,
  fun l1 l2 l3 st h Q x => pf_S pb_u_225 rfl rfl,
  fun l1 l2 l3 st h Q => pf_S pb_u_225 rfl rfl,
  fun l0 l1 l2 st h Q x => pf_S pb_u_225 rfl rfl,
  fun L J st h Q => pf_S pb_u_225 rfl rfl,
  fun L J st x y h Q => pf_S pb_u_225 rfl rfl,
  fun L J st h Q a i => pf_ai pb_u_225 rfl rfl,
  fun l1 l2 l3 st h Q x => pf_S pb_u_225 rfl rfl,
  fun l1 l2 l3 st h Q => pf_S pb_u_225 rfl rfl,
  fun l0 l1 l2 st h Q x => pf_S pb_u_225 rfl rfl,
  fun L J st h Q => pf_S pb_u_225 rfl rfl,
  fun L J st x y h Q => pf_S pb_u_225 rfl rfl,
  fun L J st h Q a i => pf_ai pb_u_225 rfl rfl,
  fun L J h Q x0 x1 x2 => pf_kv pb_u_225 rfl pb_ci_131 rfl ⟨Nat.le_of_ble_eq_true rfl, Nat.le_of_ble_eq_true rfl, Nat.le_of_ble_eq_true rfl, Nat.le_of_ble_eq_true rfl, rfl⟩ rfl rfl,
  fun l0 l1 l3 st h Q x => pf_S pb_u_225 rfl rfl,
  fun l0 l1 l3 st h Q => pf_S pb_u_225 rfl rfl,
  fun l1 l2 l3 st h Q x => pf_S pb_u_225 rfl rfl,
  fun l1 l2 l3 st h Q => pf_S pb_u_225 rfl rfl,
  fun l0 l1 l2 st h Q x => pf_S pb_u_225 rfl rfl,
  fun L J st h Q => pf_S pb_u_225 rfl rfl,
  fun L J st x y h Q => pf_S pb_u_225 rfl rfl,
  fun L J st h Q a i => pf_ai pb_u_225 rfl rfl,
  fun l1 l2 l3 st h Q x => pf_S pb_u_225 rfl rfl,
  fun l1 l2 l3 st h Q => pf_S pb_u_225 rfl rfl,
  fun l0 l1 l2 st h Q x => pf_S pb_u_225 rfl rfl,
  fun L J st h Q => pf_S pb_u_225 rfl rfl,
  fun L J st x y h Q => pf_S pb_u_225 rfl rfl,
  fun L J st h Q a i => pf_ai pb_u_225 rfl rfl,
  fun L J h Q x0 x1 x2 x3 => pf_kv pb_u_225 rfl pb_ci_206 rfl ⟨Nat.le_of_ble_eq_true rfl, Nat.le_of_ble_eq_true rfl, Nat.le_of_ble_eq_true rfl, Nat.le_of_ble_eq_true rfl, rfl⟩ rfl rfl,
  fun L J st h Q x y => pf_ic pb_u_225 rfl rfl rfl,
  fun L J st h Q => pf_S pb_u_225 rfl rfl,
  fun L J h Q x => pf_rz pb_u_225 rfl rfl,
  fun l0 l2 l3 st h Q x => pf_S pb_u_225 rfl rfl,
  fun l0 l2 l3 st h Q => pf_S pb_u_225 rfl rfl,
  fun l1 l2 l3 st h Q x => pf_S pb_u_225 rfl rfl,
  fun l1 l2 l3 st h Q => pf_S pb_u_225 rfl rfl,
  fun l0 l1 l2 st h Q x => pf_S pb_u_225 rfl rfl,
  fun L J st h Q => pf_S pb_u_225 rfl rfl,
  fun L J st x y h Q => pf_S pb_u_225 rfl rfl,
  fun L J st h Q a i => pf_ai pb_u_225 rfl rfl,
  fun L J h Q x0 x1 => pf_kv pb_u_225 rfl pb_ci_132 rfl ⟨Nat.le_of_ble_eq_true rfl, Nat.le_of_ble_eq_true rfl, Nat.le_of_ble_eq_true rfl, Nat.le_of_ble_eq_true rfl, rfl⟩ rfl rfl,
  fun l0 l1 l3 st h Q x => pf_S pb_u_225 rfl rfl,
  fun l0 l1 l3 st h Q => pf_S pb_u_225 rfl rfl,
  fun l1 l2 l3 st h Q x => pf_S pb_u_225 rfl rfl,
  fun l1 l2 l3 st h Q => pf_S pb_u_225 rfl rfl,
  fun l0 l1 l2 st h Q x => pf_S pb_u_225 rfl rfl,
  fun L J st h Q => pf_S pb_u_225 rfl rfl,
  fun L J st x y h Q => pf_S pb_u_225 rfl rfl,
  fun L J st h Q a i => pf_ai pb_u_225 rfl rfl,
  fun L J h Q x0 x1 x2 => pf_kv pb_u_225 rfl pb_ci_207 rfl ⟨Nat.le_of_ble_eq_true rfl, Nat.le_of_ble_eq_true rfl, Nat.le_of_ble_eq_true rfl, Nat.le_of_ble_eq_true rfl, rfl⟩ rfl rfl,
  fun L J st h Q x y => pf_ic pb_u_225 rfl rfl rfl,
  fun L J st h Q => pf_S pb_u_225 rfl rfl,
  fun L J h Q x => pf_rz pb_u_225 rfl rfl,
  fun l0 l2 l3 st h Q x => pf_S pb_u_225 rfl rfl,
  fun l0 l2 l3 st h Q => pf_S pb_u_225 rfl rfl,
  fun L J h Q x0 => pf_kv pb_u_225 rfl pb_ci_133 rfl ⟨Nat.le_of_ble_eq_true rfl, Nat.le_of_ble_eq_true rfl, Nat.le_of_ble_eq_true rfl, Nat.le_of_ble_eq_true rfl, rfl⟩ rfl rfl,
  fun l0 l1 l3 st h Q x => pf_S pb_u_225 rfl rfl,
  fun l0 l1 l3 st h Q => pf_S pb_u_225 rfl rfl,
  fun L J h Q x0 x1 => pf_kv pb_u_225 rfl pb_ci_208 rfl ⟨Nat.le_of_ble_eq_true rfl, Nat.le_of_ble_eq_true rfl, Nat.le_of_ble_eq_true rfl, Nat.le_of_ble_eq_true rfl, rfl⟩ rfl rfl,
  fun L J st h Q x y => pf_ic pb_u_225 rfl rfl rfl,
  fun L J st h Q => pf_S pb_u_225 rfl rfl,
  fun L J h Q x => pf_rz pb_u_225 rfl rfl,
  fun l0 l2 l3 st h Q x => pf_S pb_u_225 rfl rfl,
  fun l0 l2 l3 st h Q => pf_S pb_u_225 rfl rfl,
  fun l1 l2 l3 st h Q x => pf_S pb_u_225 rfl rfl,
  fun l1 l2 l3 st h Q => pf_S pb_u_225 rfl rfl,
  fun l0 l1 l2 st h Q x => pf_S pb_u_225 rfl rfl,
  fun L J st h Q => pf_S pb_u_225 rfl rfl,
  fun L J st x y h Q => pf_S pb_u_225 rfl rfl,
  fun L J st h Q a i => pf_ai pb_u_225 rfl rfl,
  fun L J h Q x0 x1 => pf_kv pb_u_225 rfl pb_ci_134 rfl ⟨Nat.le_of_ble_eq_true rfl, Nat.le_of_ble_eq_true rfl, Nat.le_of_ble_eq_true rfl, Nat.le_of_ble_eq_true rfl, rfl⟩ rfl rfl,
  fun l0 l1 l3 st h Q x => pf_S pb_u_225 rfl rfl,
  fun l0 l1 l3 st h Q => pf_S pb_u_225 rfl rfl,
  fun l1 l2 l3 st h Q x => pf_S pb_u_225 rfl rfl,
  fun l1 l2 l3 st h Q => pf_S pb_u_225 rfl rfl,
  fun l0 l1 l2 st h Q x => pf_S pb_u_225 rfl rfl,
  fun L J st h Q => pf_S pb_u_225 rfl rfl,
  fun L J st x y h Q => pf_S pb_u_225 rfl rfl,
  fun L J st h Q a i => pf_ai pb_u_225 rfl rfl,
  fun L J h Q x0 x1 x2 => pf_kv pb_u_225 rfl pb_ci_219 rfl ⟨Nat.le_of_ble_eq_true rfl, Nat.le_of_ble_eq_true rfl, Nat.le_of_ble_eq_true rfl, Nat.le_of_ble_eq_true rfl, rfl⟩ rfl rfl,
  fun L J st h Q x y => pf_ic pb_u_225 rfl rfl rfl,
  fun L J st h Q => pf_S pb_u_225 rfl rfl,
  fun L J h Q x => pf_rz pb_u_225 rfl rfl,
  fun l0 l2 l3 st h Q x => pf_S pb_u_225 rfl rfl,
  fun l0 l2 l3 st h Q => pf_S pb_u_225 rfl rfl,
  fun l1 l2 l3 st h Q x => pf_S pb_u_225 rfl rfl,
  fun l1 l2 l3 st h Q => pf_S pb_u_225 rfl rfl,
  fun l0 l1 l2 st h Q x => pf_S pb_u_225 rfl rfl,
  fun L J st h Q => pf_S pb_u_225 rfl rfl,
  fun L J st x y h Q => pf_S pb_u_225 rfl rfl,
  fun L J st h Q a i => pf_ai pb_u_225 rfl rfl,
  fun L J h Q x0 x1 => pf_kv pb_u_225 rfl pb_ci_135 rfl ⟨Nat.le_of_ble_eq_true rfl, Nat.le_of_ble_eq_true rfl, Nat.le_of_ble_eq_true rfl, Nat.le_of_ble_eq_true rfl, rfl⟩ rfl rfl,
  fun l0 l1 l3 st h Q x => pf_S pb_u_225 rfl rfl,
  fun l0 l1 l3 st h Q => pf_S pb_u_225 rfl rfl,
  fun l1 l2 l3 st h Q x => pf_S pb_u_225 rfl rfl,
  fun l1 l2 l3 st h Q => pf_S pb_u_225 rfl rfl,
  fun l0 l1 l2 st h Q x => pf_S pb_u_225 rfl rfl,
  fun L J st h Q => pf_S pb_u_225 rfl rfl,
  fun L J st x y h Q => pf_S pb_u_225 rfl rfl,
  fun L J st h Q a i => pf_ai pb_u_225 rfl rfl,
  fun L J h Q x0 x1 x2 => pf_kv pb_u_225 rfl pb_ci_220 rfl ⟨Nat.le_of_ble_eq_true rfl, Nat.le_of_ble_eq_true rfl, Nat.le_of_ble_eq_true rfl, Nat.le_of_ble_eq_true rfl, rfl⟩ rfl rfl,
  fun L J st h Q x y => pf_ic pb_u_225 rfl rfl rfl,
  fun L J st h Q => pf_S pb_u_225 rfl rfl,
  fun L J h Q x => pf_rz pb_u_225 rfl rfl,
  fun l0 l2 l3 st h Q x => pf_S pb_u_225 rfl rfl,
  fun l0 l2 l3 st h Q => pf_S pb_u_225 rfl rfl,
  fun l1 l2 l3 st h Q x => pf_S pb_u_225 rfl rfl,
  fun l1 l2 l3 st h Q => pf_S pb_u_225 rfl rfl,
  fun l0 l1 l2 st h Q x => pf_S pb_u_225 rfl rfl,
  fun L J st h Q => pf_S pb_u_225 rfl rfl,
  fun L J st x y h Q => pf_S pb_u_225 rfl rfl,
  fun L J st h Q a i => pf_ai pb_u_225 rfl rfl,
  fun l1 l2 l3 st h Q x => pf_S pb_u_225 rfl rfl,
  fun l1 l2 l3 st h Q => pf_S pb_u_225 rfl rfl,
  fun l0 l1 l2 st h Q x => pf_S pb_u_225 rfl rfl,
  fun L J st h Q => pf_S pb_u_225 rfl rfl,
  fun L J st x y h Q => pf_S pb_u_225 rfl rfl,
  fun L J st h Q a i => pf_ai pb_u_225 rfl rfl,
  fun L J h Q x0 x1 x2 => pf_kv pb_u_225 rfl pb_ci_136 rfl ⟨Nat.le_of_ble_eq_true rfl, Nat.le_of_ble_eq_true rfl, Nat.le_of_ble_eq_true rfl, Nat.le_of_ble_eq_true rfl, rfl⟩ rfl rfl,
  fun l0 l1 l3 st h Q x => pf_S pb_u_225 rfl rfl,
  fun l0 l1 l3 st h Q => pf_S pb_u_225 rfl rfl,
  fun l1 l2 l3 st h Q x => pf_S pb_u_225 rfl rfl,
  fun l1 l2 l3 st h Q => pf_S pb_u_225 rfl rfl,
  fun l0 l1 l2 st h Q x => pf_S pb_u_225 rfl rfl,
  fun L J st h Q => pf_S pb_u_225 rfl rfl,
  fun L J st x y h Q => pf_S pb_u_225 rfl rfl,
  fun L J st h Q a i => pf_ai pb_u_225 rfl rfl,
  fun l1 l2 l3 st h Q x => pf_S pb_u_225 rfl rfl,
  fun l1 l2 l3 st h Q => pf_S pb_u_225 rfl rfl,
  fun l0 l1 l2 st h Q x => pf_S pb_u_225 rfl rfl,
  fun L J st h Q => pf_S pb_u_225 rfl rfl,
  fun L J st x y h Q => pf_S pb_u_225 rfl rfl,
  fun L J st h Q a i => pf_ai pb_u_225 rfl rfl,
  fun L J h Q x0 x1 x2 x3 => pf_kv pb_u_225 rfl pb_ci_221 rfl ⟨Nat.le_of_ble_eq_true rfl, Nat.le_of_ble_eq_true rfl, Nat.le_of_ble_eq_true rfl, Nat.le_of_ble_eq_true rfl, rfl⟩ rfl rfl,
  fun L J st h Q x y => pf_ic pb_u_225 rfl rfl rfl,
  fun L J st h Q => pf_S pb_u_225 rfl rfl,
  fun L J h Q x => pf_rz pb_u_225 rfl rfl,
  fun l0 l2 l3 st h Q x => pf_S pb_u_225 rfl rfl,
  fun l0 l2 l3 st h Q => pf_S pb_u_225 rfl rfl,
  fun l1 l2 l3 st h Q x => pf_S pb_u_225 rfl rfl,
  fun l1 l2 l3 st h Q => pf_S pb_u_225 rfl rfl,
  fun l0 l1 l2 st h Q x => pf_S pb_u_225 rfl rfl,
  fun L J st h Q => pf_S pb_u_225 rfl rfl,
  fun L J st x y h Q => pf_S pb_u_225 rfl rfl,
  fun L J st h Q a i => pf_ai pb_u_225 rfl rfl,
  fun L J h Q x0 x1 => pf_kv pb_u_225 rfl pb_ci_137 rfl ⟨Nat.le_of_ble_eq_true rfl, Nat.le_of_ble_eq_true rfl, Nat.le_of_ble_eq_true rfl, Nat.le_of_ble_eq_true rfl, rfl⟩ rfl rfl,
  fun l0 l1 l3 st h Q x => pf_S pb_u_225 rfl rfl,
  fun l0 l1 l3 st h Q => pf_S pb_u_225 rfl rfl,
  fun l1 l2 l3 st h Q x => pf_S pb_u_225 rfl rfl,
  fun l1 l2 l3 st h Q => pf_S pb_u_225 rfl rfl,
  fun l0 l1 l2 st h Q x => pf_S pb_u_225 rfl rfl,
  fun L J st h Q => pf_S pb_u_225 rfl rfl,
  fun L J st x y h Q => pf_S pb_u_225 rfl rfl,
  fun L J st h Q a i => pf_ai pb_u_225 rfl rfl,
  fun L J h Q x0 x1 x2 => pf_kv pb_u_225 rfl pb_ci_222 rfl ⟨Nat.le_of_ble_eq_true rfl, Nat.le_of_ble_eq_true rfl, Nat.le_of_ble_eq_true rfl, Nat.le_of_ble_eq_true rfl, rfl⟩ rfl rfl,
  fun L J st h Q x y => pf_ic pb_u_225 rfl rfl rfl,
  fun L J st h Q => pf_S pb_u_225 rfl rfl,
  fun L J h Q x => pf_rz pb_u_225 rfl rfl,
  fun l0 l2 l3 st h Q x => pf_S pb_u_225 rfl rfl,
  fun l0 l2 l3 st h Q => pf_S pb_u_225 rfl rfl,
  fun l1 l2 l3 st h Q x => pf_S pb_u_225 rfl rfl,
  fun l1 l2 l3 st h Q => pf_S pb_u_225 rfl rfl,
  fun l0 l1 l2 st h Q x => pf_S pb_u_225 rfl rfl,
  fun L J st h Q => pf_S pb_u_225 rfl rfl,
  fun L J st x y h Q => pf_S pb_u_225 rfl rfl,
  fun L J st h Q a i => pf_ai pb_u_225 rfl rfl,
  fun L J h Q x0 x1 => pf_kv pb_u_225 rfl pb_ci_138 rfl ⟨Nat.le_of_ble_eq_true rfl, Nat.le_of_ble_eq_true rfl, Nat.le_of_ble_eq_true rfl, Nat.le_of_ble_eq_true rfl, rfl⟩ rfl rfl,
  fun l0 l1 l3 st h Q x => pf_S pb_u_225 rfl rfl,
  fun l0 l1 l3 st h Q => pf_S pb_u_225 rfl rfl,
  fun l1 l2 l3 st h Q x => pf_S pb_u_225 rfl rfl,
  fun l1 l2 l3 st h Q => pf_S pb_u_225 rfl rfl,
  fun l0 l1 l2 st h Q x => pf_S pb_u_225 rfl rfl,
  fun L J st h Q => pf_S pb_u_225 rfl rfl,
  fun L J st x y h Q => pf_S pb_u_225 rfl rfl,
  fun L J st h Q a i => pf_ai pb_u_225 rfl rfl,
  fun L J h Q x0 x1 x2 => pf_kv pb_u_225 rfl pb_ci_223 rfl ⟨Nat.le_of_ble_eq_true rfl, Nat.le_of_ble_eq_true rfl, Nat.le_of_ble_eq_true rfl, Nat.le_of_ble_eq_true rfl, rfl⟩ rfl rfl,
  fun L J st h Q x y => pf_ic pb_u_225 rfl rfl rfl,
  fun L J st h Q => pf_S pb_u_225 rfl rfl,
  fun L J h Q x => pf_rz pb_u_225 rfl rfl,
  fun l0 l1 l2 st h Q x => pf_S pb_u_225 rfl rfl,
  fun L J st h Q => pf_S pb_u_225 rfl rfl,
  fun L J st h Q => pf_S pb_u_225 rfl rfl,
  fun L J h Q x => pf_rz pb_u_225 rfl rfl⟩
theorem pb_c225 (x0 : Nat) (h : pb_H) (Q : Option Value → pb_H → Prop) : pb_call 225 [.ref x0] h Q ↔ pb_R 225 0 [some (.ref x0), none, none, none] [] [] h Q := Iff.rfl
