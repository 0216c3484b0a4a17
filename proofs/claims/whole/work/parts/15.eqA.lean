/-! 0: PlaneBench$ByteRow.<init>(I)V -/
theorem pb_u_0 : pb_t 0 = pb_t0 := rfl
set_option maxRecDepth 100000 in
theorem pb_e0 : (∀ (l1 : Option Value) (st : List Value) (h : pb_H) (Q : Option Value → pb_H → Prop) (x : Nat), pb_R 0 0 [some (.ref x), l1] [] st h Q ↔ pb_R 0 1 [some (.ref x), l1] [] (.ref x :: st) h Q) ∧
  (∀ (l1 : Option Value) (st : List Value) (h : pb_H) (Q : Option Value → pb_H → Prop), pb_R 0 0 [some .null, l1] [] st h Q ↔ pb_R 0 1 [some .null, l1] [] (.null :: st) h Q) ∧
  (∀ (L : pb_L) (J : pb_J) (h : pb_H) (Q : Option Value → pb_H → Prop) (a : Nat), pb_R 0 1 L J [.ref a] h Q ↔ pb_R 0 4 L J [] h Q) ∧
  (∀ (l1 : Option Value) (st : List Value) (h : pb_H) (Q : Option Value → pb_H → Prop) (x : Nat), pb_R 0 4 [some (.ref x), l1] [] st h Q ↔ pb_R 0 5 [some (.ref x), l1] [] (.ref x :: st) h Q) ∧
  (∀ (l1 : Option Value) (st : List Value) (h : pb_H) (Q : Option Value → pb_H → Prop), pb_R 0 4 [some .null, l1] [] st h Q ↔ pb_R 0 5 [some .null, l1] [] (.null :: st) h Q) ∧
  (∀ (L : pb_L) (J : pb_J) (st : List Value) (h : pb_H) (Q : Option Value → pb_H → Prop), pb_R 0 5 L J st h Q ↔ pb_R 0 8 L J (.int (160 : Int32) :: st) h Q) ∧
  (∀ (L : pb_L) (J : pb_J) (st : List Value) (h : pb_H) (Q : Option Value → pb_H → Prop) (n : Int32), pb_R 0 8 L J (.int n :: st) h Q ↔ (¬ n < 0 ∧ n.toNatClampNeg ≤ 1000000) ∧ pb_R 0 10 L J (.ref h.1 :: st) (pb_new h (.inl (1, n.toNatClampNeg, .inl (fun _ => 0)))) Q) ∧
  (∀ (L : pb_L) (J : pb_J) (st : List Value) (h : pb_H) (Q : Option Value → pb_H → Prop) (a : Nat) (x : Nat), pb_R 0 10 L J (.ref x :: .ref a :: st) h Q ↔ pb_o (pb_pf (h.2 a) 0 1 (.ref x)) (fun c => pb_R 0 13 L J st (pb_set h a c) Q)) ∧
  (∀ (l1 : Option Value) (st : List Value) (h : pb_H) (Q : Option Value → pb_H → Prop) (x : Nat), pb_R 0 13 [some (.ref x), l1] [] st h Q ↔ pb_R 0 14 [some (.ref x), l1] [] (.ref x :: st) h Q) ∧
  (∀ (l1 : Option Value) (st : List Value) (h : pb_H) (Q : Option Value → pb_H → Prop), pb_R 0 13 [some .null, l1] [] st h Q ↔ pb_R 0 14 [some .null, l1] [] (.null :: st) h Q) ∧
  (∀ (l0 : Option Value) (st : List Value) (h : pb_H) (Q : Option Value → pb_H → Prop) (x : Int32), pb_R 0 14 [l0, some (.int x)] [] st h Q ↔ pb_R 0 15 [l0, some (.int x)] [] (.int x :: st) h Q) ∧
  (∀ (L : pb_L) (J : pb_J) (st : List Value) (h : pb_H) (Q : Option Value → pb_H → Prop) (a : Nat) (x : Int32), pb_R 0 15 L J (.int x :: .ref a :: st) h Q ↔ pb_o (pb_pf (h.2 a) 0 0 (.int x)) (fun c => pb_R 0 18 L J st (pb_set h a c) Q)) ∧
  (∀ (L : pb_L) (J : pb_J) (h : pb_H) (Q : Option Value → pb_H → Prop), pb_R 0 18 L J [] h Q ↔ Q none h) := ⟨
  fun l1 st h Q x => pf_S pb_u_0 rfl rfl,
  fun l1 st h Q => pf_S pb_u_0 rfl rfl,
  fun L J h Q a => pf_S pb_u_0 rfl rfl,
  fun l1 st h Q x => pf_S pb_u_0 rfl rfl,
  fun l1 st h Q => pf_S pb_u_0 rfl rfl,
  fun L J st h Q => pf_S pb_u_0 rfl rfl,
  fun L J st h Q n => pf_nB pb_u_0 rfl rfl,
  fun L J st h Q a x => pf_pf pb_u_0 rfl rfl,
  fun l1 st h Q x => pf_S pb_u_0 rfl rfl,
  fun l1 st h Q => pf_S pb_u_0 rfl rfl,
  fun l0 st h Q x => pf_S pb_u_0 rfl rfl,
  fun L J st h Q a x => pf_pf pb_u_0 rfl rfl,
  fun L J h Q => pf_rv pb_u_0 rfl rfl⟩
theorem pb_c0 (x0 : Nat) (x1 : Int32) (h : pb_H) (Q : Option Value → pb_H → Prop) : pb_call 0 [.ref x0, .int x1] h Q ↔ pb_R 0 0 [some (.ref x0), some (.int x1)] [] [] h Q := Iff.rfl
/-! 1: java/util/Arrays.copyOf([BI)[B -/
theorem pb_u_1 : pb_t 1 = pb_t1 := rfl
set_option maxRecDepth 100000 in
theorem pb_e1 : (∀ (l0 l2 : Option Value) (st : List Value) (h : pb_H) (Q : Option Value → pb_H → Prop) (x : Int32), pb_R 1 0 [l0, some (.int x), l2] [] st h Q ↔ pb_R 1 1 [l0, some (.int x), l2] [] (.int x :: st) h Q) ∧
  (∀ (l1 l2 : Option Value) (st : List Value) (h : pb_H) (Q : Option Value → pb_H → Prop) (x : Nat), pb_R 1 1 [some (.ref x), l1, l2] [] st h Q ↔ pb_R 1 2 [some (.ref x), l1, l2] [] (.ref x :: st) h Q) ∧
  (∀ (l1 l2 : Option Value) (st : List Value) (h : pb_H) (Q : Option Value → pb_H → Prop), pb_R 1 1 [some .null, l1, l2] [] st h Q ↔ pb_R 1 2 [some .null, l1, l2] [] (.null :: st) h Q) ∧
  (∀ (L : pb_L) (J : pb_J) (st : List Value) (h : pb_H) (Q : Option Value → pb_H → Prop) (a : Nat), pb_R 1 2 L J (.ref a :: st) h Q ↔ pb_o (pb_al2 (h.2 a)) (fun n => pb_R 1 3 L J (.int (Int32.ofNat n) :: st) h Q)) ∧
  (∀ (L : pb_L) (J : pb_J) (st : List Value) (h : pb_H) (Q : Option Value → pb_H → Prop) (x y : Int32), pb_R 1 3 L J (.int y :: .int x :: st) h Q ↔ if ¬ x = y then pb_R 1 14 L J st h Q else pb_R 1 6 L J st h Q) ∧
  (∀ (l1 l2 : Option Value) (st : List Value) (h : pb_H) (Q : Option Value → pb_H → Prop) (x : Nat), pb_R 1 6 [some (.ref x), l1, l2] [] st h Q ↔ pb_R 1 7 [some (.ref x), l1, l2] [] (.ref x :: st) h Q) ∧
  (∀ (l1 l2 : Option Value) (st : List Value) (h : pb_H) (Q : Option Value → pb_H → Prop), pb_R 1 6 [some .null, l1, l2] [] st h Q ↔ pb_R 1 7 [some .null, l1, l2] [] (.null :: st) h Q) ∧
  (∀ (L : pb_L) (J : pb_J) (h : pb_H) (Q : Option Value → pb_H → Prop) (x : Nat), pb_R 1 13 L J [.ref x] h Q ↔ Q (some (.ref x)) h) ∧
  (∀ (L : pb_L) (J : pb_J) (h : pb_H) (Q : Option Value → pb_H → Prop), pb_R 1 13 L J [.null] h Q ↔ Q (some .null) h) ∧
  (∀ (l0 l2 : Option Value) (st : List Value) (h : pb_H) (Q : Option Value → pb_H → Prop) (x : Int32), pb_R 1 14 [l0, some (.int x), l2] [] st h Q ↔ pb_R 1 15 [l0, some (.int x), l2] [] (.int x :: st) h Q) ∧
  (∀ (L : pb_L) (J : pb_J) (st : List Value) (h : pb_H) (Q : Option Value → pb_H → Prop) (n : Int32), pb_R 1 15 L J (.int n :: st) h Q ↔ (¬ n < 0 ∧ n.toNatClampNeg ≤ 1000000) ∧ pb_R 1 17 L J (.ref h.1 :: st) (pb_new h (.inl (1, n.toNatClampNeg, .inl (fun _ => 0)))) Q) ∧
  (∀ (l0 l1 l2 : Option Value) (st : List Value) (h : pb_H) (Q : Option Value → pb_H → Prop) (x : Nat), pb_R 1 17 [l0, l1, l2] [] (.ref x :: st) h Q ↔ pb_R 1 18 [l0, l1, some (.ref x)] [] st h Q) ∧
  (∀ (l0 l1 l2 : Option Value) (st : List Value) (h : pb_H) (Q : Option Value → pb_H → Prop), pb_R 1 17 [l0, l1, l2] [] (.null :: st) h Q ↔ pb_R 1 18 [l0, l1, some .null] [] st h Q) ∧
  (∀ (l1 l2 : Option Value) (st : List Value) (h : pb_H) (Q : Option Value → pb_H → Prop) (x : Nat), pb_R 1 18 [some (.ref x), l1, l2] [] st h Q ↔ pb_R 1 19 [some (.ref x), l1, l2] [] (.ref x :: st) h Q) ∧
  (∀ (l1 l2 : Option Value) (st : List Value) (h : pb_H) (Q : Option Value → pb_H → Prop), pb_R 1 18 [some .null, l1, l2] [] st h Q ↔ pb_R 1 19 [some .null, l1, l2] [] (.null :: st) h Q) ∧
  (∀ (L : pb_L) (J : pb_J) (st : List Value) (h : pb_H) (Q : Option Value → pb_H → Prop), pb_R 1 19 L J st h Q ↔ pb_R 1 20 L J (.int (0 : Int32) :: st) h Q) ∧
  (∀ (l0 l1 : Option Value) (st : List Value) (h : pb_H) (Q : Option Value → pb_H → Prop) (x : Nat), pb_R 1 20 [l0, l1, some (.ref x)] [] st h Q ↔ pb_R 1 21 [l0, l1, some (.ref x)] [] (.ref x :: st) h Q) ∧
  (∀ (l0 l1 : Option Value) (st : List Value) (h : pb_H) (Q : Option Value → pb_H → Prop), pb_R 1 20 [l0, l1, some .null] [] st h Q ↔ pb_R 1 21 [l0, l1, some .null] [] (.null :: st) h Q) ∧
  (∀ (L : pb_L) (J : pb_J) (st : List Value) (h : pb_H) (Q : Option Value → pb_H → Prop), pb_R 1 21 L J st h Q ↔ pb_R 1 22 L J (.int (0 : Int32) :: st) h Q) ∧
  (∀ (l1 l2 : Option Value) (st : List Value) (h : pb_H) (Q : Option Value → pb_H → Prop) (x : Nat), pb_R 1 22 [some (.ref x), l1, l2] [] st h Q ↔ pb_R 1 23 [some (.ref x), l1, l2] [] (.ref x :: st) h Q) ∧
  (∀ (l1 l2 : Option Value) (st : List Value) (h : pb_H) (Q : Option Value → pb_H → Prop), pb_R 1 22 [some .null, l1, l2] [] st h Q ↔ pb_R 1 23 [some .null, l1, l2] [] (.null :: st) h Q) ∧
  (∀ (L : pb_L) (J : pb_J) (st : List Value) (h : pb_H) (Q : Option Value → pb_H → Prop) (a : Nat), pb_R 1 23 L J (.ref a :: st) h Q ↔ pb_o (pb_al2 (h.2 a)) (fun n => pb_R 1 24 L J (.int (Int32.ofNat n) :: st) h Q)) ∧
  (∀ (l0 l2 : Option Value) (st : List Value) (h : pb_H) (Q : Option Value → pb_H → Prop) (x : Int32), pb_R 1 24 [l0, some (.int x), l2] [] st h Q ↔ pb_R 1 25 [l0, some (.int x), l2] [] (.int x :: st) h Q) ∧
  (∀ (L : pb_L) (J : pb_J) (h : pb_H) (Q : Option Value → pb_H → Prop) (x0 : Int32) (x1 : Int32) (x2 : Int32) (x3 : Nat) (x4 : Int32) (x5 : Nat), pb_R 1 25 L J [.int x0, .int x1, .int x2, .ref x3, .int x4, .ref x5] h Q ↔ pb_R 1 28 L J [.int (if x0 < x1 then x0 else x1), .int x2, .ref x3, .int x4, .ref x5] h Q) ∧
  (∀ (L : pb_L) (J : pb_J) (h : pb_H) (Q : Option Value → pb_H → Prop) (x0 : Int32) (x1 : Int32) (x2 : Nat) (x3 : Int32) (x4 : Nat), pb_R 1 28 L J [.int x0, .int x1, .ref x2, .int x3, .ref x4] h Q ↔ pb_o (pb_cp (h.2 x4) (h.2 x2) x3 x1 x0) (fun c => pb_R 1 31 L J [] (pb_set h x2 c) Q)) ∧
  (∀ (l0 l1 : Option Value) (st : List Value) (h : pb_H) (Q : Option Value → pb_H → Prop) (x : Nat), pb_R 1 31 [l0, l1, some (.ref x)] [] st h Q ↔ pb_R 1 32 [l0, l1, some (.ref x)] [] (.ref x :: st) h Q) ∧
  (∀ (l0 l1 : Option Value) (st : List Value) (h : pb_H) (Q : Option Value → pb_H → Prop), pb_R 1 31 [l0, l1, some .null] [] st h Q ↔ pb_R 1 32 [l0, l1, some .null] [] (.null :: st) h Q) ∧
  (∀ (L : pb_L) (J : pb_J) (h : pb_H) (Q : Option Value → pb_H → Prop) (x : Nat), pb_R 1 32 L J [.ref x] h Q ↔ Q (some (.ref x)) h) ∧
  (∀ (L : pb_L) (J : pb_J) (h : pb_H) (Q : Option Value → pb_H → Prop), pb_R 1 32 L J [.null] h Q ↔ Q (some .null) h) := ⟨
  fun l0 l2 st h Q x => pf_S pb_u_1 rfl rfl,
  fun l1 l2 st h Q x => pf_S pb_u_1 rfl rfl,
  fun l1 l2 st h Q => pf_S pb_u_1 rfl rfl,
  fun L J st h Q a => pf_le pb_u_1 rfl rfl,
  fun L J st h Q x y => pf_ic pb_u_1 rfl rfl pf_ne,
  fun l1 l2 st h Q x => pf_S pb_u_1 rfl rfl,
  fun l1 l2 st h Q => pf_S pb_u_1 rfl rfl,
  fun L J h Q x => pf_ra (r := some x) pb_u_1 rfl rfl,
  fun L J h Q => pf_ra (r := none) pb_u_1 rfl rfl,
  fun l0 l2 st h Q x => pf_S pb_u_1 rfl rfl,
  fun L J st h Q n => pf_nB pb_u_1 rfl rfl,
  fun l0 l1 l2 st h Q x => pf_S pb_u_1 rfl rfl,
  fun l0 l1 l2 st h Q => pf_S pb_u_1 rfl rfl,
  fun l1 l2 st h Q x => pf_S pb_u_1 rfl rfl,
  fun l1 l2 st h Q => pf_S pb_u_1 rfl rfl,
  fun L J st h Q => pf_S pb_u_1 rfl rfl,
  fun l0 l1 st h Q x => pf_S pb_u_1 rfl rfl,
  fun l0 l1 st h Q => pf_S pb_u_1 rfl rfl,
  fun L J st h Q => pf_S pb_u_1 rfl rfl,
  fun l1 l2 st h Q x => pf_S pb_u_1 rfl rfl,
  fun l1 l2 st h Q => pf_S pb_u_1 rfl rfl,
  fun L J st h Q a => pf_le pb_u_1 rfl rfl,
  fun l0 l2 st h Q x => pf_S pb_u_1 rfl rfl,
  fun L J h Q x0 x1 x2 x3 x4 x5 => pf_S pb_u_1 rfl rfl,
  fun L J h Q x0 x1 x2 x3 x4 => pf_cp pb_u_1 rfl rfl,
  fun l0 l1 st h Q x => pf_S pb_u_1 rfl rfl,
  fun l0 l1 st h Q => pf_S pb_u_1 rfl rfl,
  fun L J h Q x => pf_ra (r := some x) pb_u_1 rfl rfl,
  fun L J h Q => pf_ra (r := none) pb_u_1 rfl rfl⟩
theorem pb_c1 (x0 : Nat) (x1 : Int32) (h : pb_H) (Q : Option Value → pb_H → Prop) : pb_call 1 [.ref x0, .int x1] h Q ↔ pb_R 1 0 [some (.ref x0), some (.int x1), none] [] [] h Q := Iff.rfl
/-! 2: PlaneBench$ByteRow.add(I)V -/
theorem pb_u_2 : pb_t 2 = pb_t2 := rfl
theorem pb_ci_2 : pb_ci 2 = 0 := by decide +kernel
set_option maxRecDepth 100000 in
theorem pb_e2 : (∀ (l1 : Option Value) (st : List Value) (h : pb_H) (Q : Option Value → pb_H → Prop) (x : Nat), pb_R 2 0 [some (.ref x), l1] [] st h Q ↔ pb_R 2 1 [some (.ref x), l1] [] (.ref x :: st) h Q) ∧
  (∀ (l1 : Option Value) (st : List Value) (h : pb_H) (Q : Option Value → pb_H → Prop), pb_R 2 0 [some .null, l1] [] st h Q ↔ pb_R 2 1 [some .null, l1] [] (.null :: st) h Q) ∧
  (∀ (L : pb_L) (J : pb_J) (st : List Value) (h : pb_H) (Q : Option Value → pb_H → Prop) (a : Nat), pb_R 2 1 L J (.ref a :: st) h Q ↔ pb_o (pb_gf (h.2 a) 0 2) (fun v => pb_R 2 4 L J (v :: st) h Q)) ∧
  (∀ (l1 : Option Value) (st : List Value) (h : pb_H) (Q : Option Value → pb_H → Prop) (x : Nat), pb_R 2 4 [some (.ref x), l1] [] st h Q ↔ pb_R 2 5 [some (.ref x), l1] [] (.ref x :: st) h Q) ∧
  (∀ (l1 : Option Value) (st : List Value) (h : pb_H) (Q : Option Value → pb_H → Prop), pb_R 2 4 [some .null, l1] [] st h Q ↔ pb_R 2 5 [some .null, l1] [] (.null :: st) h Q) ∧
  (∀ (L : pb_L) (J : pb_J) (st : List Value) (h : pb_H) (Q : Option Value → pb_H → Prop) (a : Nat), pb_R 2 5 L J (.ref a :: st) h Q ↔ pb_o (pb_gf (h.2 a) 0 0) (fun v => pb_R 2 8 L J (v :: st) h Q)) ∧
  (∀ (L : pb_L) (J : pb_J) (st : List Value) (h : pb_H) (Q : Option Value → pb_H → Prop) (x y : Int32), pb_R 2 8 L J (.int y :: .int x :: st) h Q ↔ if x < y then pb_R 2 17 L J st h Q else pb_R 2 11 L J st h Q) ∧
  (∀ (l1 : Option Value) (st : List Value) (h : pb_H) (Q : Option Value → pb_H → Prop) (x : Nat), pb_R 2 11 [some (.ref x), l1] [] st h Q ↔ pb_R 2 12 [some (.ref x), l1] [] (.ref x :: st) h Q) ∧
  (∀ (l1 : Option Value) (st : List Value) (h : pb_H) (Q : Option Value → pb_H → Prop), pb_R 2 11 [some .null, l1] [] st h Q ↔ pb_R 2 12 [some .null, l1] [] (.null :: st) h Q) ∧
  (∀ (L : pb_L) (J : pb_J) (st : List Value) (h : pb_H) (Q : Option Value → pb_H → Prop), pb_R 2 12 L J st h Q ↔ pb_R 2 13 L J (.int (1 : Int32) :: st) h Q) ∧
  (∀ (L : pb_L) (J : pb_J) (st : List Value) (h : pb_H) (Q : Option Value → pb_H → Prop) (a : Nat) (x : Int32), pb_R 2 13 L J (.int x :: .ref a :: st) h Q ↔ pb_o (pb_pf (h.2 a) 0 3 (.int x)) (fun c => pb_R 2 16 L J st (pb_set h a c) Q)) ∧
  (∀ (L : pb_L) (J : pb_J) (h : pb_H) (Q : Option Value → pb_H → Prop), pb_R 2 16 L J [] h Q ↔ Q none h) ∧
  (∀ (l1 : Option Value) (st : List Value) (h : pb_H) (Q : Option Value → pb_H → Prop) (x : Nat), pb_R 2 17 [some (.ref x), l1] [] st h Q ↔ pb_R 2 18 [some (.ref x), l1] [] (.ref x :: st) h Q) ∧
  (∀ (l1 : Option Value) (st : List Value) (h : pb_H) (Q : Option Value → pb_H → Prop), pb_R 2 17 [some .null, l1] [] st h Q ↔ pb_R 2 18 [some .null, l1] [] (.null :: st) h Q) ∧
  (∀ (L : pb_L) (J : pb_J) (st : List Value) (h : pb_H) (Q : Option Value → pb_H → Prop) (a : Nat), pb_R 2 18 L J (.ref a :: st) h Q ↔ pb_o (pb_gf (h.2 a) 0 2) (fun v => pb_R 2 21 L J (v :: st) h Q)) ∧
  (∀ (l1 : Option Value) (st : List Value) (h : pb_H) (Q : Option Value → pb_H → Prop) (x : Nat), pb_R 2 21 [some (.ref x), l1] [] st h Q ↔ pb_R 2 22 [some (.ref x), l1] [] (.ref x :: st) h Q) ∧
  (∀ (l1 : Option Value) (st : List Value) (h : pb_H) (Q : Option Value → pb_H → Prop), pb_R 2 21 [some .null, l1] [] st h Q ↔ pb_R 2 22 [some .null, l1] [] (.null :: st) h Q) ∧
  (∀ (L : pb_L) (J : pb_J) (st : List Value) (h : pb_H) (Q : Option Value → pb_H → Prop) (a : Nat), pb_R 2 22 L J (.ref a :: st) h Q ↔ pb_o (pb_gf (h.2 a) 0 1) (fun v => pb_R 2 25 L J (v :: st) h Q)) ∧
  (∀ (L : pb_L) (J : pb_J) (st : List Value) (h : pb_H) (Q : Option Value → pb_H → Prop) (a : Nat), pb_R 2 25 L J (.ref a :: st) h Q ↔ pb_o (pb_al2 (h.2 a)) (fun n => pb_R 2 26 L J (.int (Int32.ofNat n) :: st) h Q)) ∧
  (∀ (L : pb_L) (J : pb_J) (st : List Value) (h : pb_H) (Q : Option Value → pb_H → Prop) (x y : Int32), pb_R 2 26 L J (.int y :: .int x :: st) h Q ↔ if x < y then pb_R 2 54 L J st h Q else pb_R 2 29 L J st h Q) ∧
  (∀ (l1 : Option Value) (st : List Value) (h : pb_H) (Q : Option Value → pb_H → Prop) (x : Nat), pb_R 2 29 [some (.ref x), l1] [] st h Q ↔ pb_R 2 30 [some (.ref x), l1] [] (.ref x :: st) h Q) ∧
  (∀ (l1 : Option Value) (st : List Value) (h : pb_H) (Q : Option Value → pb_H → Prop), pb_R 2 29 [some .null, l1] [] st h Q ↔ pb_R 2 30 [some .null, l1] [] (.null :: st) h Q) ∧
  (∀ (l1 : Option Value) (st : List Value) (h : pb_H) (Q : Option Value → pb_H → Prop) (x : Nat), pb_R 2 30 [some (.ref x), l1] [] st h Q ↔ pb_R 2 31 [some (.ref x), l1] [] (.ref x :: st) h Q) ∧
  (∀ (l1 : Option Value) (st : List Value) (h : pb_H) (Q : Option Value → pb_H → Prop), pb_R 2 30 [some .null, l1] [] st h Q ↔ pb_R 2 31 [some .null, l1] [] (.null :: st) h Q) ∧
  (∀ (L : pb_L) (J : pb_J) (st : List Value) (h : pb_H) (Q : Option Value → pb_H → Prop) (a : Nat), pb_R 2 31 L J (.ref a :: st) h Q ↔ pb_o (pb_gf (h.2 a) 0 1) (fun v => pb_R 2 34 L J (v :: st) h Q)) ∧
  (∀ (l1 : Option Value) (st : List Value) (h : pb_H) (Q : Option Value → pb_H → Prop) (x : Nat), pb_R 2 34 [some (.ref x), l1] [] st h Q ↔ pb_R 2 35 [some (.ref x), l1] [] (.ref x :: st) h Q) ∧
  (∀ (l1 : Option Value) (st : List Value) (h : pb_H) (Q : Option Value → pb_H → Prop), pb_R 2 34 [some .null, l1] [] st h Q ↔ pb_R 2 35 [some .null, l1] [] (.null :: st) h Q) ∧
  (∀ (L : pb_L) (J : pb_J) (st : List Value) (h : pb_H) (Q : Option Value → pb_H → Prop) (a : Nat), pb_R 2 35 L J (.ref a :: st) h Q ↔ pb_o (pb_gf (h.2 a) 0 0) (fun v => pb_R 2 38 L J (v :: st) h Q)) ∧
  (∀ (l1 : Option Value) (st : List Value) (h : pb_H) (Q : Option Value → pb_H → Prop) (x : Nat), pb_R 2 38 [some (.ref x), l1] [] st h Q ↔ pb_R 2 39 [some (.ref x), l1] [] (.ref x :: st) h Q) ∧
  (∀ (l1 : Option Value) (st : List Value) (h : pb_H) (Q : Option Value → pb_H → Prop), pb_R 2 38 [some .null, l1] [] st h Q ↔ pb_R 2 39 [some .null, l1] [] (.null :: st) h Q) ∧
  (∀ (L : pb_L) (J : pb_J) (st : List Value) (h : pb_H) (Q : Option Value → pb_H → Prop) (a : Nat), pb_R 2 39 L J (.ref a :: st) h Q ↔ pb_o (pb_gf (h.2 a) 0 1) (fun v => pb_R 2 42 L J (v :: st) h Q)) ∧
  (∀ (L : pb_L) (J : pb_J) (st : List Value) (h : pb_H) (Q : Option Value → pb_H → Prop) (a : Nat), pb_R 2 42 L J (.ref a :: st) h Q ↔ pb_o (pb_al2 (h.2 a)) (fun n => pb_R 2 43 L J (.int (Int32.ofNat n) :: st) h Q)) ∧
  (∀ (L : pb_L) (J : pb_J) (st : List Value) (h : pb_H) (Q : Option Value → pb_H → Prop), pb_R 2 43 L J st h Q ↔ pb_R 2 44 L J (.int (2 : Int32) :: st) h Q) ∧
  (∀ (L : pb_L) (J : pb_J) (st : List Value) (x y : Int32) (h : pb_H) (Q : Option Value → pb_H → Prop), pb_R 2 44 L J (.int y :: .int x :: st) h Q ↔ pb_R 2 45 L J (.int (x * y) :: st) h Q) ∧
  (∀ (L : pb_L) (J : pb_J) (h : pb_H) (Q : Option Value → pb_H → Prop) (x0 : Int32) (x1 : Int32) (x2 : Nat) (x3 : Nat), pb_R 2 45 L J [.int x0, .int x1, .ref x2, .ref x3] h Q ↔ pb_R 2 48 L J [.int (if x0 < x1 then x0 else x1), .ref x2, .ref x3] h Q) ∧
  (∀ (L : pb_L) (J : pb_J) (h : pb_H) (Q : Option Value → pb_H → Prop) (x0 : Int32) (x1 : Nat) (x2 : Nat), pb_R 2 48 L J [.int x0, .ref x1, .ref x2] h Q ↔ pb_call 1 [.ref x1, .int x0] h (fun v t => pb_R 2 51 L J (v.toList ++ [.ref x2]) t Q)) ∧
  (∀ (L : pb_L) (J : pb_J) (st : List Value) (h : pb_H) (Q : Option Value → pb_H → Prop) (a : Nat) (x : Nat), pb_R 2 51 L J (.ref x :: .ref a :: st) h Q ↔ pb_o (pb_pf (h.2 a) 0 1 (.ref x)) (fun c => pb_R 2 54 L J st (pb_set h a c) Q)) ∧
  (∀ (l1 : Option Value) (st : List Value) (h : pb_H) (Q : Option Value → pb_H → Prop) (x : Nat), pb_R 2 54 [some (.ref x), l1] [] st h Q ↔ pb_R 2 55 [some (.ref x), l1] [] (.ref x :: st) h Q) ∧
  (∀ (l1 : Option Value) (st : List Value) (h : pb_H) (Q : Option Value → pb_H → Prop), pb_R 2 54 [some .null, l1] [] st h Q ↔ pb_R 2 55 [some .null, l1] [] (.null :: st) h Q) ∧
  (∀ (L : pb_L) (J : pb_J) (st : List Value) (h : pb_H) (Q : Option Value → pb_H → Prop) (a : Nat), pb_R 2 55 L J (.ref a :: st) h Q ↔ pb_o (pb_gf (h.2 a) 0 1) (fun v => pb_R 2 58 L J (v :: st) h Q)) ∧
  (∀ (l1 : Option Value) (st : List Value) (h : pb_H) (Q : Option Value → pb_H → Prop) (x : Nat), pb_R 2 58 [some (.ref x), l1] [] st h Q ↔ pb_R 2 59 [some (.ref x), l1] [] (.ref x :: st) h Q) ∧
  (∀ (l1 : Option Value) (st : List Value) (h : pb_H) (Q : Option Value → pb_H → Prop), pb_R 2 58 [some .null, l1] [] st h Q ↔ pb_R 2 59 [some .null, l1] [] (.null :: st) h Q) ∧
  (∀ (L : pb_L) (J : pb_J) (st : List Value) (h : pb_H) (Q : Option Value → pb_H → Prop) (a : Nat), pb_R 2 59 L J (.ref a :: st) h Q ↔ pb_o (pb_gf (h.2 a) 0 2) (fun v => pb_R 2 62 L J (v :: st) h Q)) ∧
  (∀ (l0 : Option Value) (st : List Value) (h : pb_H) (Q : Option Value → pb_H → Prop) (x : Int32), pb_R 2 62 [l0, some (.int x)] [] st h Q ↔ pb_R 2 63 [l0, some (.int x)] [] (.int x :: st) h Q) ∧
  (∀ (L : pb_L) (J : pb_J) (st : List Value) (x : Int32) (h : pb_H) (Q : Option Value → pb_H → Prop), pb_R 2 63 L J (.int x :: st) h Q ↔ pb_R 2 64 L J (.int x.toInt8.toInt32 :: st) h Q) ∧
  (∀ (L : pb_L) (J : pb_J) (st : List Value) (h : pb_H) (Q : Option Value → pb_H → Prop) (a : Nat) (i x : Int32), pb_R 2 64 L J (.int x :: .int i :: .ref a :: st) h Q ↔ pb_o (pb_sb (h.2 a) i x) (fun c => pb_R 2 65 L J st (pb_set h a c) Q)) ∧
  (∀ (l1 : Option Value) (st : List Value) (h : pb_H) (Q : Option Value → pb_H → Prop) (x : Nat), pb_R 2 65 [some (.ref x), l1] [] st h Q ↔ pb_R 2 66 [some (.ref x), l1] [] (.ref x :: st) h Q) ∧
  (∀ (l1 : Option Value) (st : List Value) (h : pb_H) (Q : Option Value → pb_H → Prop), pb_R 2 65 [some .null, l1] [] st h Q ↔ pb_R 2 66 [some .null, l1] [] (.null :: st) h Q) ∧
  (∀ (L : pb_L) (J : pb_J) (st : List Value) (x : Nat) (h : pb_H) (Q : Option Value → pb_H → Prop), pb_R 2 66 L J (.ref x :: st) h Q ↔ pb_R 2 67 L J (.ref x :: .ref x :: st) h Q) ∧
  (∀ (L : pb_L) (J : pb_J) (st : List Value) (h : pb_H) (Q : Option Value → pb_H → Prop) (a : Nat), pb_R 2 67 L J (.ref a :: st) h Q ↔ pb_o (pb_gf (h.2 a) 0 2) (fun v => pb_R 2 70 L J (v :: st) h Q)) ∧
  (∀ (L : pb_L) (J : pb_J) (st : List Value) (h : pb_H) (Q : Option Value → pb_H → Prop), pb_R 2 70 L J st h Q ↔ pb_R 2 71 L J (.int (1 : Int32) :: st) h Q) ∧
  (∀ (L : pb_L) (J : pb_J) (st : List Value) (x y : Int32) (h : pb_H) (Q : Option Value → pb_H → Prop), pb_R 2 71 L J (.int y :: .int x :: st) h Q ↔ pb_R 2 72 L J (.int (x + y) :: st) h Q) ∧
  (∀ (L : pb_L) (J : pb_J) (st : List Value) (h : pb_H) (Q : Option Value → pb_H → Prop) (a : Nat) (x : Int32), pb_R 2 72 L J (.int x :: .ref a :: st) h Q ↔ pb_o (pb_pf (h.2 a) 0 2 (.int x)) (fun c => pb_R 2 75 L J st (pb_set h a c) Q)) ∧
  (∀ (L : pb_L) (J : pb_J) (h : pb_H) (Q : Option Value → pb_H → Prop), pb_R 2 75 L J [] h Q ↔ Q none h) := ⟨
  fun l1 st h Q x => pf_S pb_u_2 rfl rfl,
  fun l1 st h Q => pf_S pb_u_2 rfl rfl,
  fun L J st h Q a => pf_gf pb_u_2 rfl rfl,
  fun l1 st h Q x => pf_S pb_u_2 rfl rfl,
  fun l1 st h Q => pf_S pb_u_2 rfl rfl,
  fun L J st h Q a => pf_gf pb_u_2 rfl rfl,
  fun L J st h Q x y => pf_ic pb_u_2 rfl rfl rfl,
  fun l1 st h Q x => pf_S pb_u_2 rfl rfl,
  fun l1 st h Q => pf_S pb_u_2 rfl rfl,
  fun L J st h Q => pf_S pb_u_2 rfl rfl,
  fun L J st h Q a x => pf_pf pb_u_2 rfl rfl,
  fun L J h Q => pf_rv pb_u_2 rfl rfl,
  fun l1 st h Q x => pf_S pb_u_2 rfl rfl,
  fun l1 st h Q => pf_S pb_u_2 rfl rfl,
  fun L J st h Q a => pf_gf pb_u_2 rfl rfl,
  fun l1 st h Q x => pf_S pb_u_2 rfl rfl,
  fun l1 st h Q => pf_S pb_u_2 rfl rfl,
  fun L J st h Q a => pf_gf pb_u_2 rfl rfl,
  fun L J st h Q a => pf_le pb_u_2 rfl rfl,
  fun L J st h Q x y => pf_ic pb_u_2 rfl rfl rfl,
  fun l1 st h Q x => pf_S pb_u_2 rfl rfl,
  fun l1 st h Q => pf_S pb_u_2 rfl rfl,
  fun l1 st h Q x => pf_S pb_u_2 rfl rfl,
  fun l1 st h Q => pf_S pb_u_2 rfl rfl,
  fun L J st h Q a => pf_gf pb_u_2 rfl rfl,
  fun l1 st h Q x => pf_S pb_u_2 rfl rfl,
  fun l1 st h Q => pf_S pb_u_2 rfl rfl,
  fun L J st h Q a => pf_gf pb_u_2 rfl rfl,
  fun l1 st h Q x => pf_S pb_u_2 rfl rfl,
  fun l1 st h Q => pf_S pb_u_2 rfl rfl,
  fun L J st h Q a => pf_gf pb_u_2 rfl rfl,
  fun L J st h Q a => pf_le pb_u_2 rfl rfl,
  fun L J st h Q => pf_S pb_u_2 rfl rfl,
  fun L J st x y h Q => pf_S pb_u_2 rfl rfl,
  fun L J h Q x0 x1 x2 x3 => pf_S pb_u_2 rfl rfl,
  fun L J h Q x0 x1 x2 => pf_ks pb_u_2 rfl rfl rfl rfl,
  fun L J st h Q a x => pf_pf pb_u_2 rfl rfl,
  fun l1 st h Q x => pf_S pb_u_2 rfl rfl,
  fun l1 st h Q => pf_S pb_u_2 rfl rfl,
  fun L J st h Q a => pf_gf pb_u_2 rfl rfl,
  fun l1 st h Q x => pf_S pb_u_2 rfl rfl,
  fun l1 st h Q => pf_S pb_u_2 rfl rfl,
  fun L J st h Q a => pf_gf pb_u_2 rfl rfl,
  fun l0 st h Q x => pf_S pb_u_2 rfl rfl,
  fun L J st x h Q => pf_S pb_u_2 rfl rfl,
  fun L J st h Q a i x => pf_sb pb_u_2 rfl rfl,
  fun l1 st h Q x => pf_S pb_u_2 rfl rfl,
  fun l1 st h Q => pf_S pb_u_2 rfl rfl,
  fun L J st x h Q => pf_S pb_u_2 rfl rfl,
  fun L J st h Q a => pf_gf pb_u_2 rfl rfl,
  fun L J st h Q => pf_S pb_u_2 rfl rfl,
  fun L J st x y h Q => pf_S pb_u_2 rfl rfl,
  fun L J st h Q a x => pf_pf pb_u_2 rfl rfl,
  fun L J h Q => pf_rv pb_u_2 rfl rfl⟩
theorem pb_c2 (x0 : Nat) (x1 : Int32) (h : pb_H) (Q : Option Value → pb_H → Prop) : pb_call 2 [.ref x0, .int x1] h Q ↔ pb_R 2 0 [some (.ref x0), some (.int x1)] [] [] h Q := Iff.rfl
/-! 3: PlaneBench$ByteRow.addWord(I)V -/
theorem pb_u_3 : pb_t 3 = pb_t3 := rfl
theorem pb_ci_3 : pb_ci 3 = 0 := by decide +kernel
set_option maxRecDepth 100000 in
theorem pb_q3_3 (l0 l1 : Option Value) (st : List Value) (h : pb_H) (Q : Option Value → pb_H → Prop) (x : Int32) : pb_R 3 3 [l0, l1, some (.int x)] [] st h Q ↔ pb_R 3 4 [l0, l1, some (.int x)] [] (.int x :: st) h Q := pf_S pb_u_3 rfl rfl
set_option maxRecDepth 100000 in
theorem pb_e3 : (∀ (L : pb_L) (J : pb_J) (st : List Value) (h : pb_H) (Q : Option Value → pb_H → Prop), pb_R 3 0 L J st h Q ↔ pb_R 3 2 L J (.int (24 : Int32) :: st) h Q) ∧
  (∀ (l0 l1 l2 : Option Value) (st : List Value) (h : pb_H) (Q : Option Value → pb_H → Prop) (x : Int32), pb_R 3 2 [l0, l1, l2] [] (.int x :: st) h Q ↔ pb_R 3 3 [l0, l1, some (.int x)] [] st h Q) ∧
  (∀ (L : pb_L) (J : pb_J) (st : List Value) (h : pb_H) (Q : Option Value → pb_H → Prop) (x : Int32), pb_R 3 4 L J (.int x :: st) h Q ↔ if x < 0 then pb_R 3 20 L J st h Q else pb_R 3 7 L J st h Q) ∧
  (∀ (l1 l2 : Option Value) (st : List Value) (h : pb_H) (Q : Option Value → pb_H → Prop) (x : Nat), pb_R 3 7 [some (.ref x), l1, l2] [] st h Q ↔ pb_R 3 8 [some (.ref x), l1, l2] [] (.ref x :: st) h Q) ∧
  (∀ (l1 l2 : Option Value) (st : List Value) (h : pb_H) (Q : Option Value → pb_H → Prop), pb_R 3 7 [some .null, l1, l2] [] st h Q ↔ pb_R 3 8 [some .null, l1, l2] [] (.null :: st) h Q) ∧
  (∀ (l0 l2 : Option Value) (st : List Value) (h : pb_H) (Q : Option Value → pb_H → Prop) (x : Int32), pb_R 3 8 [l0, some (.int x), l2] [] st h Q ↔ pb_R 3 9 [l0, some (.int x), l2] [] (.int x :: st) h Q) ∧
  (∀ (l0 l1 : Option Value) (st : List Value) (h : pb_H) (Q : Option Value → pb_H → Prop) (x : Int32), pb_R 3 9 [l0, l1, some (.int x)] [] st h Q ↔ pb_R 3 10 [l0, l1, some (.int x)] [] (.int x :: st) h Q) ∧
  (∀ (L : pb_L) (J : pb_J) (st : List Value) (x y : Int32) (h : pb_H) (Q : Option Value → pb_H → Prop), pb_R 3 10 L J (.int y :: .int x :: st) h Q ↔ pb_R 3 11 L J (.int (x.toUInt32 >>> (y.toUInt32 &&& Int32.toUInt32 31)).toInt32 :: st) h Q) ∧
  (∀ (L : pb_L) (J : pb_J) (h : pb_H) (Q : Option Value → pb_H → Prop) (x0 : Int32) (x1 : Nat), pb_R 3 11 L J [.int x0, .ref x1] h Q ↔ pb_is0 (h.2 x1) 0 = true ∧ pb_call 2 [.ref x1, .int x0] h (fun v t => pb_R 3 14 L J (v.toList ++ []) t Q)) ∧
  (∀ (l0 l1 : Option Value) (st : List Value) (h : pb_H) (Q : Option Value → pb_H → Prop) (x : Int32), pb_R 3 14 [l0, l1, some (.int x)] [] st h Q ↔ pb_R 3 17 [l0, l1, some (.int (x + (-8 : Int32)))] [] st h Q) ∧
  (∀ (L : pb_L) (J : pb_J) (st : List Value) (h : pb_H) (Q : Option Value → pb_H → Prop), pb_R 3 17 L J st h Q ↔ pb_R 3 3 L J st h Q) ∧
  (∀ (L : pb_L) (J : pb_J) (h : pb_H) (Q : Option Value → pb_H → Prop), pb_R 3 20 L J [] h Q ↔ Q none h) := ⟨
  fun L J st h Q => pf_S pb_u_3 rfl rfl,
  fun l0 l1 l2 st h Q x => pf_S pb_u_3 rfl rfl,
  fun L J st h Q x => pf_ii pb_u_3 rfl rfl rfl,
  fun l1 l2 st h Q x => pf_S pb_u_3 rfl rfl,
  fun l1 l2 st h Q => pf_S pb_u_3 rfl rfl,
  fun l0 l2 st h Q x => pf_S pb_u_3 rfl rfl,
  fun l0 l1 st h Q x => pf_S pb_u_3 rfl rfl,
  fun L J st x y h Q => pf_S pb_u_3 rfl rfl,
  fun L J h Q x0 x1 => pf_kv pb_u_3 rfl pb_ci_2 rfl ⟨Nat.le_of_ble_eq_true rfl, Nat.le_of_ble_eq_true rfl, Nat.le_of_ble_eq_true rfl, Nat.le_of_ble_eq_true rfl, rfl⟩ rfl rfl,
  fun l0 l1 st h Q x => pf_S pb_u_3 rfl rfl,
  fun L J st h Q => pf_S pb_u_3 rfl rfl,
  fun L J h Q => pf_rv pb_u_3 rfl rfl⟩
theorem pb_c3 (x0 : Nat) (x1 : Int32) (h : pb_H) (Q : Option Value → pb_H → Prop) : pb_call 3 [.ref x0, .int x1] h Q ↔ pb_R 3 0 [some (.ref x0), some (.int x1), none] [] [] h Q := Iff.rfl
/-! 4: PlaneBench$Wide.width([II)I -/
theorem pb_u_4 : pb_t 4 = pb_t4 := rfl
set_option maxRecDepth 100000 in
theorem pb_q4_3 (l0 l1 : Option Value) (st : List Value) (h : pb_H) (Q : Option Value → pb_H → Prop) (x : Int32) : pb_R 4 3 [l0, l1, some (.int x)] [] st h Q ↔ pb_R 4 4 [l0, l1, some (.int x)] [] (.int x :: st) h Q := pf_S pb_u_4 rfl rfl
set_option maxRecDepth 100000 in
theorem pb_e4 : (∀ (L : pb_L) (J : pb_J) (st : List Value) (h : pb_H) (Q : Option Value → pb_H → Prop), pb_R 4 0 L J st h Q ↔ pb_R 4 2 L J (.int (8 : Int32) :: st) h Q) ∧
  (∀ (l0 l1 l2 : Option Value) (st : List Value) (h : pb_H) (Q : Option Value → pb_H → Prop) (x : Int32), pb_R 4 2 [l0, l1, l2] [] (.int x :: st) h Q ↔ pb_R 4 3 [l0, l1, some (.int x)] [] st h Q) ∧
  (∀ (L : pb_L) (J : pb_J) (st : List Value) (h : pb_H) (Q : Option Value → pb_H → Prop) (x : Int32), pb_R 4 4 L J (.int x :: st) h Q ↔ if x ≤ 0 then pb_R 4 23 L J st h Q else pb_R 4 7 L J st h Q) ∧
  (∀ (l1 l2 : Option Value) (st : List Value) (h : pb_H) (Q : Option Value → pb_H → Prop) (x : Nat), pb_R 4 7 [some (.ref x), l1, l2] [] st h Q ↔ pb_R 4 8 [some (.ref x), l1, l2] [] (.ref x :: st) h Q) ∧
  (∀ (l1 l2 : Option Value) (st : List Value) (h : pb_H) (Q : Option Value → pb_H → Prop), pb_R 4 7 [some .null, l1, l2] [] st h Q ↔ pb_R 4 8 [some .null, l1, l2] [] (.null :: st) h Q) ∧
  (∀ (l0 l2 : Option Value) (st : List Value) (h : pb_H) (Q : Option Value → pb_H → Prop) (x : Int32), pb_R 4 8 [l0, some (.int x), l2] [] st h Q ↔ pb_R 4 9 [l0, some (.int x), l2] [] (.int x :: st) h Q) ∧
  (∀ (l0 l1 : Option Value) (st : List Value) (h : pb_H) (Q : Option Value → pb_H → Prop) (x : Int32), pb_R 4 9 [l0, l1, some (.int x)] [] st h Q ↔ pb_R 4 10 [l0, l1, some (.int x)] [] (.int x :: st) h Q) ∧
  (∀ (L : pb_L) (J : pb_J) (st : List Value) (x y : Int32) (h : pb_H) (Q : Option Value → pb_H → Prop), pb_R 4 10 L J (.int y :: .int x :: st) h Q ↔ pb_R 4 11 L J (.int (x + y) :: st) h Q) ∧
  (∀ (L : pb_L) (J : pb_J) (st : List Value) (h : pb_H) (Q : Option Value → pb_H → Prop), pb_R 4 11 L J st h Q ↔ pb_R 4 12 L J (.int (1 : Int32) :: st) h Q) ∧
  (∀ (L : pb_L) (J : pb_J) (st : List Value) (x y : Int32) (h : pb_H) (Q : Option Value → pb_H → Prop), pb_R 4 12 L J (.int y :: .int x :: st) h Q ↔ pb_R 4 13 L J (.int (x - y) :: st) h Q) ∧
  (∀ (L : pb_L) (J : pb_J) (st : List Value) (h : pb_H) (Q : Option Value → pb_H → Prop) (a : Nat) (i : Int32), pb_R 4 13 L J (.int i :: .ref a :: st) h Q ↔ pb_o (pb_ai (h.2 a) i) (fun v => pb_R 4 14 L J (.int v :: st) h Q)) ∧
  (∀ (L : pb_L) (J : pb_J) (st : List Value) (h : pb_H) (Q : Option Value → pb_H → Prop) (x : Int32), pb_R 4 14 L J (.int x :: st) h Q ↔ if ¬ x = 0 then pb_R 4 23 L J st h Q else pb_R 4 17 L J st h Q) ∧
  (∀ (l0 l1 : Option Value) (st : List Value) (h : pb_H) (Q : Option Value → pb_H → Prop) (x : Int32), pb_R 4 17 [l0, l1, some (.int x)] [] st h Q ↔ pb_R 4 20 [l0, l1, some (.int (x + (-1 : Int32)))] [] st h Q) ∧
  (∀ (L : pb_L) (J : pb_J) (st : List Value) (h : pb_H) (Q : Option Value → pb_H → Prop), pb_R 4 20 L J st h Q ↔ pb_R 4 3 L J st h Q) ∧
  (∀ (l0 l1 : Option Value) (st : List Value) (h : pb_H) (Q : Option Value → pb_H → Prop) (x : Int32), pb_R 4 23 [l0, l1, some (.int x)] [] st h Q ↔ pb_R 4 24 [l0, l1, some (.int x)] [] (.int x :: st) h Q) ∧
  (∀ (L : pb_L) (J : pb_J) (h : pb_H) (Q : Option Value → pb_H → Prop) (x : Int32), pb_R 4 24 L J [.int x] h Q ↔ Q (some (.int x)) h) := ⟨
  fun L J st h Q => pf_S pb_u_4 rfl rfl,
  fun l0 l1 l2 st h Q x => pf_S pb_u_4 rfl rfl,
  fun L J st h Q x => pf_ii pb_u_4 rfl rfl rfl,
  fun l1 l2 st h Q x => pf_S pb_u_4 rfl rfl,
  fun l1 l2 st h Q => pf_S pb_u_4 rfl rfl,
  fun l0 l2 st h Q x => pf_S pb_u_4 rfl rfl,
  fun l0 l1 st h Q x => pf_S pb_u_4 rfl rfl,
  fun L J st x y h Q => pf_S pb_u_4 rfl rfl,
  fun L J st h Q => pf_S pb_u_4 rfl rfl,
  fun L J st x y h Q => pf_S pb_u_4 rfl rfl,
  fun L J st h Q a i => pf_ai pb_u_4 rfl rfl,
  fun L J st h Q x => pf_ii pb_u_4 rfl rfl pf_ne,
  fun l0 l1 st h Q x => pf_S pb_u_4 rfl rfl,
  fun L J st h Q => pf_S pb_u_4 rfl rfl,
  fun l0 l1 st h Q x => pf_S pb_u_4 rfl rfl,
  fun L J h Q x => pf_ri pb_u_4 rfl rfl⟩
theorem pb_c4 (x0 : Nat) (x1 : Int32) (h : pb_H) (Q : Option Value → pb_H → Prop) : pb_call 4 [.ref x0, .int x1] h Q ↔ pb_R 4 0 [some (.ref x0), some (.int x1), none] [] [] h Q := Iff.rfl
/-! 5: PlaneBench$Wide.tenth([II)I -/
theorem pb_u_5 : pb_t 5 = pb_t5 := rfl
set_option maxRecDepth 100000 in
theorem pb_q5_7 (l0 l1 l2 l3 : Option Value) (j0 j1 j2 j3 j4 : Option Int64) (st : List Value) (h : pb_H) (Q : Option Value → pb_H → Prop) (x : Int32) : pb_R 5 7 [l0, l1, l2, l3, some (.int x)] [j0, j1, j2, j3, j4] st h Q ↔ pb_R 5 9 [l0, l1, l2, l3, some (.int x)] [j0, j1, j2, j3, j4] (.int x :: st) h Q := pf_S pb_u_5 rfl rfl
set_option maxRecDepth 100000 in
theorem pb_e5 : (∀ (L : pb_L) (J : pb_J) (st : List Value) (h : pb_H) (Q : Option Value → pb_H → Prop), pb_R 5 0 L J st h Q ↔ pb_R 5 1 L J (.long (0 : Int64) :: st) h Q) ∧
  (∀ (l0 l1 l2 l3 l4 : Option Value) (j0 j1 j2 j3 j4 : Option Int64) (st : List Value) (h : pb_H) (Q : Option Value → pb_H → Prop) (x : Int64), pb_R 5 1 [l0, l1, l2, l3, l4] [j0, j1, j2, j3, j4] (.long x :: st) h Q ↔ pb_R 5 2 [l0, l1, none, none, l4] [j0, none, some x, none, j4] st h Q) ∧
  (∀ (l0 l2 l3 l4 : Option Value) (j0 j1 j2 j3 j4 : Option Int64) (st : List Value) (h : pb_H) (Q : Option Value → pb_H → Prop) (x : Int32), pb_R 5 2 [l0, some (.int x), l2, l3, l4] [j0, j1, j2, j3, j4] st h Q ↔ pb_R 5 3 [l0, some (.int x), l2, l3, l4] [j0, j1, j2, j3, j4] (.int x :: st) h Q) ∧
  (∀ (L : pb_L) (J : pb_J) (st : List Value) (h : pb_H) (Q : Option Value → pb_H → Prop), pb_R 5 3 L J st h Q ↔ pb_R 5 4 L J (.int (1 : Int32) :: st) h Q) ∧
  (∀ (L : pb_L) (J : pb_J) (st : List Value) (x y : Int32) (h : pb_H) (Q : Option Value → pb_H → Prop), pb_R 5 4 L J (.int y :: .int x :: st) h Q ↔ pb_R 5 5 L J (.int (x - y) :: st) h Q) ∧
  (∀ (l0 l1 l2 l3 l4 : Option Value) (j0 j1 j2 j3 j4 : Option Int64) (st : List Value) (h : pb_H) (Q : Option Value → pb_H → Prop) (x : Int32), pb_R 5 5 [l0, l1, l2, l3, l4] [j0, j1, j2, j3, j4] (.int x :: st) h Q ↔ pb_R 5 7 [l0, l1, l2, l3, some (.int x)] [j0, j1, j2, none, none] st h Q) ∧
  (∀ (L : pb_L) (J : pb_J) (st : List Value) (h : pb_H) (Q : Option Value → pb_H → Prop) (x : Int32), pb_R 5 9 L J (.int x :: st) h Q ↔ if x < 0 then pb_R 5 49 L J st h Q else pb_R 5 12 L J st h Q) ∧
  (∀ (l0 l1 l2 l3 l4 : Option Value) (j0 j1 j3 j4 : Option Int64) (st : List Value) (h : pb_H) (Q : Option Value → pb_H → Prop) (x : Int64), pb_R 5 12 [l0, l1, l2, l3, l4] [j0, j1, some x, j3, j4] st h Q ↔ pb_R 5 13 [l0, l1, l2, l3, l4] [j0, j1, some x, j3, j4] (.long x :: st) h Q) ∧
  (∀ (L : pb_L) (J : pb_J) (st : List Value) (h : pb_H) (Q : Option Value → pb_H → Prop), pb_R 5 13 L J st h Q ↔ pb_R 5 15 L J (.int (32 : Int32) :: st) h Q) ∧
  (∀ (L : pb_L) (J : pb_J) (st : List Value) (x : Int64) (y : Int32) (h : pb_H) (Q : Option Value → pb_H → Prop), pb_R 5 15 L J (.int y :: .long x :: st) h Q ↔ pb_R 5 16 L J (.long (x <<< (y.toInt64 &&& 63)) :: st) h Q) ∧
  (∀ (l1 l2 l3 l4 : Option Value) (j0 j1 j2 j3 j4 : Option Int64) (st : List Value) (h : pb_H) (Q : Option Value → pb_H → Prop) (x : Nat), pb_R 5 16 [some (.ref x), l1, l2, l3, l4] [j0, j1, j2, j3, j4] st h Q ↔ pb_R 5 17 [some (.ref x), l1, l2, l3, l4] [j0, j1, j2, j3, j4] (.ref x :: st) h Q) ∧
  (∀ (l1 l2 l3 l4 : Option Value) (j0 j1 j2 j3 j4 : Option Int64) (st : List Value) (h : pb_H) (Q : Option Value → pb_H → Prop), pb_R 5 16 [some .null, l1, l2, l3, l4] [j0, j1, j2, j3, j4] st h Q ↔ pb_R 5 17 [some .null, l1, l2, l3, l4] [j0, j1, j2, j3, j4] (.null :: st) h Q) ∧
  (∀ (l0 l1 l2 l3 : Option Value) (j0 j1 j2 j3 j4 : Option Int64) (st : List Value) (h : pb_H) (Q : Option Value → pb_H → Prop) (x : Int32), pb_R 5 17 [l0, l1, l2, l3, some (.int x)] [j0, j1, j2, j3, j4] st h Q ↔ pb_R 5 19 [l0, l1, l2, l3, some (.int x)] [j0, j1, j2, j3, j4] (.int x :: st) h Q) ∧
  (∀ (L : pb_L) (J : pb_J) (st : List Value) (h : pb_H) (Q : Option Value → pb_H → Prop) (a : Nat) (i : Int32), pb_R 5 19 L J (.int i :: .ref a :: st) h Q ↔ pb_o (pb_ai (h.2 a) i) (fun v => pb_R 5 20 L J (.int v :: st) h Q)) ∧
  (∀ (L : pb_L) (J : pb_J) (st : List Value) (x : Int32) (h : pb_H) (Q : Option Value → pb_H → Prop), pb_R 5 20 L J (.int x :: st) h Q ↔ pb_R 5 21 L J (.long x.toInt64 :: st) h Q) ∧
  (∀ (L : pb_L) (J : pb_J) (st : List Value) (h : pb_H) (Q : Option Value → pb_H → Prop), pb_R 5 21 L J st h Q ↔ pb_R 5 24 L J (.long (4294967295 : Int64) :: st) h Q) ∧
  (∀ (L : pb_L) (J : pb_J) (st : List Value) (x y : Int64) (h : pb_H) (Q : Option Value → pb_H → Prop), pb_R 5 24 L J (.long y :: .long x :: st) h Q ↔ pb_R 5 25 L J (.long (x &&& y) :: st) h Q) ∧
  (∀ (L : pb_L) (J : pb_J) (st : List Value) (x y : Int64) (h : pb_H) (Q : Option Value → pb_H → Prop), pb_R 5 25 L J (.long y :: .long x :: st) h Q ↔ pb_R 5 26 L J (.long (x + y) :: st) h Q) ∧
  (∀ (l0 l1 l2 l3 l4 : Option Value) (j0 j1 j2 j3 j4 : Option Int64) (st : List Value) (h : pb_H) (Q : Option Value → pb_H → Prop) (x : Int64), pb_R 5 26 [l0, l1, l2, l3, l4] [j0, j1, j2, j3, j4] (.long x :: st) h Q ↔ pb_R 5 27 [l0, l1, none, none, l4] [j0, none, some x, none, j4] st h Q) ∧
  (∀ (l1 l2 l3 l4 : Option Value) (j0 j1 j2 j3 j4 : Option Int64) (st : List Value) (h : pb_H) (Q : Option Value → pb_H → Prop) (x : Nat), pb_R 5 27 [some (.ref x), l1, l2, l3, l4] [j0, j1, j2, j3, j4] st h Q ↔ pb_R 5 28 [some (.ref x), l1, l2, l3, l4] [j0, j1, j2, j3, j4] (.ref x :: st) h Q) ∧
  (∀ (l1 l2 l3 l4 : Option Value) (j0 j1 j2 j3 j4 : Option Int64) (st : List Value) (h : pb_H) (Q : Option Value → pb_H → Prop), pb_R 5 27 [some .null, l1, l2, l3, l4] [j0, j1, j2, j3, j4] st h Q ↔ pb_R 5 28 [some .null, l1, l2, l3, l4] [j0, j1, j2, j3, j4] (.null :: st) h Q) ∧
  (∀ (l0 l1 l2 l3 : Option Value) (j0 j1 j2 j3 j4 : Option Int64) (st : List Value) (h : pb_H) (Q : Option Value → pb_H → Prop) (x : Int32), pb_R 5 28 [l0, l1, l2, l3, some (.int x)] [j0, j1, j2, j3, j4] st h Q ↔ pb_R 5 30 [l0, l1, l2, l3, some (.int x)] [j0, j1, j2, j3, j4] (.int x :: st) h Q) ∧
  (∀ (l0 l1 l2 l3 l4 : Option Value) (j0 j1 j3 j4 : Option Int64) (st : List Value) (h : pb_H) (Q : Option Value → pb_H → Prop) (x : Int64), pb_R 5 30 [l0, l1, l2, l3, l4] [j0, j1, some x, j3, j4] st h Q ↔ pb_R 5 31 [l0, l1, l2, l3, l4] [j0, j1, some x, j3, j4] (.long x :: st) h Q) ∧
  (∀ (L : pb_L) (J : pb_J) (st : List Value) (h : pb_H) (Q : Option Value → pb_H → Prop), pb_R 5 31 L J st h Q ↔ pb_R 5 34 L J (.long (10 : Int64) :: st) h Q) ∧
  (∀ (L : pb_L) (J : pb_J) (st : List Value) (h : pb_H) (Q : Option Value → pb_H → Prop) (x y : Int64), pb_R 5 34 L J (.long y :: .long x :: st) h Q ↔ (¬ y = 0) ∧ pb_R 5 35 L J (.long (x / y) :: st) h Q) ∧
  (∀ (L : pb_L) (J : pb_J) (st : List Value) (x : Int64) (h : pb_H) (Q : Option Value → pb_H → Prop), pb_R 5 35 L J (.long x :: st) h Q ↔ pb_R 5 36 L J (.int x.toInt32 :: st) h Q) ∧
  (∀ (L : pb_L) (J : pb_J) (st : List Value) (h : pb_H) (Q : Option Value → pb_H → Prop) (a : Nat) (i x : Int32), pb_R 5 36 L J (.int x :: .int i :: .ref a :: st) h Q ↔ pb_o (pb_si (h.2 a) i x) (fun c => pb_R 5 37 L J st (pb_set h a c) Q)) ∧
  (∀ (l0 l1 l2 l3 l4 : Option Value) (j0 j1 j3 j4 : Option Int64) (st : List Value) (h : pb_H) (Q : Option Value → pb_H → Prop) (x : Int64), pb_R 5 37 [l0, l1, l2, l3, l4] [j0, j1, some x, j3, j4] st h Q ↔ pb_R 5 38 [l0, l1, l2, l3, l4] [j0, j1, some x, j3, j4] (.long x :: st) h Q) ∧
  (∀ (L : pb_L) (J : pb_J) (st : List Value) (h : pb_H) (Q : Option Value → pb_H → Prop), pb_R 5 38 L J st h Q ↔ pb_R 5 41 L J (.long (10 : Int64) :: st) h Q) ∧
  (∀ (L : pb_L) (J : pb_J) (st : List Value) (h : pb_H) (Q : Option Value → pb_H → Prop) (x y : Int64), pb_R 5 41 L J (.long y :: .long x :: st) h Q ↔ (¬ y = 0) ∧ pb_R 5 42 L J (.long (x - x / y * y) :: st) h Q) ∧
  (∀ (l0 l1 l2 l3 l4 : Option Value) (j0 j1 j2 j3 j4 : Option Int64) (st : List Value) (h : pb_H) (Q : Option Value → pb_H → Prop) (x : Int64), pb_R 5 42 [l0, l1, l2, l3, l4] [j0, j1, j2, j3, j4] (.long x :: st) h Q ↔ pb_R 5 43 [l0, l1, none, none, l4] [j0, none, some x, none, j4] st h Q) ∧
  (∀ (l0 l1 l2 l3 : Option Value) (j0 j1 j2 j3 j4 : Option Int64) (st : List Value) (h : pb_H) (Q : Option Value → pb_H → Prop) (x : Int32), pb_R 5 43 [l0, l1, l2, l3, some (.int x)] [j0, j1, j2, j3, j4] st h Q ↔ pb_R 5 46 [l0, l1, l2, l3, some (.int (x + (-1 : Int32)))] [j0, j1, j2, none, none] st h Q) ∧
  (∀ (L : pb_L) (J : pb_J) (st : List Value) (h : pb_H) (Q : Option Value → pb_H → Prop), pb_R 5 46 L J st h Q ↔ pb_R 5 7 L J st h Q) ∧
  (∀ (l0 l1 l2 l3 l4 : Option Value) (j0 j1 j3 j4 : Option Int64) (st : List Value) (h : pb_H) (Q : Option Value → pb_H → Prop) (x : Int64), pb_R 5 49 [l0, l1, l2, l3, l4] [j0, j1, some x, j3, j4] st h Q ↔ pb_R 5 50 [l0, l1, l2, l3, l4] [j0, j1, some x, j3, j4] (.long x :: st) h Q) ∧
  (∀ (L : pb_L) (J : pb_J) (st : List Value) (x : Int64) (h : pb_H) (Q : Option Value → pb_H → Prop), pb_R 5 50 L J (.long x :: st) h Q ↔ pb_R 5 51 L J (.int x.toInt32 :: st) h Q) ∧
  (∀ (L : pb_L) (J : pb_J) (h : pb_H) (Q : Option Value → pb_H → Prop) (x : Int32), pb_R 5 51 L J [.int x] h Q ↔ Q (some (.int x)) h) := ⟨
  fun L J st h Q => pf_S pb_u_5 rfl rfl,
  fun l0 l1 l2 l3 l4 j0 j1 j2 j3 j4 st h Q x => pf_S pb_u_5 rfl rfl,
  fun l0 l2 l3 l4 j0 j1 j2 j3 j4 st h Q x => pf_S pb_u_5 rfl rfl,
  fun L J st h Q => pf_S pb_u_5 rfl rfl,
  fun L J st x y h Q => pf_S pb_u_5 rfl rfl,
  fun l0 l1 l2 l3 l4 j0 j1 j2 j3 j4 st h Q x => pf_S pb_u_5 rfl rfl,
  fun L J st h Q x => pf_ii pb_u_5 rfl rfl rfl,
  fun l0 l1 l2 l3 l4 j0 j1 j3 j4 st h Q x => pf_S pb_u_5 rfl rfl,
  fun L J st h Q => pf_S pb_u_5 rfl rfl,
  fun L J st x y h Q => pf_S pb_u_5 rfl rfl,
  fun l1 l2 l3 l4 j0 j1 j2 j3 j4 st h Q x => pf_S pb_u_5 rfl rfl,
  fun l1 l2 l3 l4 j0 j1 j2 j3 j4 st h Q => pf_S pb_u_5 rfl rfl,
  fun l0 l1 l2 l3 j0 j1 j2 j3 j4 st h Q x => pf_S pb_u_5 rfl rfl,
  fun L J st h Q a i => pf_ai pb_u_5 rfl rfl,
  fun L J st x h Q => pf_S pb_u_5 rfl rfl,
  fun L J st h Q => pf_S pb_u_5 rfl rfl,
  fun L J st x y h Q => pf_S pb_u_5 rfl rfl,
  fun L J st x y h Q => pf_S pb_u_5 rfl rfl,
  fun l0 l1 l2 l3 l4 j0 j1 j2 j3 j4 st h Q x => pf_S pb_u_5 rfl rfl,
  fun l1 l2 l3 l4 j0 j1 j2 j3 j4 st h Q x => pf_S pb_u_5 rfl rfl,
  fun l1 l2 l3 l4 j0 j1 j2 j3 j4 st h Q => pf_S pb_u_5 rfl rfl,
  fun l0 l1 l2 l3 j0 j1 j2 j3 j4 st h Q x => pf_S pb_u_5 rfl rfl,
  fun l0 l1 l2 l3 l4 j0 j1 j3 j4 st h Q x => pf_S pb_u_5 rfl rfl,
  fun L J st h Q => pf_S pb_u_5 rfl rfl,
  fun L J st h Q x y => pf_ldiv pb_u_5 rfl rfl,
  fun L J st x h Q => pf_S pb_u_5 rfl rfl,
  fun L J st h Q a i x => pf_si pb_u_5 rfl rfl,
  fun l0 l1 l2 l3 l4 j0 j1 j3 j4 st h Q x => pf_S pb_u_5 rfl rfl,
  fun L J st h Q => pf_S pb_u_5 rfl rfl,
  fun L J st h Q x y => pf_lrem pb_u_5 rfl rfl,
  fun l0 l1 l2 l3 l4 j0 j1 j2 j3 j4 st h Q x => pf_S pb_u_5 rfl rfl,
  fun l0 l1 l2 l3 j0 j1 j2 j3 j4 st h Q x => pf_S pb_u_5 rfl rfl,
  fun L J st h Q => pf_S pb_u_5 rfl rfl,
  fun l0 l1 l2 l3 l4 j0 j1 j3 j4 st h Q x => pf_S pb_u_5 rfl rfl,
  fun L J st x h Q => pf_S pb_u_5 rfl rfl,
  fun L J h Q x => pf_ri pb_u_5 rfl rfl⟩
theorem pb_c5 (x0 : Nat) (x1 : Int32) (h : pb_H) (Q : Option Value → pb_H → Prop) : pb_call 5 [.ref x0, .int x1] h Q ↔ pb_R 5 0 [some (.ref x0), some (.int x1), none, none, none] [none, none, none, none, none] [] h Q := Iff.rfl
/-! 6: PlaneBench$ByteRow.reverseFrom(I)V -/
theorem pb_u_6 : pb_t 6 = pb_t6 := rfl
theorem pb_ci_6 : pb_ci 6 = 0 := by decide +kernel
set_option maxRecDepth 100000 in
theorem pb_q6_9 (l0 l1 l3 l4 : Option Value) (st : List Value) (h : pb_H) (Q : Option Value → pb_H → Prop) (x : Int32) : pb_R 6 9 [l0, l1, some (.int x), l3, l4] [] st h Q ↔ pb_R 6 10 [l0, l1, some (.int x), l3, l4] [] (.int x :: st) h Q := pf_S pb_u_6 rfl rfl
set_option maxRecDepth 100000 in
theorem pb_e6 : (∀ (l0 l2 l3 l4 : Option Value) (st : List Value) (h : pb_H) (Q : Option Value → pb_H → Prop) (x : Int32), pb_R 6 0 [l0, some (.int x), l2, l3, l4] [] st h Q ↔ pb_R 6 1 [l0, some (.int x), l2, l3, l4] [] (.int x :: st) h Q) ∧
  (∀ (l0 l1 l2 l3 l4 : Option Value) (st : List Value) (h : pb_H) (Q : Option Value → pb_H → Prop) (x : Int32), pb_R 6 1 [l0, l1, l2, l3, l4] [] (.int x :: st) h Q ↔ pb_R 6 2 [l0, l1, some (.int x), l3, l4] [] st h Q) ∧
  (∀ (l1 l2 l3 l4 : Option Value) (st : List Value) (h : pb_H) (Q : Option Value → pb_H → Prop) (x : Nat), pb_R 6 2 [some (.ref x), l1, l2, l3, l4] [] st h Q ↔ pb_R 6 3 [some (.ref x), l1, l2, l3, l4] [] (.ref x :: st) h Q) ∧
  (∀ (l1 l2 l3 l4 : Option Value) (st : List Value) (h : pb_H) (Q : Option Value → pb_H → Prop), pb_R 6 2 [some .null, l1, l2, l3, l4] [] st h Q ↔ pb_R 6 3 [some .null, l1, l2, l3, l4] [] (.null :: st) h Q) ∧
  (∀ (L : pb_L) (J : pb_J) (st : List Value) (h : pb_H) (Q : Option Value → pb_H → Prop) (a : Nat), pb_R 6 3 L J (.ref a :: st) h Q ↔ pb_o (pb_gf (h.2 a) 0 2) (fun v => pb_R 6 6 L J (v :: st) h Q)) ∧
  (∀ (L : pb_L) (J : pb_J) (st : List Value) (h : pb_H) (Q : Option Value → pb_H → Prop), pb_R 6 6 L J st h Q ↔ pb_R 6 7 L J (.int (1 : Int32) :: st) h Q) ∧
  (∀ (L : pb_L) (J : pb_J) (st : List Value) (x y : Int32) (h : pb_H) (Q : Option Value → pb_H → Prop), pb_R 6 7 L J (.int y :: .int x :: st) h Q ↔ pb_R 6 8 L J (.int (x - y) :: st) h Q) ∧
  (∀ (l0 l1 l2 l3 l4 : Option Value) (st : List Value) (h : pb_H) (Q : Option Value → pb_H → Prop) (x : Int32), pb_R 6 8 [l0, l1, l2, l3, l4] [] (.int x :: st) h Q ↔ pb_R 6 9 [l0, l1, l2, some (.int x), l4] [] st h Q) ∧
  (∀ (l0 l1 l2 l4 : Option Value) (st : List Value) (h : pb_H) (Q : Option Value → pb_H → Prop) (x : Int32), pb_R 6 10 [l0, l1, l2, some (.int x), l4] [] st h Q ↔ pb_R 6 11 [l0, l1, l2, some (.int x), l4] [] (.int x :: st) h Q) ∧
  (∀ (L : pb_L) (J : pb_J) (st : List Value) (h : pb_H) (Q : Option Value → pb_H → Prop) (x y : Int32), pb_R 6 11 L J (.int y :: .int x :: st) h Q ↔ if y ≤ x then pb_R 6 51 L J st h Q else pb_R 6 14 L J st h Q) ∧
  (∀ (l1 l2 l3 l4 : Option Value) (st : List Value) (h : pb_H) (Q : Option Value → pb_H → Prop) (x : Nat), pb_R 6 14 [some (.ref x), l1, l2, l3, l4] [] st h Q ↔ pb_R 6 15 [some (.ref x), l1, l2, l3, l4] [] (.ref x :: st) h Q) ∧
  (∀ (l1 l2 l3 l4 : Option Value) (st : List Value) (h : pb_H) (Q : Option Value → pb_H → Prop), pb_R 6 14 [some .null, l1, l2, l3, l4] [] st h Q ↔ pb_R 6 15 [some .null, l1, l2, l3, l4] [] (.null :: st) h Q) ∧
  (∀ (L : pb_L) (J : pb_J) (st : List Value) (h : pb_H) (Q : Option Value → pb_H → Prop) (a : Nat), pb_R 6 15 L J (.ref a :: st) h Q ↔ pb_o (pb_gf (h.2 a) 0 1) (fun v => pb_R 6 18 L J (v :: st) h Q)) ∧
  (∀ (l0 l1 l3 l4 : Option Value) (st : List Value) (h : pb_H) (Q : Option Value → pb_H → Prop) (x : Int32), pb_R 6 18 [l0, l1, some (.int x), l3, l4] [] st h Q ↔ pb_R 6 19 [l0, l1, some (.int x), l3, l4] [] (.int x :: st) h Q) ∧
  (∀ (L : pb_L) (J : pb_J) (st : List Value) (h : pb_H) (Q : Option Value → pb_H → Prop) (a : Nat) (i : Int32), pb_R 6 19 L J (.int i :: .ref a :: st) h Q ↔ pb_o (pb_ab (h.2 a) i) (fun v => pb_R 6 20 L J (.int v :: st) h Q)) ∧
  (∀ (l0 l1 l2 l3 l4 : Option Value) (st : List Value) (h : pb_H) (Q : Option Value → pb_H → Prop) (x : Int32), pb_R 6 20 [l0, l1, l2, l3, l4] [] (.int x :: st) h Q ↔ pb_R 6 22 [l0, l1, l2, l3, some (.int x)] [] st h Q) ∧
  (∀ (l1 l2 l3 l4 : Option Value) (st : List Value) (h : pb_H) (Q : Option Value → pb_H → Prop) (x : Nat), pb_R 6 22 [some (.ref x), l1, l2, l3, l4] [] st h Q ↔ pb_R 6 23 [some (.ref x), l1, l2, l3, l4] [] (.ref x :: st) h Q) ∧
  (∀ (l1 l2 l3 l4 : Option Value) (st : List Value) (h : pb_H) (Q : Option Value → pb_H → Prop), pb_R 6 22 [some .null, l1, l2, l3, l4] [] st h Q ↔ pb_R 6 23 [some .null, l1, l2, l3, l4] [] (.null :: st) h Q) ∧
  (∀ (L : pb_L) (J : pb_J) (st : List Value) (h : pb_H) (Q : Option Value → pb_H → Prop) (a : Nat), pb_R 6 23 L J (.ref a :: st) h Q ↔ pb_o (pb_gf (h.2 a) 0 1) (fun v => pb_R 6 26 L J (v :: st) h Q)) ∧
  (∀ (l0 l1 l3 l4 : Option Value) (st : List Value) (h : pb_H) (Q : Option Value → pb_H → Prop) (x : Int32), pb_R 6 26 [l0, l1, some (.int x), l3, l4] [] st h Q ↔ pb_R 6 27 [l0, l1, some (.int x), l3, l4] [] (.int x :: st) h Q) ∧
  (∀ (l1 l2 l3 l4 : Option Value) (st : List Value) (h : pb_H) (Q : Option Value → pb_H → Prop) (x : Nat), pb_R 6 27 [some (.ref x), l1, l2, l3, l4] [] st h Q ↔ pb_R 6 28 [some (.ref x), l1, l2, l3, l4] [] (.ref x :: st) h Q) ∧
  (∀ (l1 l2 l3 l4 : Option Value) (st : List Value) (h : pb_H) (Q : Option Value → pb_H → Prop), pb_R 6 27 [some .null, l1, l2, l3, l4] [] st h Q ↔ pb_R 6 28 [some .null, l1, l2, l3, l4] [] (.null :: st) h Q) ∧
  (∀ (L : pb_L) (J : pb_J) (st : List Value) (h : pb_H) (Q : Option Value → pb_H → Prop) (a : Nat), pb_R 6 28 L J (.ref a :: st) h Q ↔ pb_o (pb_gf (h.2 a) 0 1) (fun v => pb_R 6 31 L J (v :: st) h Q)) ∧
  (∀ (l0 l1 l2 l4 : Option Value) (st : List Value) (h : pb_H) (Q : Option Value → pb_H → Prop) (x : Int32), pb_R 6 31 [l0, l1, l2, some (.int x), l4] [] st h Q ↔ pb_R 6 32 [l0, l1, l2, some (.int x), l4] [] (.int x :: st) h Q) ∧
  (∀ (L : pb_L) (J : pb_J) (st : List Value) (h : pb_H) (Q : Option Value → pb_H → Prop) (a : Nat) (i : Int32), pb_R 6 32 L J (.int i :: .ref a :: st) h Q ↔ pb_o (pb_ab (h.2 a) i) (fun v => pb_R 6 33 L J (.int v :: st) h Q)) ∧
  (∀ (L : pb_L) (J : pb_J) (st : List Value) (h : pb_H) (Q : Option Value → pb_H → Prop) (a : Nat) (i x : Int32), pb_R 6 33 L J (.int x :: .int i :: .ref a :: st) h Q ↔ pb_o (pb_sb (h.2 a) i x) (fun c => pb_R 6 34 L J st (pb_set h a c) Q)) ∧
  (∀ (l1 l2 l3 l4 : Option Value) (st : List Value) (h : pb_H) (Q : Option Value → pb_H → Prop) (x : Nat), pb_R 6 34 [some (.ref x), l1, l2, l3, l4] [] st h Q ↔ pb_R 6 35 [some (.ref x), l1, l2, l3, l4] [] (.ref x :: st) h Q) ∧
  (∀ (l1 l2 l3 l4 : Option Value) (st : List Value) (h : pb_H) (Q : Option Value → pb_H → Prop), pb_R 6 34 [some .null, l1, l2, l3, l4] [] st h Q ↔ pb_R 6 35 [some .null, l1, l2, l3, l4] [] (.null :: st) h Q) ∧
  (∀ (L : pb_L) (J : pb_J) (st : List Value) (h : pb_H) (Q : Option Value → pb_H → Prop) (a : Nat), pb_R 6 35 L J (.ref a :: st) h Q ↔ pb_o (pb_gf (h.2 a) 0 1) (fun v => pb_R 6 38 L J (v :: st) h Q)) ∧
  (∀ (l0 l1 l2 l4 : Option Value) (st : List Value) (h : pb_H) (Q : Option Value → pb_H → Prop) (x : Int32), pb_R 6 38 [l0, l1, l2, some (.int x), l4] [] st h Q ↔ pb_R 6 39 [l0, l1, l2, some (.int x), l4] [] (.int x :: st) h Q) ∧
  (∀ (l0 l1 l2 l3 : Option Value) (st : List Value) (h : pb_H) (Q : Option Value → pb_H → Prop) (x : Int32), pb_R 6 39 [l0, l1, l2, l3, some (.int x)] [] st h Q ↔ pb_R 6 41 [l0, l1, l2, l3, some (.int x)] [] (.int x :: st) h Q) ∧
  (∀ (L : pb_L) (J : pb_J) (st : List Value) (h : pb_H) (Q : Option Value → pb_H → Prop) (a : Nat) (i x : Int32), pb_R 6 41 L J (.int x :: .int i :: .ref a :: st) h Q ↔ pb_o (pb_sb (h.2 a) i x) (fun c => pb_R 6 42 L J st (pb_set h a c) Q)) ∧
  (∀ (l0 l1 l3 l4 : Option Value) (st : List Value) (h : pb_H) (Q : Option Value → pb_H → Prop) (x : Int32), pb_R 6 42 [l0, l1, some (.int x), l3, l4] [] st h Q ↔ pb_R 6 45 [l0, l1, some (.int (x + (1 : Int32))), l3, l4] [] st h Q) ∧
  (∀ (l0 l1 l2 l4 : Option Value) (st : List Value) (h : pb_H) (Q : Option Value → pb_H → Prop) (x : Int32), pb_R 6 45 [l0, l1, l2, some (.int x), l4] [] st h Q ↔ pb_R 6 48 [l0, l1, l2, some (.int (x + (-1 : Int32))), l4] [] st h Q) ∧
  (∀ (L : pb_L) (J : pb_J) (st : List Value) (h : pb_H) (Q : Option Value → pb_H → Prop), pb_R 6 48 L J st h Q ↔ pb_R 6 9 L J st h Q) ∧
  (∀ (L : pb_L) (J : pb_J) (h : pb_H) (Q : Option Value → pb_H → Prop), pb_R 6 51 L J [] h Q ↔ Q none h) := ⟨
  fun l0 l2 l3 l4 st h Q x => pf_S pb_u_6 rfl rfl,
  fun l0 l1 l2 l3 l4 st h Q x => pf_S pb_u_6 rfl rfl,
  fun l1 l2 l3 l4 st h Q x => pf_S pb_u_6 rfl rfl,
  fun l1 l2 l3 l4 st h Q => pf_S pb_u_6 rfl rfl,
  fun L J st h Q a => pf_gf pb_u_6 rfl rfl,
  fun L J st h Q => pf_S pb_u_6 rfl rfl,
  fun L J st x y h Q => pf_S pb_u_6 rfl rfl,
  fun l0 l1 l2 l3 l4 st h Q x => pf_S pb_u_6 rfl rfl,
  fun l0 l1 l2 l4 st h Q x => pf_S pb_u_6 rfl rfl,
  fun L J st h Q x y => pf_ic pb_u_6 rfl rfl rfl,
  fun l1 l2 l3 l4 st h Q x => pf_S pb_u_6 rfl rfl,
  fun l1 l2 l3 l4 st h Q => pf_S pb_u_6 rfl rfl,
  fun L J st h Q a => pf_gf pb_u_6 rfl rfl,
  fun l0 l1 l3 l4 st h Q x => pf_S pb_u_6 rfl rfl,
  fun L J st h Q a i => pf_ab pb_u_6 rfl rfl,
  fun l0 l1 l2 l3 l4 st h Q x => pf_S pb_u_6 rfl rfl,
  fun l1 l2 l3 l4 st h Q x => pf_S pb_u_6 rfl rfl,
  fun l1 l2 l3 l4 st h Q => pf_S pb_u_6 rfl rfl,
  fun L J st h Q a => pf_gf pb_u_6 rfl rfl,
  fun l0 l1 l3 l4 st h Q x => pf_S pb_u_6 rfl rfl,
  fun l1 l2 l3 l4 st h Q x => pf_S pb_u_6 rfl rfl,
  fun l1 l2 l3 l4 st h Q => pf_S pb_u_6 rfl rfl,
  fun L J st h Q a => pf_gf pb_u_6 rfl rfl,
  fun l0 l1 l2 l4 st h Q x => pf_S pb_u_6 rfl rfl,
  fun L J st h Q a i => pf_ab pb_u_6 rfl rfl,
  fun L J st h Q a i x => pf_sb pb_u_6 rfl rfl,
  fun l1 l2 l3 l4 st h Q x => pf_S pb_u_6 rfl rfl,
  fun l1 l2 l3 l4 st h Q => pf_S pb_u_6 rfl rfl,
  fun L J st h Q a => pf_gf pb_u_6 rfl rfl,
  fun l0 l1 l2 l4 st h Q x => pf_S pb_u_6 rfl rfl,
  fun l0 l1 l2 l3 st h Q x => pf_S pb_u_6 rfl rfl,
  fun L J st h Q a i x => pf_sb pb_u_6 rfl rfl,
  fun l0 l1 l3 l4 st h Q x => pf_S pb_u_6 rfl rfl,
  fun l0 l1 l2 l4 st h Q x => pf_S pb_u_6 rfl rfl,
  fun L J st h Q => pf_S pb_u_6 rfl rfl,
  fun L J h Q => pf_rv pb_u_6 rfl rfl⟩
theorem pb_c6 (x0 : Nat) (x1 : Int32) (h : pb_H) (Q : Option Value → pb_H → Prop) : pb_call 6 [.ref x0, .int x1] h Q ↔ pb_R 6 0 [some (.ref x0), some (.int x1), none, none, none] [] [] h Q := Iff.rfl
/-! 7: PlaneBench$ByteRow.addNumber([I)V -/
theorem pb_u_7 : pb_t 7 = pb_t7 := rfl
theorem pb_ci_7 : pb_ci 7 = 0 := by decide +kernel
set_option maxRecDepth 100000 in
theorem pb_q7_18 (l0 l1 l2 l3 : Option Value) (st : List Value) (h : pb_H) (Q : Option Value → pb_H → Prop) (x : Int32) : pb_R 7 18 [l0, l1, l2, l3, some (.int x)] [] st h Q ↔ pb_R 7 20 [l0, l1, l2, l3, some (.int x)] [] (.int x :: st) h Q := pf_S pb_u_7 rfl rfl
set_option maxRecDepth 100000 in
theorem pb_e7 : (∀ (l1 l2 l3 l4 : Option Value) (st : List Value) (h : pb_H) (Q : Option Value → pb_H → Prop) (x : Nat), pb_R 7 0 [some (.ref x), l1, l2, l3, l4] [] st h Q ↔ pb_R 7 1 [some (.ref x), l1, l2, l3, l4] [] (.ref x :: st) h Q) ∧
  (∀ (l1 l2 l3 l4 : Option Value) (st : List Value) (h : pb_H) (Q : Option Value → pb_H → Prop), pb_R 7 0 [some .null, l1, l2, l3, l4] [] st h Q ↔ pb_R 7 1 [some .null, l1, l2, l3, l4] [] (.null :: st) h Q) ∧
  (∀ (L : pb_L) (J : pb_J) (st : List Value) (h : pb_H) (Q : Option Value → pb_H → Prop) (a : Nat), pb_R 7 1 L J (.ref a :: st) h Q ↔ pb_o (pb_gf (h.2 a) 0 2) (fun v => pb_R 7 4 L J (v :: st) h Q)) ∧
  (∀ (l0 l1 l2 l3 l4 : Option Value) (st : List Value) (h : pb_H) (Q : Option Value → pb_H → Prop) (x : Int32), pb_R 7 4 [l0, l1, l2, l3, l4] [] (.int x :: st) h Q ↔ pb_R 7 5 [l0, l1, some (.int x), l3, l4] [] st h Q) ∧
  (∀ (L : pb_L) (J : pb_J) (st : List Value) (h : pb_H) (Q : Option Value → pb_H → Prop), pb_R 7 5 L J st h Q ↔ pb_R 7 6 L J (.int (1 : Int32) :: st) h Q) ∧
  (∀ (l0 l2 l3 l4 : Option Value) (st : List Value) (h : pb_H) (Q : Option Value → pb_H → Prop) (x : Nat), pb_R 7 6 [l0, some (.ref x), l2, l3, l4] [] st h Q ↔ pb_R 7 7 [l0, some (.ref x), l2, l3, l4] [] (.ref x :: st) h Q) ∧
  (∀ (l0 l2 l3 l4 : Option Value) (st : List Value) (h : pb_H) (Q : Option Value → pb_H → Prop), pb_R 7 6 [l0, some .null, l2, l3, l4] [] st h Q ↔ pb_R 7 7 [l0, some .null, l2, l3, l4] [] (.null :: st) h Q) ∧
  (∀ (L : pb_L) (J : pb_J) (st : List Value) (h : pb_H) (Q : Option Value → pb_H → Prop), pb_R 7 7 L J st h Q ↔ pb_R 7 8 L J (.int (0 : Int32) :: st) h Q) ∧
  (∀ (L : pb_L) (J : pb_J) (h : pb_H) (Q : Option Value → pb_H → Prop) (x0 : Int32) (x1 : Nat) (x2 : Int32), pb_R 7 8 L J [.int x0, .ref x1, .int x2] h Q ↔ pb_call 4 [.ref x1, .int x0] h (fun v t => pb_R 7 11 L J (v.toList ++ [.int x2]) t Q)) ∧
  (∀ (L : pb_L) (J : pb_J) (h : pb_H) (Q : Option Value → pb_H → Prop) (x0 : Int32) (x1 : Int32), pb_R 7 11 L J [.int x0, .int x1] h Q ↔ pb_R 7 14 L J [.int (if x1 < x0 then x0 else x1)] h Q) ∧
  (∀ (l0 l1 l2 l3 l4 : Option Value) (st : List Value) (h : pb_H) (Q : Option Value → pb_H → Prop) (x : Int32), pb_R 7 14 [l0, l1, l2, l3, l4] [] (.int x :: st) h Q ↔ pb_R 7 15 [l0, l1, l2, some (.int x), l4] [] st h Q) ∧
  (∀ (L : pb_L) (J : pb_J) (st : List Value) (h : pb_H) (Q : Option Value → pb_H → Prop), pb_R 7 15 L J st h Q ↔ pb_R 7 16 L J (.int (0 : Int32) :: st) h Q) ∧
  (∀ (l0 l1 l2 l3 l4 : Option Value) (st : List Value) (h : pb_H) (Q : Option Value → pb_H → Prop) (x : Int32), pb_R 7 16 [l0, l1, l2, l3, l4] [] (.int x :: st) h Q ↔ pb_R 7 18 [l0, l1, l2, l3, some (.int x)] [] st h Q) ∧
  (∀ (L : pb_L) (J : pb_J) (st : List Value) (h : pb_H) (Q : Option Value → pb_H → Prop), pb_R 7 20 L J st h Q ↔ pb_R 7 22 L J (.int (120 : Int32) :: st) h Q) ∧
  (∀ (L : pb_L) (J : pb_J) (st : List Value) (h : pb_H) (Q : Option Value → pb_H → Prop) (x y : Int32), pb_R 7 22 L J (.int y :: .int x :: st) h Q ↔ if y ≤ x then pb_R 7 53 L J st h Q else pb_R 7 25 L J st h Q) ∧
  (∀ (l0 l1 l2 l4 : Option Value) (st : List Value) (h : pb_H) (Q : Option Value → pb_H → Prop) (x : Int32), pb_R 7 25 [l0, l1, l2, some (.int x), l4] [] st h Q ↔ pb_R 7 26 [l0, l1, l2, some (.int x), l4] [] (.int x :: st) h Q) ∧
  (∀ (L : pb_L) (J : pb_J) (st : List Value) (h : pb_H) (Q : Option Value → pb_H → Prop) (x : Int32), pb_R 7 26 L J (.int x :: st) h Q ↔ if x ≤ 0 then pb_R 7 53 L J st h Q else pb_R 7 29 L J st h Q) ∧
  (∀ (l1 l2 l3 l4 : Option Value) (st : List Value) (h : pb_H) (Q : Option Value → pb_H → Prop) (x : Nat), pb_R 7 29 [some (.ref x), l1, l2, l3, l4] [] st h Q ↔ pb_R 7 30 [some (.ref x), l1, l2, l3, l4] [] (.ref x :: st) h Q) ∧
  (∀ (l1 l2 l3 l4 : Option Value) (st : List Value) (h : pb_H) (Q : Option Value → pb_H → Prop), pb_R 7 29 [some .null, l1, l2, l3, l4] [] st h Q ↔ pb_R 7 30 [some .null, l1, l2, l3, l4] [] (.null :: st) h Q) ∧
  (∀ (L : pb_L) (J : pb_J) (st : List Value) (h : pb_H) (Q : Option Value → pb_H → Prop), pb_R 7 30 L J st h Q ↔ pb_R 7 32 L J (.int (48 : Int32) :: st) h Q) ∧
  (∀ (l0 l2 l3 l4 : Option Value) (st : List Value) (h : pb_H) (Q : Option Value → pb_H → Prop) (x : Nat), pb_R 7 32 [l0, some (.ref x), l2, l3, l4] [] st h Q ↔ pb_R 7 33 [l0, some (.ref x), l2, l3, l4] [] (.ref x :: st) h Q) ∧
  (∀ (l0 l2 l3 l4 : Option Value) (st : List Value) (h : pb_H) (Q : Option Value → pb_H → Prop), pb_R 7 32 [l0, some .null, l2, l3, l4] [] st h Q ↔ pb_R 7 33 [l0, some .null, l2, l3, l4] [] (.null :: st) h Q) ∧
  (∀ (l0 l1 l2 l4 : Option Value) (st : List Value) (h : pb_H) (Q : Option Value → pb_H → Prop) (x : Int32), pb_R 7 33 [l0, l1, l2, some (.int x), l4] [] st h Q ↔ pb_R 7 34 [l0, l1, l2, some (.int x), l4] [] (.int x :: st) h Q) ∧
  (∀ (L : pb_L) (J : pb_J) (h : pb_H) (Q : Option Value → pb_H → Prop) (x0 : Int32) (x1 : Nat) (x2 : Int32) (x3 : Nat), pb_R 7 34 L J [.int x0, .ref x1, .int x2, .ref x3] h Q ↔ pb_call 5 [.ref x1, .int x0] h (fun v t => pb_R 7 37 L J (v.toList ++ [.int x2, .ref x3]) t Q)) ∧
  (∀ (L : pb_L) (J : pb_J) (st : List Value) (x y : Int32) (h : pb_H) (Q : Option Value → pb_H → Prop), pb_R 7 37 L J (.int y :: .int x :: st) h Q ↔ pb_R 7 38 L J (.int (x + y) :: st) h Q) ∧
  (∀ (L : pb_L) (J : pb_J) (h : pb_H) (Q : Option Value → pb_H → Prop) (x0 : Int32) (x1 : Nat), pb_R 7 38 L J [.int x0, .ref x1] h Q ↔ pb_is0 (h.2 x1) 0 = true ∧ pb_call 2 [.ref x1, .int x0] h (fun v t => pb_R 7 41 L J (v.toList ++ []) t Q)) ∧
  (∀ (l0 l2 l3 l4 : Option Value) (st : List Value) (h : pb_H) (Q : Option Value → pb_H → Prop) (x : Nat), pb_R 7 41 [l0, some (.ref x), l2, l3, l4] [] st h Q ↔ pb_R 7 42 [l0, some (.ref x), l2, l3, l4] [] (.ref x :: st) h Q) ∧
  (∀ (l0 l2 l3 l4 : Option Value) (st : List Value) (h : pb_H) (Q : Option Value → pb_H → Prop), pb_R 7 41 [l0, some .null, l2, l3, l4] [] st h Q ↔ pb_R 7 42 [l0, some .null, l2, l3, l4] [] (.null :: st) h Q) ∧
  (∀ (L : pb_L) (J : pb_J) (st : List Value) (h : pb_H) (Q : Option Value → pb_H → Prop), pb_R 7 42 L J st h Q ↔ pb_R 7 43 L J (.int (0 : Int32) :: st) h Q) ∧
  (∀ (L : pb_L) (J : pb_J) (h : pb_H) (Q : Option Value → pb_H → Prop) (x0 : Int32) (x1 : Nat), pb_R 7 43 L J [.int x0, .ref x1] h Q ↔ pb_call 4 [.ref x1, .int x0] h (fun v t => pb_R 7 46 L J (v.toList ++ []) t Q)) ∧
  (∀ (l0 l1 l2 l3 l4 : Option Value) (st : List Value) (h : pb_H) (Q : Option Value → pb_H → Prop) (x : Int32), pb_R 7 46 [l0, l1, l2, l3, l4] [] (.int x :: st) h Q ↔ pb_R 7 47 [l0, l1, l2, some (.int x), l4] [] st h Q) ∧
  (∀ (l0 l1 l2 l3 : Option Value) (st : List Value) (h : pb_H) (Q : Option Value → pb_H → Prop) (x : Int32), pb_R 7 47 [l0, l1, l2, l3, some (.int x)] [] st h Q ↔ pb_R 7 50 [l0, l1, l2, l3, some (.int (x + (1 : Int32)))] [] st h Q) ∧
  (∀ (L : pb_L) (J : pb_J) (st : List Value) (h : pb_H) (Q : Option Value → pb_H → Prop), pb_R 7 50 L J st h Q ↔ pb_R 7 18 L J st h Q) ∧
  (∀ (l1 l2 l3 l4 : Option Value) (st : List Value) (h : pb_H) (Q : Option Value → pb_H → Prop) (x : Nat), pb_R 7 53 [some (.ref x), l1, l2, l3, l4] [] st h Q ↔ pb_R 7 54 [some (.ref x), l1, l2, l3, l4] [] (.ref x :: st) h Q) ∧
  (∀ (l1 l2 l3 l4 : Option Value) (st : List Value) (h : pb_H) (Q : Option Value → pb_H → Prop), pb_R 7 53 [some .null, l1, l2, l3, l4] [] st h Q ↔ pb_R 7 54 [some .null, l1, l2, l3, l4] [] (.null :: st) h Q) ∧
  (∀ (l0 l1 l3 l4 : Option Value) (st : List Value) (h : pb_H) (Q : Option Value → pb_H → Prop) (x : Int32), pb_R 7 54 [l0, l1, some (.int x), l3, l4] [] st h Q ↔ pb_R 7 55 [l0, l1, some (.int x), l3, l4] [] (.int x :: st) h Q) ∧
  (∀ (L : pb_L) (J : pb_J) (h : pb_H) (Q : Option Value → pb_H → Prop) (x0 : Int32) (x1 : Nat), pb_R 7 55 L J [.int x0, .ref x1] h Q ↔ pb_is0 (h.2 x1) 0 = true ∧ pb_call 6 [.ref x1, .int x0] h (fun v t => pb_R 7 58 L J (v.toList ++ []) t Q)) ∧
  (∀ (L : pb_L) (J : pb_J) (h : pb_H) (Q : Option Value → pb_H → Prop), pb_R 7 58 L J [] h Q ↔ Q none h) := ⟨
  fun l1 l2 l3 l4 st h Q x => pf_S pb_u_7 rfl rfl,
  fun l1 l2 l3 l4 st h Q => pf_S pb_u_7 rfl rfl,
  fun L J st h Q a => pf_gf pb_u_7 rfl rfl,
  fun l0 l1 l2 l3 l4 st h Q x => pf_S pb_u_7 rfl rfl,
  fun L J st h Q => pf_S pb_u_7 rfl rfl,
  fun l0 l2 l3 l4 st h Q x => pf_S pb_u_7 rfl rfl,
  fun l0 l2 l3 l4 st h Q => pf_S pb_u_7 rfl rfl,
  fun L J st h Q => pf_S pb_u_7 rfl rfl,
  fun L J h Q x0 x1 x2 => pf_ks pb_u_7 rfl rfl rfl rfl,
  fun L J h Q x0 x1 => pf_S pb_u_7 rfl rfl,
  fun l0 l1 l2 l3 l4 st h Q x => pf_S pb_u_7 rfl rfl,
  fun L J st h Q => pf_S pb_u_7 rfl rfl,
  fun l0 l1 l2 l3 l4 st h Q x => pf_S pb_u_7 rfl rfl,
  fun L J st h Q => pf_S pb_u_7 rfl rfl,
  fun L J st h Q x y => pf_ic pb_u_7 rfl rfl rfl,
  fun l0 l1 l2 l4 st h Q x => pf_S pb_u_7 rfl rfl,
  fun L J st h Q x => pf_ii pb_u_7 rfl rfl rfl,
  fun l1 l2 l3 l4 st h Q x => pf_S pb_u_7 rfl rfl,
  fun l1 l2 l3 l4 st h Q => pf_S pb_u_7 rfl rfl,
  fun L J st h Q => pf_S pb_u_7 rfl rfl,
  fun l0 l2 l3 l4 st h Q x => pf_S pb_u_7 rfl rfl,
  fun l0 l2 l3 l4 st h Q => pf_S pb_u_7 rfl rfl,
  fun l0 l1 l2 l4 st h Q x => pf_S pb_u_7 rfl rfl,
  fun L J h Q x0 x1 x2 x3 => pf_ks pb_u_7 rfl rfl rfl rfl,
  fun L J st x y h Q => pf_S pb_u_7 rfl rfl,
  fun L J h Q x0 x1 => pf_kv pb_u_7 rfl pb_ci_2 rfl ⟨Nat.le_of_ble_eq_true rfl, Nat.le_of_ble_eq_true rfl, Nat.le_of_ble_eq_true rfl, Nat.le_of_ble_eq_true rfl, rfl⟩ rfl rfl,
  fun l0 l2 l3 l4 st h Q x => pf_S pb_u_7 rfl rfl,
  fun l0 l2 l3 l4 st h Q => pf_S pb_u_7 rfl rfl,
  fun L J st h Q => pf_S pb_u_7 rfl rfl,
  fun L J h Q x0 x1 => pf_ks pb_u_7 rfl rfl rfl rfl,
  fun l0 l1 l2 l3 l4 st h Q x => pf_S pb_u_7 rfl rfl,
  fun l0 l1 l2 l3 st h Q x => pf_S pb_u_7 rfl rfl,
  fun L J st h Q => pf_S pb_u_7 rfl rfl,
  fun l1 l2 l3 l4 st h Q x => pf_S pb_u_7 rfl rfl,
  fun l1 l2 l3 l4 st h Q => pf_S pb_u_7 rfl rfl,
  fun l0 l1 l3 l4 st h Q x => pf_S pb_u_7 rfl rfl,
  fun L J h Q x0 x1 => pf_kv pb_u_7 rfl pb_ci_6 rfl ⟨Nat.le_of_ble_eq_true rfl, Nat.le_of_ble_eq_true rfl, Nat.le_of_ble_eq_true rfl, Nat.le_of_ble_eq_true rfl, rfl⟩ rfl rfl,
  fun L J h Q => pf_rv pb_u_7 rfl rfl⟩
theorem pb_c7 (x0 : Nat) (x1 : Nat) (h : pb_H) (Q : Option Value → pb_H → Prop) : pb_call 7 [.ref x0, .ref x1] h Q ↔ pb_R 7 0 [some (.ref x0), some (.ref x1), none, none, none] [] [] h Q := Iff.rfl
/-! 8: PlaneBench$ByteRow.addSmall(I)V -/
theorem pb_u_8 : pb_t 8 = pb_t8 := rfl
theorem pb_ci_8 : pb_ci 8 = 0 := by decide +kernel
set_option maxRecDepth 100000 in
theorem pb_q8_7 (l1 l2 l3 : Option Value) (st : List Value) (h : pb_H) (Q : Option Value → pb_H → Prop) (x : Nat) : pb_R 8 7 [some (.ref x), l1, l2, l3] [] st h Q ↔ pb_R 8 8 [some (.ref x), l1, l2, l3] [] (.ref x :: st) h Q := pf_S pb_u_8 rfl rfl
set_option maxRecDepth 100000 in
theorem pb_q8_7n (l1 l2 l3 : Option Value) (st : List Value) (h : pb_H) (Q : Option Value → pb_H → Prop) : pb_R 8 7 [some .null, l1, l2, l3] [] st h Q ↔ pb_R 8 8 [some .null, l1, l2, l3] [] (.null :: st) h Q := pf_S pb_u_8 rfl rfl
set_option maxRecDepth 100000 in
theorem pb_e8 : (∀ (l1 l2 l3 : Option Value) (st : List Value) (h : pb_H) (Q : Option Value → pb_H → Prop) (x : Nat), pb_R 8 0 [some (.ref x), l1, l2, l3] [] st h Q ↔ pb_R 8 1 [some (.ref x), l1, l2, l3] [] (.ref x :: st) h Q) ∧
  (∀ (l1 l2 l3 : Option Value) (st : List Value) (h : pb_H) (Q : Option Value → pb_H → Prop), pb_R 8 0 [some .null, l1, l2, l3] [] st h Q ↔ pb_R 8 1 [some .null, l1, l2, l3] [] (.null :: st) h Q) ∧
  (∀ (L : pb_L) (J : pb_J) (st : List Value) (h : pb_H) (Q : Option Value → pb_H → Prop) (a : Nat), pb_R 8 1 L J (.ref a :: st) h Q ↔ pb_o (pb_gf (h.2 a) 0 2) (fun v => pb_R 8 4 L J (v :: st) h Q)) ∧
  (∀ (l0 l1 l2 l3 : Option Value) (st : List Value) (h : pb_H) (Q : Option Value → pb_H → Prop) (x : Int32), pb_R 8 4 [l0, l1, l2, l3] [] (.int x :: st) h Q ↔ pb_R 8 5 [l0, l1, some (.int x), l3] [] st h Q) ∧
  (∀ (l0 l2 l3 : Option Value) (st : List Value) (h : pb_H) (Q : Option Value → pb_H → Prop) (x : Int32), pb_R 8 5 [l0, some (.int x), l2, l3] [] st h Q ↔ pb_R 8 6 [l0, some (.int x), l2, l3] [] (.int x :: st) h Q) ∧
  (∀ (l0 l1 l2 l3 : Option Value) (st : List Value) (h : pb_H) (Q : Option Value → pb_H → Prop) (x : Int32), pb_R 8 6 [l0, l1, l2, l3] [] (.int x :: st) h Q ↔ pb_R 8 7 [l0, l1, l2, some (.int x)] [] st h Q) ∧
  (∀ (L : pb_L) (J : pb_J) (st : List Value) (h : pb_H) (Q : Option Value → pb_H → Prop), pb_R 8 8 L J st h Q ↔ pb_R 8 10 L J (.int (48 : Int32) :: st) h Q) ∧
  (∀ (l0 l1 l2 : Option Value) (st : List Value) (h : pb_H) (Q : Option Value → pb_H → Prop) (x : Int32), pb_R 8 10 [l0, l1, l2, some (.int x)] [] st h Q ↔ pb_R 8 11 [l0, l1, l2, some (.int x)] [] (.int x :: st) h Q) ∧
  (∀ (L : pb_L) (J : pb_J) (st : List Value) (h : pb_H) (Q : Option Value → pb_H → Prop), pb_R 8 11 L J st h Q ↔ pb_R 8 13 L J (.int (10 : Int32) :: st) h Q) ∧
  (∀ (L : pb_L) (J : pb_J) (st : List Value) (h : pb_H) (Q : Option Value → pb_H → Prop) (x y : Int32), pb_R 8 13 L J (.int y :: .int x :: st) h Q ↔ (¬ y = 0) ∧ pb_R 8 14 L J (.int (x - x / y * y) :: st) h Q) ∧
  (∀ (L : pb_L) (J : pb_J) (st : List Value) (x y : Int32) (h : pb_H) (Q : Option Value → pb_H → Prop), pb_R 8 14 L J (.int y :: .int x :: st) h Q ↔ pb_R 8 15 L J (.int (x + y) :: st) h Q) ∧
  (∀ (L : pb_L) (J : pb_J) (h : pb_H) (Q : Option Value → pb_H → Prop) (x0 : Int32) (x1 : Nat), pb_R 8 15 L J [.int x0, .ref x1] h Q ↔ pb_is0 (h.2 x1) 0 = true ∧ pb_call 2 [.ref x1, .int x0] h (fun v t => pb_R 8 18 L J (v.toList ++ []) t Q)) ∧
  (∀ (l0 l1 l2 : Option Value) (st : List Value) (h : pb_H) (Q : Option Value → pb_H → Prop) (x : Int32), pb_R 8 18 [l0, l1, l2, some (.int x)] [] st h Q ↔ pb_R 8 19 [l0, l1, l2, some (.int x)] [] (.int x :: st) h Q) ∧
  (∀ (L : pb_L) (J : pb_J) (st : List Value) (h : pb_H) (Q : Option Value → pb_H → Prop), pb_R 8 19 L J st h Q ↔ pb_R 8 21 L J (.int (10 : Int32) :: st) h Q) ∧
  (∀ (L : pb_L) (J : pb_J) (st : List Value) (h : pb_H) (Q : Option Value → pb_H → Prop) (x y : Int32), pb_R 8 21 L J (.int y :: .int x :: st) h Q ↔ (¬ y = 0) ∧ pb_R 8 22 L J (.int (x / y) :: st) h Q) ∧
  (∀ (l0 l1 l2 l3 : Option Value) (st : List Value) (h : pb_H) (Q : Option Value → pb_H → Prop) (x : Int32), pb_R 8 22 [l0, l1, l2, l3] [] (.int x :: st) h Q ↔ pb_R 8 23 [l0, l1, l2, some (.int x)] [] st h Q) ∧
  (∀ (l0 l1 l2 : Option Value) (st : List Value) (h : pb_H) (Q : Option Value → pb_H → Prop) (x : Int32), pb_R 8 23 [l0, l1, l2, some (.int x)] [] st h Q ↔ pb_R 8 24 [l0, l1, l2, some (.int x)] [] (.int x :: st) h Q) ∧
  (∀ (L : pb_L) (J : pb_J) (st : List Value) (h : pb_H) (Q : Option Value → pb_H → Prop) (x : Int32), pb_R 8 24 L J (.int x :: st) h Q ↔ if 0 < x then pb_R 8 7 L J st h Q else pb_R 8 27 L J st h Q) ∧
  (∀ (l1 l2 l3 : Option Value) (st : List Value) (h : pb_H) (Q : Option Value → pb_H → Prop) (x : Nat), pb_R 8 27 [some (.ref x), l1, l2, l3] [] st h Q ↔ pb_R 8 28 [some (.ref x), l1, l2, l3] [] (.ref x :: st) h Q) ∧
  (∀ (l1 l2 l3 : Option Value) (st : List Value) (h : pb_H) (Q : Option Value → pb_H → Prop), pb_R 8 27 [some .null, l1, l2, l3] [] st h Q ↔ pb_R 8 28 [some .null, l1, l2, l3] [] (.null :: st) h Q) ∧
  (∀ (l0 l1 l3 : Option Value) (st : List Value) (h : pb_H) (Q : Option Value → pb_H → Prop) (x : Int32), pb_R 8 28 [l0, l1, some (.int x), l3] [] st h Q ↔ pb_R 8 29 [l0, l1, some (.int x), l3] [] (.int x :: st) h Q) ∧
  (∀ (L : pb_L) (J : pb_J) (h : pb_H) (Q : Option Value → pb_H → Prop) (x0 : Int32) (x1 : Nat), pb_R 8 29 L J [.int x0, .ref x1] h Q ↔ pb_is0 (h.2 x1) 0 = true ∧ pb_call 6 [.ref x1, .int x0] h (fun v t => pb_R 8 32 L J (v.toList ++ []) t Q)) ∧
  (∀ (L : pb_L) (J : pb_J) (h : pb_H) (Q : Option Value → pb_H → Prop), pb_R 8 32 L J [] h Q ↔ Q none h) := ⟨
  fun l1 l2 l3 st h Q x => pf_S pb_u_8 rfl rfl,
  fun l1 l2 l3 st h Q => pf_S pb_u_8 rfl rfl,
  fun L J st h Q a => pf_gf pb_u_8 rfl rfl,
  fun l0 l1 l2 l3 st h Q x => pf_S pb_u_8 rfl rfl,
  fun l0 l2 l3 st h Q x => pf_S pb_u_8 rfl rfl,
  fun l0 l1 l2 l3 st h Q x => pf_S pb_u_8 rfl rfl,
  fun L J st h Q => pf_S pb_u_8 rfl rfl,
  fun l0 l1 l2 st h Q x => pf_S pb_u_8 rfl rfl,
  fun L J st h Q => pf_S pb_u_8 rfl rfl,
  fun L J st h Q x y => pf_rem pb_u_8 rfl rfl,
  fun L J st x y h Q => pf_S pb_u_8 rfl rfl,
  fun L J h Q x0 x1 => pf_kv pb_u_8 rfl pb_ci_2 rfl ⟨Nat.le_of_ble_eq_true rfl, Nat.le_of_ble_eq_true rfl, Nat.le_of_ble_eq_true rfl, Nat.le_of_ble_eq_true rfl, rfl⟩ rfl rfl,
  fun l0 l1 l2 st h Q x => pf_S pb_u_8 rfl rfl,
  fun L J st h Q => pf_S pb_u_8 rfl rfl,
  fun L J st h Q x y => pf_div pb_u_8 rfl rfl,
  fun l0 l1 l2 l3 st h Q x => pf_S pb_u_8 rfl rfl,
  fun l0 l1 l2 st h Q x => pf_S pb_u_8 rfl rfl,
  fun L J st h Q x => pf_ii pb_u_8 rfl rfl rfl,
  fun l1 l2 l3 st h Q x => pf_S pb_u_8 rfl rfl,
  fun l1 l2 l3 st h Q => pf_S pb_u_8 rfl rfl,
  fun l0 l1 l3 st h Q x => pf_S pb_u_8 rfl rfl,
  fun L J h Q x0 x1 => pf_kv pb_u_8 rfl pb_ci_6 rfl ⟨Nat.le_of_ble_eq_true rfl, Nat.le_of_ble_eq_true rfl, Nat.le_of_ble_eq_true rfl, Nat.le_of_ble_eq_true rfl, rfl⟩ rfl rfl,
  fun L J h Q => pf_rv pb_u_8 rfl rfl⟩
theorem pb_c8 (x0 : Nat) (x1 : Int32) (h : pb_H) (Q : Option Value → pb_H → Prop) : pb_call 8 [.ref x0, .int x1] h Q ↔ pb_R 8 0 [some (.ref x0), some (.int x1), none, none] [] [] h Q := Iff.rfl
/-! 9: PlaneBench$ByteRow.addBlankAnd(I)V -/
theorem pb_u_9 : pb_t 9 = pb_t9 := rfl
theorem pb_ci_9 : pb_ci 9 = 0 := by decide +kernel
set_option maxRecDepth 100000 in
theorem pb_e9 : (∀ (l1 : Option Value) (st : List Value) (h : pb_H) (Q : Option Value → pb_H → Prop) (x : Nat), pb_R 9 0 [some (.ref x), l1] [] st h Q ↔ pb_R 9 1 [some (.ref x), l1] [] (.ref x :: st) h Q) ∧
  (∀ (l1 : Option Value) (st : List Value) (h : pb_H) (Q : Option Value → pb_H → Prop), pb_R 9 0 [some .null, l1] [] st h Q ↔ pb_R 9 1 [some .null, l1] [] (.null :: st) h Q) ∧
  (∀ (L : pb_L) (J : pb_J) (st : List Value) (h : pb_H) (Q : Option Value → pb_H → Prop), pb_R 9 1 L J st h Q ↔ pb_R 9 3 L J (.int (32 : Int32) :: st) h Q) ∧
  (∀ (L : pb_L) (J : pb_J) (h : pb_H) (Q : Option Value → pb_H → Prop) (x0 : Int32) (x1 : Nat), pb_R 9 3 L J [.int x0, .ref x1] h Q ↔ pb_is0 (h.2 x1) 0 = true ∧ pb_call 2 [.ref x1, .int x0] h (fun v t => pb_R 9 6 L J (v.toList ++ []) t Q)) ∧
  (∀ (l1 : Option Value) (st : List Value) (h : pb_H) (Q : Option Value → pb_H → Prop) (x : Nat), pb_R 9 6 [some (.ref x), l1] [] st h Q ↔ pb_R 9 7 [some (.ref x), l1] [] (.ref x :: st) h Q) ∧
  (∀ (l1 : Option Value) (st : List Value) (h : pb_H) (Q : Option Value → pb_H → Prop), pb_R 9 6 [some .null, l1] [] st h Q ↔ pb_R 9 7 [some .null, l1] [] (.null :: st) h Q) ∧
  (∀ (l0 : Option Value) (st : List Value) (h : pb_H) (Q : Option Value → pb_H → Prop) (x : Int32), pb_R 9 7 [l0, some (.int x)] [] st h Q ↔ pb_R 9 8 [l0, some (.int x)] [] (.int x :: st) h Q) ∧
  (∀ (L : pb_L) (J : pb_J) (h : pb_H) (Q : Option Value → pb_H → Prop) (x0 : Int32) (x1 : Nat), pb_R 9 8 L J [.int x0, .ref x1] h Q ↔ pb_is0 (h.2 x1) 0 = true ∧ pb_call 2 [.ref x1, .int x0] h (fun v t => pb_R 9 11 L J (v.toList ++ []) t Q)) ∧
  (∀ (L : pb_L) (J : pb_J) (h : pb_H) (Q : Option Value → pb_H → Prop), pb_R 9 11 L J [] h Q ↔ Q none h) := ⟨
  fun l1 st h Q x => pf_S pb_u_9 rfl rfl,
  fun l1 st h Q => pf_S pb_u_9 rfl rfl,
  fun L J st h Q => pf_S pb_u_9 rfl rfl,
  fun L J h Q x0 x1 => pf_kv pb_u_9 rfl pb_ci_2 rfl ⟨Nat.le_of_ble_eq_true rfl, Nat.le_of_ble_eq_true rfl, Nat.le_of_ble_eq_true rfl, Nat.le_of_ble_eq_true rfl, rfl⟩ rfl rfl,
  fun l1 st h Q x => pf_S pb_u_9 rfl rfl,
  fun l1 st h Q => pf_S pb_u_9 rfl rfl,
  fun l0 st h Q x => pf_S pb_u_9 rfl rfl,
  fun L J h Q x0 x1 => pf_kv pb_u_9 rfl pb_ci_2 rfl ⟨Nat.le_of_ble_eq_true rfl, Nat.le_of_ble_eq_true rfl, Nat.le_of_ble_eq_true rfl, Nat.le_of_ble_eq_true rfl, rfl⟩ rfl rfl,
  fun L J h Q => pf_rv pb_u_9 rfl rfl⟩
theorem pb_c9 (x0 : Nat) (x1 : Int32) (h : pb_H) (Q : Option Value → pb_H → Prop) : pb_call 9 [.ref x0, .int x1] h Q ↔ pb_R 9 0 [some (.ref x0), some (.int x1)] [] [] h Q := Iff.rfl
/-! 10: PlaneBench$ByteRow.keep(I)V -/
theorem pb_u_10 : pb_t 10 = pb_t10 := rfl
theorem pb_ci_10 : pb_ci 10 = 0 := by decide +kernel
set_option maxRecDepth 100000 in
theorem pb_e10 : (∀ (l1 : Option Value) (st : List Value) (h : pb_H) (Q : Option Value → pb_H → Prop) (x : Nat), pb_R 10 0 [some (.ref x), l1] [] st h Q ↔ pb_R 10 1 [some (.ref x), l1] [] (.ref x :: st) h Q) ∧
  (∀ (l1 : Option Value) (st : List Value) (h : pb_H) (Q : Option Value → pb_H → Prop), pb_R 10 0 [some .null, l1] [] st h Q ↔ pb_R 10 1 [some .null, l1] [] (.null :: st) h Q) ∧
  (∀ (l0 : Option Value) (st : List Value) (h : pb_H) (Q : Option Value → pb_H → Prop) (x : Int32), pb_R 10 1 [l0, some (.int x)] [] st h Q ↔ pb_R 10 2 [l0, some (.int x)] [] (.int x :: st) h Q) ∧
  (∀ (L : pb_L) (J : pb_J) (st : List Value) (h : pb_H) (Q : Option Value → pb_H → Prop) (a : Nat) (x : Int32), pb_R 10 2 L J (.int x :: .ref a :: st) h Q ↔ pb_o (pb_pf (h.2 a) 0 2 (.int x)) (fun c => pb_R 10 5 L J st (pb_set h a c) Q)) ∧
  (∀ (l1 : Option Value) (st : List Value) (h : pb_H) (Q : Option Value → pb_H → Prop) (x : Nat), pb_R 10 5 [some (.ref x), l1] [] st h Q ↔ pb_R 10 6 [some (.ref x), l1] [] (.ref x :: st) h Q) ∧
  (∀ (l1 : Option Value) (st : List Value) (h : pb_H) (Q : Option Value → pb_H → Prop), pb_R 10 5 [some .null, l1] [] st h Q ↔ pb_R 10 6 [some .null, l1] [] (.null :: st) h Q) ∧
  (∀ (L : pb_L) (J : pb_J) (st : List Value) (h : pb_H) (Q : Option Value → pb_H → Prop), pb_R 10 6 L J st h Q ↔ pb_R 10 7 L J (.int (0 : Int32) :: st) h Q) ∧
  (∀ (L : pb_L) (J : pb_J) (st : List Value) (h : pb_H) (Q : Option Value → pb_H → Prop) (a : Nat) (x : Int32), pb_R 10 7 L J (.int x :: .ref a :: st) h Q ↔ pb_o (pb_pf (h.2 a) 0 3 (.int x)) (fun c => pb_R 10 10 L J st (pb_set h a c) Q)) ∧
  (∀ (L : pb_L) (J : pb_J) (h : pb_H) (Q : Option Value → pb_H → Prop), pb_R 10 10 L J [] h Q ↔ Q none h) := ⟨
  fun l1 st h Q x => pf_S pb_u_10 rfl rfl,
  fun l1 st h Q => pf_S pb_u_10 rfl rfl,
  fun l0 st h Q x => pf_S pb_u_10 rfl rfl,
  fun L J st h Q a x => pf_pf pb_u_10 rfl rfl,
  fun l1 st h Q x => pf_S pb_u_10 rfl rfl,
  fun l1 st h Q => pf_S pb_u_10 rfl rfl,
  fun L J st h Q => pf_S pb_u_10 rfl rfl,
  fun L J st h Q a x => pf_pf pb_u_10 rfl rfl,
  fun L J h Q => pf_rv pb_u_10 rfl rfl⟩
theorem pb_c10 (x0 : Nat) (x1 : Int32) (h : pb_H) (Q : Option Value → pb_H → Prop) : pb_call 10 [.ref x0, .int x1] h Q ↔ pb_R 10 0 [some (.ref x0), some (.int x1)] [] [] h Q := Iff.rfl
/-! 11: PlaneBench$ByteRow.byteAt(I)I -/
theorem pb_u_11 : pb_t 11 = pb_t11 := rfl
theorem pb_ci_11 : pb_ci 11 = 0 := by decide +kernel
set_option maxRecDepth 100000 in
theorem pb_e11 : (∀ (l0 : Option Value) (st : List Value) (h : pb_H) (Q : Option Value → pb_H → Prop) (x : Int32), pb_R 11 0 [l0, some (.int x)] [] st h Q ↔ pb_R 11 1 [l0, some (.int x)] [] (.int x :: st) h Q) ∧
  (∀ (L : pb_L) (J : pb_J) (st : List Value) (h : pb_H) (Q : Option Value → pb_H → Prop) (x : Int32), pb_R 11 1 L J (.int x :: st) h Q ↔ if x < 0 then pb_R 11 12 L J st h Q else pb_R 11 4 L J st h Q) ∧
  (∀ (l0 : Option Value) (st : List Value) (h : pb_H) (Q : Option Value → pb_H → Prop) (x : Int32), pb_R 11 4 [l0, some (.int x)] [] st h Q ↔ pb_R 11 5 [l0, some (.int x)] [] (.int x :: st) h Q) ∧
  (∀ (l1 : Option Value) (st : List Value) (h : pb_H) (Q : Option Value → pb_H → Prop) (x : Nat), pb_R 11 5 [some (.ref x), l1] [] st h Q ↔ pb_R 11 6 [some (.ref x), l1] [] (.ref x :: st) h Q) ∧
  (∀ (l1 : Option Value) (st : List Value) (h : pb_H) (Q : Option Value → pb_H → Prop), pb_R 11 5 [some .null, l1] [] st h Q ↔ pb_R 11 6 [some .null, l1] [] (.null :: st) h Q) ∧
  (∀ (L : pb_L) (J : pb_J) (st : List Value) (h : pb_H) (Q : Option Value → pb_H → Prop) (a : Nat), pb_R 11 6 L J (.ref a :: st) h Q ↔ pb_o (pb_gf (h.2 a) 0 2) (fun v => pb_R 11 9 L J (v :: st) h Q)) ∧
  (∀ (L : pb_L) (J : pb_J) (st : List Value) (h : pb_H) (Q : Option Value → pb_H → Prop) (x y : Int32), pb_R 11 9 L J (.int y :: .int x :: st) h Q ↔ if x < y then pb_R 11 16 L J st h Q else pb_R 11 12 L J st h Q) ∧
  (∀ (L : pb_L) (J : pb_J) (st : List Value) (h : pb_H) (Q : Option Value → pb_H → Prop), pb_R 11 12 L J st h Q ↔ pb_R 11 13 L J (.int (-1 : Int32) :: st) h Q) ∧
  (∀ (L : pb_L) (J : pb_J) (st : List Value) (h : pb_H) (Q : Option Value → pb_H → Prop), pb_R 11 13 L J st h Q ↔ pb_R 11 26 L J st h Q) ∧
  (∀ (l1 : Option Value) (st : List Value) (h : pb_H) (Q : Option Value → pb_H → Prop) (x : Nat), pb_R 11 16 [some (.ref x), l1] [] st h Q ↔ pb_R 11 17 [some (.ref x), l1] [] (.ref x :: st) h Q) ∧
  (∀ (l1 : Option Value) (st : List Value) (h : pb_H) (Q : Option Value → pb_H → Prop), pb_R 11 16 [some .null, l1] [] st h Q ↔ pb_R 11 17 [some .null, l1] [] (.null :: st) h Q) ∧
  (∀ (L : pb_L) (J : pb_J) (st : List Value) (h : pb_H) (Q : Option Value → pb_H → Prop) (a : Nat), pb_R 11 17 L J (.ref a :: st) h Q ↔ pb_o (pb_gf (h.2 a) 0 1) (fun v => pb_R 11 20 L J (v :: st) h Q)) ∧
  (∀ (l0 : Option Value) (st : List Value) (h : pb_H) (Q : Option Value → pb_H → Prop) (x : Int32), pb_R 11 20 [l0, some (.int x)] [] st h Q ↔ pb_R 11 21 [l0, some (.int x)] [] (.int x :: st) h Q) ∧
  (∀ (L : pb_L) (J : pb_J) (st : List Value) (h : pb_H) (Q : Option Value → pb_H → Prop) (a : Nat) (i : Int32), pb_R 11 21 L J (.int i :: .ref a :: st) h Q ↔ pb_o (pb_ab (h.2 a) i) (fun v => pb_R 11 22 L J (.int v :: st) h Q)) ∧
  (∀ (L : pb_L) (J : pb_J) (st : List Value) (h : pb_H) (Q : Option Value → pb_H → Prop), pb_R 11 22 L J st h Q ↔ pb_R 11 25 L J (.int (255 : Int32) :: st) h Q) ∧
  (∀ (L : pb_L) (J : pb_J) (st : List Value) (x y : Int32) (h : pb_H) (Q : Option Value → pb_H → Prop), pb_R 11 25 L J (.int y :: .int x :: st) h Q ↔ pb_R 11 26 L J (.int (x &&& y) :: st) h Q) ∧
  (∀ (L : pb_L) (J : pb_J) (h : pb_H) (Q : Option Value → pb_H → Prop) (x : Int32), pb_R 11 26 L J [.int x] h Q ↔ Q (some (.int x)) h) := ⟨
  fun l0 st h Q x => pf_S pb_u_11 rfl rfl,
  fun L J st h Q x => pf_ii pb_u_11 rfl rfl rfl,
  fun l0 st h Q x => pf_S pb_u_11 rfl rfl,
  fun l1 st h Q x => pf_S pb_u_11 rfl rfl,
  fun l1 st h Q => pf_S pb_u_11 rfl rfl,
  fun L J st h Q a => pf_gf pb_u_11 rfl rfl,
  fun L J st h Q x y => pf_ic pb_u_11 rfl rfl rfl,
  fun L J st h Q => pf_S pb_u_11 rfl rfl,
  fun L J st h Q => pf_S pb_u_11 rfl rfl,
  fun l1 st h Q x => pf_S pb_u_11 rfl rfl,
  fun l1 st h Q => pf_S pb_u_11 rfl rfl,
  fun L J st h Q a => pf_gf pb_u_11 rfl rfl,
  fun l0 st h Q x => pf_S pb_u_11 rfl rfl,
  fun L J st h Q a i => pf_ab pb_u_11 rfl rfl,
  fun L J st h Q => pf_S pb_u_11 rfl rfl,
  fun L J st x y h Q => pf_S pb_u_11 rfl rfl,
  fun L J h Q x => pf_ri pb_u_11 rfl rfl⟩
theorem pb_c11 (x0 : Nat) (x1 : Int32) (h : pb_H) (Q : Option Value → pb_H → Prop) : pb_call 11 [.ref x0, .int x1] h Q ↔ pb_R 11 0 [some (.ref x0), some (.int x1)] [] [] h Q := Iff.rfl
/-! 12: PlaneBench$Divider.<init>()V -/
theorem pb_u_12 : pb_t 12 = pb_t12 := rfl
set_option maxRecDepth 100000 in
theorem pb_e12 : (∀ (st : List Value) (h : pb_H) (Q : Option Value → pb_H → Prop) (x : Nat), pb_R 12 0 [some (.ref x)] [] st h Q ↔ pb_R 12 1 [some (.ref x)] [] (.ref x :: st) h Q) ∧
  (∀ (st : List Value) (h : pb_H) (Q : Option Value → pb_H → Prop), pb_R 12 0 [some .null] [] st h Q ↔ pb_R 12 1 [some .null] [] (.null :: st) h Q) ∧
  (∀ (L : pb_L) (J : pb_J) (h : pb_H) (Q : Option Value → pb_H → Prop) (a : Nat), pb_R 12 1 L J [.ref a] h Q ↔ pb_R 12 4 L J [] h Q) ∧
  (∀ (st : List Value) (h : pb_H) (Q : Option Value → pb_H → Prop) (x : Nat), pb_R 12 4 [some (.ref x)] [] st h Q ↔ pb_R 12 5 [some (.ref x)] [] (.ref x :: st) h Q) ∧
  (∀ (st : List Value) (h : pb_H) (Q : Option Value → pb_H → Prop), pb_R 12 4 [some .null] [] st h Q ↔ pb_R 12 5 [some .null] [] (.null :: st) h Q) ∧
  (∀ (L : pb_L) (J : pb_J) (st : List Value) (h : pb_H) (Q : Option Value → pb_H → Prop), pb_R 12 5 L J st h Q ↔ pb_R 12 7 L J (.int (8 : Int32) :: st) h Q) ∧
  (∀ (L : pb_L) (J : pb_J) (st : List Value) (h : pb_H) (Q : Option Value → pb_H → Prop) (n : Int32), pb_R 12 7 L J (.int n :: st) h Q ↔ (¬ n < 0 ∧ n.toNatClampNeg ≤ 1000000) ∧ pb_R 12 9 L J (.ref h.1 :: st) (pb_new h (.inl (0, n.toNatClampNeg, .inl (fun _ => 0)))) Q) ∧
  (∀ (L : pb_L) (J : pb_J) (st : List Value) (h : pb_H) (Q : Option Value → pb_H → Prop) (a : Nat) (x : Nat), pb_R 12 9 L J (.ref x :: .ref a :: st) h Q ↔ pb_o (pb_pf (h.2 a) 3 0 (.ref x)) (fun c => pb_R 12 12 L J st (pb_set h a c) Q)) ∧
  (∀ (st : List Value) (h : pb_H) (Q : Option Value → pb_H → Prop) (x : Nat), pb_R 12 12 [some (.ref x)] [] st h Q ↔ pb_R 12 13 [some (.ref x)] [] (.ref x :: st) h Q) ∧
  (∀ (st : List Value) (h : pb_H) (Q : Option Value → pb_H → Prop), pb_R 12 12 [some .null] [] st h Q ↔ pb_R 12 13 [some .null] [] (.null :: st) h Q) ∧
  (∀ (L : pb_L) (J : pb_J) (st : List Value) (h : pb_H) (Q : Option Value → pb_H → Prop), pb_R 12 13 L J st h Q ↔ pb_R 12 15 L J (.int (9 : Int32) :: st) h Q) ∧
  (∀ (L : pb_L) (J : pb_J) (st : List Value) (h : pb_H) (Q : Option Value → pb_H → Prop) (n : Int32), pb_R 12 15 L J (.int n :: st) h Q ↔ (¬ n < 0 ∧ n.toNatClampNeg ≤ 1000000) ∧ pb_R 12 17 L J (.ref h.1 :: st) (pb_new h (.inl (0, n.toNatClampNeg, .inl (fun _ => 0)))) Q) ∧
  (∀ (L : pb_L) (J : pb_J) (st : List Value) (h : pb_H) (Q : Option Value → pb_H → Prop) (a : Nat) (x : Nat), pb_R 12 17 L J (.ref x :: .ref a :: st) h Q ↔ pb_o (pb_pf (h.2 a) 3 1 (.ref x)) (fun c => pb_R 12 20 L J st (pb_set h a c) Q)) ∧
  (∀ (st : List Value) (h : pb_H) (Q : Option Value → pb_H → Prop) (x : Nat), pb_R 12 20 [some (.ref x)] [] st h Q ↔ pb_R 12 21 [some (.ref x)] [] (.ref x :: st) h Q) ∧
  (∀ (st : List Value) (h : pb_H) (Q : Option Value → pb_H → Prop), pb_R 12 20 [some .null] [] st h Q ↔ pb_R 12 21 [some .null] [] (.null :: st) h Q) ∧
  (∀ (L : pb_L) (J : pb_J) (st : List Value) (h : pb_H) (Q : Option Value → pb_H → Prop), pb_R 12 21 L J st h Q ↔ pb_R 12 23 L J (.int (8 : Int32) :: st) h Q) ∧
  (∀ (L : pb_L) (J : pb_J) (st : List Value) (h : pb_H) (Q : Option Value → pb_H → Prop) (n : Int32), pb_R 12 23 L J (.int n :: st) h Q ↔ (¬ n < 0 ∧ n.toNatClampNeg ≤ 1000000) ∧ pb_R 12 25 L J (.ref h.1 :: st) (pb_new h (.inl (0, n.toNatClampNeg, .inl (fun _ => 0)))) Q) ∧
  (∀ (L : pb_L) (J : pb_J) (st : List Value) (h : pb_H) (Q : Option Value → pb_H → Prop) (a : Nat) (x : Nat), pb_R 12 25 L J (.ref x :: .ref a :: st) h Q ↔ pb_o (pb_pf (h.2 a) 3 2 (.ref x)) (fun c => pb_R 12 28 L J st (pb_set h a c) Q)) ∧
  (∀ (L : pb_L) (J : pb_J) (h : pb_H) (Q : Option Value → pb_H → Prop), pb_R 12 28 L J [] h Q ↔ Q none h) := ⟨
  fun st h Q x => pf_S pb_u_12 rfl rfl,
  fun st h Q => pf_S pb_u_12 rfl rfl,
  fun L J h Q a => pf_S pb_u_12 rfl rfl,
  fun st h Q x => pf_S pb_u_12 rfl rfl,
  fun st h Q => pf_S pb_u_12 rfl rfl,
  fun L J st h Q => pf_S pb_u_12 rfl rfl,
  fun L J st h Q n => pf_nI pb_u_12 rfl rfl,
  fun L J st h Q a x => pf_pf pb_u_12 rfl rfl,
  fun st h Q x => pf_S pb_u_12 rfl rfl,
  fun st h Q => pf_S pb_u_12 rfl rfl,
  fun L J st h Q => pf_S pb_u_12 rfl rfl,
  fun L J st h Q n => pf_nI pb_u_12 rfl rfl,
  fun L J st h Q a x => pf_pf pb_u_12 rfl rfl,
  fun st h Q x => pf_S pb_u_12 rfl rfl,
  fun st h Q => pf_S pb_u_12 rfl rfl,
  fun L J st h Q => pf_S pb_u_12 rfl rfl,
  fun L J st h Q n => pf_nI pb_u_12 rfl rfl,
  fun L J st h Q a x => pf_pf pb_u_12 rfl rfl,
  fun L J h Q => pf_rv pb_u_12 rfl rfl⟩
theorem pb_c12 (x0 : Nat) (h : pb_H) (Q : Option Value → pb_H → Prop) : pb_call 12 [.ref x0] h Q ↔ pb_R 12 0 [some (.ref x0)] [] [] h Q := Iff.rfl
/-! 13: PlaneBench$Line.<init>(I)V -/
theorem pb_u_13 : pb_t 13 = pb_t13 := rfl
set_option maxRecDepth 100000 in
theorem pb_e13 : (∀ (l1 : Option Value) (st : List Value) (h : pb_H) (Q : Option Value → pb_H → Prop) (x : Nat), pb_R 13 0 [some (.ref x), l1] [] st h Q ↔ pb_R 13 1 [some (.ref x), l1] [] (.ref x :: st) h Q) ∧
  (∀ (l1 : Option Value) (st : List Value) (h : pb_H) (Q : Option Value → pb_H → Prop), pb_R 13 0 [some .null, l1] [] st h Q ↔ pb_R 13 1 [some .null, l1] [] (.null :: st) h Q) ∧
  (∀ (L : pb_L) (J : pb_J) (h : pb_H) (Q : Option Value → pb_H → Prop) (a : Nat), pb_R 13 1 L J [.ref a] h Q ↔ pb_R 13 4 L J [] h Q) ∧
  (∀ (l1 : Option Value) (st : List Value) (h : pb_H) (Q : Option Value → pb_H → Prop) (x : Nat), pb_R 13 4 [some (.ref x), l1] [] st h Q ↔ pb_R 13 5 [some (.ref x), l1] [] (.ref x :: st) h Q) ∧
  (∀ (l1 : Option Value) (st : List Value) (h : pb_H) (Q : Option Value → pb_H → Prop), pb_R 13 4 [some .null, l1] [] st h Q ↔ pb_R 13 5 [some .null, l1] [] (.null :: st) h Q) ∧
  (∀ (l0 : Option Value) (st : List Value) (h : pb_H) (Q : Option Value → pb_H → Prop) (x : Int32), pb_R 13 5 [l0, some (.int x)] [] st h Q ↔ pb_R 13 6 [l0, some (.int x)] [] (.int x :: st) h Q) ∧
  (∀ (L : pb_L) (J : pb_J) (st : List Value) (h : pb_H) (Q : Option Value → pb_H → Prop) (a : Nat) (x : Int32), pb_R 13 6 L J (.int x :: .ref a :: st) h Q ↔ pb_o (pb_pf (h.2 a) 4 0 (.int x)) (fun c => pb_R 13 9 L J st (pb_set h a c) Q)) ∧
  (∀ (l1 : Option Value) (st : List Value) (h : pb_H) (Q : Option Value → pb_H → Prop) (x : Nat), pb_R 13 9 [some (.ref x), l1] [] st h Q ↔ pb_R 13 10 [some (.ref x), l1] [] (.ref x :: st) h Q) ∧
  (∀ (l1 : Option Value) (st : List Value) (h : pb_H) (Q : Option Value → pb_H → Prop), pb_R 13 9 [some .null, l1] [] st h Q ↔ pb_R 13 10 [some .null, l1] [] (.null :: st) h Q) ∧
  (∀ (l0 : Option Value) (st : List Value) (h : pb_H) (Q : Option Value → pb_H → Prop) (x : Int32), pb_R 13 10 [l0, some (.int x)] [] st h Q ↔ pb_R 13 11 [l0, some (.int x)] [] (.int x :: st) h Q) ∧
  (∀ (L : pb_L) (J : pb_J) (st : List Value) (h : pb_H) (Q : Option Value → pb_H → Prop), pb_R 13 11 L J st h Q ↔ pb_R 13 12 L J (.int (1 : Int32) :: st) h Q) ∧
  (∀ (L : pb_L) (J : pb_J) (st : List Value) (x y : Int32) (h : pb_H) (Q : Option Value → pb_H → Prop), pb_R 13 12 L J (.int y :: .int x :: st) h Q ↔ pb_R 13 13 L J (.int (x + y) :: st) h Q) ∧
  (∀ (L : pb_L) (J : pb_J) (st : List Value) (h : pb_H) (Q : Option Value → pb_H → Prop), pb_R 13 13 L J st h Q ↔ pb_R 13 15 L J (.int (8 : Int32) :: st) h Q) ∧
  (∀ (L : pb_L) (J : pb_J) (st : List Value) (x y : Int32) (h : pb_H) (Q : Option Value → pb_H → Prop), pb_R 13 15 L J (.int y :: .int x :: st) h Q ↔ pb_R 13 16 L J (.int (x * y) :: st) h Q) ∧
  (∀ (L : pb_L) (J : pb_J) (st : List Value) (h : pb_H) (Q : Option Value → pb_H → Prop) (n : Int32), pb_R 13 16 L J (.int n :: st) h Q ↔ (¬ n < 0 ∧ n.toNatClampNeg ≤ 1000000) ∧ pb_R 13 18 L J (.ref h.1 :: st) (pb_new h (.inl (0, n.toNatClampNeg, .inl (fun _ => 0)))) Q) ∧
  (∀ (L : pb_L) (J : pb_J) (st : List Value) (h : pb_H) (Q : Option Value → pb_H → Prop) (a : Nat) (x : Nat), pb_R 13 18 L J (.ref x :: .ref a :: st) h Q ↔ pb_o (pb_pf (h.2 a) 4 1 (.ref x)) (fun c => pb_R 13 21 L J st (pb_set h a c) Q)) ∧
  (∀ (L : pb_L) (J : pb_J) (h : pb_H) (Q : Option Value → pb_H → Prop), pb_R 13 21 L J [] h Q ↔ Q none h) := ⟨
  fun l1 st h Q x => pf_S pb_u_13 rfl rfl,
  fun l1 st h Q => pf_S pb_u_13 rfl rfl,
  fun L J h Q a => pf_S pb_u_13 rfl rfl,
  fun l1 st h Q x => pf_S pb_u_13 rfl rfl,
  fun l1 st h Q => pf_S pb_u_13 rfl rfl,
  fun l0 st h Q x => pf_S pb_u_13 rfl rfl,
  fun L J st h Q a x => pf_pf pb_u_13 rfl rfl,
  fun l1 st h Q x => pf_S pb_u_13 rfl rfl,
  fun l1 st h Q => pf_S pb_u_13 rfl rfl,
  fun l0 st h Q x => pf_S pb_u_13 rfl rfl,
  fun L J st h Q => pf_S pb_u_13 rfl rfl,
  fun L J st x y h Q => pf_S pb_u_13 rfl rfl,
  fun L J st h Q => pf_S pb_u_13 rfl rfl,
  fun L J st x y h Q => pf_S pb_u_13 rfl rfl,
  fun L J st h Q n => pf_nI pb_u_13 rfl rfl,
  fun L J st h Q a x => pf_pf pb_u_13 rfl rfl,
  fun L J h Q => pf_rv pb_u_13 rfl rfl⟩
theorem pb_c13 (x0 : Nat) (x1 : Int32) (h : pb_H) (Q : Option Value → pb_H → Prop) : pb_call 13 [.ref x0, .int x1] h Q ↔ pb_R 13 0 [some (.ref x0), some (.int x1)] [] [] h Q := Iff.rfl
/-! 14: PlaneBench$Checker.<init>(LPlaneBench$TextReader;LPlaneBench$Condition;LPlaneBench$Shelf;)V -/
theorem pb_u_14 : pb_t 14 = pb_t14 := rfl
set_option maxRecDepth 100000 in
theorem pb_q14_73 (l0 l1 l2 l3 : Option Value) (st : List Value) (h : pb_H) (Q : Option Value → pb_H → Prop) (x : Int32) : pb_R 14 73 [l0, l1, l2, l3, some (.int x)] [] st h Q ↔ pb_R 14 75 [l0, l1, l2, l3, some (.int x)] [] (.int x :: st) h Q := pf_S pb_u_14 rfl rfl
set_option maxRecDepth 100000 in
theorem pb_e14 : (∀ (l1 l2 l3 l4 : Option Value) (st : List Value) (h : pb_H) (Q : Option Value → pb_H → Prop) (x : Nat), pb_R 14 0 [some (.ref x), l1, l2, l3, l4] [] st h Q ↔ pb_R 14 1 [some (.ref x), l1, l2, l3, l4] [] (.ref x :: st) h Q) ∧
  (∀ (l1 l2 l3 l4 : Option Value) (st : List Value) (h : pb_H) (Q : Option Value → pb_H → Prop), pb_R 14 0 [some .null, l1, l2, l3, l4] [] st h Q ↔ pb_R 14 1 [some .null, l1, l2, l3, l4] [] (.null :: st) h Q) ∧
  (∀ (L : pb_L) (J : pb_J) (h : pb_H) (Q : Option Value → pb_H → Prop) (a : Nat), pb_R 14 1 L J [.ref a] h Q ↔ pb_R 14 4 L J [] h Q) ∧
  (∀ (l1 l2 l3 l4 : Option Value) (st : List Value) (h : pb_H) (Q : Option Value → pb_H → Prop) (x : Nat), pb_R 14 4 [some (.ref x), l1, l2, l3, l4] [] st h Q ↔ pb_R 14 5 [some (.ref x), l1, l2, l3, l4] [] (.ref x :: st) h Q) ∧
  (∀ (l1 l2 l3 l4 : Option Value) (st : List Value) (h : pb_H) (Q : Option Value → pb_H → Prop), pb_R 14 4 [some .null, l1, l2, l3, l4] [] st h Q ↔ pb_R 14 5 [some .null, l1, l2, l3, l4] [] (.null :: st) h Q) ∧
  (∀ (L : pb_L) (J : pb_J) (st : List Value) (h : pb_H) (Q : Option Value → pb_H → Prop), pb_R 14 5 L J st h Q ↔ pb_R 14 7 L J (.int (12 : Int32) :: st) h Q) ∧
  (∀ (L : pb_L) (J : pb_J) (st : List Value) (h : pb_H) (Q : Option Value → pb_H → Prop) (n : Int32), pb_R 14 7 L J (.int n :: st) h Q ↔ (¬ n < 0 ∧ n.toNatClampNeg ≤ 1000000) ∧ pb_R 14 10 L J (.ref h.1 :: st) (pb_new h (.inl (2, n.toNatClampNeg, .inr (.inr (.inr (.inr (fun _ => none))))))) Q) ∧
  (∀ (L : pb_L) (J : pb_J) (st : List Value) (h : pb_H) (Q : Option Value → pb_H → Prop) (a : Nat) (x : Nat), pb_R 14 10 L J (.ref x :: .ref a :: st) h Q ↔ pb_o (pb_pf (h.2 a) 1 3 (.ref x)) (fun c => pb_R 14 13 L J st (pb_set h a c) Q)) ∧
  (∀ (l1 l2 l3 l4 : Option Value) (st : List Value) (h : pb_H) (Q : Option Value → pb_H → Prop) (x : Nat), pb_R 14 13 [some (.ref x), l1, l2, l3, l4] [] st h Q ↔ pb_R 14 14 [some (.ref x), l1, l2, l3, l4] [] (.ref x :: st) h Q) ∧
  (∀ (l1 l2 l3 l4 : Option Value) (st : List Value) (h : pb_H) (Q : Option Value → pb_H → Prop), pb_R 14 13 [some .null, l1, l2, l3, l4] [] st h Q ↔ pb_R 14 14 [some .null, l1, l2, l3, l4] [] (.null :: st) h Q) ∧
  (∀ (L : pb_L) (J : pb_J) (st : List Value) (h : pb_H) (Q : Option Value → pb_H → Prop), pb_R 14 14 L J st h Q ↔ pb_R 14 17 L J (.ref h.1 :: st) (pb_new h (.inr (3, pb_df 3))) Q) ∧
  (∀ (L : pb_L) (J : pb_J) (st : List Value) (x : Nat) (h : pb_H) (Q : Option Value → pb_H → Prop), pb_R 14 17 L J (.ref x :: st) h Q ↔ pb_R 14 18 L J (.ref x :: .ref x :: st) h Q) ∧
  (∀ (L : pb_L) (J : pb_J) (h : pb_H) (Q : Option Value → pb_H → Prop) (x0 : Nat) (x1 : Nat) (x2 : Nat), pb_R 14 18 L J [.ref x0, .ref x1, .ref x2] h Q ↔ pb_call 12 [.ref x0] h (fun v t => pb_R 14 21 L J (v.toList ++ [.ref x1, .ref x2]) t Q)) ∧
  (∀ (L : pb_L) (J : pb_J) (st : List Value) (h : pb_H) (Q : Option Value → pb_H → Prop) (a : Nat) (x : Nat), pb_R 14 21 L J (.ref x :: .ref a :: st) h Q ↔ pb_o (pb_pf (h.2 a) 1 5 (.ref x)) (fun c => pb_R 14 24 L J st (pb_set h a c) Q)) ∧
  (∀ (l1 l2 l3 l4 : Option Value) (st : List Value) (h : pb_H) (Q : Option Value → pb_H → Prop) (x : Nat), pb_R 14 24 [some (.ref x), l1, l2, l3, l4] [] st h Q ↔ pb_R 14 25 [some (.ref x), l1, l2, l3, l4] [] (.ref x :: st) h Q) ∧
  (∀ (l1 l2 l3 l4 : Option Value) (st : List Value) (h : pb_H) (Q : Option Value → pb_H → Prop), pb_R 14 24 [some .null, l1, l2, l3, l4] [] st h Q ↔ pb_R 14 25 [some .null, l1, l2, l3, l4] [] (.null :: st) h Q) ∧
  (∀ (L : pb_L) (J : pb_J) (st : List Value) (h : pb_H) (Q : Option Value → pb_H → Prop), pb_R 14 25 L J st h Q ↔ pb_R 14 27 L J (.int (8 : Int32) :: st) h Q) ∧
  (∀ (L : pb_L) (J : pb_J) (st : List Value) (h : pb_H) (Q : Option Value → pb_H → Prop) (n : Int32), pb_R 14 27 L J (.int n :: st) h Q ↔ (¬ n < 0 ∧ n.toNatClampNeg ≤ 1000000) ∧ pb_R 14 29 L J (.ref h.1 :: st) (pb_new h (.inl (0, n.toNatClampNeg, .inl (fun _ => 0)))) Q) ∧
  (∀ (L : pb_L) (J : pb_J) (st : List Value) (h : pb_H) (Q : Option Value → pb_H → Prop) (a : Nat) (x : Nat), pb_R 14 29 L J (.ref x :: .ref a :: st) h Q ↔ pb_o (pb_pf (h.2 a) 1 6 (.ref x)) (fun c => pb_R 14 32 L J st (pb_set h a c) Q)) ∧
  (∀ (l1 l2 l3 l4 : Option Value) (st : List Value) (h : pb_H) (Q : Option Value → pb_H → Prop) (x : Nat), pb_R 14 32 [some (.ref x), l1, l2, l3, l4] [] st h Q ↔ pb_R 14 33 [some (.ref x), l1, l2, l3, l4] [] (.ref x :: st) h Q) ∧
  (∀ (l1 l2 l3 l4 : Option Value) (st : List Value) (h : pb_H) (Q : Option Value → pb_H → Prop), pb_R 14 32 [some .null, l1, l2, l3, l4] [] st h Q ↔ pb_R 14 33 [some .null, l1, l2, l3, l4] [] (.null :: st) h Q) ∧
  (∀ (L : pb_L) (J : pb_J) (st : List Value) (h : pb_H) (Q : Option Value → pb_H → Prop), pb_R 14 33 L J st h Q ↔ pb_R 14 35 L J (.int (16 : Int32) :: st) h Q) ∧
  (∀ (L : pb_L) (J : pb_J) (st : List Value) (h : pb_H) (Q : Option Value → pb_H → Prop) (n : Int32), pb_R 14 35 L J (.int n :: st) h Q ↔ (¬ n < 0 ∧ n.toNatClampNeg ≤ 1000000) ∧ pb_R 14 37 L J (.ref h.1 :: st) (pb_new h (.inl (0, n.toNatClampNeg, .inl (fun _ => 0)))) Q) ∧
  (∀ (L : pb_L) (J : pb_J) (st : List Value) (h : pb_H) (Q : Option Value → pb_H → Prop) (a : Nat) (x : Nat), pb_R 14 37 L J (.ref x :: .ref a :: st) h Q ↔ pb_o (pb_pf (h.2 a) 1 7 (.ref x)) (fun c => pb_R 14 40 L J st (pb_set h a c) Q)) ∧
  (∀ (l1 l2 l3 l4 : Option Value) (st : List Value) (h : pb_H) (Q : Option Value → pb_H → Prop) (x : Nat), pb_R 14 40 [some (.ref x), l1, l2, l3, l4] [] st h Q ↔ pb_R 14 41 [some (.ref x), l1, l2, l3, l4] [] (.ref x :: st) h Q) ∧
  (∀ (l1 l2 l3 l4 : Option Value) (st : List Value) (h : pb_H) (Q : Option Value → pb_H → Prop), pb_R 14 40 [some .null, l1, l2, l3, l4] [] st h Q ↔ pb_R 14 41 [some .null, l1, l2, l3, l4] [] (.null :: st) h Q) ∧
  (∀ (l0 l2 l3 l4 : Option Value) (st : List Value) (h : pb_H) (Q : Option Value → pb_H → Prop) (x : Nat), pb_R 14 41 [l0, some (.ref x), l2, l3, l4] [] st h Q ↔ pb_R 14 42 [l0, some (.ref x), l2, l3, l4] [] (.ref x :: st) h Q) ∧
  (∀ (l0 l2 l3 l4 : Option Value) (st : List Value) (h : pb_H) (Q : Option Value → pb_H → Prop), pb_R 14 41 [l0, some .null, l2, l3, l4] [] st h Q ↔ pb_R 14 42 [l0, some .null, l2, l3, l4] [] (.null :: st) h Q) ∧
  (∀ (L : pb_L) (J : pb_J) (st : List Value) (h : pb_H) (Q : Option Value → pb_H → Prop) (a : Nat) (x : Nat), pb_R 14 42 L J (.ref x :: .ref a :: st) h Q ↔ pb_o (pb_pf (h.2 a) 1 0 (.ref x)) (fun c => pb_R 14 45 L J st (pb_set h a c) Q)) ∧
  (∀ (l1 l2 l3 l4 : Option Value) (st : List Value) (h : pb_H) (Q : Option Value → pb_H → Prop) (x : Nat), pb_R 14 45 [some (.ref x), l1, l2, l3, l4] [] st h Q ↔ pb_R 14 46 [some (.ref x), l1, l2, l3, l4] [] (.ref x :: st) h Q) ∧
  (∀ (l1 l2 l3 l4 : Option Value) (st : List Value) (h : pb_H) (Q : Option Value → pb_H → Prop), pb_R 14 45 [some .null, l1, l2, l3, l4] [] st h Q ↔ pb_R 14 46 [some .null, l1, l2, l3, l4] [] (.null :: st) h Q) ∧
  (∀ (l0 l1 l3 l4 : Option Value) (st : List Value) (h : pb_H) (Q : Option Value → pb_H → Prop) (x : Nat), pb_R 14 46 [l0, l1, some (.ref x), l3, l4] [] st h Q ↔ pb_R 14 47 [l0, l1, some (.ref x), l3, l4] [] (.ref x :: st) h Q) ∧
  (∀ (l0 l1 l3 l4 : Option Value) (st : List Value) (h : pb_H) (Q : Option Value → pb_H → Prop), pb_R 14 46 [l0, l1, some .null, l3, l4] [] st h Q ↔ pb_R 14 47 [l0, l1, some .null, l3, l4] [] (.null :: st) h Q) ∧
  (∀ (L : pb_L) (J : pb_J) (st : List Value) (h : pb_H) (Q : Option Value → pb_H → Prop) (a : Nat) (x : Nat), pb_R 14 47 L J (.ref x :: .ref a :: st) h Q ↔ pb_o (pb_pf (h.2 a) 1 1 (.ref x)) (fun c => pb_R 14 50 L J st (pb_set h a c) Q)) ∧
  (∀ (l1 l2 l3 l4 : Option Value) (st : List Value) (h : pb_H) (Q : Option Value → pb_H → Prop) (x : Nat), pb_R 14 50 [some (.ref x), l1, l2, l3, l4] [] st h Q ↔ pb_R 14 51 [some (.ref x), l1, l2, l3, l4] [] (.ref x :: st) h Q) ∧
  (∀ (l1 l2 l3 l4 : Option Value) (st : List Value) (h : pb_H) (Q : Option Value → pb_H → Prop), pb_R 14 50 [some .null, l1, l2, l3, l4] [] st h Q ↔ pb_R 14 51 [some .null, l1, l2, l3, l4] [] (.null :: st) h Q) ∧
  (∀ (l0 l1 l2 l4 : Option Value) (st : List Value) (h : pb_H) (Q : Option Value → pb_H → Prop) (x : Nat), pb_R 14 51 [l0, l1, l2, some (.ref x), l4] [] st h Q ↔ pb_R 14 52 [l0, l1, l2, some (.ref x), l4] [] (.ref x :: st) h Q) ∧
  (∀ (l0 l1 l2 l4 : Option Value) (st : List Value) (h : pb_H) (Q : Option Value → pb_H → Prop), pb_R 14 51 [l0, l1, l2, some .null, l4] [] st h Q ↔ pb_R 14 52 [l0, l1, l2, some .null, l4] [] (.null :: st) h Q) ∧
  (∀ (L : pb_L) (J : pb_J) (st : List Value) (h : pb_H) (Q : Option Value → pb_H → Prop) (a : Nat) (x : Nat), pb_R 14 52 L J (.ref x :: .ref a :: st) h Q ↔ pb_o (pb_pf (h.2 a) 1 2 (.ref x)) (fun c => pb_R 14 55 L J st (pb_set h a c) Q)) ∧
  (∀ (l1 l2 l3 l4 : Option Value) (st : List Value) (h : pb_H) (Q : Option Value → pb_H → Prop) (x : Nat), pb_R 14 55 [some (.ref x), l1, l2, l3, l4] [] st h Q ↔ pb_R 14 56 [some (.ref x), l1, l2, l3, l4] [] (.ref x :: st) h Q) ∧
  (∀ (l1 l2 l3 l4 : Option Value) (st : List Value) (h : pb_H) (Q : Option Value → pb_H → Prop), pb_R 14 55 [some .null, l1, l2, l3, l4] [] st h Q ↔ pb_R 14 56 [some .null, l1, l2, l3, l4] [] (.null :: st) h Q) ∧
  (∀ (L : pb_L) (J : pb_J) (st : List Value) (h : pb_H) (Q : Option Value → pb_H → Prop), pb_R 14 56 L J st h Q ↔ pb_R 14 59 L J (.ref h.1 :: st) (pb_new h (.inr (4, pb_df 4))) Q) ∧
  (∀ (L : pb_L) (J : pb_J) (st : List Value) (x : Nat) (h : pb_H) (Q : Option Value → pb_H → Prop), pb_R 14 59 L J (.ref x :: st) h Q ↔ pb_R 14 60 L J (.ref x :: .ref x :: st) h Q) ∧
  (∀ (l0 l1 l2 l4 : Option Value) (st : List Value) (h : pb_H) (Q : Option Value → pb_H → Prop) (x : Nat), pb_R 14 60 [l0, l1, l2, some (.ref x), l4] [] st h Q ↔ pb_R 14 61 [l0, l1, l2, some (.ref x), l4] [] (.ref x :: st) h Q) ∧
  (∀ (l0 l1 l2 l4 : Option Value) (st : List Value) (h : pb_H) (Q : Option Value → pb_H → Prop), pb_R 14 60 [l0, l1, l2, some .null, l4] [] st h Q ↔ pb_R 14 61 [l0, l1, l2, some .null, l4] [] (.null :: st) h Q) ∧
  (∀ (L : pb_L) (J : pb_J) (st : List Value) (h : pb_H) (Q : Option Value → pb_H → Prop) (a : Nat), pb_R 14 61 L J (.ref a :: st) h Q ↔ pb_o (pb_gf (h.2 a) 7 0) (fun v => pb_R 14 64 L J (v :: st) h Q)) ∧
  (∀ (L : pb_L) (J : pb_J) (h : pb_H) (Q : Option Value → pb_H → Prop) (x0 : Int32) (x1 : Nat) (x2 : Nat) (x3 : Nat), pb_R 14 64 L J [.int x0, .ref x1, .ref x2, .ref x3] h Q ↔ pb_call 13 [.ref x1, .int x0] h (fun v t => pb_R 14 67 L J (v.toList ++ [.ref x2, .ref x3]) t Q)) ∧
  (∀ (L : pb_L) (J : pb_J) (st : List Value) (h : pb_H) (Q : Option Value → pb_H → Prop) (a : Nat) (x : Nat), pb_R 14 67 L J (.ref x :: .ref a :: st) h Q ↔ pb_o (pb_pf (h.2 a) 1 4 (.ref x)) (fun c => pb_R 14 70 L J st (pb_set h a c) Q)) ∧
  (∀ (L : pb_L) (J : pb_J) (st : List Value) (h : pb_H) (Q : Option Value → pb_H → Prop), pb_R 14 70 L J st h Q ↔ pb_R 14 71 L J (.int (0 : Int32) :: st) h Q) ∧
  (∀ (l0 l1 l2 l3 l4 : Option Value) (st : List Value) (h : pb_H) (Q : Option Value → pb_H → Prop) (x : Int32), pb_R 14 71 [l0, l1, l2, l3, l4] [] (.int x :: st) h Q ↔ pb_R 14 73 [l0, l1, l2, l3, some (.int x)] [] st h Q) ∧
  (∀ (l1 l2 l3 l4 : Option Value) (st : List Value) (h : pb_H) (Q : Option Value → pb_H → Prop) (x : Nat), pb_R 14 75 [some (.ref x), l1, l2, l3, l4] [] st h Q ↔ pb_R 14 76 [some (.ref x), l1, l2, l3, l4] [] (.ref x :: st) h Q) ∧
  (∀ (l1 l2 l3 l4 : Option Value) (st : List Value) (h : pb_H) (Q : Option Value → pb_H → Prop), pb_R 14 75 [some .null, l1, l2, l3, l4] [] st h Q ↔ pb_R 14 76 [some .null, l1, l2, l3, l4] [] (.null :: st) h Q) ∧
  (∀ (L : pb_L) (J : pb_J) (st : List Value) (h : pb_H) (Q : Option Value → pb_H → Prop) (a : Nat), pb_R 14 76 L J (.ref a :: st) h Q ↔ pb_o (pb_gf (h.2 a) 1 3) (fun v => pb_R 14 79 L J (v :: st) h Q)) ∧
  (∀ (L : pb_L) (J : pb_J) (st : List Value) (h : pb_H) (Q : Option Value → pb_H → Prop) (a : Nat), pb_R 14 79 L J (.ref a :: st) h Q ↔ pb_o (pb_al2 (h.2 a)) (fun n => pb_R 14 80 L J (.int (Int32.ofNat n) :: st) h Q)) ∧
  (∀ (L : pb_L) (J : pb_J) (st : List Value) (h : pb_H) (Q : Option Value → pb_H → Prop) (x y : Int32), pb_R 14 80 L J (.int y :: .int x :: st) h Q ↔ if y ≤ x then pb_R 14 107 L J st h Q else pb_R 14 83 L J st h Q) ∧
  (∀ (l1 l2 l3 l4 : Option Value) (st : List Value) (h : pb_H) (Q : Option Value → pb_H → Prop) (x : Nat), pb_R 14 83 [some (.ref x), l1, l2, l3, l4] [] st h Q ↔ pb_R 14 84 [some (.ref x), l1, l2, l3, l4] [] (.ref x :: st) h Q) ∧
  (∀ (l1 l2 l3 l4 : Option Value) (st : List Value) (h : pb_H) (Q : Option Value → pb_H → Prop), pb_R 14 83 [some .null, l1, l2, l3, l4] [] st h Q ↔ pb_R 14 84 [some .null, l1, l2, l3, l4] [] (.null :: st) h Q) ∧
  (∀ (L : pb_L) (J : pb_J) (st : List Value) (h : pb_H) (Q : Option Value → pb_H → Prop) (a : Nat), pb_R 14 84 L J (.ref a :: st) h Q ↔ pb_o (pb_gf (h.2 a) 1 3) (fun v => pb_R 14 87 L J (v :: st) h Q)) ∧
  (∀ (l0 l1 l2 l3 : Option Value) (st : List Value) (h : pb_H) (Q : Option Value → pb_H → Prop) (x : Int32), pb_R 14 87 [l0, l1, l2, l3, some (.int x)] [] st h Q ↔ pb_R 14 89 [l0, l1, l2, l3, some (.int x)] [] (.int x :: st) h Q) ∧
  (∀ (L : pb_L) (J : pb_J) (st : List Value) (h : pb_H) (Q : Option Value → pb_H → Prop), pb_R 14 89 L J st h Q ↔ pb_R 14 92 L J (.ref h.1 :: st) (pb_new h (.inr (4, pb_df 4))) Q) ∧
  (∀ (L : pb_L) (J : pb_J) (st : List Value) (x : Nat) (h : pb_H) (Q : Option Value → pb_H → Prop), pb_R 14 92 L J (.ref x :: st) h Q ↔ pb_R 14 93 L J (.ref x :: .ref x :: st) h Q) ∧
  (∀ (l0 l1 l2 l4 : Option Value) (st : List Value) (h : pb_H) (Q : Option Value → pb_H → Prop) (x : Nat), pb_R 14 93 [l0, l1, l2, some (.ref x), l4] [] st h Q ↔ pb_R 14 94 [l0, l1, l2, some (.ref x), l4] [] (.ref x :: st) h Q) ∧
  (∀ (l0 l1 l2 l4 : Option Value) (st : List Value) (h : pb_H) (Q : Option Value → pb_H → Prop), pb_R 14 93 [l0, l1, l2, some .null, l4] [] st h Q ↔ pb_R 14 94 [l0, l1, l2, some .null, l4] [] (.null :: st) h Q) ∧
  (∀ (L : pb_L) (J : pb_J) (st : List Value) (h : pb_H) (Q : Option Value → pb_H → Prop) (a : Nat), pb_R 14 94 L J (.ref a :: st) h Q ↔ pb_o (pb_gf (h.2 a) 7 0) (fun v => pb_R 14 97 L J (v :: st) h Q)) ∧
  (∀ (L : pb_L) (J : pb_J) (h : pb_H) (Q : Option Value → pb_H → Prop) (x0 : Int32) (x1 : Nat) (x2 : Nat) (x3 : Int32) (x4 : Nat), pb_R 14 97 L J [.int x0, .ref x1, .ref x2, .int x3, .ref x4] h Q ↔ pb_call 13 [.ref x1, .int x0] h (fun v t => pb_R 14 100 L J (v.toList ++ [.ref x2, .int x3, .ref x4]) t Q)) ∧
  (∀ (L : pb_L) (J : pb_J) (st : List Value) (h : pb_H) (Q : Option Value → pb_H → Prop) (a : Nat) (i : Int32), pb_R 14 100 L J (.null :: .int i :: .ref a :: st) h Q ↔ (∀ v, (none : Option Nat) = some v → pb_is0 (h.2 v) 4 = true) ∧ pb_o (pb_sa (h.2 a) i none) (fun c => pb_R 14 101 L J st (pb_set h a c) Q)) ∧
  (∀ (L : pb_L) (J : pb_J) (st : List Value) (h : pb_H) (Q : Option Value → pb_H → Prop) (a x : Nat) (i : Int32), pb_R 14 100 L J (.ref x :: .int i :: .ref a :: st) h Q ↔ (∀ v, some x = some v → pb_is0 (h.2 v) 4 = true) ∧ pb_o (pb_sa (h.2 a) i (some x)) (fun c => pb_R 14 101 L J st (pb_set h a c) Q)) ∧
  (∀ (l0 l1 l2 l3 : Option Value) (st : List Value) (h : pb_H) (Q : Option Value → pb_H → Prop) (x : Int32), pb_R 14 101 [l0, l1, l2, l3, some (.int x)] [] st h Q ↔ pb_R 14 104 [l0, l1, l2, l3, some (.int (x + (1 : Int32)))] [] st h Q) ∧
  (∀ (L : pb_L) (J : pb_J) (st : List Value) (h : pb_H) (Q : Option Value → pb_H → Prop), pb_R 14 104 L J st h Q ↔ pb_R 14 73 L J st h Q) ∧
  (∀ (L : pb_L) (J : pb_J) (h : pb_H) (Q : Option Value → pb_H → Prop), pb_R 14 107 L J [] h Q ↔ Q none h) := ⟨
  fun l1 l2 l3 l4 st h Q x => pf_S pb_u_14 rfl rfl,
  fun l1 l2 l3 l4 st h Q => pf_S pb_u_14 rfl rfl,
  fun L J h Q a => pf_S pb_u_14 rfl rfl,
  fun l1 l2 l3 l4 st h Q x => pf_S pb_u_14 rfl rfl,
  fun l1 l2 l3 l4 st h Q => pf_S pb_u_14 rfl rfl,
  fun L J st h Q => pf_S pb_u_14 rfl rfl,
  fun L J st h Q n => pf_nL pb_u_14 rfl rfl,
  fun L J st h Q a x => pf_pf pb_u_14 rfl rfl,
  fun l1 l2 l3 l4 st h Q x => pf_S pb_u_14 rfl rfl,
  fun l1 l2 l3 l4 st h Q => pf_S pb_u_14 rfl rfl,
  fun L J st h Q => pf_S pb_u_14 rfl rfl,
  fun L J st x h Q => pf_S pb_u_14 rfl rfl,
  fun L J h Q x0 x1 x2 => pf_kp pb_u_14 rfl rfl rfl rfl,
  fun L J st h Q a x => pf_pf pb_u_14 rfl rfl,
  fun l1 l2 l3 l4 st h Q x => pf_S pb_u_14 rfl rfl,
  fun l1 l2 l3 l4 st h Q => pf_S pb_u_14 rfl rfl,
  fun L J st h Q => pf_S pb_u_14 rfl rfl,
  fun L J st h Q n => pf_nI pb_u_14 rfl rfl,
  fun L J st h Q a x => pf_pf pb_u_14 rfl rfl,
  fun l1 l2 l3 l4 st h Q x => pf_S pb_u_14 rfl rfl,
  fun l1 l2 l3 l4 st h Q => pf_S pb_u_14 rfl rfl,
  fun L J st h Q => pf_S pb_u_14 rfl rfl,
  fun L J st h Q n => pf_nI pb_u_14 rfl rfl,
  fun L J st h Q a x => pf_pf pb_u_14 rfl rfl,
  fun l1 l2 l3 l4 st h Q x => pf_S pb_u_14 rfl rfl,
  fun l1 l2 l3 l4 st h Q => pf_S pb_u_14 rfl rfl,
  fun l0 l2 l3 l4 st h Q x => pf_S pb_u_14 rfl rfl,
  fun l0 l2 l3 l4 st h Q => pf_S pb_u_14 rfl rfl,
  fun L J st h Q a x => pf_pf pb_u_14 rfl rfl,
  fun l1 l2 l3 l4 st h Q x => pf_S pb_u_14 rfl rfl,
  fun l1 l2 l3 l4 st h Q => pf_S pb_u_14 rfl rfl,
  fun l0 l1 l3 l4 st h Q x => pf_S pb_u_14 rfl rfl,
  fun l0 l1 l3 l4 st h Q => pf_S pb_u_14 rfl rfl,
  fun L J st h Q a x => pf_pf pb_u_14 rfl rfl,
  fun l1 l2 l3 l4 st h Q x => pf_S pb_u_14 rfl rfl,
  fun l1 l2 l3 l4 st h Q => pf_S pb_u_14 rfl rfl,
  fun l0 l1 l2 l4 st h Q x => pf_S pb_u_14 rfl rfl,
  fun l0 l1 l2 l4 st h Q => pf_S pb_u_14 rfl rfl,
  fun L J st h Q a x => pf_pf pb_u_14 rfl rfl,
  fun l1 l2 l3 l4 st h Q x => pf_S pb_u_14 rfl rfl,
  fun l1 l2 l3 l4 st h Q => pf_S pb_u_14 rfl rfl,
  fun L J st h Q => pf_S pb_u_14 rfl rfl,
  fun L J st x h Q => pf_S pb_u_14 rfl rfl,
  fun l0 l1 l2 l4 st h Q x => pf_S pb_u_14 rfl rfl,
  fun l0 l1 l2 l4 st h Q => pf_S pb_u_14 rfl rfl,
  fun L J st h Q a => pf_gf pb_u_14 rfl rfl,
  fun L J h Q x0 x1 x2 x3 => pf_kp pb_u_14 rfl rfl rfl rfl,
  fun L J st h Q a x => pf_pf pb_u_14 rfl rfl,
  fun L J st h Q => pf_S pb_u_14 rfl rfl,
  fun l0 l1 l2 l3 l4 st h Q x => pf_S pb_u_14 rfl rfl,
  fun l1 l2 l3 l4 st h Q x => pf_S pb_u_14 rfl rfl,
  fun l1 l2 l3 l4 st h Q => pf_S pb_u_14 rfl rfl,
  fun L J st h Q a => pf_gf pb_u_14 rfl rfl,
  fun L J st h Q a => pf_le pb_u_14 rfl rfl,
  fun L J st h Q x y => pf_ic pb_u_14 rfl rfl rfl,
  fun l1 l2 l3 l4 st h Q x => pf_S pb_u_14 rfl rfl,
  fun l1 l2 l3 l4 st h Q => pf_S pb_u_14 rfl rfl,
  fun L J st h Q a => pf_gf pb_u_14 rfl rfl,
  fun l0 l1 l2 l3 st h Q x => pf_S pb_u_14 rfl rfl,
  fun L J st h Q => pf_S pb_u_14 rfl rfl,
  fun L J st x h Q => pf_S pb_u_14 rfl rfl,
  fun l0 l1 l2 l4 st h Q x => pf_S pb_u_14 rfl rfl,
  fun l0 l1 l2 l4 st h Q => pf_S pb_u_14 rfl rfl,
  fun L J st h Q a => pf_gf pb_u_14 rfl rfl,
  fun L J h Q x0 x1 x2 x3 x4 => pf_kp pb_u_14 rfl rfl rfl rfl,
  fun L J st h Q a i => pf_sa (r := none) pb_u_14 rfl rfl,
  fun L J st h Q a x i => pf_sa (r := some x) pb_u_14 rfl rfl,
  fun l0 l1 l2 l3 st h Q x => pf_S pb_u_14 rfl rfl,
  fun L J st h Q => pf_S pb_u_14 rfl rfl,
  fun L J h Q => pf_rv pb_u_14 rfl rfl⟩
theorem pb_c14 (x0 : Nat) (x1 : Nat) (x2 : Nat) (x3 : Nat) (h : pb_H) (Q : Option Value → pb_H → Prop) : pb_call 14 [.ref x0, .ref x1, .ref x2, .ref x3] h Q ↔ pb_R 14 0 [some (.ref x0), some (.ref x1), some (.ref x2), some (.ref x3), none] [] [] h Q := Iff.rfl
/-! 15: PlaneBench$TextReader.byteAt(I)I -/
theorem pb_u_15 : pb_t 15 = pb_t15 := rfl
theorem pb_ci_15 : pb_ci 15 = 8 := by decide +kernel
set_option maxRecDepth 100000 in
theorem pb_e15 : (∀ (l1 : Option Value) (st : List Value) (h : pb_H) (Q : Option Value → pb_H → Prop) (x : Nat), pb_R 15 0 [some (.ref x), l1] [] st h Q ↔ pb_R 15 1 [some (.ref x), l1] [] (.ref x :: st) h Q) ∧
  (∀ (l1 : Option Value) (st : List Value) (h : pb_H) (Q : Option Value → pb_H → Prop), pb_R 15 0 [some .null, l1] [] st h Q ↔ pb_R 15 1 [some .null, l1] [] (.null :: st) h Q) ∧
  (∀ (L : pb_L) (J : pb_J) (st : List Value) (h : pb_H) (Q : Option Value → pb_H → Prop) (a : Nat), pb_R 15 1 L J (.ref a :: st) h Q ↔ pb_o (pb_gf (h.2 a) 8 0) (fun v => pb_R 15 4 L J (v :: st) h Q)) ∧
  (∀ (L : pb_L) (J : pb_J) (st : List Value) (h : pb_H) (Q : Option Value → pb_H → Prop), pb_R 15 4 L J (.null :: st) h Q ↔ pb_R 15 19 L J st h Q) ∧
  (∀ (L : pb_L) (J : pb_J) (st : List Value) (h : pb_H) (Q : Option Value → pb_H → Prop) (x : Nat), pb_R 15 4 L J (.ref x :: st) h Q ↔ pb_R 15 7 L J st h Q) ∧
  (∀ (l0 : Option Value) (st : List Value) (h : pb_H) (Q : Option Value → pb_H → Prop) (x : Int32), pb_R 15 7 [l0, some (.int x)] [] st h Q ↔ pb_R 15 8 [l0, some (.int x)] [] (.int x :: st) h Q) ∧
  (∀ (L : pb_L) (J : pb_J) (st : List Value) (h : pb_H) (Q : Option Value → pb_H → Prop) (x : Int32), pb_R 15 8 L J (.int x :: st) h Q ↔ if x < 0 then pb_R 15 19 L J st h Q else pb_R 15 11 L J st h Q) ∧
  (∀ (l0 : Option Value) (st : List Value) (h : pb_H) (Q : Option Value → pb_H → Prop) (x : Int32), pb_R 15 11 [l0, some (.int x)] [] st h Q ↔ pb_R 15 12 [l0, some (.int x)] [] (.int x :: st) h Q) ∧
  (∀ (l1 : Option Value) (st : List Value) (h : pb_H) (Q : Option Value → pb_H → Prop) (x : Nat), pb_R 15 12 [some (.ref x), l1] [] st h Q ↔ pb_R 15 13 [some (.ref x), l1] [] (.ref x :: st) h Q) ∧
  (∀ (l1 : Option Value) (st : List Value) (h : pb_H) (Q : Option Value → pb_H → Prop), pb_R 15 12 [some .null, l1] [] st h Q ↔ pb_R 15 13 [some .null, l1] [] (.null :: st) h Q) ∧
  (∀ (L : pb_L) (J : pb_J) (st : List Value) (h : pb_H) (Q : Option Value → pb_H → Prop) (a : Nat), pb_R 15 13 L J (.ref a :: st) h Q ↔ pb_o (pb_gf (h.2 a) 8 1) (fun v => pb_R 15 16 L J (v :: st) h Q)) ∧
  (∀ (L : pb_L) (J : pb_J) (st : List Value) (h : pb_H) (Q : Option Value → pb_H → Prop) (x y : Int32), pb_R 15 16 L J (.int y :: .int x :: st) h Q ↔ if x < y then pb_R 15 23 L J st h Q else pb_R 15 19 L J st h Q) ∧
  (∀ (L : pb_L) (J : pb_J) (st : List Value) (h : pb_H) (Q : Option Value → pb_H → Prop), pb_R 15 19 L J st h Q ↔ pb_R 15 20 L J (.int (-1 : Int32) :: st) h Q) ∧
  (∀ (L : pb_L) (J : pb_J) (st : List Value) (h : pb_H) (Q : Option Value → pb_H → Prop), pb_R 15 20 L J st h Q ↔ pb_R 15 33 L J st h Q) ∧
  (∀ (l1 : Option Value) (st : List Value) (h : pb_H) (Q : Option Value → pb_H → Prop) (x : Nat), pb_R 15 23 [some (.ref x), l1] [] st h Q ↔ pb_R 15 24 [some (.ref x), l1] [] (.ref x :: st) h Q) ∧
  (∀ (l1 : Option Value) (st : List Value) (h : pb_H) (Q : Option Value → pb_H → Prop), pb_R 15 23 [some .null, l1] [] st h Q ↔ pb_R 15 24 [some .null, l1] [] (.null :: st) h Q) ∧
  (∀ (L : pb_L) (J : pb_J) (st : List Value) (h : pb_H) (Q : Option Value → pb_H → Prop) (a : Nat), pb_R 15 24 L J (.ref a :: st) h Q ↔ pb_o (pb_gf (h.2 a) 8 0) (fun v => pb_R 15 27 L J (v :: st) h Q)) ∧
  (∀ (l0 : Option Value) (st : List Value) (h : pb_H) (Q : Option Value → pb_H → Prop) (x : Int32), pb_R 15 27 [l0, some (.int x)] [] st h Q ↔ pb_R 15 28 [l0, some (.int x)] [] (.int x :: st) h Q) ∧
  (∀ (L : pb_L) (J : pb_J) (st : List Value) (h : pb_H) (Q : Option Value → pb_H → Prop) (a : Nat) (i : Int32), pb_R 15 28 L J (.int i :: .ref a :: st) h Q ↔ pb_o (pb_ab (h.2 a) i) (fun v => pb_R 15 29 L J (.int v :: st) h Q)) ∧
  (∀ (L : pb_L) (J : pb_J) (st : List Value) (h : pb_H) (Q : Option Value → pb_H → Prop), pb_R 15 29 L J st h Q ↔ pb_R 15 32 L J (.int (255 : Int32) :: st) h Q) ∧
  (∀ (L : pb_L) (J : pb_J) (st : List Value) (x y : Int32) (h : pb_H) (Q : Option Value → pb_H → Prop), pb_R 15 32 L J (.int y :: .int x :: st) h Q ↔ pb_R 15 33 L J (.int (x &&& y) :: st) h Q) ∧
  (∀ (L : pb_L) (J : pb_J) (h : pb_H) (Q : Option Value → pb_H → Prop) (x : Int32), pb_R 15 33 L J [.int x] h Q ↔ Q (some (.int x)) h) := ⟨
  fun l1 st h Q x => pf_S pb_u_15 rfl rfl,
  fun l1 st h Q => pf_S pb_u_15 rfl rfl,
  fun L J st h Q a => pf_gf pb_u_15 rfl rfl,
  fun L J st h Q => pf_S pb_u_15 rfl rfl,
  fun L J st h Q x => pf_S pb_u_15 rfl rfl,
  fun l0 st h Q x => pf_S pb_u_15 rfl rfl,
  fun L J st h Q x => pf_ii pb_u_15 rfl rfl rfl,
  fun l0 st h Q x => pf_S pb_u_15 rfl rfl,
  fun l1 st h Q x => pf_S pb_u_15 rfl rfl,
  fun l1 st h Q => pf_S pb_u_15 rfl rfl,
  fun L J st h Q a => pf_gf pb_u_15 rfl rfl,
  fun L J st h Q x y => pf_ic pb_u_15 rfl rfl rfl,
  fun L J st h Q => pf_S pb_u_15 rfl rfl,
  fun L J st h Q => pf_S pb_u_15 rfl rfl,
  fun l1 st h Q x => pf_S pb_u_15 rfl rfl,
  fun l1 st h Q => pf_S pb_u_15 rfl rfl,
  fun L J st h Q a => pf_gf pb_u_15 rfl rfl,
  fun l0 st h Q x => pf_S pb_u_15 rfl rfl,
  fun L J st h Q a i => pf_ab pb_u_15 rfl rfl,
  fun L J st h Q => pf_S pb_u_15 rfl rfl,
  fun L J st x y h Q => pf_S pb_u_15 rfl rfl,
  fun L J h Q x => pf_ri pb_u_15 rfl rfl⟩
theorem pb_c15 (x0 : Nat) (x1 : Int32) (h : pb_H) (Q : Option Value → pb_H → Prop) : pb_call 15 [.ref x0, .int x1] h Q ↔ pb_R 15 0 [some (.ref x0), some (.int x1)] [] [] h Q := Iff.rfl
/-! 16: PlaneBench$TextReader.isBlank(I)Z -/
theorem pb_u_16 : pb_t 16 = pb_t16 := rfl
set_option maxRecDepth 100000 in
theorem pb_e16 : (∀ (st : List Value) (h : pb_H) (Q : Option Value → pb_H → Prop) (x : Int32), pb_R 16 0 [some (.int x)] [] st h Q ↔ pb_R 16 1 [some (.int x)] [] (.int x :: st) h Q) ∧
  (∀ (L : pb_L) (J : pb_J) (st : List Value) (h : pb_H) (Q : Option Value → pb_H → Prop), pb_R 16 1 L J st h Q ↔ pb_R 16 3 L J (.int (32 : Int32) :: st) h Q) ∧
  (∀ (L : pb_L) (J : pb_J) (st : List Value) (h : pb_H) (Q : Option Value → pb_H → Prop) (x y : Int32), pb_R 16 3 L J (.int y :: .int x :: st) h Q ↔ if x = y then pb_R 16 18 L J st h Q else pb_R 16 6 L J st h Q) ∧
  (∀ (st : List Value) (h : pb_H) (Q : Option Value → pb_H → Prop) (x : Int32), pb_R 16 6 [some (.int x)] [] st h Q ↔ pb_R 16 7 [some (.int x)] [] (.int x :: st) h Q) ∧
  (∀ (L : pb_L) (J : pb_J) (st : List Value) (h : pb_H) (Q : Option Value → pb_H → Prop), pb_R 16 7 L J st h Q ↔ pb_R 16 9 L J (.int (10 : Int32) :: st) h Q) ∧
  (∀ (L : pb_L) (J : pb_J) (st : List Value) (h : pb_H) (Q : Option Value → pb_H → Prop) (x y : Int32), pb_R 16 9 L J (.int y :: .int x :: st) h Q ↔ if x = y then pb_R 16 18 L J st h Q else pb_R 16 12 L J st h Q) ∧
  (∀ (st : List Value) (h : pb_H) (Q : Option Value → pb_H → Prop) (x : Int32), pb_R 16 12 [some (.int x)] [] st h Q ↔ pb_R 16 13 [some (.int x)] [] (.int x :: st) h Q) ∧
  (∀ (L : pb_L) (J : pb_J) (st : List Value) (h : pb_H) (Q : Option Value → pb_H → Prop), pb_R 16 13 L J st h Q ↔ pb_R 16 15 L J (.int (9 : Int32) :: st) h Q) ∧
  (∀ (L : pb_L) (J : pb_J) (st : List Value) (h : pb_H) (Q : Option Value → pb_H → Prop) (x y : Int32), pb_R 16 15 L J (.int y :: .int x :: st) h Q ↔ if ¬ x = y then pb_R 16 22 L J st h Q else pb_R 16 18 L J st h Q) ∧
  (∀ (L : pb_L) (J : pb_J) (st : List Value) (h : pb_H) (Q : Option Value → pb_H → Prop), pb_R 16 18 L J st h Q ↔ pb_R 16 19 L J (.int (1 : Int32) :: st) h Q) ∧
  (∀ (L : pb_L) (J : pb_J) (st : List Value) (h : pb_H) (Q : Option Value → pb_H → Prop), pb_R 16 19 L J st h Q ↔ pb_R 16 23 L J st h Q) ∧
  (∀ (L : pb_L) (J : pb_J) (st : List Value) (h : pb_H) (Q : Option Value → pb_H → Prop), pb_R 16 22 L J st h Q ↔ pb_R 16 23 L J (.int (0 : Int32) :: st) h Q) ∧
  (∀ (L : pb_L) (J : pb_J) (h : pb_H) (Q : Option Value → pb_H → Prop) (x : Int32), pb_R 16 23 L J [.int x] h Q ↔ narrow .boolean (.int x) = .int x ∧ Q (some (.int x)) h) := ⟨
  fun st h Q x => pf_S pb_u_16 rfl rfl,
  fun L J st h Q => pf_S pb_u_16 rfl rfl,
  fun L J st h Q x y => pf_ic pb_u_16 rfl rfl rfl,
  fun st h Q x => pf_S pb_u_16 rfl rfl,
  fun L J st h Q => pf_S pb_u_16 rfl rfl,
  fun L J st h Q x y => pf_ic pb_u_16 rfl rfl rfl,
  fun st h Q x => pf_S pb_u_16 rfl rfl,
  fun L J st h Q => pf_S pb_u_16 rfl rfl,
  fun L J st h Q x y => pf_ic pb_u_16 rfl rfl pf_ne,
  fun L J st h Q => pf_S pb_u_16 rfl rfl,
  fun L J st h Q => pf_S pb_u_16 rfl rfl,
  fun L J st h Q => pf_S pb_u_16 rfl rfl,
  fun L J h Q x => pf_rz pb_u_16 rfl rfl⟩
theorem pb_c16 (x0 : Int32) (h : pb_H) (Q : Option Value → pb_H → Prop) : pb_call 16 [.int x0] h Q ↔ pb_R 16 0 [some (.int x0)] [] [] h Q := Iff.rfl
/-! 17: PlaneBench$TextReader.isPrinted(I)Z -/
theorem pb_u_17 : pb_t 17 = pb_t17 := rfl
set_option maxRecDepth 100000 in
theorem pb_e17 : (∀ (st : List Value) (h : pb_H) (Q : Option Value → pb_H → Prop) (x : Int32), pb_R 17 0 [some (.int x)] [] st h Q ↔ pb_R 17 1 [some (.int x)] [] (.int x :: st) h Q) ∧
  (∀ (L : pb_L) (J : pb_J) (st : List Value) (h : pb_H) (Q : Option Value → pb_H → Prop), pb_R 17 1 L J st h Q ↔ pb_R 17 3 L J (.int (32 : Int32) :: st) h Q) ∧
  (∀ (L : pb_L) (J : pb_J) (st : List Value) (h : pb_H) (Q : Option Value → pb_H → Prop) (x y : Int32), pb_R 17 3 L J (.int y :: .int x :: st) h Q ↔ if x < y then pb_R 17 16 L J st h Q else pb_R 17 6 L J st h Q) ∧
  (∀ (st : List Value) (h : pb_H) (Q : Option Value → pb_H → Prop) (x : Int32), pb_R 17 6 [some (.int x)] [] st h Q ↔ pb_R 17 7 [some (.int x)] [] (.int x :: st) h Q) ∧
  (∀ (L : pb_L) (J : pb_J) (st : List Value) (h : pb_H) (Q : Option Value → pb_H → Prop), pb_R 17 7 L J st h Q ↔ pb_R 17 9 L J (.int (126 : Int32) :: st) h Q) ∧
  (∀ (L : pb_L) (J : pb_J) (st : List Value) (h : pb_H) (Q : Option Value → pb_H → Prop) (x y : Int32), pb_R 17 9 L J (.int y :: .int x :: st) h Q ↔ if y < x then pb_R 17 16 L J st h Q else pb_R 17 12 L J st h Q) ∧
  (∀ (L : pb_L) (J : pb_J) (st : List Value) (h : pb_H) (Q : Option Value → pb_H → Prop), pb_R 17 12 L J st h Q ↔ pb_R 17 13 L J (.int (1 : Int32) :: st) h Q) ∧
  (∀ (L : pb_L) (J : pb_J) (st : List Value) (h : pb_H) (Q : Option Value → pb_H → Prop), pb_R 17 13 L J st h Q ↔ pb_R 17 17 L J st h Q) ∧
  (∀ (L : pb_L) (J : pb_J) (st : List Value) (h : pb_H) (Q : Option Value → pb_H → Prop), pb_R 17 16 L J st h Q ↔ pb_R 17 17 L J (.int (0 : Int32) :: st) h Q) ∧
  (∀ (L : pb_L) (J : pb_J) (h : pb_H) (Q : Option Value → pb_H → Prop) (x : Int32), pb_R 17 17 L J [.int x] h Q ↔ narrow .boolean (.int x) = .int x ∧ Q (some (.int x)) h) := ⟨
  fun st h Q x => pf_S pb_u_17 rfl rfl,
  fun L J st h Q => pf_S pb_u_17 rfl rfl,
  fun L J st h Q x y => pf_ic pb_u_17 rfl rfl rfl,
  fun st h Q x => pf_S pb_u_17 rfl rfl,
  fun L J st h Q => pf_S pb_u_17 rfl rfl,
  fun L J st h Q x y => pf_ic pb_u_17 rfl rfl rfl,
  fun L J st h Q => pf_S pb_u_17 rfl rfl,
  fun L J st h Q => pf_S pb_u_17 rfl rfl,
  fun L J st h Q => pf_S pb_u_17 rfl rfl,
  fun L J h Q x => pf_rz pb_u_17 rfl rfl⟩
theorem pb_c17 (x0 : Int32) (h : pb_H) (Q : Option Value → pb_H → Prop) : pb_call 17 [.int x0] h Q ↔ pb_R 17 0 [some (.int x0)] [] [] h Q := Iff.rfl
/-! 18: PlaneBench$TextReader.afterBlanks(I)I -/
theorem pb_u_18 : pb_t 18 = pb_t18 := rfl
theorem pb_ci_18 : pb_ci 18 = 8 := by decide +kernel
set_option maxRecDepth 100000 in
theorem pb_q18_4 (l0 l1 l2 l4 : Option Value) (st : List Value) (h : pb_H) (Q : Option Value → pb_H → Prop) (x : Int32) : pb_R 18 4 [l0, l1, l2, some (.int x), l4] [] st h Q ↔ pb_R 18 5 [l0, l1, l2, some (.int x), l4] [] (.int x :: st) h Q := pf_S pb_u_18 rfl rfl
set_option maxRecDepth 100000 in
theorem pb_e18 : (∀ (L : pb_L) (J : pb_J) (st : List Value) (h : pb_H) (Q : Option Value → pb_H → Prop), pb_R 18 0 L J st h Q ↔ pb_R 18 1 L J (.int (0 : Int32) :: st) h Q) ∧
  (∀ (l0 l1 l2 l3 l4 : Option Value) (st : List Value) (h : pb_H) (Q : Option Value → pb_H → Prop) (x : Int32), pb_R 18 1 [l0, l1, l2, l3, l4] [] (.int x :: st) h Q ↔ pb_R 18 2 [l0, l1, some (.int x), l3, l4] [] st h Q) ∧
  (∀ (l0 l2 l3 l4 : Option Value) (st : List Value) (h : pb_H) (Q : Option Value → pb_H → Prop) (x : Int32), pb_R 18 2 [l0, some (.int x), l2, l3, l4] [] st h Q ↔ pb_R 18 3 [l0, some (.int x), l2, l3, l4] [] (.int x :: st) h Q) ∧
  (∀ (l0 l1 l2 l3 l4 : Option Value) (st : List Value) (h : pb_H) (Q : Option Value → pb_H → Prop) (x : Int32), pb_R 18 3 [l0, l1, l2, l3, l4] [] (.int x :: st) h Q ↔ pb_R 18 4 [l0, l1, l2, some (.int x), l4] [] st h Q) ∧
  (∀ (l1 l2 l3 l4 : Option Value) (st : List Value) (h : pb_H) (Q : Option Value → pb_H → Prop) (x : Nat), pb_R 18 5 [some (.ref x), l1, l2, l3, l4] [] st h Q ↔ pb_R 18 6 [some (.ref x), l1, l2, l3, l4] [] (.ref x :: st) h Q) ∧
  (∀ (l1 l2 l3 l4 : Option Value) (st : List Value) (h : pb_H) (Q : Option Value → pb_H → Prop), pb_R 18 5 [some .null, l1, l2, l3, l4] [] st h Q ↔ pb_R 18 6 [some .null, l1, l2, l3, l4] [] (.null :: st) h Q) ∧
  (∀ (L : pb_L) (J : pb_J) (st : List Value) (h : pb_H) (Q : Option Value → pb_H → Prop) (a : Nat), pb_R 18 6 L J (.ref a :: st) h Q ↔ pb_o (pb_gf (h.2 a) 8 1) (fun v => pb_R 18 9 L J (v :: st) h Q)) ∧
  (∀ (L : pb_L) (J : pb_J) (st : List Value) (h : pb_H) (Q : Option Value → pb_H → Prop) (x y : Int32), pb_R 18 9 L J (.int y :: .int x :: st) h Q ↔ if y ≤ x then pb_R 18 68 L J st h Q else pb_R 18 12 L J st h Q) ∧
  (∀ (l1 l2 l3 l4 : Option Value) (st : List Value) (h : pb_H) (Q : Option Value → pb_H → Prop) (x : Nat), pb_R 18 12 [some (.ref x), l1, l2, l3, l4] [] st h Q ↔ pb_R 18 13 [some (.ref x), l1, l2, l3, l4] [] (.ref x :: st) h Q) ∧
  (∀ (l1 l2 l3 l4 : Option Value) (st : List Value) (h : pb_H) (Q : Option Value → pb_H → Prop), pb_R 18 12 [some .null, l1, l2, l3, l4] [] st h Q ↔ pb_R 18 13 [some .null, l1, l2, l3, l4] [] (.null :: st) h Q) ∧
  (∀ (l0 l1 l2 l4 : Option Value) (st : List Value) (h : pb_H) (Q : Option Value → pb_H → Prop) (x : Int32), pb_R 18 13 [l0, l1, l2, some (.int x), l4] [] st h Q ↔ pb_R 18 14 [l0, l1, l2, some (.int x), l4] [] (.int x :: st) h Q) ∧
  (∀ (L : pb_L) (J : pb_J) (h : pb_H) (Q : Option Value → pb_H → Prop) (x0 : Int32) (x1 : Nat), pb_R 18 14 L J [.int x0, .ref x1] h Q ↔ pb_is0 (h.2 x1) 8 = true ∧ pb_call 15 [.ref x1, .int x0] h (fun v t => pb_R 18 17 L J (v.toList ++ []) t Q)) ∧
  (∀ (l0 l1 l2 l3 l4 : Option Value) (st : List Value) (h : pb_H) (Q : Option Value → pb_H → Prop) (x : Int32), pb_R 18 17 [l0, l1, l2, l3, l4] [] (.int x :: st) h Q ↔ pb_R 18 19 [l0, l1, l2, l3, some (.int x)] [] st h Q) ∧
  (∀ (l0 l1 l2 l3 : Option Value) (st : List Value) (h : pb_H) (Q : Option Value → pb_H → Prop) (x : Int32), pb_R 18 19 [l0, l1, l2, l3, some (.int x)] [] st h Q ↔ pb_R 18 21 [l0, l1, l2, l3, some (.int x)] [] (.int x :: st) h Q) ∧
  (∀ (L : pb_L) (J : pb_J) (st : List Value) (h : pb_H) (Q : Option Value → pb_H → Prop), pb_R 18 21 L J st h Q ↔ pb_R 18 23 L J (.int (35 : Int32) :: st) h Q) ∧
  (∀ (L : pb_L) (J : pb_J) (st : List Value) (h : pb_H) (Q : Option Value → pb_H → Prop) (x y : Int32), pb_R 18 23 L J (.int y :: .int x :: st) h Q ↔ if ¬ x = y then pb_R 18 31 L J st h Q else pb_R 18 26 L J st h Q) ∧
  (∀ (L : pb_L) (J : pb_J) (st : List Value) (h : pb_H) (Q : Option Value → pb_H → Prop), pb_R 18 26 L J st h Q ↔ pb_R 18 27 L J (.int (1 : Int32) :: st) h Q) ∧
  (∀ (l0 l1 l2 l3 l4 : Option Value) (st : List Value) (h : pb_H) (Q : Option Value → pb_H → Prop) (x : Int32), pb_R 18 27 [l0, l1, l2, l3, l4] [] (.int x :: st) h Q ↔ pb_R 18 28 [l0, l1, some (.int x), l3, l4] [] st h Q) ∧
  (∀ (L : pb_L) (J : pb_J) (st : List Value) (h : pb_H) (Q : Option Value → pb_H → Prop), pb_R 18 28 L J st h Q ↔ pb_R 18 62 L J st h Q) ∧
  (∀ (l0 l1 l2 l3 : Option Value) (st : List Value) (h : pb_H) (Q : Option Value → pb_H → Prop) (x : Int32), pb_R 18 31 [l0, l1, l2, l3, some (.int x)] [] st h Q ↔ pb_R 18 33 [l0, l1, l2, l3, some (.int x)] [] (.int x :: st) h Q) ∧
  (∀ (L : pb_L) (J : pb_J) (h : pb_H) (Q : Option Value → pb_H → Prop) (x0 : Int32), pb_R 18 33 L J [.int x0] h Q ↔ pb_call 16 [.int x0] h (fun v t => pb_R 18 36 L J (v.toList ++ []) t Q)) ∧
  (∀ (L : pb_L) (J : pb_J) (st : List Value) (h : pb_H) (Q : Option Value → pb_H → Prop) (x : Int32), pb_R 18 36 L J (.int x :: st) h Q ↔ if ¬ x = 0 then pb_R 18 53 L J st h Q else pb_R 18 39 L J st h Q) ∧
  (∀ (l0 l1 l3 l4 : Option Value) (st : List Value) (h : pb_H) (Q : Option Value → pb_H → Prop) (x : Int32), pb_R 18 39 [l0, l1, some (.int x), l3, l4] [] st h Q ↔ pb_R 18 40 [l0, l1, some (.int x), l3, l4] [] (.int x :: st) h Q) ∧
  (∀ (L : pb_L) (J : pb_J) (st : List Value) (h : pb_H) (Q : Option Value → pb_H → Prop) (x : Int32), pb_R 18 40 L J (.int x :: st) h Q ↔ if x = 0 then pb_R 18 51 L J st h Q else pb_R 18 43 L J st h Q) ∧
  (∀ (l0 l1 l2 l3 : Option Value) (st : List Value) (h : pb_H) (Q : Option Value → pb_H → Prop) (x : Int32), pb_R 18 43 [l0, l1, l2, l3, some (.int x)] [] st h Q ↔ pb_R 18 45 [l0, l1, l2, l3, some (.int x)] [] (.int x :: st) h Q) ∧
  (∀ (L : pb_L) (J : pb_J) (h : pb_H) (Q : Option Value → pb_H → Prop) (x0 : Int32), pb_R 18 45 L J [.int x0] h Q ↔ pb_call 17 [.int x0] h (fun v t => pb_R 18 48 L J (v.toList ++ []) t Q)) ∧
  (∀ (L : pb_L) (J : pb_J) (st : List Value) (h : pb_H) (Q : Option Value → pb_H → Prop) (x : Int32), pb_R 18 48 L J (.int x :: st) h Q ↔ if ¬ x = 0 then pb_R 18 53 L J st h Q else pb_R 18 51 L J st h Q) ∧
  (∀ (l0 l1 l2 l4 : Option Value) (st : List Value) (h : pb_H) (Q : Option Value → pb_H → Prop) (x : Int32), pb_R 18 51 [l0, l1, l2, some (.int x), l4] [] st h Q ↔ pb_R 18 52 [l0, l1, l2, some (.int x), l4] [] (.int x :: st) h Q) ∧
  (∀ (L : pb_L) (J : pb_J) (h : pb_H) (Q : Option Value → pb_H → Prop) (x : Int32), pb_R 18 52 L J [.int x] h Q ↔ Q (some (.int x)) h) ∧
  (∀ (l0 l1 l2 l3 : Option Value) (st : List Value) (h : pb_H) (Q : Option Value → pb_H → Prop) (x : Int32), pb_R 18 53 [l0, l1, l2, l3, some (.int x)] [] st h Q ↔ pb_R 18 55 [l0, l1, l2, l3, some (.int x)] [] (.int x :: st) h Q) ∧
  (∀ (L : pb_L) (J : pb_J) (st : List Value) (h : pb_H) (Q : Option Value → pb_H → Prop), pb_R 18 55 L J st h Q ↔ pb_R 18 57 L J (.int (10 : Int32) :: st) h Q) ∧
  (∀ (L : pb_L) (J : pb_J) (st : List Value) (h : pb_H) (Q : Option Value → pb_H → Prop) (x y : Int32), pb_R 18 57 L J (.int y :: .int x :: st) h Q ↔ if ¬ x = y then pb_R 18 62 L J st h Q else pb_R 18 60 L J st h Q) ∧
  (∀ (L : pb_L) (J : pb_J) (st : List Value) (h : pb_H) (Q : Option Value → pb_H → Prop), pb_R 18 60 L J st h Q ↔ pb_R 18 61 L J (.int (0 : Int32) :: st) h Q) ∧
  (∀ (l0 l1 l2 l3 l4 : Option Value) (st : List Value) (h : pb_H) (Q : Option Value → pb_H → Prop) (x : Int32), pb_R 18 61 [l0, l1, l2, l3, l4] [] (.int x :: st) h Q ↔ pb_R 18 62 [l0, l1, some (.int x), l3, l4] [] st h Q) ∧
  (∀ (l0 l1 l2 l4 : Option Value) (st : List Value) (h : pb_H) (Q : Option Value → pb_H → Prop) (x : Int32), pb_R 18 62 [l0, l1, l2, some (.int x), l4] [] st h Q ↔ pb_R 18 65 [l0, l1, l2, some (.int (x + (1 : Int32))), l4] [] st h Q) ∧
  (∀ (L : pb_L) (J : pb_J) (st : List Value) (h : pb_H) (Q : Option Value → pb_H → Prop), pb_R 18 65 L J st h Q ↔ pb_R 18 4 L J st h Q) ∧
  (∀ (l1 l2 l3 l4 : Option Value) (st : List Value) (h : pb_H) (Q : Option Value → pb_H → Prop) (x : Nat), pb_R 18 68 [some (.ref x), l1, l2, l3, l4] [] st h Q ↔ pb_R 18 69 [some (.ref x), l1, l2, l3, l4] [] (.ref x :: st) h Q) ∧
  (∀ (l1 l2 l3 l4 : Option Value) (st : List Value) (h : pb_H) (Q : Option Value → pb_H → Prop), pb_R 18 68 [some .null, l1, l2, l3, l4] [] st h Q ↔ pb_R 18 69 [some .null, l1, l2, l3, l4] [] (.null :: st) h Q) ∧
  (∀ (L : pb_L) (J : pb_J) (st : List Value) (h : pb_H) (Q : Option Value → pb_H → Prop) (a : Nat), pb_R 18 69 L J (.ref a :: st) h Q ↔ pb_o (pb_gf (h.2 a) 8 1) (fun v => pb_R 18 72 L J (v :: st) h Q)) ∧
  (∀ (L : pb_L) (J : pb_J) (h : pb_H) (Q : Option Value → pb_H → Prop) (x : Int32), pb_R 18 72 L J [.int x] h Q ↔ Q (some (.int x)) h) := ⟨
  fun L J st h Q => pf_S pb_u_18 rfl rfl,
  fun l0 l1 l2 l3 l4 st h Q x => pf_S pb_u_18 rfl rfl,
  fun l0 l2 l3 l4 st h Q x => pf_S pb_u_18 rfl rfl,
  fun l0 l1 l2 l3 l4 st h Q x => pf_S pb_u_18 rfl rfl,
  fun l1 l2 l3 l4 st h Q x => pf_S pb_u_18 rfl rfl,
  fun l1 l2 l3 l4 st h Q => pf_S pb_u_18 rfl rfl,
  fun L J st h Q a => pf_gf pb_u_18 rfl rfl,
  fun L J st h Q x y => pf_ic pb_u_18 rfl rfl rfl,
  fun l1 l2 l3 l4 st h Q x => pf_S pb_u_18 rfl rfl,
  fun l1 l2 l3 l4 st h Q => pf_S pb_u_18 rfl rfl,
  fun l0 l1 l2 l4 st h Q x => pf_S pb_u_18 rfl rfl,
  fun L J h Q x0 x1 => pf_kv pb_u_18 rfl pb_ci_15 rfl ⟨Nat.le_of_ble_eq_true rfl, Nat.le_of_ble_eq_true rfl, Nat.le_of_ble_eq_true rfl, Nat.le_of_ble_eq_true rfl, rfl⟩ rfl rfl,
  fun l0 l1 l2 l3 l4 st h Q x => pf_S pb_u_18 rfl rfl,
  fun l0 l1 l2 l3 st h Q x => pf_S pb_u_18 rfl rfl,
  fun L J st h Q => pf_S pb_u_18 rfl rfl,
  fun L J st h Q x y => pf_ic pb_u_18 rfl rfl pf_ne,
  fun L J st h Q => pf_S pb_u_18 rfl rfl,
  fun l0 l1 l2 l3 l4 st h Q x => pf_S pb_u_18 rfl rfl,
  fun L J st h Q => pf_S pb_u_18 rfl rfl,
  fun l0 l1 l2 l3 st h Q x => pf_S pb_u_18 rfl rfl,
  fun L J h Q x0 => pf_ks pb_u_18 rfl rfl rfl rfl,
  fun L J st h Q x => pf_ii pb_u_18 rfl rfl pf_ne,
  fun l0 l1 l3 l4 st h Q x => pf_S pb_u_18 rfl rfl,
  fun L J st h Q x => pf_ii pb_u_18 rfl rfl rfl,
  fun l0 l1 l2 l3 st h Q x => pf_S pb_u_18 rfl rfl,
  fun L J h Q x0 => pf_ks pb_u_18 rfl rfl rfl rfl,
  fun L J st h Q x => pf_ii pb_u_18 rfl rfl pf_ne,
  fun l0 l1 l2 l4 st h Q x => pf_S pb_u_18 rfl rfl,
  fun L J h Q x => pf_ri pb_u_18 rfl rfl,
  fun l0 l1 l2 l3 st h Q x => pf_S pb_u_18 rfl rfl,
  fun L J st h Q => pf_S pb_u_18 rfl rfl,
  fun L J st h Q x y => pf_ic pb_u_18 rfl rfl pf_ne,
  fun L J st h Q => pf_S pb_u_18 rfl rfl,
  fun l0 l1 l2 l3 l4 st h Q x => pf_S pb_u_18 rfl rfl,
  fun l0 l1 l2 l4 st h Q x => pf_S pb_u_18 rfl rfl,
  fun L J st h Q => pf_S pb_u_18 rfl rfl,
  fun l1 l2 l3 l4 st h Q x => pf_S pb_u_18 rfl rfl,
  fun l1 l2 l3 l4 st h Q => pf_S pb_u_18 rfl rfl,
  fun L J st h Q a => pf_gf pb_u_18 rfl rfl,
  fun L J h Q x => pf_ri pb_u_18 rfl rfl⟩
theorem pb_c18 (x0 : Nat) (x1 : Int32) (h : pb_H) (Q : Option Value → pb_H → Prop) : pb_call 18 [.ref x0, .int x1] h Q ↔ pb_R 18 0 [some (.ref x0), some (.int x1), none, none, none] [] [] h Q := Iff.rfl
/-! 19: PlaneBench$TextReader.isDigit(I)Z -/
theorem pb_u_19 : pb_t 19 = pb_t19 := rfl
set_option maxRecDepth 100000 in
theorem pb_e19 : (∀ (st : List Value) (h : pb_H) (Q : Option Value → pb_H → Prop) (x : Int32), pb_R 19 0 [some (.int x)] [] st h Q ↔ pb_R 19 1 [some (.int x)] [] (.int x :: st) h Q) ∧
  (∀ (L : pb_L) (J : pb_J) (st : List Value) (h : pb_H) (Q : Option Value → pb_H → Prop), pb_R 19 1 L J st h Q ↔ pb_R 19 3 L J (.int (48 : Int32) :: st) h Q) ∧
  (∀ (L : pb_L) (J : pb_J) (st : List Value) (h : pb_H) (Q : Option Value → pb_H → Prop) (x y : Int32), pb_R 19 3 L J (.int y :: .int x :: st) h Q ↔ if x < y then pb_R 19 16 L J st h Q else pb_R 19 6 L J st h Q) ∧
  (∀ (st : List Value) (h : pb_H) (Q : Option Value → pb_H → Prop) (x : Int32), pb_R 19 6 [some (.int x)] [] st h Q ↔ pb_R 19 7 [some (.int x)] [] (.int x :: st) h Q) ∧
  (∀ (L : pb_L) (J : pb_J) (st : List Value) (h : pb_H) (Q : Option Value → pb_H → Prop), pb_R 19 7 L J st h Q ↔ pb_R 19 9 L J (.int (57 : Int32) :: st) h Q) ∧
  (∀ (L : pb_L) (J : pb_J) (st : List Value) (h : pb_H) (Q : Option Value → pb_H → Prop) (x y : Int32), pb_R 19 9 L J (.int y :: .int x :: st) h Q ↔ if y < x then pb_R 19 16 L J st h Q else pb_R 19 12 L J st h Q) ∧
  (∀ (L : pb_L) (J : pb_J) (st : List Value) (h : pb_H) (Q : Option Value → pb_H → Prop), pb_R 19 12 L J st h Q ↔ pb_R 19 13 L J (.int (1 : Int32) :: st) h Q) ∧
  (∀ (L : pb_L) (J : pb_J) (st : List Value) (h : pb_H) (Q : Option Value → pb_H → Prop), pb_R 19 13 L J st h Q ↔ pb_R 19 17 L J st h Q) ∧
  (∀ (L : pb_L) (J : pb_J) (st : List Value) (h : pb_H) (Q : Option Value → pb_H → Prop), pb_R 19 16 L J st h Q ↔ pb_R 19 17 L J (.int (0 : Int32) :: st) h Q) ∧
  (∀ (L : pb_L) (J : pb_J) (h : pb_H) (Q : Option Value → pb_H → Prop) (x : Int32), pb_R 19 17 L J [.int x] h Q ↔ narrow .boolean (.int x) = .int x ∧ Q (some (.int x)) h) := ⟨
  fun st h Q x => pf_S pb_u_19 rfl rfl,
  fun L J st h Q => pf_S pb_u_19 rfl rfl,
  fun L J st h Q x y => pf_ic pb_u_19 rfl rfl rfl,
  fun st h Q x => pf_S pb_u_19 rfl rfl,
  fun L J st h Q => pf_S pb_u_19 rfl rfl,
  fun L J st h Q x y => pf_ic pb_u_19 rfl rfl rfl,
  fun L J st h Q => pf_S pb_u_19 rfl rfl,
  fun L J st h Q => pf_S pb_u_19 rfl rfl,
  fun L J st h Q => pf_S pb_u_19 rfl rfl,
  fun L J h Q x => pf_rz pb_u_19 rfl rfl⟩
theorem pb_c19 (x0 : Int32) (h : pb_H) (Q : Option Value → pb_H → Prop) : pb_call 19 [.int x0] h Q ↔ pb_R 19 0 [some (.int x0)] [] [] h Q := Iff.rfl
/-! 20: PlaneBench$TextReader.takeDigits()V -/
theorem pb_u_20 : pb_t 20 = pb_t20 := rfl
theorem pb_ci_20 : pb_ci 20 = 8 := by decide +kernel
set_option maxRecDepth 100000 in
theorem pb_q20_0 (st : List Value) (h : pb_H) (Q : Option Value → pb_H → Prop) (x : Nat) : pb_R 20 0 [some (.ref x)] [] st h Q ↔ pb_R 20 1 [some (.ref x)] [] (.ref x :: st) h Q := pf_S pb_u_20 rfl rfl
set_option maxRecDepth 100000 in
theorem pb_q20_0n (st : List Value) (h : pb_H) (Q : Option Value → pb_H → Prop) : pb_R 20 0 [some .null] [] st h Q ↔ pb_R 20 1 [some .null] [] (.null :: st) h Q := pf_S pb_u_20 rfl rfl
set_option maxRecDepth 100000 in
theorem pb_e20 : (∀ (L : pb_L) (J : pb_J) (st : List Value) (h : pb_H) (Q : Option Value → pb_H → Prop) (a : Nat), pb_R 20 1 L J (.ref a :: st) h Q ↔ pb_o (pb_gf (h.2 a) 8 4) (fun v => pb_R 20 4 L J (v :: st) h Q)) ∧
  (∀ (st : List Value) (h : pb_H) (Q : Option Value → pb_H → Prop) (x : Nat), pb_R 20 4 [some (.ref x)] [] st h Q ↔ pb_R 20 5 [some (.ref x)] [] (.ref x :: st) h Q) ∧
  (∀ (st : List Value) (h : pb_H) (Q : Option Value → pb_H → Prop), pb_R 20 4 [some .null] [] st h Q ↔ pb_R 20 5 [some .null] [] (.null :: st) h Q) ∧
  (∀ (L : pb_L) (J : pb_J) (st : List Value) (h : pb_H) (Q : Option Value → pb_H → Prop) (a : Nat), pb_R 20 5 L J (.ref a :: st) h Q ↔ pb_o (pb_gf (h.2 a) 8 1) (fun v => pb_R 20 8 L J (v :: st) h Q)) ∧
  (∀ (L : pb_L) (J : pb_J) (st : List Value) (h : pb_H) (Q : Option Value → pb_H → Prop) (x y : Int32), pb_R 20 8 L J (.int y :: .int x :: st) h Q ↔ if y ≤ x then pb_R 20 38 L J st h Q else pb_R 20 11 L J st h Q) ∧
  (∀ (st : List Value) (h : pb_H) (Q : Option Value → pb_H → Prop) (x : Nat), pb_R 20 11 [some (.ref x)] [] st h Q ↔ pb_R 20 12 [some (.ref x)] [] (.ref x :: st) h Q) ∧
  (∀ (st : List Value) (h : pb_H) (Q : Option Value → pb_H → Prop), pb_R 20 11 [some .null] [] st h Q ↔ pb_R 20 12 [some .null] [] (.null :: st) h Q) ∧
  (∀ (st : List Value) (h : pb_H) (Q : Option Value → pb_H → Prop) (x : Nat), pb_R 20 12 [some (.ref x)] [] st h Q ↔ pb_R 20 13 [some (.ref x)] [] (.ref x :: st) h Q) ∧
  (∀ (st : List Value) (h : pb_H) (Q : Option Value → pb_H → Prop), pb_R 20 12 [some .null] [] st h Q ↔ pb_R 20 13 [some .null] [] (.null :: st) h Q) ∧
  (∀ (L : pb_L) (J : pb_J) (st : List Value) (h : pb_H) (Q : Option Value → pb_H → Prop) (a : Nat), pb_R 20 13 L J (.ref a :: st) h Q ↔ pb_o (pb_gf (h.2 a) 8 4) (fun v => pb_R 20 16 L J (v :: st) h Q)) ∧
  (∀ (L : pb_L) (J : pb_J) (h : pb_H) (Q : Option Value → pb_H → Prop) (x0 : Int32) (x1 : Nat), pb_R 20 16 L J [.int x0, .ref x1] h Q ↔ pb_is0 (h.2 x1) 8 = true ∧ pb_call 15 [.ref x1, .int x0] h (fun v t => pb_R 20 19 L J (v.toList ++ []) t Q)) ∧
  (∀ (L : pb_L) (J : pb_J) (h : pb_H) (Q : Option Value → pb_H → Prop) (x0 : Int32), pb_R 20 19 L J [.int x0] h Q ↔ pb_call 19 [.int x0] h (fun v t => pb_R 20 22 L J (v.toList ++ []) t Q)) ∧
  (∀ (L : pb_L) (J : pb_J) (st : List Value) (h : pb_H) (Q : Option Value → pb_H → Prop) (x : Int32), pb_R 20 22 L J (.int x :: st) h Q ↔ if x = 0 then pb_R 20 38 L J st h Q else pb_R 20 25 L J st h Q) ∧
  (∀ (st : List Value) (h : pb_H) (Q : Option Value → pb_H → Prop) (x : Nat), pb_R 20 25 [some (.ref x)] [] st h Q ↔ pb_R 20 26 [some (.ref x)] [] (.ref x :: st) h Q) ∧
  (∀ (st : List Value) (h : pb_H) (Q : Option Value → pb_H → Prop), pb_R 20 25 [some .null] [] st h Q ↔ pb_R 20 26 [some .null] [] (.null :: st) h Q) ∧
  (∀ (L : pb_L) (J : pb_J) (st : List Value) (x : Nat) (h : pb_H) (Q : Option Value → pb_H → Prop), pb_R 20 26 L J (.ref x :: st) h Q ↔ pb_R 20 27 L J (.ref x :: .ref x :: st) h Q) ∧
  (∀ (L : pb_L) (J : pb_J) (st : List Value) (h : pb_H) (Q : Option Value → pb_H → Prop) (a : Nat), pb_R 20 27 L J (.ref a :: st) h Q ↔ pb_o (pb_gf (h.2 a) 8 4) (fun v => pb_R 20 30 L J (v :: st) h Q)) ∧
  (∀ (L : pb_L) (J : pb_J) (st : List Value) (h : pb_H) (Q : Option Value → pb_H → Prop), pb_R 20 30 L J st h Q ↔ pb_R 20 31 L J (.int (1 : Int32) :: st) h Q) ∧
  (∀ (L : pb_L) (J : pb_J) (st : List Value) (x y : Int32) (h : pb_H) (Q : Option Value → pb_H → Prop), pb_R 20 31 L J (.int y :: .int x :: st) h Q ↔ pb_R 20 32 L J (.int (x + y) :: st) h Q) ∧
  (∀ (L : pb_L) (J : pb_J) (st : List Value) (h : pb_H) (Q : Option Value → pb_H → Prop) (a : Nat) (x : Int32), pb_R 20 32 L J (.int x :: .ref a :: st) h Q ↔ pb_o (pb_pf (h.2 a) 8 4 (.int x)) (fun c => pb_R 20 35 L J st (pb_set h a c) Q)) ∧
  (∀ (L : pb_L) (J : pb_J) (st : List Value) (h : pb_H) (Q : Option Value → pb_H → Prop), pb_R 20 35 L J st h Q ↔ pb_R 20 0 L J st h Q) ∧
  (∀ (st : List Value) (h : pb_H) (Q : Option Value → pb_H → Prop) (x : Nat), pb_R 20 38 [some (.ref x)] [] st h Q ↔ pb_R 20 39 [some (.ref x)] [] (.ref x :: st) h Q) ∧
  (∀ (st : List Value) (h : pb_H) (Q : Option Value → pb_H → Prop), pb_R 20 38 [some .null] [] st h Q ↔ pb_R 20 39 [some .null] [] (.null :: st) h Q) ∧
  (∀ (st : List Value) (h : pb_H) (Q : Option Value → pb_H → Prop) (x : Nat), pb_R 20 39 [some (.ref x)] [] st h Q ↔ pb_R 20 40 [some (.ref x)] [] (.ref x :: st) h Q) ∧
  (∀ (st : List Value) (h : pb_H) (Q : Option Value → pb_H → Prop), pb_R 20 39 [some .null] [] st h Q ↔ pb_R 20 40 [some .null] [] (.null :: st) h Q) ∧
  (∀ (L : pb_L) (J : pb_J) (st : List Value) (h : pb_H) (Q : Option Value → pb_H → Prop) (a : Nat), pb_R 20 40 L J (.ref a :: st) h Q ↔ pb_o (pb_gf (h.2 a) 8 4) (fun v => pb_R 20 43 L J (v :: st) h Q)) ∧
  (∀ (st : List Value) (h : pb_H) (Q : Option Value → pb_H → Prop) (x : Nat), pb_R 20 43 [some (.ref x)] [] st h Q ↔ pb_R 20 44 [some (.ref x)] [] (.ref x :: st) h Q) ∧
  (∀ (st : List Value) (h : pb_H) (Q : Option Value → pb_H → Prop), pb_R 20 43 [some .null] [] st h Q ↔ pb_R 20 44 [some .null] [] (.null :: st) h Q) ∧
  (∀ (L : pb_L) (J : pb_J) (st : List Value) (h : pb_H) (Q : Option Value → pb_H → Prop) (a : Nat), pb_R 20 44 L J (.ref a :: st) h Q ↔ pb_o (pb_gf (h.2 a) 8 3) (fun v => pb_R 20 47 L J (v :: st) h Q)) ∧
  (∀ (L : pb_L) (J : pb_J) (st : List Value) (x y : Int32) (h : pb_H) (Q : Option Value → pb_H → Prop), pb_R 20 47 L J (.int y :: .int x :: st) h Q ↔ pb_R 20 48 L J (.int (x - y) :: st) h Q) ∧
  (∀ (L : pb_L) (J : pb_J) (st : List Value) (h : pb_H) (Q : Option Value → pb_H → Prop), pb_R 20 48 L J st h Q ↔ pb_R 20 50 L J (.int (60 : Int32) :: st) h Q) ∧
  (∀ (L : pb_L) (J : pb_J) (st : List Value) (h : pb_H) (Q : Option Value → pb_H → Prop) (x y : Int32), pb_R 20 50 L J (.int y :: .int x :: st) h Q ↔ if y < x then pb_R 20 58 L J st h Q else pb_R 20 53 L J st h Q) ∧
  (∀ (L : pb_L) (J : pb_J) (st : List Value) (h : pb_H) (Q : Option Value → pb_H → Prop), pb_R 20 53 L J st h Q ↔ pb_R 20 55 L J (.int (48 : Int32) :: st) h Q) ∧
  (∀ (L : pb_L) (J : pb_J) (st : List Value) (h : pb_H) (Q : Option Value → pb_H → Prop), pb_R 20 55 L J st h Q ↔ pb_R 20 59 L J st h Q) ∧
  (∀ (L : pb_L) (J : pb_J) (st : List Value) (h : pb_H) (Q : Option Value → pb_H → Prop), pb_R 20 58 L J st h Q ↔ pb_R 20 59 L J (.int (1 : Int32) :: st) h Q) ∧
  (∀ (L : pb_L) (J : pb_J) (st : List Value) (h : pb_H) (Q : Option Value → pb_H → Prop) (a : Nat) (x : Int32), pb_R 20 59 L J (.int x :: .ref a :: st) h Q ↔ pb_o (pb_pf (h.2 a) 8 2 (.int x)) (fun c => pb_R 20 62 L J st (pb_set h a c) Q)) ∧
  (∀ (L : pb_L) (J : pb_J) (h : pb_H) (Q : Option Value → pb_H → Prop), pb_R 20 62 L J [] h Q ↔ Q none h) := ⟨
  fun L J st h Q a => pf_gf pb_u_20 rfl rfl,
  fun st h Q x => pf_S pb_u_20 rfl rfl,
  fun st h Q => pf_S pb_u_20 rfl rfl,
  fun L J st h Q a => pf_gf pb_u_20 rfl rfl,
  fun L J st h Q x y => pf_ic pb_u_20 rfl rfl rfl,
  fun st h Q x => pf_S pb_u_20 rfl rfl,
  fun st h Q => pf_S pb_u_20 rfl rfl,
  fun st h Q x => pf_S pb_u_20 rfl rfl,
  fun st h Q => pf_S pb_u_20 rfl rfl,
  fun L J st h Q a => pf_gf pb_u_20 rfl rfl,
  fun L J h Q x0 x1 => pf_kv pb_u_20 rfl pb_ci_15 rfl ⟨Nat.le_of_ble_eq_true rfl, Nat.le_of_ble_eq_true rfl, Nat.le_of_ble_eq_true rfl, Nat.le_of_ble_eq_true rfl, rfl⟩ rfl rfl,
  fun L J h Q x0 => pf_ks pb_u_20 rfl rfl rfl rfl,
  fun L J st h Q x => pf_ii pb_u_20 rfl rfl rfl,
  fun st h Q x => pf_S pb_u_20 rfl rfl,
  fun st h Q => pf_S pb_u_20 rfl rfl,
  fun L J st x h Q => pf_S pb_u_20 rfl rfl,
  fun L J st h Q a => pf_gf pb_u_20 rfl rfl,
  fun L J st h Q => pf_S pb_u_20 rfl rfl,
  fun L J st x y h Q => pf_S pb_u_20 rfl rfl,
  fun L J st h Q a x => pf_pf pb_u_20 rfl rfl,
  fun L J st h Q => pf_S pb_u_20 rfl rfl,
  fun st h Q x => pf_S pb_u_20 rfl rfl,
  fun st h Q => pf_S pb_u_20 rfl rfl,
  fun st h Q x => pf_S pb_u_20 rfl rfl,
  fun st h Q => pf_S pb_u_20 rfl rfl,
  fun L J st h Q a => pf_gf pb_u_20 rfl rfl,
  fun st h Q x => pf_S pb_u_20 rfl rfl,
  fun st h Q => pf_S pb_u_20 rfl rfl,
  fun L J st h Q a => pf_gf pb_u_20 rfl rfl,
  fun L J st x y h Q => pf_S pb_u_20 rfl rfl,
  fun L J st h Q => pf_S pb_u_20 rfl rfl,
  fun L J st h Q x y => pf_ic pb_u_20 rfl rfl rfl,
  fun L J st h Q => pf_S pb_u_20 rfl rfl,
  fun L J st h Q => pf_S pb_u_20 rfl rfl,
  fun L J st h Q => pf_S pb_u_20 rfl rfl,
  fun L J st h Q a x => pf_pf pb_u_20 rfl rfl,
  fun L J h Q => pf_rv pb_u_20 rfl rfl⟩
theorem pb_c20 (x0 : Nat) (h : pb_H) (Q : Option Value → pb_H → Prop) : pb_call 20 [.ref x0] h Q ↔ pb_R 20 0 [some (.ref x0)] [] [] h Q := Iff.rfl
/-! 21: PlaneBench$TextReader.takeLiteral(II)V -/
theorem pb_u_21 : pb_t 21 = pb_t21 := rfl
theorem pb_ci_21 : pb_ci 21 = 8 := by decide +kernel
set_option maxRecDepth 100000 in
theorem pb_e21 : (∀ (l1 l2 l3 l4 : Option Value) (st : List Value) (h : pb_H) (Q : Option Value → pb_H → Prop) (x : Nat), pb_R 21 0 [some (.ref x), l1, l2, l3, l4] [] st h Q ↔ pb_R 21 1 [some (.ref x), l1, l2, l3, l4] [] (.ref x :: st) h Q) ∧
  (∀ (l1 l2 l3 l4 : Option Value) (st : List Value) (h : pb_H) (Q : Option Value → pb_H → Prop), pb_R 21 0 [some .null, l1, l2, l3, l4] [] st h Q ↔ pb_R 21 1 [some .null, l1, l2, l3, l4] [] (.null :: st) h Q) ∧
  (∀ (l0 l2 l3 l4 : Option Value) (st : List Value) (h : pb_H) (Q : Option Value → pb_H → Prop) (x : Int32), pb_R 21 1 [l0, some (.int x), l2, l3, l4] [] st h Q ↔ pb_R 21 2 [l0, some (.int x), l2, l3, l4] [] (.int x :: st) h Q) ∧
  (∀ (L : pb_L) (J : pb_J) (h : pb_H) (Q : Option Value → pb_H → Prop) (x0 : Int32) (x1 : Nat), pb_R 21 2 L J [.int x0, .ref x1] h Q ↔ pb_is0 (h.2 x1) 8 = true ∧ pb_call 15 [.ref x1, .int x0] h (fun v t => pb_R 21 5 L J (v.toList ++ []) t Q)) ∧
  (∀ (l0 l1 l2 l3 l4 : Option Value) (st : List Value) (h : pb_H) (Q : Option Value → pb_H → Prop) (x : Int32), pb_R 21 5 [l0, l1, l2, l3, l4] [] (.int x :: st) h Q ↔ pb_R 21 6 [l0, l1, l2, some (.int x), l4] [] st h Q) ∧
  (∀ (l1 l2 l3 l4 : Option Value) (st : List Value) (h : pb_H) (Q : Option Value → pb_H → Prop) (x : Nat), pb_R 21 6 [some (.ref x), l1, l2, l3, l4] [] st h Q ↔ pb_R 21 7 [some (.ref x), l1, l2, l3, l4] [] (.ref x :: st) h Q) ∧
  (∀ (l1 l2 l3 l4 : Option Value) (st : List Value) (h : pb_H) (Q : Option Value → pb_H → Prop), pb_R 21 6 [some .null, l1, l2, l3, l4] [] st h Q ↔ pb_R 21 7 [some .null, l1, l2, l3, l4] [] (.null :: st) h Q) ∧
  (∀ (l0 l2 l3 l4 : Option Value) (st : List Value) (h : pb_H) (Q : Option Value → pb_H → Prop) (x : Int32), pb_R 21 7 [l0, some (.int x), l2, l3, l4] [] st h Q ↔ pb_R 21 8 [l0, some (.int x), l2, l3, l4] [] (.int x :: st) h Q) ∧
  (∀ (L : pb_L) (J : pb_J) (st : List Value) (h : pb_H) (Q : Option Value → pb_H → Prop), pb_R 21 8 L J st h Q ↔ pb_R 21 9 L J (.int (1 : Int32) :: st) h Q) ∧
  (∀ (L : pb_L) (J : pb_J) (st : List Value) (x y : Int32) (h : pb_H) (Q : Option Value → pb_H → Prop), pb_R 21 9 L J (.int y :: .int x :: st) h Q ↔ pb_R 21 10 L J (.int (x + y) :: st) h Q) ∧
  (∀ (L : pb_L) (J : pb_J) (h : pb_H) (Q : Option Value → pb_H → Prop) (x0 : Int32) (x1 : Nat), pb_R 21 10 L J [.int x0, .ref x1] h Q ↔ pb_is0 (h.2 x1) 8 = true ∧ pb_call 15 [.ref x1, .int x0] h (fun v t => pb_R 21 13 L J (v.toList ++ []) t Q)) ∧
  (∀ (l0 l1 l2 l3 l4 : Option Value) (st : List Value) (h : pb_H) (Q : Option Value → pb_H → Prop) (x : Int32), pb_R 21 13 [l0, l1, l2, l3, l4] [] (.int x :: st) h Q ↔ pb_R 21 15 [l0, l1, l2, l3, some (.int x)] [] st h Q) ∧
  (∀ (l0 l1 l2 l4 : Option Value) (st : List Value) (h : pb_H) (Q : Option Value → pb_H → Prop) (x : Int32), pb_R 21 15 [l0, l1, l2, some (.int x), l4] [] st h Q ↔ pb_R 21 16 [l0, l1, l2, some (.int x), l4] [] (.int x :: st) h Q) ∧
  (∀ (L : pb_L) (J : pb_J) (h : pb_H) (Q : Option Value → pb_H → Prop) (x0 : Int32), pb_R 21 16 L J [.int x0] h Q ↔ pb_call 19 [.int x0] h (fun v t => pb_R 21 19 L J (v.toList ++ []) t Q)) ∧
  (∀ (L : pb_L) (J : pb_J) (st : List Value) (h : pb_H) (Q : Option Value → pb_H → Prop) (x : Int32), pb_R 21 19 L J (.int x :: st) h Q ↔ if ¬ x = 0 then pb_R 21 28 L J st h Q else pb_R 21 22 L J st h Q) ∧
  (∀ (l1 l2 l3 l4 : Option Value) (st : List Value) (h : pb_H) (Q : Option Value → pb_H → Prop) (x : Nat), pb_R 21 22 [some (.ref x), l1, l2, l3, l4] [] st h Q ↔ pb_R 21 23 [some (.ref x), l1, l2, l3, l4] [] (.ref x :: st) h Q) ∧
  (∀ (l1 l2 l3 l4 : Option Value) (st : List Value) (h : pb_H) (Q : Option Value → pb_H → Prop), pb_R 21 22 [some .null, l1, l2, l3, l4] [] st h Q ↔ pb_R 21 23 [some .null, l1, l2, l3, l4] [] (.null :: st) h Q) ∧
  (∀ (L : pb_L) (J : pb_J) (st : List Value) (h : pb_H) (Q : Option Value → pb_H → Prop), pb_R 21 23 L J st h Q ↔ pb_R 21 24 L J (.int (1 : Int32) :: st) h Q) ∧
  (∀ (L : pb_L) (J : pb_J) (st : List Value) (h : pb_H) (Q : Option Value → pb_H → Prop) (a : Nat) (x : Int32), pb_R 21 24 L J (.int x :: .ref a :: st) h Q ↔ pb_o (pb_pf (h.2 a) 8 2 (.int x)) (fun c => pb_R 21 27 L J st (pb_set h a c) Q)) ∧
  (∀ (L : pb_L) (J : pb_J) (h : pb_H) (Q : Option Value → pb_H → Prop), pb_R 21 27 L J [] h Q ↔ Q none h) ∧
  (∀ (l1 l2 l3 l4 : Option Value) (st : List Value) (h : pb_H) (Q : Option Value → pb_H → Prop) (x : Nat), pb_R 21 28 [some (.ref x), l1, l2, l3, l4] [] st h Q ↔ pb_R 21 29 [some (.ref x), l1, l2, l3, l4] [] (.ref x :: st) h Q) ∧
  (∀ (l1 l2 l3 l4 : Option Value) (st : List Value) (h : pb_H) (Q : Option Value → pb_H → Prop), pb_R 21 28 [some .null, l1, l2, l3, l4] [] st h Q ↔ pb_R 21 29 [some .null, l1, l2, l3, l4] [] (.null :: st) h Q) ∧
  (∀ (L : pb_L) (J : pb_J) (st : List Value) (h : pb_H) (Q : Option Value → pb_H → Prop), pb_R 21 29 L J st h Q ↔ pb_R 21 31 L J (.int (120 : Int32) :: st) h Q) ∧
  (∀ (L : pb_L) (J : pb_J) (st : List Value) (h : pb_H) (Q : Option Value → pb_H → Prop) (a : Nat) (x : Int32), pb_R 21 31 L J (.int x :: .ref a :: st) h Q ↔ pb_o (pb_pf (h.2 a) 8 2 (.int x)) (fun c => pb_R 21 34 L J st (pb_set h a c) Q)) ∧
  (∀ (l1 l2 l3 l4 : Option Value) (st : List Value) (h : pb_H) (Q : Option Value → pb_H → Prop) (x : Nat), pb_R 21 34 [some (.ref x), l1, l2, l3, l4] [] st h Q ↔ pb_R 21 35 [some (.ref x), l1, l2, l3, l4] [] (.ref x :: st) h Q) ∧
  (∀ (l1 l2 l3 l4 : Option Value) (st : List Value) (h : pb_H) (Q : Option Value → pb_H → Prop), pb_R 21 34 [some .null, l1, l2, l3, l4] [] st h Q ↔ pb_R 21 35 [some .null, l1, l2, l3, l4] [] (.null :: st) h Q) ∧
  (∀ (l0 l1 l3 l4 : Option Value) (st : List Value) (h : pb_H) (Q : Option Value → pb_H → Prop) (x : Int32), pb_R 21 35 [l0, l1, some (.int x), l3, l4] [] st h Q ↔ pb_R 21 36 [l0, l1, some (.int x), l3, l4] [] (.int x :: st) h Q) ∧
  (∀ (L : pb_L) (J : pb_J) (st : List Value) (h : pb_H) (Q : Option Value → pb_H → Prop) (a : Nat) (x : Int32), pb_R 21 36 L J (.int x :: .ref a :: st) h Q ↔ pb_o (pb_pf (h.2 a) 8 6 (.int x)) (fun c => pb_R 21 39 L J st (pb_set h a c) Q)) ∧
  (∀ (l1 l2 l3 l4 : Option Value) (st : List Value) (h : pb_H) (Q : Option Value → pb_H → Prop) (x : Nat), pb_R 21 39 [some (.ref x), l1, l2, l3, l4] [] st h Q ↔ pb_R 21 40 [some (.ref x), l1, l2, l3, l4] [] (.ref x :: st) h Q) ∧
  (∀ (l1 l2 l3 l4 : Option Value) (st : List Value) (h : pb_H) (Q : Option Value → pb_H → Prop), pb_R 21 39 [some .null, l1, l2, l3, l4] [] st h Q ↔ pb_R 21 40 [some .null, l1, l2, l3, l4] [] (.null :: st) h Q) ∧
  (∀ (l0 l1 l2 l4 : Option Value) (st : List Value) (h : pb_H) (Q : Option Value → pb_H → Prop) (x : Int32), pb_R 21 40 [l0, l1, l2, some (.int x), l4] [] st h Q ↔ pb_R 21 41 [l0, l1, l2, some (.int x), l4] [] (.int x :: st) h Q) ∧
  (∀ (L : pb_L) (J : pb_J) (st : List Value) (h : pb_H) (Q : Option Value → pb_H → Prop), pb_R 21 41 L J st h Q ↔ pb_R 21 43 L J (.int (48 : Int32) :: st) h Q) ∧
  (∀ (L : pb_L) (J : pb_J) (st : List Value) (x y : Int32) (h : pb_H) (Q : Option Value → pb_H → Prop), pb_R 21 43 L J (.int y :: .int x :: st) h Q ↔ pb_R 21 44 L J (.int (x - y) :: st) h Q) ∧
  (∀ (L : pb_L) (J : pb_J) (st : List Value) (h : pb_H) (Q : Option Value → pb_H → Prop) (a : Nat) (x : Int32), pb_R 21 44 L J (.int x :: .ref a :: st) h Q ↔ pb_o (pb_pf (h.2 a) 8 5 (.int x)) (fun c => pb_R 21 47 L J st (pb_set h a c) Q)) ∧
  (∀ (l1 l2 l3 l4 : Option Value) (st : List Value) (h : pb_H) (Q : Option Value → pb_H → Prop) (x : Nat), pb_R 21 47 [some (.ref x), l1, l2, l3, l4] [] st h Q ↔ pb_R 21 48 [some (.ref x), l1, l2, l3, l4] [] (.ref x :: st) h Q) ∧
  (∀ (l1 l2 l3 l4 : Option Value) (st : List Value) (h : pb_H) (Q : Option Value → pb_H → Prop), pb_R 21 47 [some .null, l1, l2, l3, l4] [] st h Q ↔ pb_R 21 48 [some .null, l1, l2, l3, l4] [] (.null :: st) h Q) ∧
  (∀ (l0 l2 l3 l4 : Option Value) (st : List Value) (h : pb_H) (Q : Option Value → pb_H → Prop) (x : Int32), pb_R 21 48 [l0, some (.int x), l2, l3, l4] [] st h Q ↔ pb_R 21 49 [l0, some (.int x), l2, l3, l4] [] (.int x :: st) h Q) ∧
  (∀ (L : pb_L) (J : pb_J) (st : List Value) (h : pb_H) (Q : Option Value → pb_H → Prop), pb_R 21 49 L J st h Q ↔ pb_R 21 50 L J (.int (1 : Int32) :: st) h Q) ∧
  (∀ (L : pb_L) (J : pb_J) (st : List Value) (x y : Int32) (h : pb_H) (Q : Option Value → pb_H → Prop), pb_R 21 50 L J (.int y :: .int x :: st) h Q ↔ pb_R 21 51 L J (.int (x + y) :: st) h Q) ∧
  (∀ (L : pb_L) (J : pb_J) (st : List Value) (h : pb_H) (Q : Option Value → pb_H → Prop) (a : Nat) (x : Int32), pb_R 21 51 L J (.int x :: .ref a :: st) h Q ↔ pb_o (pb_pf (h.2 a) 8 4 (.int x)) (fun c => pb_R 21 54 L J st (pb_set h a c) Q)) ∧
  (∀ (l0 l1 l2 l3 : Option Value) (st : List Value) (h : pb_H) (Q : Option Value → pb_H → Prop) (x : Int32), pb_R 21 54 [l0, l1, l2, l3, some (.int x)] [] st h Q ↔ pb_R 21 56 [l0, l1, l2, l3, some (.int x)] [] (.int x :: st) h Q) ∧
  (∀ (L : pb_L) (J : pb_J) (h : pb_H) (Q : Option Value → pb_H → Prop) (x0 : Int32), pb_R 21 56 L J [.int x0] h Q ↔ pb_call 19 [.int x0] h (fun v t => pb_R 21 59 L J (v.toList ++ []) t Q)) ∧
  (∀ (L : pb_L) (J : pb_J) (st : List Value) (h : pb_H) (Q : Option Value → pb_H → Prop) (x : Int32), pb_R 21 59 L J (.int x :: st) h Q ↔ if x = 0 then pb_R 21 86 L J st h Q else pb_R 21 62 L J st h Q) ∧
  (∀ (l1 l2 l3 l4 : Option Value) (st : List Value) (h : pb_H) (Q : Option Value → pb_H → Prop) (x : Nat), pb_R 21 62 [some (.ref x), l1, l2, l3, l4] [] st h Q ↔ pb_R 21 63 [some (.ref x), l1, l2, l3, l4] [] (.ref x :: st) h Q) ∧
  (∀ (l1 l2 l3 l4 : Option Value) (st : List Value) (h : pb_H) (Q : Option Value → pb_H → Prop), pb_R 21 62 [some .null, l1, l2, l3, l4] [] st h Q ↔ pb_R 21 63 [some .null, l1, l2, l3, l4] [] (.null :: st) h Q) ∧
  (∀ (l1 l2 l3 l4 : Option Value) (st : List Value) (h : pb_H) (Q : Option Value → pb_H → Prop) (x : Nat), pb_R 21 63 [some (.ref x), l1, l2, l3, l4] [] st h Q ↔ pb_R 21 64 [some (.ref x), l1, l2, l3, l4] [] (.ref x :: st) h Q) ∧
  (∀ (l1 l2 l3 l4 : Option Value) (st : List Value) (h : pb_H) (Q : Option Value → pb_H → Prop), pb_R 21 63 [some .null, l1, l2, l3, l4] [] st h Q ↔ pb_R 21 64 [some .null, l1, l2, l3, l4] [] (.null :: st) h Q) ∧
  (∀ (L : pb_L) (J : pb_J) (st : List Value) (h : pb_H) (Q : Option Value → pb_H → Prop) (a : Nat), pb_R 21 64 L J (.ref a :: st) h Q ↔ pb_o (pb_gf (h.2 a) 8 5) (fun v => pb_R 21 67 L J (v :: st) h Q)) ∧
  (∀ (L : pb_L) (J : pb_J) (st : List Value) (h : pb_H) (Q : Option Value → pb_H → Prop), pb_R 21 67 L J st h Q ↔ pb_R 21 69 L J (.int (10 : Int32) :: st) h Q) ∧
  (∀ (L : pb_L) (J : pb_J) (st : List Value) (x y : Int32) (h : pb_H) (Q : Option Value → pb_H → Prop), pb_R 21 69 L J (.int y :: .int x :: st) h Q ↔ pb_R 21 70 L J (.int (x * y) :: st) h Q) ∧
  (∀ (l0 l1 l2 l3 : Option Value) (st : List Value) (h : pb_H) (Q : Option Value → pb_H → Prop) (x : Int32), pb_R 21 70 [l0, l1, l2, l3, some (.int x)] [] st h Q ↔ pb_R 21 72 [l0, l1, l2, l3, some (.int x)] [] (.int x :: st) h Q) ∧
  (∀ (L : pb_L) (J : pb_J) (st : List Value) (x y : Int32) (h : pb_H) (Q : Option Value → pb_H → Prop), pb_R 21 72 L J (.int y :: .int x :: st) h Q ↔ pb_R 21 73 L J (.int (x + y) :: st) h Q) ∧
  (∀ (L : pb_L) (J : pb_J) (st : List Value) (h : pb_H) (Q : Option Value → pb_H → Prop), pb_R 21 73 L J st h Q ↔ pb_R 21 75 L J (.int (48 : Int32) :: st) h Q) ∧
  (∀ (L : pb_L) (J : pb_J) (st : List Value) (x y : Int32) (h : pb_H) (Q : Option Value → pb_H → Prop), pb_R 21 75 L J (.int y :: .int x :: st) h Q ↔ pb_R 21 76 L J (.int (x - y) :: st) h Q) ∧
  (∀ (L : pb_L) (J : pb_J) (st : List Value) (h : pb_H) (Q : Option Value → pb_H → Prop) (a : Nat) (x : Int32), pb_R 21 76 L J (.int x :: .ref a :: st) h Q ↔ pb_o (pb_pf (h.2 a) 8 5 (.int x)) (fun c => pb_R 21 79 L J st (pb_set h a c) Q)) ∧
  (∀ (l1 l2 l3 l4 : Option Value) (st : List Value) (h : pb_H) (Q : Option Value → pb_H → Prop) (x : Nat), pb_R 21 79 [some (.ref x), l1, l2, l3, l4] [] st h Q ↔ pb_R 21 80 [some (.ref x), l1, l2, l3, l4] [] (.ref x :: st) h Q) ∧
  (∀ (l1 l2 l3 l4 : Option Value) (st : List Value) (h : pb_H) (Q : Option Value → pb_H → Prop), pb_R 21 79 [some .null, l1, l2, l3, l4] [] st h Q ↔ pb_R 21 80 [some .null, l1, l2, l3, l4] [] (.null :: st) h Q) ∧
  (∀ (l0 l2 l3 l4 : Option Value) (st : List Value) (h : pb_H) (Q : Option Value → pb_H → Prop) (x : Int32), pb_R 21 80 [l0, some (.int x), l2, l3, l4] [] st h Q ↔ pb_R 21 81 [l0, some (.int x), l2, l3, l4] [] (.int x :: st) h Q) ∧
  (∀ (L : pb_L) (J : pb_J) (st : List Value) (h : pb_H) (Q : Option Value → pb_H → Prop), pb_R 21 81 L J st h Q ↔ pb_R 21 82 L J (.int (2 : Int32) :: st) h Q) ∧
  (∀ (L : pb_L) (J : pb_J) (st : List Value) (x y : Int32) (h : pb_H) (Q : Option Value → pb_H → Prop), pb_R 21 82 L J (.int y :: .int x :: st) h Q ↔ pb_R 21 83 L J (.int (x + y) :: st) h Q) ∧
  (∀ (L : pb_L) (J : pb_J) (st : List Value) (h : pb_H) (Q : Option Value → pb_H → Prop) (a : Nat) (x : Int32), pb_R 21 83 L J (.int x :: .ref a :: st) h Q ↔ pb_o (pb_pf (h.2 a) 8 4 (.int x)) (fun c => pb_R 21 86 L J st (pb_set h a c) Q)) ∧
  (∀ (L : pb_L) (J : pb_J) (h : pb_H) (Q : Option Value → pb_H → Prop), pb_R 21 86 L J [] h Q ↔ Q none h) := ⟨
  fun l1 l2 l3 l4 st h Q x => pf_S pb_u_21 rfl rfl,
  fun l1 l2 l3 l4 st h Q => pf_S pb_u_21 rfl rfl,
  fun l0 l2 l3 l4 st h Q x => pf_S pb_u_21 rfl rfl,
  fun L J h Q x0 x1 => pf_kv pb_u_21 rfl pb_ci_15 rfl ⟨Nat.le_of_ble_eq_true rfl, Nat.le_of_ble_eq_true rfl, Nat.le_of_ble_eq_true rfl, Nat.le_of_ble_eq_true rfl, rfl⟩ rfl rfl,
  fun l0 l1 l2 l3 l4 st h Q x => pf_S pb_u_21 rfl rfl,
  fun l1 l2 l3 l4 st h Q x => pf_S pb_u_21 rfl rfl,
  fun l1 l2 l3 l4 st h Q => pf_S pb_u_21 rfl rfl,
  fun l0 l2 l3 l4 st h Q x => pf_S pb_u_21 rfl rfl,
  fun L J st h Q => pf_S pb_u_21 rfl rfl,
  fun L J st x y h Q => pf_S pb_u_21 rfl rfl,
  fun L J h Q x0 x1 => pf_kv pb_u_21 rfl pb_ci_15 rfl ⟨Nat.le_of_ble_eq_true rfl, Nat.le_of_ble_eq_true rfl, Nat.le_of_ble_eq_true rfl, Nat.le_of_ble_eq_true rfl, rfl⟩ rfl rfl,
  fun l0 l1 l2 l3 l4 st h Q x => pf_S pb_u_21 rfl rfl,
  fun l0 l1 l2 l4 st h Q x => pf_S pb_u_21 rfl rfl,
  fun L J h Q x0 => pf_ks pb_u_21 rfl rfl rfl rfl,
  fun L J st h Q x => pf_ii pb_u_21 rfl rfl pf_ne,
  fun l1 l2 l3 l4 st h Q x => pf_S pb_u_21 rfl rfl,
  fun l1 l2 l3 l4 st h Q => pf_S pb_u_21 rfl rfl,
  fun L J st h Q => pf_S pb_u_21 rfl rfl,
  fun L J st h Q a x => pf_pf pb_u_21 rfl rfl,
  fun L J h Q => pf_rv pb_u_21 rfl rfl,
  fun l1 l2 l3 l4 st h Q x => pf_S pb_u_21 rfl rfl,
  fun l1 l2 l3 l4 st h Q => pf_S pb_u_21 rfl rfl,
  fun L J st h Q => pf_S pb_u_21 rfl rfl,
  fun L J st h Q a x => pf_pf pb_u_21 rfl rfl,
  fun l1 l2 l3 l4 st h Q x => pf_S pb_u_21 rfl rfl,
  fun l1 l2 l3 l4 st h Q => pf_S pb_u_21 rfl rfl,
  fun l0 l1 l3 l4 st h Q x => pf_S pb_u_21 rfl rfl,
  fun L J st h Q a x => pf_pf pb_u_21 rfl rfl,
  fun l1 l2 l3 l4 st h Q x => pf_S pb_u_21 rfl rfl,
  fun l1 l2 l3 l4 st h Q => pf_S pb_u_21 rfl rfl,
  fun l0 l1 l2 l4 st h Q x => pf_S pb_u_21 rfl rfl,
  fun L J st h Q => pf_S pb_u_21 rfl rfl,
  fun L J st x y h Q => pf_S pb_u_21 rfl rfl,
  fun L J st h Q a x => pf_pf pb_u_21 rfl rfl,
  fun l1 l2 l3 l4 st h Q x => pf_S pb_u_21 rfl rfl,
  fun l1 l2 l3 l4 st h Q => pf_S pb_u_21 rfl rfl,
  fun l0 l2 l3 l4 st h Q x => pf_S pb_u_21 rfl rfl,
  fun L J st h Q => pf_S pb_u_21 rfl rfl,
  fun L J st x y h Q => pf_S pb_u_21 rfl rfl,
  fun L J st h Q a x => pf_pf pb_u_21 rfl rfl,
  fun l0 l1 l2 l3 st h Q x => pf_S pb_u_21 rfl rfl,
  fun L J h Q x0 => pf_ks pb_u_21 rfl rfl rfl rfl,
  fun L J st h Q x => pf_ii pb_u_21 rfl rfl rfl,
  fun l1 l2 l3 l4 st h Q x => pf_S pb_u_21 rfl rfl,
  fun l1 l2 l3 l4 st h Q => pf_S pb_u_21 rfl rfl,
  fun l1 l2 l3 l4 st h Q x => pf_S pb_u_21 rfl rfl,
  fun l1 l2 l3 l4 st h Q => pf_S pb_u_21 rfl rfl,
  fun L J st h Q a => pf_gf pb_u_21 rfl rfl,
  fun L J st h Q => pf_S pb_u_21 rfl rfl,
  fun L J st x y h Q => pf_S pb_u_21 rfl rfl,
  fun l0 l1 l2 l3 st h Q x => pf_S pb_u_21 rfl rfl,
  fun L J st x y h Q => pf_S pb_u_21 rfl rfl,
  fun L J st h Q => pf_S pb_u_21 rfl rfl,
  fun L J st x y h Q => pf_S pb_u_21 rfl rfl,
  fun L J st h Q a x => pf_pf pb_u_21 rfl rfl,
  fun l1 l2 l3 l4 st h Q x => pf_S pb_u_21 rfl rfl,
  fun l1 l2 l3 l4 st h Q => pf_S pb_u_21 rfl rfl,
  fun l0 l2 l3 l4 st h Q x => pf_S pb_u_21 rfl rfl,
  fun L J st h Q => pf_S pb_u_21 rfl rfl,
  fun L J st x y h Q => pf_S pb_u_21 rfl rfl,
  fun L J st h Q a x => pf_pf pb_u_21 rfl rfl,
  fun L J h Q => pf_rv pb_u_21 rfl rfl⟩
theorem pb_c21 (x0 : Nat) (x1 : Int32) (x2 : Int32) (h : pb_H) (Q : Option Value → pb_H → Prop) : pb_call 21 [.ref x0, .int x1, .int x2] h Q ↔ pb_R 21 0 [some (.ref x0), some (.int x1), some (.int x2), none, none] [] [] h Q := Iff.rfl
/-! 22: PlaneBench$TextReader.isSignOrWord(I)Z -/
theorem pb_u_22 : pb_t 22 = pb_t22 := rfl
set_option maxRecDepth 100000 in
theorem pb_q22_1 (L : pb_L) (J : pb_J) (st : List Value) (h : pb_H) (Q : Option Value → pb_H → Prop) (x : Int32) : pb_R 22 1 L J (.int x :: st) h Q ↔ if x = 42 then pb_R 22 100 L J st h Q else (if x = 43 then pb_R 22 100 L J st h Q else (if x = 45 then pb_R 22 100 L J st h Q else (if x = 59 then pb_R 22 100 L J st h Q else (if x = 61 then pb_R 22 100 L J st h Q else (if x = 99 then pb_R 22 100 L J st h Q else (if x = 100 then pb_R 22 100 L J st h Q else (if x = 112 then pb_R 22 100 L J st h Q else (if x = 115 then pb_R 22 100 L J st h Q else (if x = 117 then pb_R 22 100 L J st h Q else (if x = 119 then pb_R 22 100 L J st h Q else (pb_R 22 102 L J st h Q))))))))))) := by
  by_cases c42 : x = 42
  · subst c42
    rw [if_pos rfl]
    exact pf_S pb_u_22 rfl rfl
  rw [if_neg c42]
  by_cases c43 : x = 43
  · subst c43
    rw [if_pos rfl]
    exact pf_S pb_u_22 rfl rfl
  rw [if_neg c43]
  by_cases c45 : x = 45
  · subst c45
    rw [if_pos rfl]
    exact pf_S pb_u_22 rfl rfl
  rw [if_neg c45]
  by_cases c59 : x = 59
  · subst c59
    rw [if_pos rfl]
    exact pf_S pb_u_22 rfl rfl
  rw [if_neg c59]
  by_cases c61 : x = 61
  · subst c61
    rw [if_pos rfl]
    exact pf_S pb_u_22 rfl rfl
  rw [if_neg c61]
  by_cases c99 : x = 99
  · subst c99
    rw [if_pos rfl]
    exact pf_S pb_u_22 rfl rfl
  rw [if_neg c99]
  by_cases c100 : x = 100
  · subst c100
    rw [if_pos rfl]
    exact pf_S pb_u_22 rfl rfl
  rw [if_neg c100]
  by_cases c112 : x = 112
  · subst c112
    rw [if_pos rfl]
    exact pf_S pb_u_22 rfl rfl
  rw [if_neg c112]
  by_cases c115 : x = 115
  · subst c115
    rw [if_pos rfl]
    exact pf_S pb_u_22 rfl rfl
  rw [if_neg c115]
  by_cases c117 : x = 117
  · subst c117
    rw [if_pos rfl]
    exact pf_S pb_u_22 rfl rfl
  rw [if_neg c117]
  by_cases c119 : x = 119
  · subst c119
    rw [if_pos rfl]
    exact pf_S pb_u_22 rfl rfl
  rw [if_neg c119]
  have ic42 : ¬ x.toInt = 42 := pf_ni (k := 42) (fun e => c42 (e.trans rfl))
  have ic43 : ¬ x.toInt = 43 := pf_ni (k := 43) (fun e => c43 (e.trans rfl))
  have ic45 : ¬ x.toInt = 45 := pf_ni (k := 45) (fun e => c45 (e.trans rfl))
  have ic59 : ¬ x.toInt = 59 := pf_ni (k := 59) (fun e => c59 (e.trans rfl))
  have ic61 : ¬ x.toInt = 61 := pf_ni (k := 61) (fun e => c61 (e.trans rfl))
  have ic99 : ¬ x.toInt = 99 := pf_ni (k := 99) (fun e => c99 (e.trans rfl))
  have ic100 : ¬ x.toInt = 100 := pf_ni (k := 100) (fun e => c100 (e.trans rfl))
  have ic112 : ¬ x.toInt = 112 := pf_ni (k := 112) (fun e => c112 (e.trans rfl))
  have ic115 : ¬ x.toInt = 115 := pf_ni (k := 115) (fun e => c115 (e.trans rfl))
  have ic117 : ¬ x.toInt = 117 := pf_ni (k := 117) (fun e => c117 (e.trans rfl))
  have ic119 : ¬ x.toInt = 119 := pf_ni (k := 119) (fun e => c119 (e.trans rfl))
  have hoff : Op.lookupswitch.offset [(42, 99), (43, 99), (45, 99), (59, 99), (61, 99), (99, 99), (100, 99), (112, 99), (115, 99), (117, 99), (119, 99)] 101 x.toInt = 101 := by simp [Op.lookupswitch.offset_cons, Op.lookupswitch.offset_nil, Ne.symm ic42, Ne.symm ic43, Ne.symm ic45, Ne.symm ic59, Ne.symm ic61, Ne.symm ic99, Ne.symm ic100, Ne.symm ic112, Ne.symm ic115, Ne.symm ic117, Ne.symm ic119]
  exact pf_ls pb_u_22 rfl (by decide) hoff rfl
set_option maxRecDepth 100000 in
theorem pb_e22 : (∀ (st : List Value) (h : pb_H) (Q : Option Value → pb_H → Prop) (x : Int32), pb_R 22 0 [some (.int x)] [] st h Q ↔ pb_R 22 1 [some (.int x)] [] (.int x :: st) h Q) ∧
  (∀ (L : pb_L) (J : pb_J) (st : List Value) (h : pb_H) (Q : Option Value → pb_H → Prop) (x : Int32), pb_R 22 1 L J (.int x :: st) h Q ↔ if x = 42 then pb_R 22 100 L J st h Q else (if x = 43 then pb_R 22 100 L J st h Q else (if x = 45 then pb_R 22 100 L J st h Q else (if x = 59 then pb_R 22 100 L J st h Q else (if x = 61 then pb_R 22 100 L J st h Q else (if x = 99 then pb_R 22 100 L J st h Q else (if x = 100 then pb_R 22 100 L J st h Q else (if x = 112 then pb_R 22 100 L J st h Q else (if x = 115 then pb_R 22 100 L J st h Q else (if x = 117 then pb_R 22 100 L J st h Q else (if x = 119 then pb_R 22 100 L J st h Q else (pb_R 22 102 L J st h Q)))))))))))) ∧
  (∀ (L : pb_L) (J : pb_J) (st : List Value) (h : pb_H) (Q : Option Value → pb_H → Prop), pb_R 22 100 L J st h Q ↔ pb_R 22 101 L J (.int (1 : Int32) :: st) h Q) ∧
  (∀ (L : pb_L) (J : pb_J) (h : pb_H) (Q : Option Value → pb_H → Prop) (x : Int32), pb_R 22 101 L J [.int x] h Q ↔ narrow .boolean (.int x) = .int x ∧ Q (some (.int x)) h) ∧
  (∀ (L : pb_L) (J : pb_J) (st : List Value) (h : pb_H) (Q : Option Value → pb_H → Prop), pb_R 22 102 L J st h Q ↔ pb_R 22 103 L J (.int (0 : Int32) :: st) h Q) ∧
  (∀ (L : pb_L) (J : pb_J) (h : pb_H) (Q : Option Value → pb_H → Prop) (x : Int32), pb_R 22 103 L J [.int x] h Q ↔ narrow .boolean (.int x) = .int x ∧ Q (some (.int x)) h) := ⟨
  fun st h Q x => pf_S pb_u_22 rfl rfl,
  fun L J st h Q x => pb_q22_1 L J st h Q x,
  fun L J st h Q => pf_S pb_u_22 rfl rfl,
  fun L J h Q x => pf_rz pb_u_22 rfl rfl,
  fun L J st h Q => pf_S pb_u_22 rfl rfl,
  fun L J h Q x => pf_rz pb_u_22 rfl rfl⟩
theorem pb_c22 (x0 : Int32) (h : pb_H) (Q : Option Value → pb_H → Prop) : pb_call 22 [.int x0] h Q ↔ pb_R 22 0 [some (.int x0)] [] [] h Q := Iff.rfl
/-! 23: PlaneBench$TextReader.next()V -/
theorem pb_u_23 : pb_t 23 = pb_t23 := rfl
theorem pb_ci_23 : pb_ci 23 = 8 := by decide +kernel
set_option maxRecDepth 100000 in
theorem pb_e23 : (∀ (l1 : Option Value) (st : List Value) (h : pb_H) (Q : Option Value → pb_H → Prop) (x : Nat), pb_R 23 0 [some (.ref x), l1] [] st h Q ↔ pb_R 23 1 [some (.ref x), l1] [] (.ref x :: st) h Q) ∧
  (∀ (l1 : Option Value) (st : List Value) (h : pb_H) (Q : Option Value → pb_H → Prop), pb_R 23 0 [some .null, l1] [] st h Q ↔ pb_R 23 1 [some .null, l1] [] (.null :: st) h Q) ∧
  (∀ (l1 : Option Value) (st : List Value) (h : pb_H) (Q : Option Value → pb_H → Prop) (x : Nat), pb_R 23 1 [some (.ref x), l1] [] st h Q ↔ pb_R 23 2 [some (.ref x), l1] [] (.ref x :: st) h Q) ∧
  (∀ (l1 : Option Value) (st : List Value) (h : pb_H) (Q : Option Value → pb_H → Prop), pb_R 23 1 [some .null, l1] [] st h Q ↔ pb_R 23 2 [some .null, l1] [] (.null :: st) h Q) ∧
  (∀ (l1 : Option Value) (st : List Value) (h : pb_H) (Q : Option Value → pb_H → Prop) (x : Nat), pb_R 23 2 [some (.ref x), l1] [] st h Q ↔ pb_R 23 3 [some (.ref x), l1] [] (.ref x :: st) h Q) ∧
  (∀ (l1 : Option Value) (st : List Value) (h : pb_H) (Q : Option Value → pb_H → Prop), pb_R 23 2 [some .null, l1] [] st h Q ↔ pb_R 23 3 [some .null, l1] [] (.null :: st) h Q) ∧
  (∀ (L : pb_L) (J : pb_J) (st : List Value) (h : pb_H) (Q : Option Value → pb_H → Prop) (a : Nat), pb_R 23 3 L J (.ref a :: st) h Q ↔ pb_o (pb_gf (h.2 a) 8 4) (fun v => pb_R 23 6 L J (v :: st) h Q)) ∧
  (∀ (L : pb_L) (J : pb_J) (h : pb_H) (Q : Option Value → pb_H → Prop) (x0 : Int32) (x1 : Nat) (x2 : Nat), pb_R 23 6 L J [.int x0, .ref x1, .ref x2] h Q ↔ pb_is0 (h.2 x1) 8 = true ∧ pb_call 18 [.ref x1, .int x0] h (fun v t => pb_R 23 9 L J (v.toList ++ [.ref x2]) t Q)) ∧
  (∀ (L : pb_L) (J : pb_J) (st : List Value) (h : pb_H) (Q : Option Value → pb_H → Prop) (a : Nat) (x : Int32), pb_R 23 9 L J (.int x :: .ref a :: st) h Q ↔ pb_o (pb_pf (h.2 a) 8 3 (.int x)) (fun c => pb_R 23 12 L J st (pb_set h a c) Q)) ∧
  (∀ (l1 : Option Value) (st : List Value) (h : pb_H) (Q : Option Value → pb_H → Prop) (x : Nat), pb_R 23 12 [some (.ref x), l1] [] st h Q ↔ pb_R 23 13 [some (.ref x), l1] [] (.ref x :: st) h Q) ∧
  (∀ (l1 : Option Value) (st : List Value) (h : pb_H) (Q : Option Value → pb_H → Prop), pb_R 23 12 [some .null, l1] [] st h Q ↔ pb_R 23 13 [some .null, l1] [] (.null :: st) h Q) ∧
  (∀ (l1 : Option Value) (st : List Value) (h : pb_H) (Q : Option Value → pb_H → Prop) (x : Nat), pb_R 23 13 [some (.ref x), l1] [] st h Q ↔ pb_R 23 14 [some (.ref x), l1] [] (.ref x :: st) h Q) ∧
  (∀ (l1 : Option Value) (st : List Value) (h : pb_H) (Q : Option Value → pb_H → Prop), pb_R 23 13 [some .null, l1] [] st h Q ↔ pb_R 23 14 [some .null, l1] [] (.null :: st) h Q) ∧
  (∀ (L : pb_L) (J : pb_J) (st : List Value) (h : pb_H) (Q : Option Value → pb_H → Prop) (a : Nat), pb_R 23 14 L J (.ref a :: st) h Q ↔ pb_o (pb_gf (h.2 a) 8 3) (fun v => pb_R 23 17 L J (v :: st) h Q)) ∧
  (∀ (L : pb_L) (J : pb_J) (h : pb_H) (Q : Option Value → pb_H → Prop) (x0 : Int32) (x1 : Nat), pb_R 23 17 L J [.int x0, .ref x1] h Q ↔ pb_is0 (h.2 x1) 8 = true ∧ pb_call 15 [.ref x1, .int x0] h (fun v t => pb_R 23 20 L J (v.toList ++ []) t Q)) ∧
  (∀ (l0 l1 : Option Value) (st : List Value) (h : pb_H) (Q : Option Value → pb_H → Prop) (x : Int32), pb_R 23 20 [l0, l1] [] (.int x :: st) h Q ↔ pb_R 23 21 [l0, some (.int x)] [] st h Q) ∧
  (∀ (l1 : Option Value) (st : List Value) (h : pb_H) (Q : Option Value → pb_H → Prop) (x : Nat), pb_R 23 21 [some (.ref x), l1] [] st h Q ↔ pb_R 23 22 [some (.ref x), l1] [] (.ref x :: st) h Q) ∧
  (∀ (l1 : Option Value) (st : List Value) (h : pb_H) (Q : Option Value → pb_H → Prop), pb_R 23 21 [some .null, l1] [] st h Q ↔ pb_R 23 22 [some .null, l1] [] (.null :: st) h Q) ∧
  (∀ (l1 : Option Value) (st : List Value) (h : pb_H) (Q : Option Value → pb_H → Prop) (x : Nat), pb_R 23 22 [some (.ref x), l1] [] st h Q ↔ pb_R 23 23 [some (.ref x), l1] [] (.ref x :: st) h Q) ∧
  (∀ (l1 : Option Value) (st : List Value) (h : pb_H) (Q : Option Value → pb_H → Prop), pb_R 23 22 [some .null, l1] [] st h Q ↔ pb_R 23 23 [some .null, l1] [] (.null :: st) h Q) ∧
  (∀ (L : pb_L) (J : pb_J) (st : List Value) (h : pb_H) (Q : Option Value → pb_H → Prop) (a : Nat), pb_R 23 23 L J (.ref a :: st) h Q ↔ pb_o (pb_gf (h.2 a) 8 3) (fun v => pb_R 23 26 L J (v :: st) h Q)) ∧
  (∀ (L : pb_L) (J : pb_J) (st : List Value) (h : pb_H) (Q : Option Value → pb_H → Prop), pb_R 23 26 L J st h Q ↔ pb_R 23 27 L J (.int (1 : Int32) :: st) h Q) ∧
  (∀ (L : pb_L) (J : pb_J) (st : List Value) (x y : Int32) (h : pb_H) (Q : Option Value → pb_H → Prop), pb_R 23 27 L J (.int y :: .int x :: st) h Q ↔ pb_R 23 28 L J (.int (x + y) :: st) h Q) ∧
  (∀ (L : pb_L) (J : pb_J) (st : List Value) (h : pb_H) (Q : Option Value → pb_H → Prop) (a : Nat) (x : Int32), pb_R 23 28 L J (.int x :: .ref a :: st) h Q ↔ pb_o (pb_pf (h.2 a) 8 4 (.int x)) (fun c => pb_R 23 31 L J st (pb_set h a c) Q)) ∧
  (∀ (l0 : Option Value) (st : List Value) (h : pb_H) (Q : Option Value → pb_H → Prop) (x : Int32), pb_R 23 31 [l0, some (.int x)] [] st h Q ↔ pb_R 23 32 [l0, some (.int x)] [] (.int x :: st) h Q) ∧
  (∀ (L : pb_L) (J : pb_J) (st : List Value) (h : pb_H) (Q : Option Value → pb_H → Prop), pb_R 23 32 L J st h Q ↔ pb_R 23 33 L J (.int (-1 : Int32) :: st) h Q) ∧
  (∀ (L : pb_L) (J : pb_J) (st : List Value) (h : pb_H) (Q : Option Value → pb_H → Prop) (x y : Int32), pb_R 23 33 L J (.int y :: .int x :: st) h Q ↔ if ¬ x = y then pb_R 23 52 L J st h Q else pb_R 23 36 L J st h Q) ∧
  (∀ (l1 : Option Value) (st : List Value) (h : pb_H) (Q : Option Value → pb_H → Prop) (x : Nat), pb_R 23 36 [some (.ref x), l1] [] st h Q ↔ pb_R 23 37 [some (.ref x), l1] [] (.ref x :: st) h Q) ∧
  (∀ (l1 : Option Value) (st : List Value) (h : pb_H) (Q : Option Value → pb_H → Prop), pb_R 23 36 [some .null, l1] [] st h Q ↔ pb_R 23 37 [some .null, l1] [] (.null :: st) h Q) ∧
  (∀ (L : pb_L) (J : pb_J) (st : List Value) (h : pb_H) (Q : Option Value → pb_H → Prop), pb_R 23 37 L J st h Q ↔ pb_R 23 38 L J (.int (0 : Int32) :: st) h Q) ∧
  (∀ (L : pb_L) (J : pb_J) (st : List Value) (h : pb_H) (Q : Option Value → pb_H → Prop) (a : Nat) (x : Int32), pb_R 23 38 L J (.int x :: .ref a :: st) h Q ↔ pb_o (pb_pf (h.2 a) 8 2 (.int x)) (fun c => pb_R 23 41 L J st (pb_set h a c) Q)) ∧
  (∀ (l1 : Option Value) (st : List Value) (h : pb_H) (Q : Option Value → pb_H → Prop) (x : Nat), pb_R 23 41 [some (.ref x), l1] [] st h Q ↔ pb_R 23 42 [some (.ref x), l1] [] (.ref x :: st) h Q) ∧
  (∀ (l1 : Option Value) (st : List Value) (h : pb_H) (Q : Option Value → pb_H → Prop), pb_R 23 41 [some .null, l1] [] st h Q ↔ pb_R 23 42 [some .null, l1] [] (.null :: st) h Q) ∧
  (∀ (l1 : Option Value) (st : List Value) (h : pb_H) (Q : Option Value → pb_H → Prop) (x : Nat), pb_R 23 42 [some (.ref x), l1] [] st h Q ↔ pb_R 23 43 [some (.ref x), l1] [] (.ref x :: st) h Q) ∧
  (∀ (l1 : Option Value) (st : List Value) (h : pb_H) (Q : Option Value → pb_H → Prop), pb_R 23 42 [some .null, l1] [] st h Q ↔ pb_R 23 43 [some .null, l1] [] (.null :: st) h Q) ∧
  (∀ (L : pb_L) (J : pb_J) (st : List Value) (h : pb_H) (Q : Option Value → pb_H → Prop) (a : Nat), pb_R 23 43 L J (.ref a :: st) h Q ↔ pb_o (pb_gf (h.2 a) 8 3) (fun v => pb_R 23 46 L J (v :: st) h Q)) ∧
  (∀ (L : pb_L) (J : pb_J) (st : List Value) (h : pb_H) (Q : Option Value → pb_H → Prop) (a : Nat) (x : Int32), pb_R 23 46 L J (.int x :: .ref a :: st) h Q ↔ pb_o (pb_pf (h.2 a) 8 4 (.int x)) (fun c => pb_R 23 49 L J st (pb_set h a c) Q)) ∧
  (∀ (L : pb_L) (J : pb_J) (st : List Value) (h : pb_H) (Q : Option Value → pb_H → Prop), pb_R 23 49 L J st h Q ↔ pb_R 23 182 L J st h Q) ∧
  (∀ (l0 : Option Value) (st : List Value) (h : pb_H) (Q : Option Value → pb_H → Prop) (x : Int32), pb_R 23 52 [l0, some (.int x)] [] st h Q ↔ pb_R 23 53 [l0, some (.int x)] [] (.int x :: st) h Q) ∧
  (∀ (L : pb_L) (J : pb_J) (h : pb_H) (Q : Option Value → pb_H → Prop) (x0 : Int32), pb_R 23 53 L J [.int x0] h Q ↔ pb_call 19 [.int x0] h (fun v t => pb_R 23 56 L J (v.toList ++ []) t Q)) ∧
  (∀ (L : pb_L) (J : pb_J) (st : List Value) (h : pb_H) (Q : Option Value → pb_H → Prop) (x : Int32), pb_R 23 56 L J (.int x :: st) h Q ↔ if x = 0 then pb_R 23 66 L J st h Q else pb_R 23 59 L J st h Q) ∧
  (∀ (l1 : Option Value) (st : List Value) (h : pb_H) (Q : Option Value → pb_H → Prop) (x : Nat), pb_R 23 59 [some (.ref x), l1] [] st h Q ↔ pb_R 23 60 [some (.ref x), l1] [] (.ref x :: st) h Q) ∧
  (∀ (l1 : Option Value) (st : List Value) (h : pb_H) (Q : Option Value → pb_H → Prop), pb_R 23 59 [some .null, l1] [] st h Q ↔ pb_R 23 60 [some .null, l1] [] (.null :: st) h Q) ∧
  (∀ (L : pb_L) (J : pb_J) (h : pb_H) (Q : Option Value → pb_H → Prop) (x0 : Nat), pb_R 23 60 L J [.ref x0] h Q ↔ pb_is0 (h.2 x0) 8 = true ∧ pb_call 20 [.ref x0] h (fun v t => pb_R 23 63 L J (v.toList ++ []) t Q)) ∧
  (∀ (L : pb_L) (J : pb_J) (st : List Value) (h : pb_H) (Q : Option Value → pb_H → Prop), pb_R 23 63 L J st h Q ↔ pb_R 23 182 L J st h Q) ∧
  (∀ (l0 : Option Value) (st : List Value) (h : pb_H) (Q : Option Value → pb_H → Prop) (x : Int32), pb_R 23 66 [l0, some (.int x)] [] st h Q ↔ pb_R 23 67 [l0, some (.int x)] [] (.int x :: st) h Q) ∧
  (∀ (L : pb_L) (J : pb_J) (st : List Value) (h : pb_H) (Q : Option Value → pb_H → Prop), pb_R 23 67 L J st h Q ↔ pb_R 23 69 L J (.int (120 : Int32) :: st) h Q) ∧
  (∀ (L : pb_L) (J : pb_J) (st : List Value) (h : pb_H) (Q : Option Value → pb_H → Prop) (x y : Int32), pb_R 23 69 L J (.int y :: .int x :: st) h Q ↔ if ¬ x = y then pb_R 23 86 L J st h Q else pb_R 23 72 L J st h Q) ∧
  (∀ (l1 : Option Value) (st : List Value) (h : pb_H) (Q : Option Value → pb_H → Prop) (x : Nat), pb_R 23 72 [some (.ref x), l1] [] st h Q ↔ pb_R 23 73 [some (.ref x), l1] [] (.ref x :: st) h Q) ∧
  (∀ (l1 : Option Value) (st : List Value) (h : pb_H) (Q : Option Value → pb_H → Prop), pb_R 23 72 [some .null, l1] [] st h Q ↔ pb_R 23 73 [some .null, l1] [] (.null :: st) h Q) ∧
  (∀ (l1 : Option Value) (st : List Value) (h : pb_H) (Q : Option Value → pb_H → Prop) (x : Nat), pb_R 23 73 [some (.ref x), l1] [] st h Q ↔ pb_R 23 74 [some (.ref x), l1] [] (.ref x :: st) h Q) ∧
  (∀ (l1 : Option Value) (st : List Value) (h : pb_H) (Q : Option Value → pb_H → Prop), pb_R 23 73 [some .null, l1] [] st h Q ↔ pb_R 23 74 [some .null, l1] [] (.null :: st) h Q) ∧
  (∀ (L : pb_L) (J : pb_J) (st : List Value) (h : pb_H) (Q : Option Value → pb_H → Prop) (a : Nat), pb_R 23 74 L J (.ref a :: st) h Q ↔ pb_o (pb_gf (h.2 a) 8 3) (fun v => pb_R 23 77 L J (v :: st) h Q)) ∧
  (∀ (L : pb_L) (J : pb_J) (st : List Value) (h : pb_H) (Q : Option Value → pb_H → Prop), pb_R 23 77 L J st h Q ↔ pb_R 23 78 L J (.int (1 : Int32) :: st) h Q) ∧
  (∀ (L : pb_L) (J : pb_J) (st : List Value) (x y : Int32) (h : pb_H) (Q : Option Value → pb_H → Prop), pb_R 23 78 L J (.int y :: .int x :: st) h Q ↔ pb_R 23 79 L J (.int (x + y) :: st) h Q) ∧
  (∀ (L : pb_L) (J : pb_J) (st : List Value) (h : pb_H) (Q : Option Value → pb_H → Prop), pb_R 23 79 L J st h Q ↔ pb_R 23 80 L J (.int (1 : Int32) :: st) h Q) ∧
  (∀ (L : pb_L) (J : pb_J) (h : pb_H) (Q : Option Value → pb_H → Prop) (x0 : Int32) (x1 : Int32) (x2 : Nat), pb_R 23 80 L J [.int x0, .int x1, .ref x2] h Q ↔ pb_is0 (h.2 x2) 8 = true ∧ pb_call 21 [.ref x2, .int x1, .int x0] h (fun v t => pb_R 23 83 L J (v.toList ++ []) t Q)) ∧
  (∀ (L : pb_L) (J : pb_J) (st : List Value) (h : pb_H) (Q : Option Value → pb_H → Prop), pb_R 23 83 L J st h Q ↔ pb_R 23 182 L J st h Q) ∧
  (∀ (l0 : Option Value) (st : List Value) (h : pb_H) (Q : Option Value → pb_H → Prop) (x : Int32), pb_R 23 86 [l0, some (.int x)] [] st h Q ↔ pb_R 23 87 [l0, some (.int x)] [] (.int x :: st) h Q) ∧
  (∀ (L : pb_L) (J : pb_J) (st : List Value) (h : pb_H) (Q : Option Value → pb_H → Prop), pb_R 23 87 L J st h Q ↔ pb_R 23 89 L J (.int (126 : Int32) :: st) h Q) ∧
  (∀ (L : pb_L) (J : pb_J) (st : List Value) (h : pb_H) (Q : Option Value → pb_H → Prop) (x y : Int32), pb_R 23 89 L J (.int y :: .int x :: st) h Q ↔ if ¬ x = y then pb_R 23 119 L J st h Q else pb_R 23 92 L J st h Q) ∧
  (∀ (l1 : Option Value) (st : List Value) (h : pb_H) (Q : Option Value → pb_H → Prop) (x : Nat), pb_R 23 92 [some (.ref x), l1] [] st h Q ↔ pb_R 23 93 [some (.ref x), l1] [] (.ref x :: st) h Q) ∧
  (∀ (l1 : Option Value) (st : List Value) (h : pb_H) (Q : Option Value → pb_H → Prop), pb_R 23 92 [some .null, l1] [] st h Q ↔ pb_R 23 93 [some .null, l1] [] (.null :: st) h Q) ∧
  (∀ (l1 : Option Value) (st : List Value) (h : pb_H) (Q : Option Value → pb_H → Prop) (x : Nat), pb_R 23 93 [some (.ref x), l1] [] st h Q ↔ pb_R 23 94 [some (.ref x), l1] [] (.ref x :: st) h Q) ∧
  (∀ (l1 : Option Value) (st : List Value) (h : pb_H) (Q : Option Value → pb_H → Prop), pb_R 23 93 [some .null, l1] [] st h Q ↔ pb_R 23 94 [some .null, l1] [] (.null :: st) h Q) ∧
  (∀ (L : pb_L) (J : pb_J) (st : List Value) (h : pb_H) (Q : Option Value → pb_H → Prop) (a : Nat), pb_R 23 94 L J (.ref a :: st) h Q ↔ pb_o (pb_gf (h.2 a) 8 4) (fun v => pb_R 23 97 L J (v :: st) h Q)) ∧
  (∀ (L : pb_L) (J : pb_J) (h : pb_H) (Q : Option Value → pb_H → Prop) (x0 : Int32) (x1 : Nat), pb_R 23 97 L J [.int x0, .ref x1] h Q ↔ pb_is0 (h.2 x1) 8 = true ∧ pb_call 15 [.ref x1, .int x0] h (fun v t => pb_R 23 100 L J (v.toList ++ []) t Q)) ∧
  (∀ (L : pb_L) (J : pb_J) (st : List Value) (h : pb_H) (Q : Option Value → pb_H → Prop), pb_R 23 100 L J st h Q ↔ pb_R 23 102 L J (.int (120 : Int32) :: st) h Q) ∧
  (∀ (L : pb_L) (J : pb_J) (st : List Value) (h : pb_H) (Q : Option Value → pb_H → Prop) (x y : Int32), pb_R 23 102 L J (.int y :: .int x :: st) h Q ↔ if ¬ x = y then pb_R 23 119 L J st h Q else pb_R 23 105 L J st h Q) ∧
  (∀ (l1 : Option Value) (st : List Value) (h : pb_H) (Q : Option Value → pb_H → Prop) (x : Nat), pb_R 23 105 [some (.ref x), l1] [] st h Q ↔ pb_R 23 106 [some (.ref x), l1] [] (.ref x :: st) h Q) ∧
  (∀ (l1 : Option Value) (st : List Value) (h : pb_H) (Q : Option Value → pb_H → Prop), pb_R 23 105 [some .null, l1] [] st h Q ↔ pb_R 23 106 [some .null, l1] [] (.null :: st) h Q) ∧
  (∀ (l1 : Option Value) (st : List Value) (h : pb_H) (Q : Option Value → pb_H → Prop) (x : Nat), pb_R 23 106 [some (.ref x), l1] [] st h Q ↔ pb_R 23 107 [some (.ref x), l1] [] (.ref x :: st) h Q) ∧
  (∀ (l1 : Option Value) (st : List Value) (h : pb_H) (Q : Option Value → pb_H → Prop), pb_R 23 106 [some .null, l1] [] st h Q ↔ pb_R 23 107 [some .null, l1] [] (.null :: st) h Q) ∧
  (∀ (L : pb_L) (J : pb_J) (st : List Value) (h : pb_H) (Q : Option Value → pb_H → Prop) (a : Nat), pb_R 23 107 L J (.ref a :: st) h Q ↔ pb_o (pb_gf (h.2 a) 8 3) (fun v => pb_R 23 110 L J (v :: st) h Q)) ∧
  (∀ (L : pb_L) (J : pb_J) (st : List Value) (h : pb_H) (Q : Option Value → pb_H → Prop), pb_R 23 110 L J st h Q ↔ pb_R 23 111 L J (.int (2 : Int32) :: st) h Q) ∧
  (∀ (L : pb_L) (J : pb_J) (st : List Value) (x y : Int32) (h : pb_H) (Q : Option Value → pb_H → Prop), pb_R 23 111 L J (.int y :: .int x :: st) h Q ↔ pb_R 23 112 L J (.int (x + y) :: st) h Q) ∧
  (∀ (L : pb_L) (J : pb_J) (st : List Value) (h : pb_H) (Q : Option Value → pb_H → Prop), pb_R 23 112 L J st h Q ↔ pb_R 23 113 L J (.int (-1 : Int32) :: st) h Q) ∧
  (∀ (L : pb_L) (J : pb_J) (h : pb_H) (Q : Option Value → pb_H → Prop) (x0 : Int32) (x1 : Int32) (x2 : Nat), pb_R 23 113 L J [.int x0, .int x1, .ref x2] h Q ↔ pb_is0 (h.2 x2) 8 = true ∧ pb_call 21 [.ref x2, .int x1, .int x0] h (fun v t => pb_R 23 116 L J (v.toList ++ []) t Q)) ∧
  (∀ (L : pb_L) (J : pb_J) (st : List Value) (h : pb_H) (Q : Option Value → pb_H → Prop), pb_R 23 116 L J st h Q ↔ pb_R 23 182 L J st h Q) ∧
  (∀ (l0 : Option Value) (st : List Value) (h : pb_H) (Q : Option Value → pb_H → Prop) (x : Int32), pb_R 23 119 [l0, some (.int x)] [] st h Q ↔ pb_R 23 120 [l0, some (.int x)] [] (.int x :: st) h Q) ∧
  (∀ (L : pb_L) (J : pb_J) (st : List Value) (h : pb_H) (Q : Option Value → pb_H → Prop), pb_R 23 120 L J st h Q ↔ pb_R 23 122 L J (.int (62 : Int32) :: st) h Q) ∧
  (∀ (L : pb_L) (J : pb_J) (st : List Value) (h : pb_H) (Q : Option Value → pb_H → Prop) (x y : Int32), pb_R 23 122 L J (.int y :: .int x :: st) h Q ↔ if x = y then pb_R 23 131 L J st h Q else pb_R 23 125 L J st h Q) ∧
  (∀ (l0 : Option Value) (st : List Value) (h : pb_H) (Q : Option Value → pb_H → Prop) (x : Int32), pb_R 23 125 [l0, some (.int x)] [] st h Q ↔ pb_R 23 126 [l0, some (.int x)] [] (.int x :: st) h Q) ∧
  (∀ (L : pb_L) (J : pb_J) (st : List Value) (h : pb_H) (Q : Option Value → pb_H → Prop), pb_R 23 126 L J st h Q ↔ pb_R 23 128 L J (.int (60 : Int32) :: st) h Q) ∧
  (∀ (L : pb_L) (J : pb_J) (st : List Value) (h : pb_H) (Q : Option Value → pb_H → Prop) (x y : Int32), pb_R 23 128 L J (.int y :: .int x :: st) h Q ↔ if ¬ x = y then pb_R 23 166 L J st h Q else pb_R 23 131 L J st h Q) ∧
  (∀ (l1 : Option Value) (st : List Value) (h : pb_H) (Q : Option Value → pb_H → Prop) (x : Nat), pb_R 23 131 [some (.ref x), l1] [] st h Q ↔ pb_R 23 132 [some (.ref x), l1] [] (.ref x :: st) h Q) ∧
  (∀ (l1 : Option Value) (st : List Value) (h : pb_H) (Q : Option Value → pb_H → Prop), pb_R 23 131 [some .null, l1] [] st h Q ↔ pb_R 23 132 [some .null, l1] [] (.null :: st) h Q) ∧
  (∀ (l1 : Option Value) (st : List Value) (h : pb_H) (Q : Option Value → pb_H → Prop) (x : Nat), pb_R 23 132 [some (.ref x), l1] [] st h Q ↔ pb_R 23 133 [some (.ref x), l1] [] (.ref x :: st) h Q) ∧
  (∀ (l1 : Option Value) (st : List Value) (h : pb_H) (Q : Option Value → pb_H → Prop), pb_R 23 132 [some .null, l1] [] st h Q ↔ pb_R 23 133 [some .null, l1] [] (.null :: st) h Q) ∧
  (∀ (l1 : Option Value) (st : List Value) (h : pb_H) (Q : Option Value → pb_H → Prop) (x : Nat), pb_R 23 133 [some (.ref x), l1] [] st h Q ↔ pb_R 23 134 [some (.ref x), l1] [] (.ref x :: st) h Q) ∧
  (∀ (l1 : Option Value) (st : List Value) (h : pb_H) (Q : Option Value → pb_H → Prop), pb_R 23 133 [some .null, l1] [] st h Q ↔ pb_R 23 134 [some .null, l1] [] (.null :: st) h Q) ∧
  (∀ (L : pb_L) (J : pb_J) (st : List Value) (h : pb_H) (Q : Option Value → pb_H → Prop) (a : Nat), pb_R 23 134 L J (.ref a :: st) h Q ↔ pb_o (pb_gf (h.2 a) 8 4) (fun v => pb_R 23 137 L J (v :: st) h Q)) ∧
  (∀ (L : pb_L) (J : pb_J) (h : pb_H) (Q : Option Value → pb_H → Prop) (x0 : Int32) (x1 : Nat) (x2 : Nat), pb_R 23 137 L J [.int x0, .ref x1, .ref x2] h Q ↔ pb_is0 (h.2 x1) 8 = true ∧ pb_call 15 [.ref x1, .int x0] h (fun v t => pb_R 23 140 L J (v.toList ++ [.ref x2]) t Q)) ∧
  (∀ (L : pb_L) (J : pb_J) (st : List Value) (h : pb_H) (Q : Option Value → pb_H → Prop), pb_R 23 140 L J st h Q ↔ pb_R 23 142 L J (.int (61 : Int32) :: st) h Q) ∧
  (∀ (L : pb_L) (J : pb_J) (st : List Value) (h : pb_H) (Q : Option Value → pb_H → Prop) (x y : Int32), pb_R 23 142 L J (.int y :: .int x :: st) h Q ↔ if ¬ x = y then pb_R 23 149 L J st h Q else pb_R 23 145 L J st h Q) ∧
  (∀ (l0 : Option Value) (st : List Value) (h : pb_H) (Q : Option Value → pb_H → Prop) (x : Int32), pb_R 23 145 [l0, some (.int x)] [] st h Q ↔ pb_R 23 146 [l0, some (.int x)] [] (.int x :: st) h Q) ∧
  (∀ (L : pb_L) (J : pb_J) (st : List Value) (h : pb_H) (Q : Option Value → pb_H → Prop), pb_R 23 146 L J st h Q ↔ pb_R 23 150 L J st h Q) ∧
  (∀ (L : pb_L) (J : pb_J) (st : List Value) (h : pb_H) (Q : Option Value → pb_H → Prop), pb_R 23 149 L J st h Q ↔ pb_R 23 150 L J (.int (1 : Int32) :: st) h Q) ∧
  (∀ (L : pb_L) (J : pb_J) (st : List Value) (h : pb_H) (Q : Option Value → pb_H → Prop) (a : Nat) (x : Int32), pb_R 23 150 L J (.int x :: .ref a :: st) h Q ↔ pb_o (pb_pf (h.2 a) 8 2 (.int x)) (fun c => pb_R 23 153 L J st (pb_set h a c) Q)) ∧
  (∀ (l1 : Option Value) (st : List Value) (h : pb_H) (Q : Option Value → pb_H → Prop) (x : Nat), pb_R 23 153 [some (.ref x), l1] [] st h Q ↔ pb_R 23 154 [some (.ref x), l1] [] (.ref x :: st) h Q) ∧
  (∀ (l1 : Option Value) (st : List Value) (h : pb_H) (Q : Option Value → pb_H → Prop), pb_R 23 153 [some .null, l1] [] st h Q ↔ pb_R 23 154 [some .null, l1] [] (.null :: st) h Q) ∧
  (∀ (L : pb_L) (J : pb_J) (st : List Value) (x : Nat) (h : pb_H) (Q : Option Value → pb_H → Prop), pb_R 23 154 L J (.ref x :: st) h Q ↔ pb_R 23 155 L J (.ref x :: .ref x :: st) h Q) ∧
  (∀ (L : pb_L) (J : pb_J) (st : List Value) (h : pb_H) (Q : Option Value → pb_H → Prop) (a : Nat), pb_R 23 155 L J (.ref a :: st) h Q ↔ pb_o (pb_gf (h.2 a) 8 4) (fun v => pb_R 23 158 L J (v :: st) h Q)) ∧
  (∀ (L : pb_L) (J : pb_J) (st : List Value) (h : pb_H) (Q : Option Value → pb_H → Prop), pb_R 23 158 L J st h Q ↔ pb_R 23 159 L J (.int (1 : Int32) :: st) h Q) ∧
  (∀ (L : pb_L) (J : pb_J) (st : List Value) (x y : Int32) (h : pb_H) (Q : Option Value → pb_H → Prop), pb_R 23 159 L J (.int y :: .int x :: st) h Q ↔ pb_R 23 160 L J (.int (x + y) :: st) h Q) ∧
  (∀ (L : pb_L) (J : pb_J) (st : List Value) (h : pb_H) (Q : Option Value → pb_H → Prop) (a : Nat) (x : Int32), pb_R 23 160 L J (.int x :: .ref a :: st) h Q ↔ pb_o (pb_pf (h.2 a) 8 4 (.int x)) (fun c => pb_R 23 163 L J st (pb_set h a c) Q)) ∧
  (∀ (L : pb_L) (J : pb_J) (st : List Value) (h : pb_H) (Q : Option Value → pb_H → Prop), pb_R 23 163 L J st h Q ↔ pb_R 23 182 L J st h Q) ∧
  (∀ (l1 : Option Value) (st : List Value) (h : pb_H) (Q : Option Value → pb_H → Prop) (x : Nat), pb_R 23 166 [some (.ref x), l1] [] st h Q ↔ pb_R 23 167 [some (.ref x), l1] [] (.ref x :: st) h Q) ∧
  (∀ (l1 : Option Value) (st : List Value) (h : pb_H) (Q : Option Value → pb_H → Prop), pb_R 23 166 [some .null, l1] [] st h Q ↔ pb_R 23 167 [some .null, l1] [] (.null :: st) h Q) ∧
  (∀ (l0 : Option Value) (st : List Value) (h : pb_H) (Q : Option Value → pb_H → Prop) (x : Int32), pb_R 23 167 [l0, some (.int x)] [] st h Q ↔ pb_R 23 168 [l0, some (.int x)] [] (.int x :: st) h Q) ∧
  (∀ (L : pb_L) (J : pb_J) (h : pb_H) (Q : Option Value → pb_H → Prop) (x0 : Int32) (x1 : Nat), pb_R 23 168 L J [.int x0, .ref x1] h Q ↔ pb_call 22 [.int x0] h (fun v t => pb_R 23 171 L J (v.toList ++ [.ref x1]) t Q)) ∧
  (∀ (L : pb_L) (J : pb_J) (st : List Value) (h : pb_H) (Q : Option Value → pb_H → Prop) (x : Int32), pb_R 23 171 L J (.int x :: st) h Q ↔ if x = 0 then pb_R 23 178 L J st h Q else pb_R 23 174 L J st h Q) ∧
  (∀ (l0 : Option Value) (st : List Value) (h : pb_H) (Q : Option Value → pb_H → Prop) (x : Int32), pb_R 23 174 [l0, some (.int x)] [] st h Q ↔ pb_R 23 175 [l0, some (.int x)] [] (.int x :: st) h Q) ∧
  (∀ (L : pb_L) (J : pb_J) (st : List Value) (h : pb_H) (Q : Option Value → pb_H → Prop), pb_R 23 175 L J st h Q ↔ pb_R 23 179 L J st h Q) ∧
  (∀ (L : pb_L) (J : pb_J) (st : List Value) (h : pb_H) (Q : Option Value → pb_H → Prop), pb_R 23 178 L J st h Q ↔ pb_R 23 179 L J (.int (1 : Int32) :: st) h Q) ∧
  (∀ (L : pb_L) (J : pb_J) (st : List Value) (h : pb_H) (Q : Option Value → pb_H → Prop) (a : Nat) (x : Int32), pb_R 23 179 L J (.int x :: .ref a :: st) h Q ↔ pb_o (pb_pf (h.2 a) 8 2 (.int x)) (fun c => pb_R 23 182 L J st (pb_set h a c) Q)) ∧
  (∀ (L : pb_L) (J : pb_J) (h : pb_H) (Q : Option Value → pb_H → Prop), pb_R 23 182 L J [] h Q ↔ Q none h) := ⟨
  fun l1 st h Q x => pf_S pb_u_23 rfl rfl,
  fun l1 st h Q => pf_S pb_u_23 rfl rfl,
  fun l1 st h Q x => pf_S pb_u_23 rfl rfl,
  fun l1 st h Q => pf_S pb_u_23 rfl rfl,
  fun l1 st h Q x => pf_S pb_u_23 rfl rfl,
  fun l1 st h Q => pf_S pb_u_23 rfl rfl,
  fun L J st h Q a => pf_gf pb_u_23 rfl rfl,
  fun L J h Q x0 x1 x2 => pf_kv pb_u_23 rfl pb_ci_18 rfl ⟨Nat.le_of_ble_eq_true rfl, Nat.le_of_ble_eq_true rfl, Nat.le_of_ble_eq_true rfl, Nat.le_of_ble_eq_true rfl, rfl⟩ rfl rfl,
  fun L J st h Q a x => pf_pf pb_u_23 rfl rfl,
  fun l1 st h Q x => pf_S pb_u_23 rfl rfl,
  fun l1 st h Q => pf_S pb_u_23 rfl rfl,
  fun l1 st h Q x => pf_S pb_u_23 rfl rfl,
  fun l1 st h Q => pf_S pb_u_23 rfl rfl,
  fun L J st h Q a => pf_gf pb_u_23 rfl rfl,
  fun L J h Q x0 x1 => pf_kv pb_u_23 rfl pb_ci_15 rfl ⟨Nat.le_of_ble_eq_true rfl, Nat.le_of_ble_eq_true rfl, Nat.le_of_ble_eq_true rfl, Nat.le_of_ble_eq_true rfl, rfl⟩ rfl rfl,
  fun l0 l1 st h Q x => pf_S pb_u_23 rfl rfl,
  fun l1 st h Q x => pf_S pb_u_23 rfl rfl,
  fun l1 st h Q => pf_S pb_u_23 rfl rfl,
  fun l1 st h Q x => pf_S pb_u_23 rfl rfl,
  fun l1 st h Q => pf_S pb_u_23 rfl rfl,
  fun L J st h Q a => pf_gf pb_u_23 rfl rfl,
  fun L J st h Q => pf_S pb_u_23 rfl rfl,
  fun L J st x y h Q => pf_S pb_u_23 rfl rfl,
  fun L J st h Q a x => pf_pf pb_u_23 rfl rfl,
  fun l0 st h Q x => pf_S pb_u_23 rfl rfl,
  fun L J st h Q => pf_S pb_u_23 rfl rfl,
  fun L J st h Q x y => pf_ic pb_u_23 rfl rfl pf_ne,
  fun l1 st h Q x => pf_S pb_u_23 rfl rfl,
  fun l1 st h Q => pf_S pb_u_23 rfl rfl,
  fun L J st h Q => pf_S pb_u_23 rfl rfl,
  fun L J st h Q a x => pf_pf pb_u_23 rfl rfl,
  fun l1 st h Q x => pf_S pb_u_23 rfl rfl,
  fun l1 st h Q => pf_S pb_u_23 rfl rfl,
  fun l1 st h Q x => pf_S pb_u_23 rfl rfl,
  fun l1 st h Q => pf_S pb_u_23 rfl rfl,
  fun L J st h Q a => pf_gf pb_u_23 rfl rfl,
  fun L J st h Q a x => pf_pf pb_u_23 rfl rfl,
  fun L J st h Q => pf_S pb_u_23 rfl rfl,
  fun l0 st h Q x => pf_S pb_u_23 rfl rfl,
  fun L J h Q x0 => pf_ks pb_u_23 rfl rfl rfl rfl,
  fun L J st h Q x => pf_ii pb_u_23 rfl rfl rfl,
  fun l1 st h Q x => pf_S pb_u_23 rfl rfl,
  fun l1 st h Q => pf_S pb_u_23 rfl rfl,
  fun L J h Q x0 => pf_kv pb_u_23 rfl pb_ci_20 rfl ⟨Nat.le_of_ble_eq_true rfl, Nat.le_of_ble_eq_true rfl, Nat.le_of_ble_eq_true rfl, Nat.le_of_ble_eq_true rfl, rfl⟩ rfl rfl,
  fun L J st h Q => pf_S pb_u_23 rfl rfl,
  fun l0 st h Q x => pf_S pb_u_23 rfl rfl,
  fun L J st h Q => pf_S pb_u_23 rfl rfl,
  fun L J st h Q x y => pf_ic pb_u_23 rfl rfl pf_ne,
  fun l1 st h Q x => pf_S pb_u_23 rfl rfl,
  fun l1 st h Q => pf_S pb_u_23 rfl rfl,
  fun l1 st h Q x => pf_S pb_u_23 rfl rfl,
  fun l1 st h Q => pf_S pb_u_23 rfl rfl,
  fun L J st h Q a => pf_gf pb_u_23 rfl rfl,
  fun L J st h Q => pf_S pb_u_23 rfl rfl,
  fun L J st x y h Q => pf_S pb_u_23 rfl rfl,
  fun L J st h Q => pf_S pb_u_23 rfl rfl,
  fun L J h Q x0 x1 x2 => pf_kv pb_u_23 rfl pb_ci_21 rfl ⟨Nat.le_of_ble_eq_true rfl, Nat.le_of_ble_eq_true rfl, Nat.le_of_ble_eq_true rfl, Nat.le_of_ble_eq_true rfl, rfl⟩ rfl rfl,
  fun L J st h Q => pf_S pb_u_23 rfl rfl,
  fun l0 st h Q x => pf_S pb_u_23 rfl rfl,
  fun L J st h Q => pf_S pb_u_23 rfl rfl,
  fun L J st h Q x y => pf_ic pb_u_23 rfl rfl pf_ne,
  fun l1 st h Q x => pf_S pb_u_23 rfl rfl,
  fun l1 st h Q => pf_S pb_u_23 rfl rfl,
  fun l1 st h Q x => pf_S pb_u_23 rfl rfl,
  fun l1 st h Q => pf_S pb_u_23 rfl rfl,
  fun L J st h Q a => pf_gf pb_u_23 rfl rfl,
  fun L J h Q x0 x1 => pf_kv pb_u_23 rfl pb_ci_15 rfl ⟨Nat.le_of_ble_eq_true rfl, Nat.le_of_ble_eq_true rfl, Nat.le_of_ble_eq_true rfl, Nat.le_of_ble_eq_true rfl, rfl⟩ rfl rfl,
  fun L J st h Q => pf_S pb_u_23 rfl rfl,
  fun L J st h Q x y => pf_ic pb_u_23 rfl rfl pf_ne,
  fun l1 st h Q x => pf_S pb_u_23 rfl rfl,
  fun l1 st h Q => pf_S pb_u_23 rfl rfl,
  fun l1 st h Q x => pf_S pb_u_23 rfl rfl,
  fun l1 st h Q => pf_S pb_u_23 rfl rfl,
  fun L J st h Q a => pf_gf pb_u_23 rfl rfl,
  fun L J st h Q => pf_S pb_u_23 rfl rfl,
  fun L J st x y h Q => pf_S pb_u_23 rfl rfl,
  fun L J st h Q => pf_S pb_u_23 rfl rfl,
  fun L J h Q x0 x1 x2 => pf_kv pb_u_23 rfl pb_ci_21 rfl ⟨Nat.le_of_ble_eq_true rfl, Nat.le_of_ble_eq_true rfl, Nat.le_of_ble_eq_true rfl, Nat.le_of_ble_eq_true rfl, rfl⟩ rfl rfl,
  fun L J st h Q => pf_S pb_u_23 rfl rfl,
  fun l0 st h Q x => pf_S pb_u_23 rfl rfl,
  fun L J st h Q => pf_S pb_u_23 rfl rfl,
  fun L J st h Q x y => pf_ic pb_u_23 rfl rfl rfl,
  fun l0 st h Q x => pf_S pb_u_23 rfl rfl,
  fun L J st h Q => pf_S pb_u_23 rfl rfl,
  fun L J st h Q x y => pf_ic pb_u_23 rfl rfl pf_ne,
  fun l1 st h Q x => pf_S pb_u_23 rfl rfl,
  fun l1 st h Q => pf_S pb_u_23 rfl rfl,
  fun l1 st h Q x => pf_S pb_u_23 rfl rfl,
  fun l1 st h Q => pf_S pb_u_23 rfl rfl,
  fun l1 st h Q x => pf_S pb_u_23 rfl rfl,
  fun l1 st h Q => pf_S pb_u_23 rfl rfl,
  fun L J st h Q a => pf_gf pb_u_23 rfl rfl,
  fun L J h Q x0 x1 x2 => pf_kv pb_u_23 rfl pb_ci_15 rfl ⟨Nat.le_of_ble_eq_true rfl, Nat.le_of_ble_eq_true rfl, Nat.le_of_ble_eq_true rfl, Nat.le_of_ble_eq_true rfl, rfl⟩ rfl rfl,
  fun L J st h Q => pf_S pb_u_23 rfl rfl,
  fun L J st h Q x y => pf_ic pb_u_23 rfl rfl pf_ne,
  fun l0 st h Q x => pf_S pb_u_23 rfl rfl,
  fun L J st h Q => pf_S pb_u_23 rfl rfl,
  fun L J st h Q => pf_S pb_u_23 rfl rfl,
  fun L J st h Q a x => pf_pf pb_u_23 rfl rfl,
  fun l1 st h Q x => pf_S pb_u_23 rfl rfl,
  fun l1 st h Q => pf_S pb_u_23 rfl rfl,
  fun L J st x h Q => pf_S pb_u_23 rfl rfl,
  fun L J st h Q a => pf_gf pb_u_23 rfl rfl,
  fun L J st h Q => pf_S pb_u_23 rfl rfl,
  fun L J st x y h Q => pf_S pb_u_23 rfl rfl,
  fun L J st h Q a x => pf_pf pb_u_23 rfl rfl,
  fun L J st h Q => pf_S pb_u_23 rfl rfl,
  fun l1 st h Q x => pf_S pb_u_23 rfl rfl,
  fun l1 st h Q => pf_S pb_u_23 rfl rfl,
  fun l0 st h Q x => pf_S pb_u_23 rfl rfl,
  fun L J h Q x0 x1 => pf_ks pb_u_23 rfl rfl rfl rfl,
  fun L J st h Q x => pf_ii pb_u_23 rfl rfl rfl,
  fun l0 st h Q x => pf_S pb_u_23 rfl rfl,
  fun L J st h Q => pf_S pb_u_23 rfl rfl,
  fun L J st h Q => pf_S pb_u_23 rfl rfl,
  fun L J st h Q a x => pf_pf pb_u_23 rfl rfl,
  fun L J h Q => pf_rv pb_u_23 rfl rfl⟩
theorem pb_c23 (x0 : Nat) (h : pb_H) (Q : Option Value → pb_H → Prop) : pb_call 23 [.ref x0] h Q ↔ pb_R 23 0 [some (.ref x0), none] [] [] h Q := Iff.rfl
/-! 24: java/util/Arrays.fill([II)V -/
theorem pb_u_24 : pb_t 24 = pb_t24 := rfl
set_option maxRecDepth 100000 in
theorem pb_q24_5 (l0 l1 l3 : Option Value) (st : List Value) (h : pb_H) (Q : Option Value → pb_H → Prop) (x : Int32) : pb_R 24 5 [l0, l1, some (.int x), l3] [] st h Q ↔ pb_R 24 6 [l0, l1, some (.int x), l3] [] (.int x :: st) h Q := pf_S pb_u_24 rfl rfl
set_option maxRecDepth 100000 in
theorem pb_e24 : (∀ (L : pb_L) (J : pb_J) (st : List Value) (h : pb_H) (Q : Option Value → pb_H → Prop), pb_R 24 0 L J st h Q ↔ pb_R 24 1 L J (.int (0 : Int32) :: st) h Q) ∧
  (∀ (l0 l1 l2 l3 : Option Value) (st : List Value) (h : pb_H) (Q : Option Value → pb_H → Prop) (x : Int32), pb_R 24 1 [l0, l1, l2, l3] [] (.int x :: st) h Q ↔ pb_R 24 2 [l0, l1, some (.int x), l3] [] st h Q) ∧
  (∀ (l1 l2 l3 : Option Value) (st : List Value) (h : pb_H) (Q : Option Value → pb_H → Prop) (x : Nat), pb_R 24 2 [some (.ref x), l1, l2, l3] [] st h Q ↔ pb_R 24 3 [some (.ref x), l1, l2, l3] [] (.ref x :: st) h Q) ∧
  (∀ (l1 l2 l3 : Option Value) (st : List Value) (h : pb_H) (Q : Option Value → pb_H → Prop), pb_R 24 2 [some .null, l1, l2, l3] [] st h Q ↔ pb_R 24 3 [some .null, l1, l2, l3] [] (.null :: st) h Q) ∧
  (∀ (L : pb_L) (J : pb_J) (st : List Value) (h : pb_H) (Q : Option Value → pb_H → Prop) (a : Nat), pb_R 24 3 L J (.ref a :: st) h Q ↔ pb_o (pb_al2 (h.2 a)) (fun n => pb_R 24 4 L J (.int (Int32.ofNat n) :: st) h Q)) ∧
  (∀ (l0 l1 l2 l3 : Option Value) (st : List Value) (h : pb_H) (Q : Option Value → pb_H → Prop) (x : Int32), pb_R 24 4 [l0, l1, l2, l3] [] (.int x :: st) h Q ↔ pb_R 24 5 [l0, l1, l2, some (.int x)] [] st h Q) ∧
  (∀ (l0 l1 l2 : Option Value) (st : List Value) (h : pb_H) (Q : Option Value → pb_H → Prop) (x : Int32), pb_R 24 6 [l0, l1, l2, some (.int x)] [] st h Q ↔ pb_R 24 7 [l0, l1, l2, some (.int x)] [] (.int x :: st) h Q) ∧
  (∀ (L : pb_L) (J : pb_J) (st : List Value) (h : pb_H) (Q : Option Value → pb_H → Prop) (x y : Int32), pb_R 24 7 L J (.int y :: .int x :: st) h Q ↔ if y ≤ x then pb_R 24 20 L J st h Q else pb_R 24 10 L J st h Q) ∧
  (∀ (l1 l2 l3 : Option Value) (st : List Value) (h : pb_H) (Q : Option Value → pb_H → Prop) (x : Nat), pb_R 24 10 [some (.ref x), l1, l2, l3] [] st h Q ↔ pb_R 24 11 [some (.ref x), l1, l2, l3] [] (.ref x :: st) h Q) ∧
  (∀ (l1 l2 l3 : Option Value) (st : List Value) (h : pb_H) (Q : Option Value → pb_H → Prop), pb_R 24 10 [some .null, l1, l2, l3] [] st h Q ↔ pb_R 24 11 [some .null, l1, l2, l3] [] (.null :: st) h Q) ∧
  (∀ (l0 l1 l3 : Option Value) (st : List Value) (h : pb_H) (Q : Option Value → pb_H → Prop) (x : Int32), pb_R 24 11 [l0, l1, some (.int x), l3] [] st h Q ↔ pb_R 24 12 [l0, l1, some (.int x), l3] [] (.int x :: st) h Q) ∧
  (∀ (l0 l2 l3 : Option Value) (st : List Value) (h : pb_H) (Q : Option Value → pb_H → Prop) (x : Int32), pb_R 24 12 [l0, some (.int x), l2, l3] [] st h Q ↔ pb_R 24 13 [l0, some (.int x), l2, l3] [] (.int x :: st) h Q) ∧
  (∀ (L : pb_L) (J : pb_J) (st : List Value) (h : pb_H) (Q : Option Value → pb_H → Prop) (a : Nat) (i x : Int32), pb_R 24 13 L J (.int x :: .int i :: .ref a :: st) h Q ↔ pb_o (pb_si (h.2 a) i x) (fun c => pb_R 24 14 L J st (pb_set h a c) Q)) ∧
  (∀ (l0 l1 l3 : Option Value) (st : List Value) (h : pb_H) (Q : Option Value → pb_H → Prop) (x : Int32), pb_R 24 14 [l0, l1, some (.int x), l3] [] st h Q ↔ pb_R 24 17 [l0, l1, some (.int (x + (1 : Int32))), l3] [] st h Q) ∧
  (∀ (L : pb_L) (J : pb_J) (st : List Value) (h : pb_H) (Q : Option Value → pb_H → Prop), pb_R 24 17 L J st h Q ↔ pb_R 24 5 L J st h Q) ∧
  (∀ (L : pb_L) (J : pb_J) (h : pb_H) (Q : Option Value → pb_H → Prop), pb_R 24 20 L J [] h Q ↔ Q none h) := ⟨
  fun L J st h Q => pf_S pb_u_24 rfl rfl,
  fun l0 l1 l2 l3 st h Q x => pf_S pb_u_24 rfl rfl,
  fun l1 l2 l3 st h Q x => pf_S pb_u_24 rfl rfl,
  fun l1 l2 l3 st h Q => pf_S pb_u_24 rfl rfl,
  fun L J st h Q a => pf_le pb_u_24 rfl rfl,
  fun l0 l1 l2 l3 st h Q x => pf_S pb_u_24 rfl rfl,
  fun l0 l1 l2 st h Q x => pf_S pb_u_24 rfl rfl,
  fun L J st h Q x y => pf_ic pb_u_24 rfl rfl rfl,
  fun l1 l2 l3 st h Q x => pf_S pb_u_24 rfl rfl,
  fun l1 l2 l3 st h Q => pf_S pb_u_24 rfl rfl,
  fun l0 l1 l3 st h Q x => pf_S pb_u_24 rfl rfl,
  fun l0 l2 l3 st h Q x => pf_S pb_u_24 rfl rfl,
  fun L J st h Q a i x => pf_si pb_u_24 rfl rfl,
  fun l0 l1 l3 st h Q x => pf_S pb_u_24 rfl rfl,
  fun L J st h Q => pf_S pb_u_24 rfl rfl,
  fun L J h Q => pf_rv pb_u_24 rfl rfl⟩
theorem pb_c24 (x0 : Nat) (x1 : Int32) (h : pb_H) (Q : Option Value → pb_H → Prop) : pb_call 24 [.ref x0, .int x1] h Q ↔ pb_R 24 0 [some (.ref x0), some (.int x1), none, none] [] [] h Q := Iff.rfl
/-! 25: PlaneBench$Wide.appendDigit([II)V -/
theorem pb_u_25 : pb_t 25 = pb_t25 := rfl
set_option maxRecDepth 100000 in
theorem pb_q25_6 (l0 l1 l2 l3 : Option Value) (j0 j1 j2 j3 j4 : Option Int64) (st : List Value) (h : pb_H) (Q : Option Value → pb_H → Prop) (x : Int32) : pb_R 25 6 [l0, l1, l2, l3, some (.int x)] [j0, j1, j2, j3, j4] st h Q ↔ pb_R 25 8 [l0, l1, l2, l3, some (.int x)] [j0, j1, j2, j3, j4] (.int x :: st) h Q := pf_S pb_u_25 rfl rfl
set_option maxRecDepth 100000 in
theorem pb_e25 : (∀ (l0 l2 l3 l4 : Option Value) (j0 j1 j2 j3 j4 : Option Int64) (st : List Value) (h : pb_H) (Q : Option Value → pb_H → Prop) (x : Int32), pb_R 25 0 [l0, some (.int x), l2, l3, l4] [j0, j1, j2, j3, j4] st h Q ↔ pb_R 25 1 [l0, some (.int x), l2, l3, l4] [j0, j1, j2, j3, j4] (.int x :: st) h Q) ∧
  (∀ (L : pb_L) (J : pb_J) (st : List Value) (x : Int32) (h : pb_H) (Q : Option Value → pb_H → Prop), pb_R 25 1 L J (.int x :: st) h Q ↔ pb_R 25 2 L J (.long x.toInt64 :: st) h Q) ∧
  (∀ (l0 l1 l2 l3 l4 : Option Value) (j0 j1 j2 j3 j4 : Option Int64) (st : List Value) (h : pb_H) (Q : Option Value → pb_H → Prop) (x : Int64), pb_R 25 2 [l0, l1, l2, l3, l4] [j0, j1, j2, j3, j4] (.long x :: st) h Q ↔ pb_R 25 3 [l0, l1, none, none, l4] [j0, none, some x, none, j4] st h Q) ∧
  (∀ (L : pb_L) (J : pb_J) (st : List Value) (h : pb_H) (Q : Option Value → pb_H → Prop), pb_R 25 3 L J st h Q ↔ pb_R 25 4 L J (.int (0 : Int32) :: st) h Q) ∧
  (∀ (l0 l1 l2 l3 l4 : Option Value) (j0 j1 j2 j3 j4 : Option Int64) (st : List Value) (h : pb_H) (Q : Option Value → pb_H → Prop) (x : Int32), pb_R 25 4 [l0, l1, l2, l3, l4] [j0, j1, j2, j3, j4] (.int x :: st) h Q ↔ pb_R 25 6 [l0, l1, l2, l3, some (.int x)] [j0, j1, j2, none, none] st h Q) ∧
  (∀ (L : pb_L) (J : pb_J) (st : List Value) (h : pb_H) (Q : Option Value → pb_H → Prop), pb_R 25 8 L J st h Q ↔ pb_R 25 10 L J (.int (8 : Int32) :: st) h Q) ∧
  (∀ (L : pb_L) (J : pb_J) (st : List Value) (h : pb_H) (Q : Option Value → pb_H → Prop) (x y : Int32), pb_R 25 10 L J (.int y :: .int x :: st) h Q ↔ if y ≤ x then pb_R 25 46 L J st h Q else pb_R 25 13 L J st h Q) ∧
  (∀ (l0 l1 l2 l3 l4 : Option Value) (j0 j1 j3 j4 : Option Int64) (st : List Value) (h : pb_H) (Q : Option Value → pb_H → Prop) (x : Int64), pb_R 25 13 [l0, l1, l2, l3, l4] [j0, j1, some x, j3, j4] st h Q ↔ pb_R 25 14 [l0, l1, l2, l3, l4] [j0, j1, some x, j3, j4] (.long x :: st) h Q) ∧
  (∀ (l1 l2 l3 l4 : Option Value) (j0 j1 j2 j3 j4 : Option Int64) (st : List Value) (h : pb_H) (Q : Option Value → pb_H → Prop) (x : Nat), pb_R 25 14 [some (.ref x), l1, l2, l3, l4] [j0, j1, j2, j3, j4] st h Q ↔ pb_R 25 15 [some (.ref x), l1, l2, l3, l4] [j0, j1, j2, j3, j4] (.ref x :: st) h Q) ∧
  (∀ (l1 l2 l3 l4 : Option Value) (j0 j1 j2 j3 j4 : Option Int64) (st : List Value) (h : pb_H) (Q : Option Value → pb_H → Prop), pb_R 25 14 [some .null, l1, l2, l3, l4] [j0, j1, j2, j3, j4] st h Q ↔ pb_R 25 15 [some .null, l1, l2, l3, l4] [j0, j1, j2, j3, j4] (.null :: st) h Q) ∧
  (∀ (l0 l1 l2 l3 : Option Value) (j0 j1 j2 j3 j4 : Option Int64) (st : List Value) (h : pb_H) (Q : Option Value → pb_H → Prop) (x : Int32), pb_R 25 15 [l0, l1, l2, l3, some (.int x)] [j0, j1, j2, j3, j4] st h Q ↔ pb_R 25 17 [l0, l1, l2, l3, some (.int x)] [j0, j1, j2, j3, j4] (.int x :: st) h Q) ∧
  (∀ (L : pb_L) (J : pb_J) (st : List Value) (h : pb_H) (Q : Option Value → pb_H → Prop) (a : Nat) (i : Int32), pb_R 25 17 L J (.int i :: .ref a :: st) h Q ↔ pb_o (pb_ai (h.2 a) i) (fun v => pb_R 25 18 L J (.int v :: st) h Q)) ∧
  (∀ (L : pb_L) (J : pb_J) (st : List Value) (x : Int32) (h : pb_H) (Q : Option Value → pb_H → Prop), pb_R 25 18 L J (.int x :: st) h Q ↔ pb_R 25 19 L J (.long x.toInt64 :: st) h Q) ∧
  (∀ (L : pb_L) (J : pb_J) (st : List Value) (h : pb_H) (Q : Option Value → pb_H → Prop), pb_R 25 19 L J st h Q ↔ pb_R 25 22 L J (.long (4294967295 : Int64) :: st) h Q) ∧
  (∀ (L : pb_L) (J : pb_J) (st : List Value) (x y : Int64) (h : pb_H) (Q : Option Value → pb_H → Prop), pb_R 25 22 L J (.long y :: .long x :: st) h Q ↔ pb_R 25 23 L J (.long (x &&& y) :: st) h Q) ∧
  (∀ (L : pb_L) (J : pb_J) (st : List Value) (h : pb_H) (Q : Option Value → pb_H → Prop), pb_R 25 23 L J st h Q ↔ pb_R 25 26 L J (.long (10 : Int64) :: st) h Q) ∧
  (∀ (L : pb_L) (J : pb_J) (st : List Value) (x y : Int64) (h : pb_H) (Q : Option Value → pb_H → Prop), pb_R 25 26 L J (.long y :: .long x :: st) h Q ↔ pb_R 25 27 L J (.long (x * y) :: st) h Q) ∧
  (∀ (L : pb_L) (J : pb_J) (st : List Value) (x y : Int64) (h : pb_H) (Q : Option Value → pb_H → Prop), pb_R 25 27 L J (.long y :: .long x :: st) h Q ↔ pb_R 25 28 L J (.long (x + y) :: st) h Q) ∧
  (∀ (l0 l1 l2 l3 l4 : Option Value) (j0 j1 j2 j3 j4 : Option Int64) (st : List Value) (h : pb_H) (Q : Option Value → pb_H → Prop) (x : Int64), pb_R 25 28 [l0, l1, l2, l3, l4] [j0, j1, j2, j3, j4] (.long x :: st) h Q ↔ pb_R 25 29 [l0, l1, none, none, l4] [j0, none, some x, none, j4] st h Q) ∧
  (∀ (l1 l2 l3 l4 : Option Value) (j0 j1 j2 j3 j4 : Option Int64) (st : List Value) (h : pb_H) (Q : Option Value → pb_H → Prop) (x : Nat), pb_R 25 29 [some (.ref x), l1, l2, l3, l4] [j0, j1, j2, j3, j4] st h Q ↔ pb_R 25 30 [some (.ref x), l1, l2, l3, l4] [j0, j1, j2, j3, j4] (.ref x :: st) h Q) ∧
  (∀ (l1 l2 l3 l4 : Option Value) (j0 j1 j2 j3 j4 : Option Int64) (st : List Value) (h : pb_H) (Q : Option Value → pb_H → Prop), pb_R 25 29 [some .null, l1, l2, l3, l4] [j0, j1, j2, j3, j4] st h Q ↔ pb_R 25 30 [some .null, l1, l2, l3, l4] [j0, j1, j2, j3, j4] (.null :: st) h Q) ∧
  (∀ (l0 l1 l2 l3 : Option Value) (j0 j1 j2 j3 j4 : Option Int64) (st : List Value) (h : pb_H) (Q : Option Value → pb_H → Prop) (x : Int32), pb_R 25 30 [l0, l1, l2, l3, some (.int x)] [j0, j1, j2, j3, j4] st h Q ↔ pb_R 25 32 [l0, l1, l2, l3, some (.int x)] [j0, j1, j2, j3, j4] (.int x :: st) h Q) ∧
  (∀ (l0 l1 l2 l3 l4 : Option Value) (j0 j1 j3 j4 : Option Int64) (st : List Value) (h : pb_H) (Q : Option Value → pb_H → Prop) (x : Int64), pb_R 25 32 [l0, l1, l2, l3, l4] [j0, j1, some x, j3, j4] st h Q ↔ pb_R 25 33 [l0, l1, l2, l3, l4] [j0, j1, some x, j3, j4] (.long x :: st) h Q) ∧
  (∀ (L : pb_L) (J : pb_J) (st : List Value) (x : Int64) (h : pb_H) (Q : Option Value → pb_H → Prop), pb_R 25 33 L J (.long x :: st) h Q ↔ pb_R 25 34 L J (.int x.toInt32 :: st) h Q) ∧
  (∀ (L : pb_L) (J : pb_J) (st : List Value) (h : pb_H) (Q : Option Value → pb_H → Prop) (a : Nat) (i x : Int32), pb_R 25 34 L J (.int x :: .int i :: .ref a :: st) h Q ↔ pb_o (pb_si (h.2 a) i x) (fun c => pb_R 25 35 L J st (pb_set h a c) Q)) ∧
  (∀ (l0 l1 l2 l3 l4 : Option Value) (j0 j1 j3 j4 : Option Int64) (st : List Value) (h : pb_H) (Q : Option Value → pb_H → Prop) (x : Int64), pb_R 25 35 [l0, l1, l2, l3, l4] [j0, j1, some x, j3, j4] st h Q ↔ pb_R 25 36 [l0, l1, l2, l3, l4] [j0, j1, some x, j3, j4] (.long x :: st) h Q) ∧
  (∀ (L : pb_L) (J : pb_J) (st : List Value) (h : pb_H) (Q : Option Value → pb_H → Prop), pb_R 25 36 L J st h Q ↔ pb_R 25 38 L J (.int (32 : Int32) :: st) h Q) ∧
  (∀ (L : pb_L) (J : pb_J) (st : List Value) (x : Int64) (y : Int32) (h : pb_H) (Q : Option Value → pb_H → Prop), pb_R 25 38 L J (.int y :: .long x :: st) h Q ↔ pb_R 25 39 L J (.long (x.toUInt64 >>> (y.toInt64.toUInt64 &&& Int64.toUInt64 63)).toInt64 :: st) h Q) ∧
  (∀ (l0 l1 l2 l3 l4 : Option Value) (j0 j1 j2 j3 j4 : Option Int64) (st : List Value) (h : pb_H) (Q : Option Value → pb_H → Prop) (x : Int64), pb_R 25 39 [l0, l1, l2, l3, l4] [j0, j1, j2, j3, j4] (.long x :: st) h Q ↔ pb_R 25 40 [l0, l1, none, none, l4] [j0, none, some x, none, j4] st h Q) ∧
  (∀ (l0 l1 l2 l3 : Option Value) (j0 j1 j2 j3 j4 : Option Int64) (st : List Value) (h : pb_H) (Q : Option Value → pb_H → Prop) (x : Int32), pb_R 25 40 [l0, l1, l2, l3, some (.int x)] [j0, j1, j2, j3, j4] st h Q ↔ pb_R 25 43 [l0, l1, l2, l3, some (.int (x + (1 : Int32)))] [j0, j1, j2, none, none] st h Q) ∧
  (∀ (L : pb_L) (J : pb_J) (st : List Value) (h : pb_H) (Q : Option Value → pb_H → Prop), pb_R 25 43 L J st h Q ↔ pb_R 25 6 L J st h Q) ∧
  (∀ (L : pb_L) (J : pb_J) (h : pb_H) (Q : Option Value → pb_H → Prop), pb_R 25 46 L J [] h Q ↔ Q none h) := ⟨
  fun l0 l2 l3 l4 j0 j1 j2 j3 j4 st h Q x => pf_S pb_u_25 rfl rfl,
  fun L J st x h Q => pf_S pb_u_25 rfl rfl,
  fun l0 l1 l2 l3 l4 j0 j1 j2 j3 j4 st h Q x => pf_S pb_u_25 rfl rfl,
  fun L J st h Q => pf_S pb_u_25 rfl rfl,
  fun l0 l1 l2 l3 l4 j0 j1 j2 j3 j4 st h Q x => pf_S pb_u_25 rfl rfl,
  fun L J st h Q => pf_S pb_u_25 rfl rfl,
  fun L J st h Q x y => pf_ic pb_u_25 rfl rfl rfl,
  fun l0 l1 l2 l3 l4 j0 j1 j3 j4 st h Q x => pf_S pb_u_25 rfl rfl,
  fun l1 l2 l3 l4 j0 j1 j2 j3 j4 st h Q x => pf_S pb_u_25 rfl rfl,
  fun l1 l2 l3 l4 j0 j1 j2 j3 j4 st h Q => pf_S pb_u_25 rfl rfl,
  fun l0 l1 l2 l3 j0 j1 j2 j3 j4 st h Q x => pf_S pb_u_25 rfl rfl,
  fun L J st h Q a i => pf_ai pb_u_25 rfl rfl,
  fun L J st x h Q => pf_S pb_u_25 rfl rfl,
  fun L J st h Q => pf_S pb_u_25 rfl rfl,
  fun L J st x y h Q => pf_S pb_u_25 rfl rfl,
  fun L J st h Q => pf_S pb_u_25 rfl rfl,
  fun L J st x y h Q => pf_S pb_u_25 rfl rfl,
  fun L J st x y h Q => pf_S pb_u_25 rfl rfl,
  fun l0 l1 l2 l3 l4 j0 j1 j2 j3 j4 st h Q x => pf_S pb_u_25 rfl rfl,
  fun l1 l2 l3 l4 j0 j1 j2 j3 j4 st h Q x => pf_S pb_u_25 rfl rfl,
  fun l1 l2 l3 l4 j0 j1 j2 j3 j4 st h Q => pf_S pb_u_25 rfl rfl,
  fun l0 l1 l2 l3 j0 j1 j2 j3 j4 st h Q x => pf_S pb_u_25 rfl rfl,
  fun l0 l1 l2 l3 l4 j0 j1 j3 j4 st h Q x => pf_S pb_u_25 rfl rfl,
  fun L J st x h Q => pf_S pb_u_25 rfl rfl,
  fun L J st h Q a i x => pf_si pb_u_25 rfl rfl,
  fun l0 l1 l2 l3 l4 j0 j1 j3 j4 st h Q x => pf_S pb_u_25 rfl rfl,
  fun L J st h Q => pf_S pb_u_25 rfl rfl,
  fun L J st x y h Q => pf_S pb_u_25 rfl rfl,
  fun l0 l1 l2 l3 l4 j0 j1 j2 j3 j4 st h Q x => pf_S pb_u_25 rfl rfl,
  fun l0 l1 l2 l3 j0 j1 j2 j3 j4 st h Q x => pf_S pb_u_25 rfl rfl,
  fun L J st h Q => pf_S pb_u_25 rfl rfl,
  fun L J h Q => pf_rv pb_u_25 rfl rfl⟩
theorem pb_c25 (x0 : Nat) (x1 : Int32) (h : pb_H) (Q : Option Value → pb_H → Prop) : pb_call 25 [.ref x0, .int x1] h Q ↔ pb_R 25 0 [some (.ref x0), some (.int x1), none, none, none] [none, none, none, none, none] [] h Q := Iff.rfl
/-! 26: PlaneBench$TextReader.readNumber([I)V -/
theorem pb_u_26 : pb_t 26 = pb_t26 := rfl
theorem pb_ci_26 : pb_ci 26 = 8 := by decide +kernel
set_option maxRecDepth 100000 in
theorem pb_q26_10 (l0 l1 : Option Value) (st : List Value) (h : pb_H) (Q : Option Value → pb_H → Prop) (x : Int32) : pb_R 26 10 [l0, l1, some (.int x)] [] st h Q ↔ pb_R 26 11 [l0, l1, some (.int x)] [] (.int x :: st) h Q := pf_S pb_u_26 rfl rfl
set_option maxRecDepth 100000 in
theorem pb_e26 : (∀ (l0 l2 : Option Value) (st : List Value) (h : pb_H) (Q : Option Value → pb_H → Prop) (x : Nat), pb_R 26 0 [l0, some (.ref x), l2] [] st h Q ↔ pb_R 26 1 [l0, some (.ref x), l2] [] (.ref x :: st) h Q) ∧
  (∀ (l0 l2 : Option Value) (st : List Value) (h : pb_H) (Q : Option Value → pb_H → Prop), pb_R 26 0 [l0, some .null, l2] [] st h Q ↔ pb_R 26 1 [l0, some .null, l2] [] (.null :: st) h Q) ∧
  (∀ (L : pb_L) (J : pb_J) (st : List Value) (h : pb_H) (Q : Option Value → pb_H → Prop), pb_R 26 1 L J st h Q ↔ pb_R 26 2 L J (.int (0 : Int32) :: st) h Q) ∧
  (∀ (L : pb_L) (J : pb_J) (h : pb_H) (Q : Option Value → pb_H → Prop) (x0 : Int32) (x1 : Nat), pb_R 26 2 L J [.int x0, .ref x1] h Q ↔ pb_call 24 [.ref x1, .int x0] h (fun v t => pb_R 26 5 L J (v.toList ++ []) t Q)) ∧
  (∀ (l1 l2 : Option Value) (st : List Value) (h : pb_H) (Q : Option Value → pb_H → Prop) (x : Nat), pb_R 26 5 [some (.ref x), l1, l2] [] st h Q ↔ pb_R 26 6 [some (.ref x), l1, l2] [] (.ref x :: st) h Q) ∧
  (∀ (l1 l2 : Option Value) (st : List Value) (h : pb_H) (Q : Option Value → pb_H → Prop), pb_R 26 5 [some .null, l1, l2] [] st h Q ↔ pb_R 26 6 [some .null, l1, l2] [] (.null :: st) h Q) ∧
  (∀ (L : pb_L) (J : pb_J) (st : List Value) (h : pb_H) (Q : Option Value → pb_H → Prop) (a : Nat), pb_R 26 6 L J (.ref a :: st) h Q ↔ pb_o (pb_gf (h.2 a) 8 3) (fun v => pb_R 26 9 L J (v :: st) h Q)) ∧
  (∀ (l0 l1 l2 : Option Value) (st : List Value) (h : pb_H) (Q : Option Value → pb_H → Prop) (x : Int32), pb_R 26 9 [l0, l1, l2] [] (.int x :: st) h Q ↔ pb_R 26 10 [l0, l1, some (.int x)] [] st h Q) ∧
  (∀ (l1 l2 : Option Value) (st : List Value) (h : pb_H) (Q : Option Value → pb_H → Prop) (x : Nat), pb_R 26 11 [some (.ref x), l1, l2] [] st h Q ↔ pb_R 26 12 [some (.ref x), l1, l2] [] (.ref x :: st) h Q) ∧
  (∀ (l1 l2 : Option Value) (st : List Value) (h : pb_H) (Q : Option Value → pb_H → Prop), pb_R 26 11 [some .null, l1, l2] [] st h Q ↔ pb_R 26 12 [some .null, l1, l2] [] (.null :: st) h Q) ∧
  (∀ (L : pb_L) (J : pb_J) (st : List Value) (h : pb_H) (Q : Option Value → pb_H → Prop) (a : Nat), pb_R 26 12 L J (.ref a :: st) h Q ↔ pb_o (pb_gf (h.2 a) 8 4) (fun v => pb_R 26 15 L J (v :: st) h Q)) ∧
  (∀ (L : pb_L) (J : pb_J) (st : List Value) (h : pb_H) (Q : Option Value → pb_H → Prop) (x y : Int32), pb_R 26 15 L J (.int y :: .int x :: st) h Q ↔ if y ≤ x then pb_R 26 36 L J st h Q else pb_R 26 18 L J st h Q) ∧
  (∀ (l0 l2 : Option Value) (st : List Value) (h : pb_H) (Q : Option Value → pb_H → Prop) (x : Nat), pb_R 26 18 [l0, some (.ref x), l2] [] st h Q ↔ pb_R 26 19 [l0, some (.ref x), l2] [] (.ref x :: st) h Q) ∧
  (∀ (l0 l2 : Option Value) (st : List Value) (h : pb_H) (Q : Option Value → pb_H → Prop), pb_R 26 18 [l0, some .null, l2] [] st h Q ↔ pb_R 26 19 [l0, some .null, l2] [] (.null :: st) h Q) ∧
  (∀ (l1 l2 : Option Value) (st : List Value) (h : pb_H) (Q : Option Value → pb_H → Prop) (x : Nat), pb_R 26 19 [some (.ref x), l1, l2] [] st h Q ↔ pb_R 26 20 [some (.ref x), l1, l2] [] (.ref x :: st) h Q) ∧
  (∀ (l1 l2 : Option Value) (st : List Value) (h : pb_H) (Q : Option Value → pb_H → Prop), pb_R 26 19 [some .null, l1, l2] [] st h Q ↔ pb_R 26 20 [some .null, l1, l2] [] (.null :: st) h Q) ∧
  (∀ (l0 l1 : Option Value) (st : List Value) (h : pb_H) (Q : Option Value → pb_H → Prop) (x : Int32), pb_R 26 20 [l0, l1, some (.int x)] [] st h Q ↔ pb_R 26 21 [l0, l1, some (.int x)] [] (.int x :: st) h Q) ∧
  (∀ (L : pb_L) (J : pb_J) (h : pb_H) (Q : Option Value → pb_H → Prop) (x0 : Int32) (x1 : Nat) (x2 : Nat), pb_R 26 21 L J [.int x0, .ref x1, .ref x2] h Q ↔ pb_is0 (h.2 x1) 8 = true ∧ pb_call 15 [.ref x1, .int x0] h (fun v t => pb_R 26 24 L J (v.toList ++ [.ref x2]) t Q)) ∧
  (∀ (L : pb_L) (J : pb_J) (st : List Value) (h : pb_H) (Q : Option Value → pb_H → Prop), pb_R 26 24 L J st h Q ↔ pb_R 26 26 L J (.int (48 : Int32) :: st) h Q) ∧
  (∀ (L : pb_L) (J : pb_J) (st : List Value) (x y : Int32) (h : pb_H) (Q : Option Value → pb_H → Prop), pb_R 26 26 L J (.int y :: .int x :: st) h Q ↔ pb_R 26 27 L J (.int (x - y) :: st) h Q) ∧
  (∀ (L : pb_L) (J : pb_J) (h : pb_H) (Q : Option Value → pb_H → Prop) (x0 : Int32) (x1 : Nat), pb_R 26 27 L J [.int x0, .ref x1] h Q ↔ pb_call 25 [.ref x1, .int x0] h (fun v t => pb_R 26 30 L J (v.toList ++ []) t Q)) ∧
  (∀ (l0 l1 : Option Value) (st : List Value) (h : pb_H) (Q : Option Value → pb_H → Prop) (x : Int32), pb_R 26 30 [l0, l1, some (.int x)] [] st h Q ↔ pb_R 26 33 [l0, l1, some (.int (x + (1 : Int32)))] [] st h Q) ∧
  (∀ (L : pb_L) (J : pb_J) (st : List Value) (h : pb_H) (Q : Option Value → pb_H → Prop), pb_R 26 33 L J st h Q ↔ pb_R 26 10 L J st h Q) ∧
  (∀ (L : pb_L) (J : pb_J) (h : pb_H) (Q : Option Value → pb_H → Prop), pb_R 26 36 L J [] h Q ↔ Q none h) := ⟨
  fun l0 l2 st h Q x => pf_S pb_u_26 rfl rfl,
  fun l0 l2 st h Q => pf_S pb_u_26 rfl rfl,
  fun L J st h Q => pf_S pb_u_26 rfl rfl,
  fun L J h Q x0 x1 => pf_ks pb_u_26 rfl rfl rfl rfl,
  fun l1 l2 st h Q x => pf_S pb_u_26 rfl rfl,
  fun l1 l2 st h Q => pf_S pb_u_26 rfl rfl,
  fun L J st h Q a => pf_gf pb_u_26 rfl rfl,
  fun l0 l1 l2 st h Q x => pf_S pb_u_26 rfl rfl,
  fun l1 l2 st h Q x => pf_S pb_u_26 rfl rfl,
  fun l1 l2 st h Q => pf_S pb_u_26 rfl rfl,
  fun L J st h Q a => pf_gf pb_u_26 rfl rfl,
  fun L J st h Q x y => pf_ic pb_u_26 rfl rfl rfl,
  fun l0 l2 st h Q x => pf_S pb_u_26 rfl rfl,
  fun l0 l2 st h Q => pf_S pb_u_26 rfl rfl,
  fun l1 l2 st h Q x => pf_S pb_u_26 rfl rfl,
  fun l1 l2 st h Q => pf_S pb_u_26 rfl rfl,
  fun l0 l1 st h Q x => pf_S pb_u_26 rfl rfl,
  fun L J h Q x0 x1 x2 => pf_kv pb_u_26 rfl pb_ci_15 rfl ⟨Nat.le_of_ble_eq_true rfl, Nat.le_of_ble_eq_true rfl, Nat.le_of_ble_eq_true rfl, Nat.le_of_ble_eq_true rfl, rfl⟩ rfl rfl,
  fun L J st h Q => pf_S pb_u_26 rfl rfl,
  fun L J st x y h Q => pf_S pb_u_26 rfl rfl,
  fun L J h Q x0 x1 => pf_ks pb_u_26 rfl rfl rfl rfl,
  fun l0 l1 st h Q x => pf_S pb_u_26 rfl rfl,
  fun L J st h Q => pf_S pb_u_26 rfl rfl,
  fun L J h Q => pf_rv pb_u_26 rfl rfl⟩
theorem pb_c26 (x0 : Nat) (x1 : Nat) (h : pb_H) (Q : Option Value → pb_H → Prop) : pb_call 26 [.ref x0, .ref x1] h Q ↔ pb_R 26 0 [some (.ref x0), some (.ref x1), none] [] [] h Q := Iff.rfl
/-! 27: PlaneBench$TextReader.refuse(II)Z -/
theorem pb_u_27 : pb_t 27 = pb_t27 := rfl
theorem pb_ci_27 : pb_ci 27 = 8 := by decide +kernel
set_option maxRecDepth 100000 in
theorem pb_e27 : (∀ (l1 l2 : Option Value) (st : List Value) (h : pb_H) (Q : Option Value → pb_H → Prop) (x : Nat), pb_R 27 0 [some (.ref x), l1, l2] [] st h Q ↔ pb_R 27 1 [some (.ref x), l1, l2] [] (.ref x :: st) h Q) ∧
  (∀ (l1 l2 : Option Value) (st : List Value) (h : pb_H) (Q : Option Value → pb_H → Prop), pb_R 27 0 [some .null, l1, l2] [] st h Q ↔ pb_R 27 1 [some .null, l1, l2] [] (.null :: st) h Q) ∧
  (∀ (l0 l2 : Option Value) (st : List Value) (h : pb_H) (Q : Option Value → pb_H → Prop) (x : Int32), pb_R 27 1 [l0, some (.int x), l2] [] st h Q ↔ pb_R 27 2 [l0, some (.int x), l2] [] (.int x :: st) h Q) ∧
  (∀ (L : pb_L) (J : pb_J) (st : List Value) (h : pb_H) (Q : Option Value → pb_H → Prop) (a : Nat) (x : Int32), pb_R 27 2 L J (.int x :: .ref a :: st) h Q ↔ pb_o (pb_pf (h.2 a) 8 7 (.int x)) (fun c => pb_R 27 5 L J st (pb_set h a c) Q)) ∧
  (∀ (l1 l2 : Option Value) (st : List Value) (h : pb_H) (Q : Option Value → pb_H → Prop) (x : Nat), pb_R 27 5 [some (.ref x), l1, l2] [] st h Q ↔ pb_R 27 6 [some (.ref x), l1, l2] [] (.ref x :: st) h Q) ∧
  (∀ (l1 l2 : Option Value) (st : List Value) (h : pb_H) (Q : Option Value → pb_H → Prop), pb_R 27 5 [some .null, l1, l2] [] st h Q ↔ pb_R 27 6 [some .null, l1, l2] [] (.null :: st) h Q) ∧
  (∀ (l0 l1 : Option Value) (st : List Value) (h : pb_H) (Q : Option Value → pb_H → Prop) (x : Int32), pb_R 27 6 [l0, l1, some (.int x)] [] st h Q ↔ pb_R 27 7 [l0, l1, some (.int x)] [] (.int x :: st) h Q) ∧
  (∀ (L : pb_L) (J : pb_J) (st : List Value) (h : pb_H) (Q : Option Value → pb_H → Prop) (a : Nat) (x : Int32), pb_R 27 7 L J (.int x :: .ref a :: st) h Q ↔ pb_o (pb_pf (h.2 a) 8 8 (.int x)) (fun c => pb_R 27 10 L J st (pb_set h a c) Q)) ∧
  (∀ (L : pb_L) (J : pb_J) (st : List Value) (h : pb_H) (Q : Option Value → pb_H → Prop), pb_R 27 10 L J st h Q ↔ pb_R 27 11 L J (.int (0 : Int32) :: st) h Q) ∧
  (∀ (L : pb_L) (J : pb_J) (h : pb_H) (Q : Option Value → pb_H → Prop) (x : Int32), pb_R 27 11 L J [.int x] h Q ↔ narrow .boolean (.int x) = .int x ∧ Q (some (.int x)) h) := ⟨
  fun l1 l2 st h Q x => pf_S pb_u_27 rfl rfl,
  fun l1 l2 st h Q => pf_S pb_u_27 rfl rfl,
  fun l0 l2 st h Q x => pf_S pb_u_27 rfl rfl,
  fun L J st h Q a x => pf_pf pb_u_27 rfl rfl,
  fun l1 l2 st h Q x => pf_S pb_u_27 rfl rfl,
  fun l1 l2 st h Q => pf_S pb_u_27 rfl rfl,
  fun l0 l1 st h Q x => pf_S pb_u_27 rfl rfl,
  fun L J st h Q a x => pf_pf pb_u_27 rfl rfl,
  fun L J st h Q => pf_S pb_u_27 rfl rfl,
  fun L J h Q x => pf_rz pb_u_27 rfl rfl⟩
theorem pb_c27 (x0 : Nat) (x1 : Int32) (x2 : Int32) (h : pb_H) (Q : Option Value → pb_H → Prop) : pb_call 27 [.ref x0, .int x1, .int x2] h Q ↔ pb_R 27 0 [some (.ref x0), some (.int x1), some (.int x2)] [] [] h Q := Iff.rfl
/-! 28: PlaneBench$Checker.uppermost()LPlaneBench$Line; -/
theorem pb_u_28 : pb_t 28 = pb_t28 := rfl
theorem pb_ci_28 : pb_ci 28 = 1 := by decide +kernel
set_option maxRecDepth 100000 in
theorem pb_e28 : (∀ (st : List Value) (h : pb_H) (Q : Option Value → pb_H → Prop) (x : Nat), pb_R 28 0 [some (.ref x)] [] st h Q ↔ pb_R 28 1 [some (.ref x)] [] (.ref x :: st) h Q) ∧
  (∀ (st : List Value) (h : pb_H) (Q : Option Value → pb_H → Prop), pb_R 28 0 [some .null] [] st h Q ↔ pb_R 28 1 [some .null] [] (.null :: st) h Q) ∧
  (∀ (L : pb_L) (J : pb_J) (st : List Value) (h : pb_H) (Q : Option Value → pb_H → Prop) (a : Nat), pb_R 28 1 L J (.ref a :: st) h Q ↔ pb_o (pb_gf (h.2 a) 1 8) (fun v => pb_R 28 4 L J (v :: st) h Q)) ∧
  (∀ (L : pb_L) (J : pb_J) (st : List Value) (h : pb_H) (Q : Option Value → pb_H → Prop), pb_R 28 4 L J st h Q ↔ pb_R 28 5 L J (.int (1 : Int32) :: st) h Q) ∧
  (∀ (L : pb_L) (J : pb_J) (st : List Value) (h : pb_H) (Q : Option Value → pb_H → Prop) (x y : Int32), pb_R 28 5 L J (.int y :: .int x :: st) h Q ↔ if x < y then pb_R 28 20 L J st h Q else pb_R 28 8 L J st h Q) ∧
  (∀ (st : List Value) (h : pb_H) (Q : Option Value → pb_H → Prop) (x : Nat), pb_R 28 8 [some (.ref x)] [] st h Q ↔ pb_R 28 9 [some (.ref x)] [] (.ref x :: st) h Q) ∧
  (∀ (st : List Value) (h : pb_H) (Q : Option Value → pb_H → Prop), pb_R 28 8 [some .null] [] st h Q ↔ pb_R 28 9 [some .null] [] (.null :: st) h Q) ∧
  (∀ (L : pb_L) (J : pb_J) (st : List Value) (h : pb_H) (Q : Option Value → pb_H → Prop) (a : Nat), pb_R 28 9 L J (.ref a :: st) h Q ↔ pb_o (pb_gf (h.2 a) 1 8) (fun v => pb_R 28 12 L J (v :: st) h Q)) ∧
  (∀ (st : List Value) (h : pb_H) (Q : Option Value → pb_H → Prop) (x : Nat), pb_R 28 12 [some (.ref x)] [] st h Q ↔ pb_R 28 13 [some (.ref x)] [] (.ref x :: st) h Q) ∧
  (∀ (st : List Value) (h : pb_H) (Q : Option Value → pb_H → Prop), pb_R 28 12 [some .null] [] st h Q ↔ pb_R 28 13 [some .null] [] (.null :: st) h Q) ∧
  (∀ (L : pb_L) (J : pb_J) (st : List Value) (h : pb_H) (Q : Option Value → pb_H → Prop) (a : Nat), pb_R 28 13 L J (.ref a :: st) h Q ↔ pb_o (pb_gf (h.2 a) 1 3) (fun v => pb_R 28 16 L J (v :: st) h Q)) ∧
  (∀ (L : pb_L) (J : pb_J) (st : List Value) (h : pb_H) (Q : Option Value → pb_H → Prop) (a : Nat), pb_R 28 16 L J (.ref a :: st) h Q ↔ pb_o (pb_al2 (h.2 a)) (fun n => pb_R 28 17 L J (.int (Int32.ofNat n) :: st) h Q)) ∧
  (∀ (L : pb_L) (J : pb_J) (st : List Value) (h : pb_H) (Q : Option Value → pb_H → Prop) (x y : Int32), pb_R 28 17 L J (.int y :: .int x :: st) h Q ↔ if x ≤ y then pb_R 28 24 L J st h Q else pb_R 28 20 L J st h Q) ∧
  (∀ (L : pb_L) (J : pb_J) (st : List Value) (h : pb_H) (Q : Option Value → pb_H → Prop), pb_R 28 20 L J st h Q ↔ pb_R 28 21 L J (.null :: st) h Q) ∧
  (∀ (L : pb_L) (J : pb_J) (st : List Value) (h : pb_H) (Q : Option Value → pb_H → Prop), pb_R 28 21 L J st h Q ↔ pb_R 28 35 L J st h Q) ∧
  (∀ (st : List Value) (h : pb_H) (Q : Option Value → pb_H → Prop) (x : Nat), pb_R 28 24 [some (.ref x)] [] st h Q ↔ pb_R 28 25 [some (.ref x)] [] (.ref x :: st) h Q) ∧
  (∀ (st : List Value) (h : pb_H) (Q : Option Value → pb_H → Prop), pb_R 28 24 [some .null] [] st h Q ↔ pb_R 28 25 [some .null] [] (.null :: st) h Q) ∧
  (∀ (L : pb_L) (J : pb_J) (st : List Value) (h : pb_H) (Q : Option Value → pb_H → Prop) (a : Nat), pb_R 28 25 L J (.ref a :: st) h Q ↔ pb_o (pb_gf (h.2 a) 1 3) (fun v => pb_R 28 28 L J (v :: st) h Q)) ∧
  (∀ (st : List Value) (h : pb_H) (Q : Option Value → pb_H → Prop) (x : Nat), pb_R 28 28 [some (.ref x)] [] st h Q ↔ pb_R 28 29 [some (.ref x)] [] (.ref x :: st) h Q) ∧
  (∀ (st : List Value) (h : pb_H) (Q : Option Value → pb_H → Prop), pb_R 28 28 [some .null] [] st h Q ↔ pb_R 28 29 [some .null] [] (.null :: st) h Q) ∧
  (∀ (L : pb_L) (J : pb_J) (st : List Value) (h : pb_H) (Q : Option Value → pb_H → Prop) (a : Nat), pb_R 28 29 L J (.ref a :: st) h Q ↔ pb_o (pb_gf (h.2 a) 1 8) (fun v => pb_R 28 32 L J (v :: st) h Q)) ∧
  (∀ (L : pb_L) (J : pb_J) (st : List Value) (h : pb_H) (Q : Option Value → pb_H → Prop), pb_R 28 32 L J st h Q ↔ pb_R 28 33 L J (.int (1 : Int32) :: st) h Q) ∧
  (∀ (L : pb_L) (J : pb_J) (st : List Value) (x y : Int32) (h : pb_H) (Q : Option Value → pb_H → Prop), pb_R 28 33 L J (.int y :: .int x :: st) h Q ↔ pb_R 28 34 L J (.int (x - y) :: st) h Q) ∧
  (∀ (L : pb_L) (J : pb_J) (st : List Value) (h : pb_H) (Q : Option Value → pb_H → Prop) (a : Nat) (i : Int32), pb_R 28 34 L J (.int i :: .ref a :: st) h Q ↔ pb_o (pb_aa (h.2 a) i) (fun v => pb_R 28 35 L J (va_rf v :: st) h Q)) ∧
  (∀ (L : pb_L) (J : pb_J) (h : pb_H) (Q : Option Value → pb_H → Prop) (x : Nat), pb_R 28 35 L J [.ref x] h Q ↔ Q (some (.ref x)) h) ∧
  (∀ (L : pb_L) (J : pb_J) (h : pb_H) (Q : Option Value → pb_H → Prop), pb_R 28 35 L J [.null] h Q ↔ Q (some .null) h) := ⟨
  fun st h Q x => pf_S pb_u_28 rfl rfl,
  fun st h Q => pf_S pb_u_28 rfl rfl,
  fun L J st h Q a => pf_gf pb_u_28 rfl rfl,
  fun L J st h Q => pf_S pb_u_28 rfl rfl,
  fun L J st h Q x y => pf_ic pb_u_28 rfl rfl rfl,
  fun st h Q x => pf_S pb_u_28 rfl rfl,
  fun st h Q => pf_S pb_u_28 rfl rfl,
  fun L J st h Q a => pf_gf pb_u_28 rfl rfl,
  fun st h Q x => pf_S pb_u_28 rfl rfl,
  fun st h Q => pf_S pb_u_28 rfl rfl,
  fun L J st h Q a => pf_gf pb_u_28 rfl rfl,
  fun L J st h Q a => pf_le pb_u_28 rfl rfl,
  fun L J st h Q x y => pf_ic pb_u_28 rfl rfl rfl,
  fun L J st h Q => pf_S pb_u_28 rfl rfl,
  fun L J st h Q => pf_S pb_u_28 rfl rfl,
  fun st h Q x => pf_S pb_u_28 rfl rfl,
  fun st h Q => pf_S pb_u_28 rfl rfl,
  fun L J st h Q a => pf_gf pb_u_28 rfl rfl,
  fun st h Q x => pf_S pb_u_28 rfl rfl,
  fun st h Q => pf_S pb_u_28 rfl rfl,
  fun L J st h Q a => pf_gf pb_u_28 rfl rfl,
  fun L J st h Q => pf_S pb_u_28 rfl rfl,
  fun L J st x y h Q => pf_S pb_u_28 rfl rfl,
  fun L J st h Q a i => pf_aa pb_u_28 rfl rfl,
  fun L J h Q x => pf_ra (r := some x) pb_u_28 rfl rfl,
  fun L J h Q => pf_ra (r := none) pb_u_28 rfl rfl⟩
theorem pb_c28 (x0 : Nat) (h : pb_H) (Q : Option Value → pb_H → Prop) : pb_call 28 [.ref x0] h Q ↔ pb_R 28 0 [some (.ref x0)] [] [] h Q := Iff.rfl
/-! 29: PlaneBench$TextReader.refuseHere(I)Z -/
theorem pb_u_29 : pb_t 29 = pb_t29 := rfl
theorem pb_ci_29 : pb_ci 29 = 8 := by decide +kernel
set_option maxRecDepth 100000 in
theorem pb_e29 : (∀ (l1 : Option Value) (st : List Value) (h : pb_H) (Q : Option Value → pb_H → Prop) (x : Nat), pb_R 29 0 [some (.ref x), l1] [] st h Q ↔ pb_R 29 1 [some (.ref x), l1] [] (.ref x :: st) h Q) ∧
  (∀ (l1 : Option Value) (st : List Value) (h : pb_H) (Q : Option Value → pb_H → Prop), pb_R 29 0 [some .null, l1] [] st h Q ↔ pb_R 29 1 [some .null, l1] [] (.null :: st) h Q) ∧
  (∀ (l0 : Option Value) (st : List Value) (h : pb_H) (Q : Option Value → pb_H → Prop) (x : Int32), pb_R 29 1 [l0, some (.int x)] [] st h Q ↔ pb_R 29 2 [l0, some (.int x)] [] (.int x :: st) h Q) ∧
  (∀ (l1 : Option Value) (st : List Value) (h : pb_H) (Q : Option Value → pb_H → Prop) (x : Nat), pb_R 29 2 [some (.ref x), l1] [] st h Q ↔ pb_R 29 3 [some (.ref x), l1] [] (.ref x :: st) h Q) ∧
  (∀ (l1 : Option Value) (st : List Value) (h : pb_H) (Q : Option Value → pb_H → Prop), pb_R 29 2 [some .null, l1] [] st h Q ↔ pb_R 29 3 [some .null, l1] [] (.null :: st) h Q) ∧
  (∀ (L : pb_L) (J : pb_J) (st : List Value) (h : pb_H) (Q : Option Value → pb_H → Prop) (a : Nat), pb_R 29 3 L J (.ref a :: st) h Q ↔ pb_o (pb_gf (h.2 a) 8 3) (fun v => pb_R 29 6 L J (v :: st) h Q)) ∧
  (∀ (L : pb_L) (J : pb_J) (h : pb_H) (Q : Option Value → pb_H → Prop) (x0 : Int32) (x1 : Int32) (x2 : Nat), pb_R 29 6 L J [.int x0, .int x1, .ref x2] h Q ↔ pb_is0 (h.2 x2) 8 = true ∧ pb_call 27 [.ref x2, .int x1, .int x0] h (fun v t => pb_R 29 9 L J (v.toList ++ []) t Q)) ∧
  (∀ (L : pb_L) (J : pb_J) (h : pb_H) (Q : Option Value → pb_H → Prop) (x : Int32), pb_R 29 9 L J [.int x] h Q ↔ narrow .boolean (.int x) = .int x ∧ Q (some (.int x)) h) := ⟨
  fun l1 st h Q x => pf_S pb_u_29 rfl rfl,
  fun l1 st h Q => pf_S pb_u_29 rfl rfl,
  fun l0 st h Q x => pf_S pb_u_29 rfl rfl,
  fun l1 st h Q x => pf_S pb_u_29 rfl rfl,
  fun l1 st h Q => pf_S pb_u_29 rfl rfl,
  fun L J st h Q a => pf_gf pb_u_29 rfl rfl,
  fun L J h Q x0 x1 x2 => pf_kv pb_u_29 rfl pb_ci_27 rfl ⟨Nat.le_of_ble_eq_true rfl, Nat.le_of_ble_eq_true rfl, Nat.le_of_ble_eq_true rfl, Nat.le_of_ble_eq_true rfl, rfl⟩ rfl rfl,
  fun L J h Q x => pf_rz pb_u_29 rfl rfl⟩
theorem pb_c29 (x0 : Nat) (x1 : Int32) (h : pb_H) (Q : Option Value → pb_H → Prop) : pb_call 29 [.ref x0, .int x1] h Q ↔ pb_R 29 0 [some (.ref x0), some (.int x1)] [] [] h Q := Iff.rfl
/-! 30: java/lang/Integer.numberOfLeadingZeros(I)I -/
theorem pb_u_30 : pb_t 30 = pb_t30 := rfl
set_option maxRecDepth 100000 in
theorem pb_e30 : (∀ (l1 : Option Value) (st : List Value) (h : pb_H) (Q : Option Value → pb_H → Prop) (x : Int32), pb_R 30 0 [some (.int x), l1] [] st h Q ↔ pb_R 30 1 [some (.int x), l1] [] (.int x :: st) h Q) ∧
  (∀ (L : pb_L) (J : pb_J) (st : List Value) (h : pb_H) (Q : Option Value → pb_H → Prop) (x : Int32), pb_R 30 1 L J (.int x :: st) h Q ↔ if 0 < x then pb_R 30 15 L J st h Q else pb_R 30 4 L J st h Q) ∧
  (∀ (l1 : Option Value) (st : List Value) (h : pb_H) (Q : Option Value → pb_H → Prop) (x : Int32), pb_R 30 4 [some (.int x), l1] [] st h Q ↔ pb_R 30 5 [some (.int x), l1] [] (.int x :: st) h Q) ∧
  (∀ (L : pb_L) (J : pb_J) (st : List Value) (h : pb_H) (Q : Option Value → pb_H → Prop) (x : Int32), pb_R 30 5 L J (.int x :: st) h Q ↔ if ¬ x = 0 then pb_R 30 13 L J st h Q else pb_R 30 8 L J st h Q) ∧
  (∀ (L : pb_L) (J : pb_J) (st : List Value) (h : pb_H) (Q : Option Value → pb_H → Prop), pb_R 30 8 L J st h Q ↔ pb_R 30 10 L J (.int (32 : Int32) :: st) h Q) ∧
  (∀ (L : pb_L) (J : pb_J) (st : List Value) (h : pb_H) (Q : Option Value → pb_H → Prop), pb_R 30 10 L J st h Q ↔ pb_R 30 14 L J st h Q) ∧
  (∀ (L : pb_L) (J : pb_J) (st : List Value) (h : pb_H) (Q : Option Value → pb_H → Prop), pb_R 30 13 L J st h Q ↔ pb_R 30 14 L J (.int (0 : Int32) :: st) h Q) ∧
  (∀ (L : pb_L) (J : pb_J) (h : pb_H) (Q : Option Value → pb_H → Prop) (x : Int32), pb_R 30 14 L J [.int x] h Q ↔ Q (some (.int x)) h) ∧
  (∀ (L : pb_L) (J : pb_J) (st : List Value) (h : pb_H) (Q : Option Value → pb_H → Prop), pb_R 30 15 L J st h Q ↔ pb_R 30 17 L J (.int (31 : Int32) :: st) h Q) ∧
  (∀ (l0 l1 : Option Value) (st : List Value) (h : pb_H) (Q : Option Value → pb_H → Prop) (x : Int32), pb_R 30 17 [l0, l1] [] (.int x :: st) h Q ↔ pb_R 30 18 [l0, some (.int x)] [] st h Q) ∧
  (∀ (l1 : Option Value) (st : List Value) (h : pb_H) (Q : Option Value → pb_H → Prop) (x : Int32), pb_R 30 18 [some (.int x), l1] [] st h Q ↔ pb_R 30 19 [some (.int x), l1] [] (.int x :: st) h Q) ∧
  (∀ (L : pb_L) (J : pb_J) (st : List Value) (h : pb_H) (Q : Option Value → pb_H → Prop), pb_R 30 19 L J st h Q ↔ pb_R 30 22 L J (.int (65536 : Int32) :: st) h Q) ∧
  (∀ (L : pb_L) (J : pb_J) (st : List Value) (h : pb_H) (Q : Option Value → pb_H → Prop) (x y : Int32), pb_R 30 22 L J (.int y :: .int x :: st) h Q ↔ if x < y then pb_R 30 33 L J st h Q else pb_R 30 25 L J st h Q) ∧
  (∀ (l0 : Option Value) (st : List Value) (h : pb_H) (Q : Option Value → pb_H → Prop) (x : Int32), pb_R 30 25 [l0, some (.int x)] [] st h Q ↔ pb_R 30 28 [l0, some (.int (x + (-16 : Int32)))] [] st h Q) ∧
  (∀ (l1 : Option Value) (st : List Value) (h : pb_H) (Q : Option Value → pb_H → Prop) (x : Int32), pb_R 30 28 [some (.int x), l1] [] st h Q ↔ pb_R 30 29 [some (.int x), l1] [] (.int x :: st) h Q) ∧
  (∀ (L : pb_L) (J : pb_J) (st : List Value) (h : pb_H) (Q : Option Value → pb_H → Prop), pb_R 30 29 L J st h Q ↔ pb_R 30 31 L J (.int (16 : Int32) :: st) h Q) ∧
  (∀ (L : pb_L) (J : pb_J) (st : List Value) (x y : Int32) (h : pb_H) (Q : Option Value → pb_H → Prop), pb_R 30 31 L J (.int y :: .int x :: st) h Q ↔ pb_R 30 32 L J (.int (x.toUInt32 >>> (y.toUInt32 &&& Int32.toUInt32 31)).toInt32 :: st) h Q) ∧
  (∀ (l0 l1 : Option Value) (st : List Value) (h : pb_H) (Q : Option Value → pb_H → Prop) (x : Int32), pb_R 30 32 [l0, l1] [] (.int x :: st) h Q ↔ pb_R 30 33 [some (.int x), l1] [] st h Q) ∧
  (∀ (l1 : Option Value) (st : List Value) (h : pb_H) (Q : Option Value → pb_H → Prop) (x : Int32), pb_R 30 33 [some (.int x), l1] [] st h Q ↔ pb_R 30 34 [some (.int x), l1] [] (.int x :: st) h Q) ∧
  (∀ (L : pb_L) (J : pb_J) (st : List Value) (h : pb_H) (Q : Option Value → pb_H → Prop), pb_R 30 34 L J st h Q ↔ pb_R 30 37 L J (.int (256 : Int32) :: st) h Q) ∧
  (∀ (L : pb_L) (J : pb_J) (st : List Value) (h : pb_H) (Q : Option Value → pb_H → Prop) (x y : Int32), pb_R 30 37 L J (.int y :: .int x :: st) h Q ↔ if x < y then pb_R 30 48 L J st h Q else pb_R 30 40 L J st h Q) ∧
  (∀ (l0 : Option Value) (st : List Value) (h : pb_H) (Q : Option Value → pb_H → Prop) (x : Int32), pb_R 30 40 [l0, some (.int x)] [] st h Q ↔ pb_R 30 43 [l0, some (.int (x + (-8 : Int32)))] [] st h Q) ∧
  (∀ (l1 : Option Value) (st : List Value) (h : pb_H) (Q : Option Value → pb_H → Prop) (x : Int32), pb_R 30 43 [some (.int x), l1] [] st h Q ↔ pb_R 30 44 [some (.int x), l1] [] (.int x :: st) h Q) ∧
  (∀ (L : pb_L) (J : pb_J) (st : List Value) (h : pb_H) (Q : Option Value → pb_H → Prop), pb_R 30 44 L J st h Q ↔ pb_R 30 46 L J (.int (8 : Int32) :: st) h Q) ∧
  (∀ (L : pb_L) (J : pb_J) (st : List Value) (x y : Int32) (h : pb_H) (Q : Option Value → pb_H → Prop), pb_R 30 46 L J (.int y :: .int x :: st) h Q ↔ pb_R 30 47 L J (.int (x.toUInt32 >>> (y.toUInt32 &&& Int32.toUInt32 31)).toInt32 :: st) h Q) ∧
  (∀ (l0 l1 : Option Value) (st : List Value) (h : pb_H) (Q : Option Value → pb_H → Prop) (x : Int32), pb_R 30 47 [l0, l1] [] (.int x :: st) h Q ↔ pb_R 30 48 [some (.int x), l1] [] st h Q) ∧
  (∀ (l1 : Option Value) (st : List Value) (h : pb_H) (Q : Option Value → pb_H → Prop) (x : Int32), pb_R 30 48 [some (.int x), l1] [] st h Q ↔ pb_R 30 49 [some (.int x), l1] [] (.int x :: st) h Q) ∧
  (∀ (L : pb_L) (J : pb_J) (st : List Value) (h : pb_H) (Q : Option Value → pb_H → Prop), pb_R 30 49 L J st h Q ↔ pb_R 30 51 L J (.int (16 : Int32) :: st) h Q) ∧
  (∀ (L : pb_L) (J : pb_J) (st : List Value) (h : pb_H) (Q : Option Value → pb_H → Prop) (x y : Int32), pb_R 30 51 L J (.int y :: .int x :: st) h Q ↔ if x < y then pb_R 30 61 L J st h Q else pb_R 30 54 L J st h Q) ∧
  (∀ (l0 : Option Value) (st : List Value) (h : pb_H) (Q : Option Value → pb_H → Prop) (x : Int32), pb_R 30 54 [l0, some (.int x)] [] st h Q ↔ pb_R 30 57 [l0, some (.int (x + (-4 : Int32)))] [] st h Q) ∧
  (∀ (l1 : Option Value) (st : List Value) (h : pb_H) (Q : Option Value → pb_H → Prop) (x : Int32), pb_R 30 57 [some (.int x), l1] [] st h Q ↔ pb_R 30 58 [some (.int x), l1] [] (.int x :: st) h Q) ∧
  (∀ (L : pb_L) (J : pb_J) (st : List Value) (h : pb_H) (Q : Option Value → pb_H → Prop), pb_R 30 58 L J st h Q ↔ pb_R 30 59 L J (.int (4 : Int32) :: st) h Q) ∧
  (∀ (L : pb_L) (J : pb_J) (st : List Value) (x y : Int32) (h : pb_H) (Q : Option Value → pb_H → Prop), pb_R 30 59 L J (.int y :: .int x :: st) h Q ↔ pb_R 30 60 L J (.int (x.toUInt32 >>> (y.toUInt32 &&& Int32.toUInt32 31)).toInt32 :: st) h Q) ∧
  (∀ (l0 l1 : Option Value) (st : List Value) (h : pb_H) (Q : Option Value → pb_H → Prop) (x : Int32), pb_R 30 60 [l0, l1] [] (.int x :: st) h Q ↔ pb_R 30 61 [some (.int x), l1] [] st h Q) ∧
  (∀ (l1 : Option Value) (st : List Value) (h : pb_H) (Q : Option Value → pb_H → Prop) (x : Int32), pb_R 30 61 [some (.int x), l1] [] st h Q ↔ pb_R 30 62 [some (.int x), l1] [] (.int x :: st) h Q) ∧
  (∀ (L : pb_L) (J : pb_J) (st : List Value) (h : pb_H) (Q : Option Value → pb_H → Prop), pb_R 30 62 L J st h Q ↔ pb_R 30 63 L J (.int (4 : Int32) :: st) h Q) ∧
  (∀ (L : pb_L) (J : pb_J) (st : List Value) (h : pb_H) (Q : Option Value → pb_H → Prop) (x y : Int32), pb_R 30 63 L J (.int y :: .int x :: st) h Q ↔ if x < y then pb_R 30 73 L J st h Q else pb_R 30 66 L J st h Q) ∧
  (∀ (l0 : Option Value) (st : List Value) (h : pb_H) (Q : Option Value → pb_H → Prop) (x : Int32), pb_R 30 66 [l0, some (.int x)] [] st h Q ↔ pb_R 30 69 [l0, some (.int (x + (-2 : Int32)))] [] st h Q) ∧
  (∀ (l1 : Option Value) (st : List Value) (h : pb_H) (Q : Option Value → pb_H → Prop) (x : Int32), pb_R 30 69 [some (.int x), l1] [] st h Q ↔ pb_R 30 70 [some (.int x), l1] [] (.int x :: st) h Q) ∧
  (∀ (L : pb_L) (J : pb_J) (st : List Value) (h : pb_H) (Q : Option Value → pb_H → Prop), pb_R 30 70 L J st h Q ↔ pb_R 30 71 L J (.int (2 : Int32) :: st) h Q) ∧
  (∀ (L : pb_L) (J : pb_J) (st : List Value) (x y : Int32) (h : pb_H) (Q : Option Value → pb_H → Prop), pb_R 30 71 L J (.int y :: .int x :: st) h Q ↔ pb_R 30 72 L J (.int (x.toUInt32 >>> (y.toUInt32 &&& Int32.toUInt32 31)).toInt32 :: st) h Q) ∧
  (∀ (l0 l1 : Option Value) (st : List Value) (h : pb_H) (Q : Option Value → pb_H → Prop) (x : Int32), pb_R 30 72 [l0, l1] [] (.int x :: st) h Q ↔ pb_R 30 73 [some (.int x), l1] [] st h Q) ∧
  (∀ (l0 : Option Value) (st : List Value) (h : pb_H) (Q : Option Value → pb_H → Prop) (x : Int32), pb_R 30 73 [l0, some (.int x)] [] st h Q ↔ pb_R 30 74 [l0, some (.int x)] [] (.int x :: st) h Q) ∧
  (∀ (l1 : Option Value) (st : List Value) (h : pb_H) (Q : Option Value → pb_H → Prop) (x : Int32), pb_R 30 74 [some (.int x), l1] [] st h Q ↔ pb_R 30 75 [some (.int x), l1] [] (.int x :: st) h Q) ∧
  (∀ (L : pb_L) (J : pb_J) (st : List Value) (h : pb_H) (Q : Option Value → pb_H → Prop), pb_R 30 75 L J st h Q ↔ pb_R 30 76 L J (.int (1 : Int32) :: st) h Q) ∧
  (∀ (L : pb_L) (J : pb_J) (st : List Value) (x y : Int32) (h : pb_H) (Q : Option Value → pb_H → Prop), pb_R 30 76 L J (.int y :: .int x :: st) h Q ↔ pb_R 30 77 L J (.int (x.toUInt32 >>> (y.toUInt32 &&& Int32.toUInt32 31)).toInt32 :: st) h Q) ∧
  (∀ (L : pb_L) (J : pb_J) (st : List Value) (x y : Int32) (h : pb_H) (Q : Option Value → pb_H → Prop), pb_R 30 77 L J (.int y :: .int x :: st) h Q ↔ pb_R 30 78 L J (.int (x - y) :: st) h Q) ∧
  (∀ (L : pb_L) (J : pb_J) (h : pb_H) (Q : Option Value → pb_H → Prop) (x : Int32), pb_R 30 78 L J [.int x] h Q ↔ Q (some (.int x)) h) := ⟨
  fun l1 st h Q x => pf_S pb_u_30 rfl rfl,
  fun L J st h Q x => pf_ii pb_u_30 rfl rfl rfl,
  fun l1 st h Q x => pf_S pb_u_30 rfl rfl,
  fun L J st h Q x => pf_ii pb_u_30 rfl rfl pf_ne,
  fun L J st h Q => pf_S pb_u_30 rfl rfl,
  fun L J st h Q => pf_S pb_u_30 rfl rfl,
  fun L J st h Q => pf_S pb_u_30 rfl rfl,
  fun L J h Q x => pf_ri pb_u_30 rfl rfl,
  fun L J st h Q => pf_S pb_u_30 rfl rfl,
  fun l0 l1 st h Q x => pf_S pb_u_30 rfl rfl,
  fun l1 st h Q x => pf_S pb_u_30 rfl rfl,
  fun L J st h Q => pf_S pb_u_30 rfl rfl,
  fun L J st h Q x y => pf_ic pb_u_30 rfl rfl rfl,
  fun l0 st h Q x => pf_S pb_u_30 rfl rfl,
  fun l1 st h Q x => pf_S pb_u_30 rfl rfl,
  fun L J st h Q => pf_S pb_u_30 rfl rfl,
  fun L J st x y h Q => pf_S pb_u_30 rfl rfl,
  fun l0 l1 st h Q x => pf_S pb_u_30 rfl rfl,
  fun l1 st h Q x => pf_S pb_u_30 rfl rfl,
  fun L J st h Q => pf_S pb_u_30 rfl rfl,
  fun L J st h Q x y => pf_ic pb_u_30 rfl rfl rfl,
  fun l0 st h Q x => pf_S pb_u_30 rfl rfl,
  fun l1 st h Q x => pf_S pb_u_30 rfl rfl,
  fun L J st h Q => pf_S pb_u_30 rfl rfl,
  fun L J st x y h Q => pf_S pb_u_30 rfl rfl,
  fun l0 l1 st h Q x => pf_S pb_u_30 rfl rfl,
  fun l1 st h Q x => pf_S pb_u_30 rfl rfl,
  fun L J st h Q => pf_S pb_u_30 rfl rfl,
  fun L J st h Q x y => pf_ic pb_u_30 rfl rfl rfl,
  fun l0 st h Q x => pf_S pb_u_30 rfl rfl,
  fun l1 st h Q x => pf_S pb_u_30 rfl rfl,
  fun L J st h Q => pf_S pb_u_30 rfl rfl,
  fun L J st x y h Q => pf_S pb_u_30 rfl rfl,
  fun l0 l1 st h Q x => pf_S pb_u_30 rfl rfl,
  fun l1 st h Q x => pf_S pb_u_30 rfl rfl,
  fun L J st h Q => pf_S pb_u_30 rfl rfl,
  fun L J st h Q x y => pf_ic pb_u_30 rfl rfl rfl,
  fun l0 st h Q x => pf_S pb_u_30 rfl rfl,
  fun l1 st h Q x => pf_S pb_u_30 rfl rfl,
  fun L J st h Q => pf_S pb_u_30 rfl rfl,
  fun L J st x y h Q => pf_S pb_u_30 rfl rfl,
  fun l0 l1 st h Q x => pf_S pb_u_30 rfl rfl,
  fun l0 st h Q x => pf_S pb_u_30 rfl rfl,
  fun l1 st h Q x => pf_S pb_u_30 rfl rfl,
  fun L J st h Q => pf_S pb_u_30 rfl rfl,
  fun L J st x y h Q => pf_S pb_u_30 rfl rfl,
  fun L J st x y h Q => pf_S pb_u_30 rfl rfl,
  fun L J h Q x => pf_ri pb_u_30 rfl rfl⟩
theorem pb_c30 (x0 : Int32) (h : pb_H) (Q : Option Value → pb_H → Prop) : pb_call 30 [.int x0] h Q ↔ pb_R 30 0 [some (.int x0), none] [] [] h Q := Iff.rfl
/-! 31: PlaneBench$Divider.take([I)V -/
theorem pb_u_31 : pb_t 31 = pb_t31 := rfl
theorem pb_ci_31 : pb_ci 31 = 3 := by decide +kernel
set_option maxRecDepth 100000 in
theorem pb_q31_40 (l0 l1 l2 l3 : Option Value) (j0 j1 j2 j3 j4 : Option Int64) (st : List Value) (h : pb_H) (Q : Option Value → pb_H → Prop) (x : Int32) : pb_R 31 40 [l0, l1, l2, l3, some (.int x)] [j0, j1, j2, j3, j4] st h Q ↔ pb_R 31 42 [l0, l1, l2, l3, some (.int x)] [j0, j1, j2, j3, j4] (.int x :: st) h Q := pf_S pb_u_31 rfl rfl
set_option maxRecDepth 100000 in
theorem pb_e31 : (∀ (l1 l2 l3 l4 : Option Value) (j0 j1 j2 j3 j4 : Option Int64) (st : List Value) (h : pb_H) (Q : Option Value → pb_H → Prop) (x : Nat), pb_R 31 0 [some (.ref x), l1, l2, l3, l4] [j0, j1, j2, j3, j4] st h Q ↔ pb_R 31 1 [some (.ref x), l1, l2, l3, l4] [j0, j1, j2, j3, j4] (.ref x :: st) h Q) ∧
  (∀ (l1 l2 l3 l4 : Option Value) (j0 j1 j2 j3 j4 : Option Int64) (st : List Value) (h : pb_H) (Q : Option Value → pb_H → Prop), pb_R 31 0 [some .null, l1, l2, l3, l4] [j0, j1, j2, j3, j4] st h Q ↔ pb_R 31 1 [some .null, l1, l2, l3, l4] [j0, j1, j2, j3, j4] (.null :: st) h Q) ∧
  (∀ (l0 l2 l3 l4 : Option Value) (j0 j1 j2 j3 j4 : Option Int64) (st : List Value) (h : pb_H) (Q : Option Value → pb_H → Prop) (x : Nat), pb_R 31 1 [l0, some (.ref x), l2, l3, l4] [j0, j1, j2, j3, j4] st h Q ↔ pb_R 31 2 [l0, some (.ref x), l2, l3, l4] [j0, j1, j2, j3, j4] (.ref x :: st) h Q) ∧
  (∀ (l0 l2 l3 l4 : Option Value) (j0 j1 j2 j3 j4 : Option Int64) (st : List Value) (h : pb_H) (Q : Option Value → pb_H → Prop), pb_R 31 1 [l0, some .null, l2, l3, l4] [j0, j1, j2, j3, j4] st h Q ↔ pb_R 31 2 [l0, some .null, l2, l3, l4] [j0, j1, j2, j3, j4] (.null :: st) h Q) ∧
  (∀ (L : pb_L) (J : pb_J) (st : List Value) (h : pb_H) (Q : Option Value → pb_H → Prop), pb_R 31 2 L J st h Q ↔ pb_R 31 3 L J (.int (0 : Int32) :: st) h Q) ∧
  (∀ (L : pb_L) (J : pb_J) (h : pb_H) (Q : Option Value → pb_H → Prop) (x0 : Int32) (x1 : Nat) (x2 : Nat), pb_R 31 3 L J [.int x0, .ref x1, .ref x2] h Q ↔ pb_call 4 [.ref x1, .int x0] h (fun v t => pb_R 31 6 L J (v.toList ++ [.ref x2]) t Q)) ∧
  (∀ (L : pb_L) (J : pb_J) (st : List Value) (h : pb_H) (Q : Option Value → pb_H → Prop) (a : Nat) (x : Int32), pb_R 31 6 L J (.int x :: .ref a :: st) h Q ↔ pb_o (pb_pf (h.2 a) 3 3 (.int x)) (fun c => pb_R 31 9 L J st (pb_set h a c) Q)) ∧
  (∀ (l1 l2 l3 l4 : Option Value) (j0 j1 j2 j3 j4 : Option Int64) (st : List Value) (h : pb_H) (Q : Option Value → pb_H → Prop) (x : Nat), pb_R 31 9 [some (.ref x), l1, l2, l3, l4] [j0, j1, j2, j3, j4] st h Q ↔ pb_R 31 10 [some (.ref x), l1, l2, l3, l4] [j0, j1, j2, j3, j4] (.ref x :: st) h Q) ∧
  (∀ (l1 l2 l3 l4 : Option Value) (j0 j1 j2 j3 j4 : Option Int64) (st : List Value) (h : pb_H) (Q : Option Value → pb_H → Prop), pb_R 31 9 [some .null, l1, l2, l3, l4] [j0, j1, j2, j3, j4] st h Q ↔ pb_R 31 10 [some .null, l1, l2, l3, l4] [j0, j1, j2, j3, j4] (.null :: st) h Q) ∧
  (∀ (l1 l2 l3 l4 : Option Value) (j0 j1 j2 j3 j4 : Option Int64) (st : List Value) (h : pb_H) (Q : Option Value → pb_H → Prop) (x : Nat), pb_R 31 10 [some (.ref x), l1, l2, l3, l4] [j0, j1, j2, j3, j4] st h Q ↔ pb_R 31 11 [some (.ref x), l1, l2, l3, l4] [j0, j1, j2, j3, j4] (.ref x :: st) h Q) ∧
  (∀ (l1 l2 l3 l4 : Option Value) (j0 j1 j2 j3 j4 : Option Int64) (st : List Value) (h : pb_H) (Q : Option Value → pb_H → Prop), pb_R 31 10 [some .null, l1, l2, l3, l4] [j0, j1, j2, j3, j4] st h Q ↔ pb_R 31 11 [some .null, l1, l2, l3, l4] [j0, j1, j2, j3, j4] (.null :: st) h Q) ∧
  (∀ (L : pb_L) (J : pb_J) (st : List Value) (h : pb_H) (Q : Option Value → pb_H → Prop) (a : Nat), pb_R 31 11 L J (.ref a :: st) h Q ↔ pb_o (pb_gf (h.2 a) 3 3) (fun v => pb_R 31 14 L J (v :: st) h Q)) ∧
  (∀ (L : pb_L) (J : pb_J) (st : List Value) (h : pb_H) (Q : Option Value → pb_H → Prop) (x : Int32), pb_R 31 14 L J (.int x :: st) h Q ↔ if ¬ x = 0 then pb_R 31 21 L J st h Q else pb_R 31 17 L J st h Q) ∧
  (∀ (L : pb_L) (J : pb_J) (st : List Value) (h : pb_H) (Q : Option Value → pb_H → Prop), pb_R 31 17 L J st h Q ↔ pb_R 31 18 L J (.int (0 : Int32) :: st) h Q) ∧
  (∀ (L : pb_L) (J : pb_J) (st : List Value) (h : pb_H) (Q : Option Value → pb_H → Prop), pb_R 31 18 L J st h Q ↔ pb_R 31 32 L J st h Q) ∧
  (∀ (l0 l2 l3 l4 : Option Value) (j0 j1 j2 j3 j4 : Option Int64) (st : List Value) (h : pb_H) (Q : Option Value → pb_H → Prop) (x : Nat), pb_R 31 21 [l0, some (.ref x), l2, l3, l4] [j0, j1, j2, j3, j4] st h Q ↔ pb_R 31 22 [l0, some (.ref x), l2, l3, l4] [j0, j1, j2, j3, j4] (.ref x :: st) h Q) ∧
  (∀ (l0 l2 l3 l4 : Option Value) (j0 j1 j2 j3 j4 : Option Int64) (st : List Value) (h : pb_H) (Q : Option Value → pb_H → Prop), pb_R 31 21 [l0, some .null, l2, l3, l4] [j0, j1, j2, j3, j4] st h Q ↔ pb_R 31 22 [l0, some .null, l2, l3, l4] [j0, j1, j2, j3, j4] (.null :: st) h Q) ∧
  (∀ (l1 l2 l3 l4 : Option Value) (j0 j1 j2 j3 j4 : Option Int64) (st : List Value) (h : pb_H) (Q : Option Value → pb_H → Prop) (x : Nat), pb_R 31 22 [some (.ref x), l1, l2, l3, l4] [j0, j1, j2, j3, j4] st h Q ↔ pb_R 31 23 [some (.ref x), l1, l2, l3, l4] [j0, j1, j2, j3, j4] (.ref x :: st) h Q) ∧
  (∀ (l1 l2 l3 l4 : Option Value) (j0 j1 j2 j3 j4 : Option Int64) (st : List Value) (h : pb_H) (Q : Option Value → pb_H → Prop), pb_R 31 22 [some .null, l1, l2, l3, l4] [j0, j1, j2, j3, j4] st h Q ↔ pb_R 31 23 [some .null, l1, l2, l3, l4] [j0, j1, j2, j3, j4] (.null :: st) h Q) ∧
  (∀ (L : pb_L) (J : pb_J) (st : List Value) (h : pb_H) (Q : Option Value → pb_H → Prop) (a : Nat), pb_R 31 23 L J (.ref a :: st) h Q ↔ pb_o (pb_gf (h.2 a) 3 3) (fun v => pb_R 31 26 L J (v :: st) h Q)) ∧
  (∀ (L : pb_L) (J : pb_J) (st : List Value) (h : pb_H) (Q : Option Value → pb_H → Prop), pb_R 31 26 L J st h Q ↔ pb_R 31 27 L J (.int (1 : Int32) :: st) h Q) ∧
  (∀ (L : pb_L) (J : pb_J) (st : List Value) (x y : Int32) (h : pb_H) (Q : Option Value → pb_H → Prop), pb_R 31 27 L J (.int y :: .int x :: st) h Q ↔ pb_R 31 28 L J (.int (x - y) :: st) h Q) ∧
  (∀ (L : pb_L) (J : pb_J) (st : List Value) (h : pb_H) (Q : Option Value → pb_H → Prop) (a : Nat) (i : Int32), pb_R 31 28 L J (.int i :: .ref a :: st) h Q ↔ pb_o (pb_ai (h.2 a) i) (fun v => pb_R 31 29 L J (.int v :: st) h Q)) ∧
  (∀ (L : pb_L) (J : pb_J) (h : pb_H) (Q : Option Value → pb_H → Prop) (x0 : Int32) (x1 : Nat), pb_R 31 29 L J [.int x0, .ref x1] h Q ↔ pb_call 30 [.int x0] h (fun v t => pb_R 31 32 L J (v.toList ++ [.ref x1]) t Q)) ∧
  (∀ (L : pb_L) (J : pb_J) (st : List Value) (h : pb_H) (Q : Option Value → pb_H → Prop) (a : Nat) (x : Int32), pb_R 31 32 L J (.int x :: .ref a :: st) h Q ↔ pb_o (pb_pf (h.2 a) 3 4 (.int x)) (fun c => pb_R 31 35 L J st (pb_set h a c) Q)) ∧
  (∀ (L : pb_L) (J : pb_J) (st : List Value) (h : pb_H) (Q : Option Value → pb_H → Prop), pb_R 31 35 L J st h Q ↔ pb_R 31 36 L J (.long (0 : Int64) :: st) h Q) ∧
  (∀ (l0 l1 l2 l3 l4 : Option Value) (j0 j1 j2 j3 j4 : Option Int64) (st : List Value) (h : pb_H) (Q : Option Value → pb_H → Prop) (x : Int64), pb_R 31 36 [l0, l1, l2, l3, l4] [j0, j1, j2, j3, j4] (.long x :: st) h Q ↔ pb_R 31 37 [l0, l1, none, none, l4] [j0, none, some x, none, j4] st h Q) ∧
  (∀ (L : pb_L) (J : pb_J) (st : List Value) (h : pb_H) (Q : Option Value → pb_H → Prop), pb_R 31 37 L J st h Q ↔ pb_R 31 38 L J (.int (0 : Int32) :: st) h Q) ∧
  (∀ (l0 l1 l2 l3 l4 : Option Value) (j0 j1 j2 j3 j4 : Option Int64) (st : List Value) (h : pb_H) (Q : Option Value → pb_H → Prop) (x : Int32), pb_R 31 38 [l0, l1, l2, l3, l4] [j0, j1, j2, j3, j4] (.int x :: st) h Q ↔ pb_R 31 40 [l0, l1, l2, l3, some (.int x)] [j0, j1, j2, none, none] st h Q) ∧
  (∀ (L : pb_L) (J : pb_J) (st : List Value) (h : pb_H) (Q : Option Value → pb_H → Prop), pb_R 31 42 L J st h Q ↔ pb_R 31 44 L J (.int (8 : Int32) :: st) h Q) ∧
  (∀ (L : pb_L) (J : pb_J) (st : List Value) (h : pb_H) (Q : Option Value → pb_H → Prop) (x y : Int32), pb_R 31 44 L J (.int y :: .int x :: st) h Q ↔ if y ≤ x then pb_R 31 84 L J st h Q else pb_R 31 47 L J st h Q) ∧
  (∀ (l0 l1 l2 l3 l4 : Option Value) (j0 j1 j3 j4 : Option Int64) (st : List Value) (h : pb_H) (Q : Option Value → pb_H → Prop) (x : Int64), pb_R 31 47 [l0, l1, l2, l3, l4] [j0, j1, some x, j3, j4] st h Q ↔ pb_R 31 48 [l0, l1, l2, l3, l4] [j0, j1, some x, j3, j4] (.long x :: st) h Q) ∧
  (∀ (l0 l2 l3 l4 : Option Value) (j0 j1 j2 j3 j4 : Option Int64) (st : List Value) (h : pb_H) (Q : Option Value → pb_H → Prop) (x : Nat), pb_R 31 48 [l0, some (.ref x), l2, l3, l4] [j0, j1, j2, j3, j4] st h Q ↔ pb_R 31 49 [l0, some (.ref x), l2, l3, l4] [j0, j1, j2, j3, j4] (.ref x :: st) h Q) ∧
  (∀ (l0 l2 l3 l4 : Option Value) (j0 j1 j2 j3 j4 : Option Int64) (st : List Value) (h : pb_H) (Q : Option Value → pb_H → Prop), pb_R 31 48 [l0, some .null, l2, l3, l4] [j0, j1, j2, j3, j4] st h Q ↔ pb_R 31 49 [l0, some .null, l2, l3, l4] [j0, j1, j2, j3, j4] (.null :: st) h Q) ∧
  (∀ (l0 l1 l2 l3 : Option Value) (j0 j1 j2 j3 j4 : Option Int64) (st : List Value) (h : pb_H) (Q : Option Value → pb_H → Prop) (x : Int32), pb_R 31 49 [l0, l1, l2, l3, some (.int x)] [j0, j1, j2, j3, j4] st h Q ↔ pb_R 31 51 [l0, l1, l2, l3, some (.int x)] [j0, j1, j2, j3, j4] (.int x :: st) h Q) ∧
  (∀ (L : pb_L) (J : pb_J) (st : List Value) (h : pb_H) (Q : Option Value → pb_H → Prop) (a : Nat) (i : Int32), pb_R 31 51 L J (.int i :: .ref a :: st) h Q ↔ pb_o (pb_ai (h.2 a) i) (fun v => pb_R 31 52 L J (.int v :: st) h Q)) ∧
  (∀ (L : pb_L) (J : pb_J) (st : List Value) (x : Int32) (h : pb_H) (Q : Option Value → pb_H → Prop), pb_R 31 52 L J (.int x :: st) h Q ↔ pb_R 31 53 L J (.long x.toInt64 :: st) h Q) ∧
  (∀ (L : pb_L) (J : pb_J) (st : List Value) (h : pb_H) (Q : Option Value → pb_H → Prop), pb_R 31 53 L J st h Q ↔ pb_R 31 56 L J (.long (4294967295 : Int64) :: st) h Q) ∧
  (∀ (L : pb_L) (J : pb_J) (st : List Value) (x y : Int64) (h : pb_H) (Q : Option Value → pb_H → Prop), pb_R 31 56 L J (.long y :: .long x :: st) h Q ↔ pb_R 31 57 L J (.long (x &&& y) :: st) h Q) ∧
  (∀ (l1 l2 l3 l4 : Option Value) (j0 j1 j2 j3 j4 : Option Int64) (st : List Value) (h : pb_H) (Q : Option Value → pb_H → Prop) (x : Nat), pb_R 31 57 [some (.ref x), l1, l2, l3, l4] [j0, j1, j2, j3, j4] st h Q ↔ pb_R 31 58 [some (.ref x), l1, l2, l3, l4] [j0, j1, j2, j3, j4] (.ref x :: st) h Q) ∧
  (∀ (l1 l2 l3 l4 : Option Value) (j0 j1 j2 j3 j4 : Option Int64) (st : List Value) (h : pb_H) (Q : Option Value → pb_H → Prop), pb_R 31 57 [some .null, l1, l2, l3, l4] [j0, j1, j2, j3, j4] st h Q ↔ pb_R 31 58 [some .null, l1, l2, l3, l4] [j0, j1, j2, j3, j4] (.null :: st) h Q) ∧
  (∀ (L : pb_L) (J : pb_J) (st : List Value) (h : pb_H) (Q : Option Value → pb_H → Prop) (a : Nat), pb_R 31 58 L J (.ref a :: st) h Q ↔ pb_o (pb_gf (h.2 a) 3 4) (fun v => pb_R 31 61 L J (v :: st) h Q)) ∧
  (∀ (L : pb_L) (J : pb_J) (st : List Value) (x : Int64) (y : Int32) (h : pb_H) (Q : Option Value → pb_H → Prop), pb_R 31 61 L J (.int y :: .long x :: st) h Q ↔ pb_R 31 62 L J (.long (x <<< (y.toInt64 &&& 63)) :: st) h Q) ∧
  (∀ (L : pb_L) (J : pb_J) (st : List Value) (x y : Int64) (h : pb_H) (Q : Option Value → pb_H → Prop), pb_R 31 62 L J (.long y :: .long x :: st) h Q ↔ pb_R 31 63 L J (.long (x + y) :: st) h Q) ∧
  (∀ (l0 l1 l2 l3 l4 : Option Value) (j0 j1 j2 j3 j4 : Option Int64) (st : List Value) (h : pb_H) (Q : Option Value → pb_H → Prop) (x : Int64), pb_R 31 63 [l0, l1, l2, l3, l4] [j0, j1, j2, j3, j4] (.long x :: st) h Q ↔ pb_R 31 64 [l0, l1, none, none, l4] [j0, none, some x, none, j4] st h Q) ∧
  (∀ (l1 l2 l3 l4 : Option Value) (j0 j1 j2 j3 j4 : Option Int64) (st : List Value) (h : pb_H) (Q : Option Value → pb_H → Prop) (x : Nat), pb_R 31 64 [some (.ref x), l1, l2, l3, l4] [j0, j1, j2, j3, j4] st h Q ↔ pb_R 31 65 [some (.ref x), l1, l2, l3, l4] [j0, j1, j2, j3, j4] (.ref x :: st) h Q) ∧
  (∀ (l1 l2 l3 l4 : Option Value) (j0 j1 j2 j3 j4 : Option Int64) (st : List Value) (h : pb_H) (Q : Option Value → pb_H → Prop), pb_R 31 64 [some .null, l1, l2, l3, l4] [j0, j1, j2, j3, j4] st h Q ↔ pb_R 31 65 [some .null, l1, l2, l3, l4] [j0, j1, j2, j3, j4] (.null :: st) h Q) ∧
  (∀ (L : pb_L) (J : pb_J) (st : List Value) (h : pb_H) (Q : Option Value → pb_H → Prop) (a : Nat), pb_R 31 65 L J (.ref a :: st) h Q ↔ pb_o (pb_gf (h.2 a) 3 0) (fun v => pb_R 31 68 L J (v :: st) h Q)) ∧
  (∀ (l0 l1 l2 l3 : Option Value) (j0 j1 j2 j3 j4 : Option Int64) (st : List Value) (h : pb_H) (Q : Option Value → pb_H → Prop) (x : Int32), pb_R 31 68 [l0, l1, l2, l3, some (.int x)] [j0, j1, j2, j3, j4] st h Q ↔ pb_R 31 70 [l0, l1, l2, l3, some (.int x)] [j0, j1, j2, j3, j4] (.int x :: st) h Q) ∧
  (∀ (l0 l1 l2 l3 l4 : Option Value) (j0 j1 j3 j4 : Option Int64) (st : List Value) (h : pb_H) (Q : Option Value → pb_H → Prop) (x : Int64), pb_R 31 70 [l0, l1, l2, l3, l4] [j0, j1, some x, j3, j4] st h Q ↔ pb_R 31 71 [l0, l1, l2, l3, l4] [j0, j1, some x, j3, j4] (.long x :: st) h Q) ∧
  (∀ (L : pb_L) (J : pb_J) (st : List Value) (x : Int64) (h : pb_H) (Q : Option Value → pb_H → Prop), pb_R 31 71 L J (.long x :: st) h Q ↔ pb_R 31 72 L J (.int x.toInt32 :: st) h Q) ∧
  (∀ (L : pb_L) (J : pb_J) (st : List Value) (h : pb_H) (Q : Option Value → pb_H → Prop) (a : Nat) (i x : Int32), pb_R 31 72 L J (.int x :: .int i :: .ref a :: st) h Q ↔ pb_o (pb_si (h.2 a) i x) (fun c => pb_R 31 73 L J st (pb_set h a c) Q)) ∧
  (∀ (l0 l1 l2 l3 l4 : Option Value) (j0 j1 j3 j4 : Option Int64) (st : List Value) (h : pb_H) (Q : Option Value → pb_H → Prop) (x : Int64), pb_R 31 73 [l0, l1, l2, l3, l4] [j0, j1, some x, j3, j4] st h Q ↔ pb_R 31 74 [l0, l1, l2, l3, l4] [j0, j1, some x, j3, j4] (.long x :: st) h Q) ∧
  (∀ (L : pb_L) (J : pb_J) (st : List Value) (h : pb_H) (Q : Option Value → pb_H → Prop), pb_R 31 74 L J st h Q ↔ pb_R 31 76 L J (.int (32 : Int32) :: st) h Q) ∧
  (∀ (L : pb_L) (J : pb_J) (st : List Value) (x : Int64) (y : Int32) (h : pb_H) (Q : Option Value → pb_H → Prop), pb_R 31 76 L J (.int y :: .long x :: st) h Q ↔ pb_R 31 77 L J (.long (x.toUInt64 >>> (y.toInt64.toUInt64 &&& Int64.toUInt64 63)).toInt64 :: st) h Q) ∧
  (∀ (l0 l1 l2 l3 l4 : Option Value) (j0 j1 j2 j3 j4 : Option Int64) (st : List Value) (h : pb_H) (Q : Option Value → pb_H → Prop) (x : Int64), pb_R 31 77 [l0, l1, l2, l3, l4] [j0, j1, j2, j3, j4] (.long x :: st) h Q ↔ pb_R 31 78 [l0, l1, none, none, l4] [j0, none, some x, none, j4] st h Q) ∧
  (∀ (l0 l1 l2 l3 : Option Value) (j0 j1 j2 j3 j4 : Option Int64) (st : List Value) (h : pb_H) (Q : Option Value → pb_H → Prop) (x : Int32), pb_R 31 78 [l0, l1, l2, l3, some (.int x)] [j0, j1, j2, j3, j4] st h Q ↔ pb_R 31 81 [l0, l1, l2, l3, some (.int (x + (1 : Int32)))] [j0, j1, j2, none, none] st h Q) ∧
  (∀ (L : pb_L) (J : pb_J) (st : List Value) (h : pb_H) (Q : Option Value → pb_H → Prop), pb_R 31 81 L J st h Q ↔ pb_R 31 40 L J st h Q) ∧
  (∀ (L : pb_L) (J : pb_J) (h : pb_H) (Q : Option Value → pb_H → Prop), pb_R 31 84 L J [] h Q ↔ Q none h) := ⟨
  fun l1 l2 l3 l4 j0 j1 j2 j3 j4 st h Q x => pf_S pb_u_31 rfl rfl,
  fun l1 l2 l3 l4 j0 j1 j2 j3 j4 st h Q => pf_S pb_u_31 rfl rfl,
  fun l0 l2 l3 l4 j0 j1 j2 j3 j4 st h Q x => pf_S pb_u_31 rfl rfl,
  fun l0 l2 l3 l4 j0 j1 j2 j3 j4 st h Q => pf_S pb_u_31 rfl rfl,
  fun L J st h Q => pf_S pb_u_31 rfl rfl,
  fun L J h Q x0 x1 x2 => pf_ks pb_u_31 rfl rfl rfl rfl,
  fun L J st h Q a x => pf_pf pb_u_31 rfl rfl,
  fun l1 l2 l3 l4 j0 j1 j2 j3 j4 st h Q x => pf_S pb_u_31 rfl rfl,
  fun l1 l2 l3 l4 j0 j1 j2 j3 j4 st h Q => pf_S pb_u_31 rfl rfl,
  fun l1 l2 l3 l4 j0 j1 j2 j3 j4 st h Q x => pf_S pb_u_31 rfl rfl,
  fun l1 l2 l3 l4 j0 j1 j2 j3 j4 st h Q => pf_S pb_u_31 rfl rfl,
  fun L J st h Q a => pf_gf pb_u_31 rfl rfl,
  fun L J st h Q x => pf_ii pb_u_31 rfl rfl pf_ne,
  fun L J st h Q => pf_S pb_u_31 rfl rfl,
  fun L J st h Q => pf_S pb_u_31 rfl rfl,
  fun l0 l2 l3 l4 j0 j1 j2 j3 j4 st h Q x => pf_S pb_u_31 rfl rfl,
  fun l0 l2 l3 l4 j0 j1 j2 j3 j4 st h Q => pf_S pb_u_31 rfl rfl,
  fun l1 l2 l3 l4 j0 j1 j2 j3 j4 st h Q x => pf_S pb_u_31 rfl rfl,
  fun l1 l2 l3 l4 j0 j1 j2 j3 j4 st h Q => pf_S pb_u_31 rfl rfl,
  fun L J st h Q a => pf_gf pb_u_31 rfl rfl,
  fun L J st h Q => pf_S pb_u_31 rfl rfl,
  fun L J st x y h Q => pf_S pb_u_31 rfl rfl,
  fun L J st h Q a i => pf_ai pb_u_31 rfl rfl,
  fun L J h Q x0 x1 => pf_ks pb_u_31 rfl rfl rfl rfl,
  fun L J st h Q a x => pf_pf pb_u_31 rfl rfl,
  fun L J st h Q => pf_S pb_u_31 rfl rfl,
  fun l0 l1 l2 l3 l4 j0 j1 j2 j3 j4 st h Q x => pf_S pb_u_31 rfl rfl,
  fun L J st h Q => pf_S pb_u_31 rfl rfl,
  fun l0 l1 l2 l3 l4 j0 j1 j2 j3 j4 st h Q x => pf_S pb_u_31 rfl rfl,
  fun L J st h Q => pf_S pb_u_31 rfl rfl,
  fun L J st h Q x y => pf_ic pb_u_31 rfl rfl rfl,
  fun l0 l1 l2 l3 l4 j0 j1 j3 j4 st h Q x => pf_S pb_u_31 rfl rfl,
  fun l0 l2 l3 l4 j0 j1 j2 j3 j4 st h Q x => pf_S pb_u_31 rfl rfl,
  fun l0 l2 l3 l4 j0 j1 j2 j3 j4 st h Q => pf_S pb_u_31 rfl rfl,
  fun l0 l1 l2 l3 j0 j1 j2 j3 j4 st h Q x => pf_S pb_u_31 rfl rfl,
  fun L J st h Q a i => pf_ai pb_u_31 rfl rfl,
  fun L J st x h Q => pf_S pb_u_31 rfl rfl,
  fun L J st h Q => pf_S pb_u_31 rfl rfl,
  fun L J st x y h Q => pf_S pb_u_31 rfl rfl,
  fun l1 l2 l3 l4 j0 j1 j2 j3 j4 st h Q x => pf_S pb_u_31 rfl rfl,
  fun l1 l2 l3 l4 j0 j1 j2 j3 j4 st h Q => pf_S pb_u_31 rfl rfl,
  fun L J st h Q a => pf_gf pb_u_31 rfl rfl,
  fun L J st x y h Q => pf_S pb_u_31 rfl rfl,
  fun L J st x y h Q => pf_S pb_u_31 rfl rfl,
  fun l0 l1 l2 l3 l4 j0 j1 j2 j3 j4 st h Q x => pf_S pb_u_31 rfl rfl,
  fun l1 l2 l3 l4 j0 j1 j2 j3 j4 st h Q x => pf_S pb_u_31 rfl rfl,
  fun l1 l2 l3 l4 j0 j1 j2 j3 j4 st h Q => pf_S pb_u_31 rfl rfl,
  fun L J st h Q a => pf_gf pb_u_31 rfl rfl,
  fun l0 l1 l2 l3 j0 j1 j2 j3 j4 st h Q x => pf_S pb_u_31 rfl rfl,
  fun l0 l1 l2 l3 l4 j0 j1 j3 j4 st h Q x => pf_S pb_u_31 rfl rfl,
  fun L J st x h Q => pf_S pb_u_31 rfl rfl,
  fun L J st h Q a i x => pf_si pb_u_31 rfl rfl,
  fun l0 l1 l2 l3 l4 j0 j1 j3 j4 st h Q x => pf_S pb_u_31 rfl rfl,
  fun L J st h Q => pf_S pb_u_31 rfl rfl,
  fun L J st x y h Q => pf_S pb_u_31 rfl rfl,
  fun l0 l1 l2 l3 l4 j0 j1 j2 j3 j4 st h Q x => pf_S pb_u_31 rfl rfl,
  fun l0 l1 l2 l3 j0 j1 j2 j3 j4 st h Q x => pf_S pb_u_31 rfl rfl,
  fun L J st h Q => pf_S pb_u_31 rfl rfl,
  fun L J h Q => pf_rv pb_u_31 rfl rfl⟩
theorem pb_c31 (x0 : Nat) (x1 : Nat) (h : pb_H) (Q : Option Value → pb_H → Prop) : pb_call 31 [.ref x0, .ref x1] h Q ↔ pb_R 31 0 [some (.ref x0), some (.ref x1), none, none, none] [none, none, none, none, none] [] h Q := Iff.rfl
/-! 32: PlaneBench$Line.has(I)Z -/
theorem pb_u_32 : pb_t 32 = pb_t32 := rfl
theorem pb_ci_32 : pb_ci 32 = 4 := by decide +kernel
set_option maxRecDepth 100000 in
theorem pb_e32 : (∀ (l1 : Option Value) (st : List Value) (h : pb_H) (Q : Option Value → pb_H → Prop) (x : Nat), pb_R 32 0 [some (.ref x), l1] [] st h Q ↔ pb_R 32 1 [some (.ref x), l1] [] (.ref x :: st) h Q) ∧
  (∀ (l1 : Option Value) (st : List Value) (h : pb_H) (Q : Option Value → pb_H → Prop), pb_R 32 0 [some .null, l1] [] st h Q ↔ pb_R 32 1 [some .null, l1] [] (.null :: st) h Q) ∧
  (∀ (L : pb_L) (J : pb_J) (st : List Value) (h : pb_H) (Q : Option Value → pb_H → Prop) (a : Nat), pb_R 32 1 L J (.ref a :: st) h Q ↔ pb_o (pb_gf (h.2 a) 4 2) (fun v => pb_R 32 4 L J (v :: st) h Q)) ∧
  (∀ (l1 : Option Value) (st : List Value) (h : pb_H) (Q : Option Value → pb_H → Prop) (x : Nat), pb_R 32 4 [some (.ref x), l1] [] st h Q ↔ pb_R 32 5 [some (.ref x), l1] [] (.ref x :: st) h Q) ∧
  (∀ (l1 : Option Value) (st : List Value) (h : pb_H) (Q : Option Value → pb_H → Prop), pb_R 32 4 [some .null, l1] [] st h Q ↔ pb_R 32 5 [some .null, l1] [] (.null :: st) h Q) ∧
  (∀ (L : pb_L) (J : pb_J) (st : List Value) (h : pb_H) (Q : Option Value → pb_H → Prop) (a : Nat), pb_R 32 5 L J (.ref a :: st) h Q ↔ pb_o (pb_gf (h.2 a) 4 3) (fun v => pb_R 32 8 L J (v :: st) h Q)) ∧
  (∀ (L : pb_L) (J : pb_J) (st : List Value) (x y : Int32) (h : pb_H) (Q : Option Value → pb_H → Prop), pb_R 32 8 L J (.int y :: .int x :: st) h Q ↔ pb_R 32 9 L J (.int (x ||| y) :: st) h Q) ∧
  (∀ (L : pb_L) (J : pb_J) (st : List Value) (h : pb_H) (Q : Option Value → pb_H → Prop), pb_R 32 9 L J st h Q ↔ pb_R 32 10 L J (.int (1 : Int32) :: st) h Q) ∧
  (∀ (l0 : Option Value) (st : List Value) (h : pb_H) (Q : Option Value → pb_H → Prop) (x : Int32), pb_R 32 10 [l0, some (.int x)] [] st h Q ↔ pb_R 32 11 [l0, some (.int x)] [] (.int x :: st) h Q) ∧
  (∀ (L : pb_L) (J : pb_J) (st : List Value) (h : pb_H) (Q : Option Value → pb_H → Prop), pb_R 32 11 L J st h Q ↔ pb_R 32 12 L J (.int (1 : Int32) :: st) h Q) ∧
  (∀ (L : pb_L) (J : pb_J) (st : List Value) (x y : Int32) (h : pb_H) (Q : Option Value → pb_H → Prop), pb_R 32 12 L J (.int y :: .int x :: st) h Q ↔ pb_R 32 13 L J (.int (x - y) :: st) h Q) ∧
  (∀ (L : pb_L) (J : pb_J) (st : List Value) (x y : Int32) (h : pb_H) (Q : Option Value → pb_H → Prop), pb_R 32 13 L J (.int y :: .int x :: st) h Q ↔ pb_R 32 14 L J (.int (x <<< (y &&& 31)) :: st) h Q) ∧
  (∀ (L : pb_L) (J : pb_J) (st : List Value) (x y : Int32) (h : pb_H) (Q : Option Value → pb_H → Prop), pb_R 32 14 L J (.int y :: .int x :: st) h Q ↔ pb_R 32 15 L J (.int (x &&& y) :: st) h Q) ∧
  (∀ (L : pb_L) (J : pb_J) (st : List Value) (h : pb_H) (Q : Option Value → pb_H → Prop) (x : Int32), pb_R 32 15 L J (.int x :: st) h Q ↔ if x = 0 then pb_R 32 22 L J st h Q else pb_R 32 18 L J st h Q) ∧
  (∀ (L : pb_L) (J : pb_J) (st : List Value) (h : pb_H) (Q : Option Value → pb_H → Prop), pb_R 32 18 L J st h Q ↔ pb_R 32 19 L J (.int (1 : Int32) :: st) h Q) ∧
  (∀ (L : pb_L) (J : pb_J) (st : List Value) (h : pb_H) (Q : Option Value → pb_H → Prop), pb_R 32 19 L J st h Q ↔ pb_R 32 23 L J st h Q) ∧
  (∀ (L : pb_L) (J : pb_J) (st : List Value) (h : pb_H) (Q : Option Value → pb_H → Prop), pb_R 32 22 L J st h Q ↔ pb_R 32 23 L J (.int (0 : Int32) :: st) h Q) ∧
  (∀ (L : pb_L) (J : pb_J) (h : pb_H) (Q : Option Value → pb_H → Prop) (x : Int32), pb_R 32 23 L J [.int x] h Q ↔ narrow .boolean (.int x) = .int x ∧ Q (some (.int x)) h) := ⟨
  fun l1 st h Q x => pf_S pb_u_32 rfl rfl,
  fun l1 st h Q => pf_S pb_u_32 rfl rfl,
  fun L J st h Q a => pf_gf pb_u_32 rfl rfl,
  fun l1 st h Q x => pf_S pb_u_32 rfl rfl,
  fun l1 st h Q => pf_S pb_u_32 rfl rfl,
  fun L J st h Q a => pf_gf pb_u_32 rfl rfl,
  fun L J st x y h Q => pf_S pb_u_32 rfl rfl,
  fun L J st h Q => pf_S pb_u_32 rfl rfl,
  fun l0 st h Q x => pf_S pb_u_32 rfl rfl,
  fun L J st h Q => pf_S pb_u_32 rfl rfl,
  fun L J st x y h Q => pf_S pb_u_32 rfl rfl,
  fun L J st x y h Q => pf_S pb_u_32 rfl rfl,
  fun L J st x y h Q => pf_S pb_u_32 rfl rfl,
  fun L J st h Q x => pf_ii pb_u_32 rfl rfl rfl,
  fun L J st h Q => pf_S pb_u_32 rfl rfl,
  fun L J st h Q => pf_S pb_u_32 rfl rfl,
  fun L J st h Q => pf_S pb_u_32 rfl rfl,
  fun L J h Q x => pf_rz pb_u_32 rfl rfl⟩
theorem pb_c32 (x0 : Nat) (x1 : Int32) (h : pb_H) (Q : Option Value → pb_H → Prop) : pb_call 32 [.ref x0, .int x1] h Q ↔ pb_R 32 0 [some (.ref x0), some (.int x1)] [] [] h Q := Iff.rfl
/-! 33: PlaneBench$Divider.guess(I)J -/
theorem pb_u_33 : pb_t 33 = pb_t33 := rfl
theorem pb_ci_33 : pb_ci 33 = 3 := by decide +kernel
set_option maxRecDepth 100000 in
theorem pb_q33_168 (l0 l1 l2 l3 l4 l5 l6 l7 l8 l9 l10 l11 l12 l13 : Option Value) (j0 j1 j2 j3 j4 j5 j6 j7 j8 j9 j10 j11 j12 j13 j14 : Option Int64) (st : List Value) (h : pb_H) (Q : Option Value → pb_H → Prop) (x : Int32) : pb_R 33 168 [l0, l1, l2, l3, l4, l5, l6, l7, l8, l9, l10, l11, l12, l13, some (.int x)] [j0, j1, j2, j3, j4, j5, j6, j7, j8, j9, j10, j11, j12, j13, j14] st h Q ↔ pb_R 33 170 [l0, l1, l2, l3, l4, l5, l6, l7, l8, l9, l10, l11, l12, l13, some (.int x)] [j0, j1, j2, j3, j4, j5, j6, j7, j8, j9, j10, j11, j12, j13, j14] (.int x :: st) h Q := pf_S pb_u_33 rfl rfl
set_option maxRecDepth 100000 in
theorem pb_e33 : (∀ (l1 l2 l3 l4 l5 l6 l7 l8 l9 l10 l11 l12 l13 l14 : Option Value) (j0 j1 j2 j3 j4 j5 j6 j7 j8 j9 j10 j11 j12 j13 j14 : Option Int64) (st : List Value) (h : pb_H) (Q : Option Value → pb_H → Prop) (x : Nat), pb_R 33 0 [some (.ref x), l1, l2, l3, l4, l5, l6, l7, l8, l9, l10, l11, l12, l13, l14] [j0, j1, j2, j3, j4, j5, j6, j7, j8, j9, j10, j11, j12, j13, j14] st h Q ↔ pb_R 33 1 [some (.ref x), l1, l2, l3, l4, l5, l6, l7, l8, l9, l10, l11, l12, l13, l14] [j0, j1, j2, j3, j4, j5, j6, j7, j8, j9, j10, j11, j12, j13, j14] (.ref x :: st) h Q) ∧
  (∀ (l1 l2 l3 l4 l5 l6 l7 l8 l9 l10 l11 l12 l13 l14 : Option Value) (j0 j1 j2 j3 j4 j5 j6 j7 j8 j9 j10 j11 j12 j13 j14 : Option Int64) (st : List Value) (h : pb_H) (Q : Option Value → pb_H → Prop), pb_R 33 0 [some .null, l1, l2, l3, l4, l5, l6, l7, l8, l9, l10, l11, l12, l13, l14] [j0, j1, j2, j3, j4, j5, j6, j7, j8, j9, j10, j11, j12, j13, j14] st h Q ↔ pb_R 33 1 [some .null, l1, l2, l3, l4, l5, l6, l7, l8, l9, l10, l11, l12, l13, l14] [j0, j1, j2, j3, j4, j5, j6, j7, j8, j9, j10, j11, j12, j13, j14] (.null :: st) h Q) ∧
  (∀ (L : pb_L) (J : pb_J) (st : List Value) (h : pb_H) (Q : Option Value → pb_H → Prop) (a : Nat), pb_R 33 1 L J (.ref a :: st) h Q ↔ pb_o (pb_gf (h.2 a) 3 0) (fun v => pb_R 33 4 L J (v :: st) h Q)) ∧
  (∀ (l1 l2 l3 l4 l5 l6 l7 l8 l9 l10 l11 l12 l13 l14 : Option Value) (j0 j1 j2 j3 j4 j5 j6 j7 j8 j9 j10 j11 j12 j13 j14 : Option Int64) (st : List Value) (h : pb_H) (Q : Option Value → pb_H → Prop) (x : Nat), pb_R 33 4 [some (.ref x), l1, l2, l3, l4, l5, l6, l7, l8, l9, l10, l11, l12, l13, l14] [j0, j1, j2, j3, j4, j5, j6, j7, j8, j9, j10, j11, j12, j13, j14] st h Q ↔ pb_R 33 5 [some (.ref x), l1, l2, l3, l4, l5, l6, l7, l8, l9, l10, l11, l12, l13, l14] [j0, j1, j2, j3, j4, j5, j6, j7, j8, j9, j10, j11, j12, j13, j14] (.ref x :: st) h Q) ∧
  (∀ (l1 l2 l3 l4 l5 l6 l7 l8 l9 l10 l11 l12 l13 l14 : Option Value) (j0 j1 j2 j3 j4 j5 j6 j7 j8 j9 j10 j11 j12 j13 j14 : Option Int64) (st : List Value) (h : pb_H) (Q : Option Value → pb_H → Prop), pb_R 33 4 [some .null, l1, l2, l3, l4, l5, l6, l7, l8, l9, l10, l11, l12, l13, l14] [j0, j1, j2, j3, j4, j5, j6, j7, j8, j9, j10, j11, j12, j13, j14] st h Q ↔ pb_R 33 5 [some .null, l1, l2, l3, l4, l5, l6, l7, l8, l9, l10, l11, l12, l13, l14] [j0, j1, j2, j3, j4, j5, j6, j7, j8, j9, j10, j11, j12, j13, j14] (.null :: st) h Q) ∧
  (∀ (L : pb_L) (J : pb_J) (st : List Value) (h : pb_H) (Q : Option Value → pb_H → Prop) (a : Nat), pb_R 33 5 L J (.ref a :: st) h Q ↔ pb_o (pb_gf (h.2 a) 3 3) (fun v => pb_R 33 8 L J (v :: st) h Q)) ∧
  (∀ (L : pb_L) (J : pb_J) (st : List Value) (h : pb_H) (Q : Option Value → pb_H → Prop), pb_R 33 8 L J st h Q ↔ pb_R 33 9 L J (.int (1 : Int32) :: st) h Q) ∧
  (∀ (L : pb_L) (J : pb_J) (st : List Value) (x y : Int32) (h : pb_H) (Q : Option Value → pb_H → Prop), pb_R 33 9 L J (.int y :: .int x :: st) h Q ↔ pb_R 33 10 L J (.int (x - y) :: st) h Q) ∧
  (∀ (L : pb_L) (J : pb_J) (st : List Value) (h : pb_H) (Q : Option Value → pb_H → Prop) (a : Nat) (i : Int32), pb_R 33 10 L J (.int i :: .ref a :: st) h Q ↔ pb_o (pb_ai (h.2 a) i) (fun v => pb_R 33 11 L J (.int v :: st) h Q)) ∧
  (∀ (L : pb_L) (J : pb_J) (st : List Value) (x : Int32) (h : pb_H) (Q : Option Value → pb_H → Prop), pb_R 33 11 L J (.int x :: st) h Q ↔ pb_R 33 12 L J (.long x.toInt64 :: st) h Q) ∧
  (∀ (L : pb_L) (J : pb_J) (st : List Value) (h : pb_H) (Q : Option Value → pb_H → Prop), pb_R 33 12 L J st h Q ↔ pb_R 33 15 L J (.long (4294967295 : Int64) :: st) h Q) ∧
  (∀ (L : pb_L) (J : pb_J) (st : List Value) (x y : Int64) (h : pb_H) (Q : Option Value → pb_H → Prop), pb_R 33 15 L J (.long y :: .long x :: st) h Q ↔ pb_R 33 16 L J (.long (x &&& y) :: st) h Q) ∧
  (∀ (l0 l1 l2 l3 l4 l5 l6 l7 l8 l9 l10 l11 l12 l13 l14 : Option Value) (j0 j1 j2 j3 j4 j5 j6 j7 j8 j9 j10 j11 j12 j13 j14 : Option Int64) (st : List Value) (h : pb_H) (Q : Option Value → pb_H → Prop) (x : Int64), pb_R 33 16 [l0, l1, l2, l3, l4, l5, l6, l7, l8, l9, l10, l11, l12, l13, l14] [j0, j1, j2, j3, j4, j5, j6, j7, j8, j9, j10, j11, j12, j13, j14] (.long x :: st) h Q ↔ pb_R 33 17 [l0, l1, none, none, l4, l5, l6, l7, l8, l9, l10, l11, l12, l13, l14] [j0, none, some x, none, j4, j5, j6, j7, j8, j9, j10, j11, j12, j13, j14] st h Q) ∧
  (∀ (l0 l1 l2 l3 l4 l5 l6 l7 l8 l9 l10 l11 l12 l13 l14 : Option Value) (j0 j1 j3 j4 j5 j6 j7 j8 j9 j10 j11 j12 j13 j14 : Option Int64) (st : List Value) (h : pb_H) (Q : Option Value → pb_H → Prop) (x : Int64), pb_R 33 17 [l0, l1, l2, l3, l4, l5, l6, l7, l8, l9, l10, l11, l12, l13, l14] [j0, j1, some x, j3, j4, j5, j6, j7, j8, j9, j10, j11, j12, j13, j14] st h Q ↔ pb_R 33 18 [l0, l1, l2, l3, l4, l5, l6, l7, l8, l9, l10, l11, l12, l13, l14] [j0, j1, some x, j3, j4, j5, j6, j7, j8, j9, j10, j11, j12, j13, j14] (.long x :: st) h Q) ∧
  (∀ (L : pb_L) (J : pb_J) (st : List Value) (h : pb_H) (Q : Option Value → pb_H → Prop), pb_R 33 18 L J st h Q ↔ pb_R 33 19 L J (.long (0 : Int64) :: st) h Q) ∧
  (∀ (L : pb_L) (J : pb_J) (st : List Value) (x y : Int64) (h : pb_H) (Q : Option Value → pb_H → Prop), pb_R 33 19 L J (.long y :: .long x :: st) h Q ↔ pb_R 33 20 L J (.int (lg_cmp x y) :: st) h Q) ∧
  (∀ (L : pb_L) (J : pb_J) (st : List Value) (h : pb_H) (Q : Option Value → pb_H → Prop) (x : Int32), pb_R 33 20 L J (.int x :: st) h Q ↔ if ¬ x = 0 then pb_R 33 25 L J st h Q else pb_R 33 23 L J st h Q) ∧
  (∀ (L : pb_L) (J : pb_J) (st : List Value) (h : pb_H) (Q : Option Value → pb_H → Prop), pb_R 33 23 L J st h Q ↔ pb_R 33 24 L J (.long (0 : Int64) :: st) h Q) ∧
  (∀ (L : pb_L) (J : pb_J) (h : pb_H) (Q : Option Value → pb_H → Prop) (x : Int64), pb_R 33 24 L J [.long x] h Q ↔ Q (some (.long x)) h) ∧
  (∀ (l1 l2 l3 l4 l5 l6 l7 l8 l9 l10 l11 l12 l13 l14 : Option Value) (j0 j1 j2 j3 j4 j5 j6 j7 j8 j9 j10 j11 j12 j13 j14 : Option Int64) (st : List Value) (h : pb_H) (Q : Option Value → pb_H → Prop) (x : Nat), pb_R 33 25 [some (.ref x), l1, l2, l3, l4, l5, l6, l7, l8, l9, l10, l11, l12, l13, l14] [j0, j1, j2, j3, j4, j5, j6, j7, j8, j9, j10, j11, j12, j13, j14] st h Q ↔ pb_R 33 26 [some (.ref x), l1, l2, l3, l4, l5, l6, l7, l8, l9, l10, l11, l12, l13, l14] [j0, j1, j2, j3, j4, j5, j6, j7, j8, j9, j10, j11, j12, j13, j14] (.ref x :: st) h Q) ∧
  (∀ (l1 l2 l3 l4 l5 l6 l7 l8 l9 l10 l11 l12 l13 l14 : Option Value) (j0 j1 j2 j3 j4 j5 j6 j7 j8 j9 j10 j11 j12 j13 j14 : Option Int64) (st : List Value) (h : pb_H) (Q : Option Value → pb_H → Prop), pb_R 33 25 [some .null, l1, l2, l3, l4, l5, l6, l7, l8, l9, l10, l11, l12, l13, l14] [j0, j1, j2, j3, j4, j5, j6, j7, j8, j9, j10, j11, j12, j13, j14] st h Q ↔ pb_R 33 26 [some .null, l1, l2, l3, l4, l5, l6, l7, l8, l9, l10, l11, l12, l13, l14] [j0, j1, j2, j3, j4, j5, j6, j7, j8, j9, j10, j11, j12, j13, j14] (.null :: st) h Q) ∧
  (∀ (L : pb_L) (J : pb_J) (st : List Value) (h : pb_H) (Q : Option Value → pb_H → Prop) (a : Nat), pb_R 33 26 L J (.ref a :: st) h Q ↔ pb_o (pb_gf (h.2 a) 3 3) (fun v => pb_R 33 29 L J (v :: st) h Q)) ∧
  (∀ (L : pb_L) (J : pb_J) (st : List Value) (h : pb_H) (Q : Option Value → pb_H → Prop), pb_R 33 29 L J st h Q ↔ pb_R 33 30 L J (.int (1 : Int32) :: st) h Q) ∧
  (∀ (L : pb_L) (J : pb_J) (st : List Value) (h : pb_H) (Q : Option Value → pb_H → Prop) (x y : Int32), pb_R 33 30 L J (.int y :: .int x :: st) h Q ↔ if x ≤ y then pb_R 33 52 L J st h Q else pb_R 33 33 L J st h Q) ∧
  (∀ (l1 l2 l3 l4 l5 l6 l7 l8 l9 l10 l11 l12 l13 l14 : Option Value) (j0 j1 j2 j3 j4 j5 j6 j7 j8 j9 j10 j11 j12 j13 j14 : Option Int64) (st : List Value) (h : pb_H) (Q : Option Value → pb_H → Prop) (x : Nat), pb_R 33 33 [some (.ref x), l1, l2, l3, l4, l5, l6, l7, l8, l9, l10, l11, l12, l13, l14] [j0, j1, j2, j3, j4, j5, j6, j7, j8, j9, j10, j11, j12, j13, j14] st h Q ↔ pb_R 33 34 [some (.ref x), l1, l2, l3, l4, l5, l6, l7, l8, l9, l10, l11, l12, l13, l14] [j0, j1, j2, j3, j4, j5, j6, j7, j8, j9, j10, j11, j12, j13, j14] (.ref x :: st) h Q) ∧
  (∀ (l1 l2 l3 l4 l5 l6 l7 l8 l9 l10 l11 l12 l13 l14 : Option Value) (j0 j1 j2 j3 j4 j5 j6 j7 j8 j9 j10 j11 j12 j13 j14 : Option Int64) (st : List Value) (h : pb_H) (Q : Option Value → pb_H → Prop), pb_R 33 33 [some .null, l1, l2, l3, l4, l5, l6, l7, l8, l9, l10, l11, l12, l13, l14] [j0, j1, j2, j3, j4, j5, j6, j7, j8, j9, j10, j11, j12, j13, j14] st h Q ↔ pb_R 33 34 [some .null, l1, l2, l3, l4, l5, l6, l7, l8, l9, l10, l11, l12, l13, l14] [j0, j1, j2, j3, j4, j5, j6, j7, j8, j9, j10, j11, j12, j13, j14] (.null :: st) h Q) ∧
  (∀ (L : pb_L) (J : pb_J) (st : List Value) (h : pb_H) (Q : Option Value → pb_H → Prop) (a : Nat), pb_R 33 34 L J (.ref a :: st) h Q ↔ pb_o (pb_gf (h.2 a) 3 0) (fun v => pb_R 33 37 L J (v :: st) h Q)) ∧
  (∀ (l1 l2 l3 l4 l5 l6 l7 l8 l9 l10 l11 l12 l13 l14 : Option Value) (j0 j1 j2 j3 j4 j5 j6 j7 j8 j9 j10 j11 j12 j13 j14 : Option Int64) (st : List Value) (h : pb_H) (Q : Option Value → pb_H → Prop) (x : Nat), pb_R 33 37 [some (.ref x), l1, l2, l3, l4, l5, l6, l7, l8, l9, l10, l11, l12, l13, l14] [j0, j1, j2, j3, j4, j5, j6, j7, j8, j9, j10, j11, j12, j13, j14] st h Q ↔ pb_R 33 38 [some (.ref x), l1, l2, l3, l4, l5, l6, l7, l8, l9, l10, l11, l12, l13, l14] [j0, j1, j2, j3, j4, j5, j6, j7, j8, j9, j10, j11, j12, j13, j14] (.ref x :: st) h Q) ∧
  (∀ (l1 l2 l3 l4 l5 l6 l7 l8 l9 l10 l11 l12 l13 l14 : Option Value) (j0 j1 j2 j3 j4 j5 j6 j7 j8 j9 j10 j11 j12 j13 j14 : Option Int64) (st : List Value) (h : pb_H) (Q : Option Value → pb_H → Prop), pb_R 33 37 [some .null, l1, l2, l3, l4, l5, l6, l7, l8, l9, l10, l11, l12, l13, l14] [j0, j1, j2, j3, j4, j5, j6, j7, j8, j9, j10, j11, j12, j13, j14] st h Q ↔ pb_R 33 38 [some .null, l1, l2, l3, l4, l5, l6, l7, l8, l9, l10, l11, l12, l13, l14] [j0, j1, j2, j3, j4, j5, j6, j7, j8, j9, j10, j11, j12, j13, j14] (.null :: st) h Q) ∧
  (∀ (L : pb_L) (J : pb_J) (st : List Value) (h : pb_H) (Q : Option Value → pb_H → Prop) (a : Nat), pb_R 33 38 L J (.ref a :: st) h Q ↔ pb_o (pb_gf (h.2 a) 3 3) (fun v => pb_R 33 41 L J (v :: st) h Q)) ∧
  (∀ (L : pb_L) (J : pb_J) (st : List Value) (h : pb_H) (Q : Option Value → pb_H → Prop), pb_R 33 41 L J st h Q ↔ pb_R 33 42 L J (.int (2 : Int32) :: st) h Q) ∧
  (∀ (L : pb_L) (J : pb_J) (st : List Value) (x y : Int32) (h : pb_H) (Q : Option Value → pb_H → Prop), pb_R 33 42 L J (.int y :: .int x :: st) h Q ↔ pb_R 33 43 L J (.int (x - y) :: st) h Q) ∧
  (∀ (L : pb_L) (J : pb_J) (st : List Value) (h : pb_H) (Q : Option Value → pb_H → Prop) (a : Nat) (i : Int32), pb_R 33 43 L J (.int i :: .ref a :: st) h Q ↔ pb_o (pb_ai (h.2 a) i) (fun v => pb_R 33 44 L J (.int v :: st) h Q)) ∧
  (∀ (L : pb_L) (J : pb_J) (st : List Value) (x : Int32) (h : pb_H) (Q : Option Value → pb_H → Prop), pb_R 33 44 L J (.int x :: st) h Q ↔ pb_R 33 45 L J (.long x.toInt64 :: st) h Q) ∧
  (∀ (L : pb_L) (J : pb_J) (st : List Value) (h : pb_H) (Q : Option Value → pb_H → Prop), pb_R 33 45 L J st h Q ↔ pb_R 33 48 L J (.long (4294967295 : Int64) :: st) h Q) ∧
  (∀ (L : pb_L) (J : pb_J) (st : List Value) (x y : Int64) (h : pb_H) (Q : Option Value → pb_H → Prop), pb_R 33 48 L J (.long y :: .long x :: st) h Q ↔ pb_R 33 49 L J (.long (x &&& y) :: st) h Q) ∧
  (∀ (L : pb_L) (J : pb_J) (st : List Value) (h : pb_H) (Q : Option Value → pb_H → Prop), pb_R 33 49 L J st h Q ↔ pb_R 33 53 L J st h Q) ∧
  (∀ (L : pb_L) (J : pb_J) (st : List Value) (h : pb_H) (Q : Option Value → pb_H → Prop), pb_R 33 52 L J st h Q ↔ pb_R 33 53 L J (.long (0 : Int64) :: st) h Q) ∧
  (∀ (l0 l1 l2 l3 l4 l5 l6 l7 l8 l9 l10 l11 l12 l13 l14 : Option Value) (j0 j1 j2 j3 j4 j5 j6 j7 j8 j9 j10 j11 j12 j13 j14 : Option Int64) (st : List Value) (h : pb_H) (Q : Option Value → pb_H → Prop) (x : Int64), pb_R 33 53 [l0, l1, l2, l3, l4, l5, l6, l7, l8, l9, l10, l11, l12, l13, l14] [j0, j1, j2, j3, j4, j5, j6, j7, j8, j9, j10, j11, j12, j13, j14] (.long x :: st) h Q ↔ pb_R 33 55 [l0, l1, l2, l3, none, none, l6, l7, l8, l9, l10, l11, l12, l13, l14] [j0, j1, j2, none, some x, none, j6, j7, j8, j9, j10, j11, j12, j13, j14] st h Q) ∧
  (∀ (l1 l2 l3 l4 l5 l6 l7 l8 l9 l10 l11 l12 l13 l14 : Option Value) (j0 j1 j2 j3 j4 j5 j6 j7 j8 j9 j10 j11 j12 j13 j14 : Option Int64) (st : List Value) (h : pb_H) (Q : Option Value → pb_H → Prop) (x : Nat), pb_R 33 55 [some (.ref x), l1, l2, l3, l4, l5, l6, l7, l8, l9, l10, l11, l12, l13, l14] [j0, j1, j2, j3, j4, j5, j6, j7, j8, j9, j10, j11, j12, j13, j14] st h Q ↔ pb_R 33 56 [some (.ref x), l1, l2, l3, l4, l5, l6, l7, l8, l9, l10, l11, l12, l13, l14] [j0, j1, j2, j3, j4, j5, j6, j7, j8, j9, j10, j11, j12, j13, j14] (.ref x :: st) h Q) ∧
  (∀ (l1 l2 l3 l4 l5 l6 l7 l8 l9 l10 l11 l12 l13 l14 : Option Value) (j0 j1 j2 j3 j4 j5 j6 j7 j8 j9 j10 j11 j12 j13 j14 : Option Int64) (st : List Value) (h : pb_H) (Q : Option Value → pb_H → Prop), pb_R 33 55 [some .null, l1, l2, l3, l4, l5, l6, l7, l8, l9, l10, l11, l12, l13, l14] [j0, j1, j2, j3, j4, j5, j6, j7, j8, j9, j10, j11, j12, j13, j14] st h Q ↔ pb_R 33 56 [some .null, l1, l2, l3, l4, l5, l6, l7, l8, l9, l10, l11, l12, l13, l14] [j0, j1, j2, j3, j4, j5, j6, j7, j8, j9, j10, j11, j12, j13, j14] (.null :: st) h Q) ∧
  (∀ (L : pb_L) (J : pb_J) (st : List Value) (h : pb_H) (Q : Option Value → pb_H → Prop) (a : Nat), pb_R 33 56 L J (.ref a :: st) h Q ↔ pb_o (pb_gf (h.2 a) 3 3) (fun v => pb_R 33 59 L J (v :: st) h Q)) ∧
  (∀ (L : pb_L) (J : pb_J) (st : List Value) (h : pb_H) (Q : Option Value → pb_H → Prop), pb_R 33 59 L J st h Q ↔ pb_R 33 60 L J (.int (1 : Int32) :: st) h Q) ∧
  (∀ (L : pb_L) (J : pb_J) (st : List Value) (h : pb_H) (Q : Option Value → pb_H → Prop) (x y : Int32), pb_R 33 60 L J (.int y :: .int x :: st) h Q ↔ if x ≤ y then pb_R 33 84 L J st h Q else pb_R 33 63 L J st h Q) ∧
  (∀ (l1 l2 l3 l4 l5 l6 l7 l8 l9 l10 l11 l12 l13 l14 : Option Value) (j0 j1 j2 j3 j4 j5 j6 j7 j8 j9 j10 j11 j12 j13 j14 : Option Int64) (st : List Value) (h : pb_H) (Q : Option Value → pb_H → Prop) (x : Nat), pb_R 33 63 [some (.ref x), l1, l2, l3, l4, l5, l6, l7, l8, l9, l10, l11, l12, l13, l14] [j0, j1, j2, j3, j4, j5, j6, j7, j8, j9, j10, j11, j12, j13, j14] st h Q ↔ pb_R 33 64 [some (.ref x), l1, l2, l3, l4, l5, l6, l7, l8, l9, l10, l11, l12, l13, l14] [j0, j1, j2, j3, j4, j5, j6, j7, j8, j9, j10, j11, j12, j13, j14] (.ref x :: st) h Q) ∧
  (∀ (l1 l2 l3 l4 l5 l6 l7 l8 l9 l10 l11 l12 l13 l14 : Option Value) (j0 j1 j2 j3 j4 j5 j6 j7 j8 j9 j10 j11 j12 j13 j14 : Option Int64) (st : List Value) (h : pb_H) (Q : Option Value → pb_H → Prop), pb_R 33 63 [some .null, l1, l2, l3, l4, l5, l6, l7, l8, l9, l10, l11, l12, l13, l14] [j0, j1, j2, j3, j4, j5, j6, j7, j8, j9, j10, j11, j12, j13, j14] st h Q ↔ pb_R 33 64 [some .null, l1, l2, l3, l4, l5, l6, l7, l8, l9, l10, l11, l12, l13, l14] [j0, j1, j2, j3, j4, j5, j6, j7, j8, j9, j10, j11, j12, j13, j14] (.null :: st) h Q) ∧
  (∀ (L : pb_L) (J : pb_J) (st : List Value) (h : pb_H) (Q : Option Value → pb_H → Prop) (a : Nat), pb_R 33 64 L J (.ref a :: st) h Q ↔ pb_o (pb_gf (h.2 a) 3 1) (fun v => pb_R 33 67 L J (v :: st) h Q)) ∧
  (∀ (l0 l2 l3 l4 l5 l6 l7 l8 l9 l10 l11 l12 l13 l14 : Option Value) (j0 j1 j2 j3 j4 j5 j6 j7 j8 j9 j10 j11 j12 j13 j14 : Option Int64) (st : List Value) (h : pb_H) (Q : Option Value → pb_H → Prop) (x : Int32), pb_R 33 67 [l0, some (.int x), l2, l3, l4, l5, l6, l7, l8, l9, l10, l11, l12, l13, l14] [j0, j1, j2, j3, j4, j5, j6, j7, j8, j9, j10, j11, j12, j13, j14] st h Q ↔ pb_R 33 68 [l0, some (.int x), l2, l3, l4, l5, l6, l7, l8, l9, l10, l11, l12, l13, l14] [j0, j1, j2, j3, j4, j5, j6, j7, j8, j9, j10, j11, j12, j13, j14] (.int x :: st) h Q) ∧
  (∀ (l1 l2 l3 l4 l5 l6 l7 l8 l9 l10 l11 l12 l13 l14 : Option Value) (j0 j1 j2 j3 j4 j5 j6 j7 j8 j9 j10 j11 j12 j13 j14 : Option Int64) (st : List Value) (h : pb_H) (Q : Option Value → pb_H → Prop) (x : Nat), pb_R 33 68 [some (.ref x), l1, l2, l3, l4, l5, l6, l7, l8, l9, l10, l11, l12, l13, l14] [j0, j1, j2, j3, j4, j5, j6, j7, j8, j9, j10, j11, j12, j13, j14] st h Q ↔ pb_R 33 69 [some (.ref x), l1, l2, l3, l4, l5, l6, l7, l8, l9, l10, l11, l12, l13, l14] [j0, j1, j2, j3, j4, j5, j6, j7, j8, j9, j10, j11, j12, j13, j14] (.ref x :: st) h Q) ∧
  (∀ (l1 l2 l3 l4 l5 l6 l7 l8 l9 l10 l11 l12 l13 l14 : Option Value) (j0 j1 j2 j3 j4 j5 j6 j7 j8 j9 j10 j11 j12 j13 j14 : Option Int64) (st : List Value) (h : pb_H) (Q : Option Value → pb_H → Prop), pb_R 33 68 [some .null, l1, l2, l3, l4, l5, l6, l7, l8, l9, l10, l11, l12, l13, l14] [j0, j1, j2, j3, j4, j5, j6, j7, j8, j9, j10, j11, j12, j13, j14] st h Q ↔ pb_R 33 69 [some .null, l1, l2, l3, l4, l5, l6, l7, l8, l9, l10, l11, l12, l13, l14] [j0, j1, j2, j3, j4, j5, j6, j7, j8, j9, j10, j11, j12, j13, j14] (.null :: st) h Q) ∧
  (∀ (L : pb_L) (J : pb_J) (st : List Value) (h : pb_H) (Q : Option Value → pb_H → Prop) (a : Nat), pb_R 33 69 L J (.ref a :: st) h Q ↔ pb_o (pb_gf (h.2 a) 3 3) (fun v => pb_R 33 72 L J (v :: st) h Q)) ∧
  (∀ (L : pb_L) (J : pb_J) (st : List Value) (x y : Int32) (h : pb_H) (Q : Option Value → pb_H → Prop), pb_R 33 72 L J (.int y :: .int x :: st) h Q ↔ pb_R 33 73 L J (.int (x + y) :: st) h Q) ∧
  (∀ (L : pb_L) (J : pb_J) (st : List Value) (h : pb_H) (Q : Option Value → pb_H → Prop), pb_R 33 73 L J st h Q ↔ pb_R 33 74 L J (.int (2 : Int32) :: st) h Q) ∧
  (∀ (L : pb_L) (J : pb_J) (st : List Value) (x y : Int32) (h : pb_H) (Q : Option Value → pb_H → Prop), pb_R 33 74 L J (.int y :: .int x :: st) h Q ↔ pb_R 33 75 L J (.int (x - y) :: st) h Q) ∧
  (∀ (L : pb_L) (J : pb_J) (st : List Value) (h : pb_H) (Q : Option Value → pb_H → Prop) (a : Nat) (i : Int32), pb_R 33 75 L J (.int i :: .ref a :: st) h Q ↔ pb_o (pb_ai (h.2 a) i) (fun v => pb_R 33 76 L J (.int v :: st) h Q)) ∧
  (∀ (L : pb_L) (J : pb_J) (st : List Value) (x : Int32) (h : pb_H) (Q : Option Value → pb_H → Prop), pb_R 33 76 L J (.int x :: st) h Q ↔ pb_R 33 77 L J (.long x.toInt64 :: st) h Q) ∧
  (∀ (L : pb_L) (J : pb_J) (st : List Value) (h : pb_H) (Q : Option Value → pb_H → Prop), pb_R 33 77 L J st h Q ↔ pb_R 33 80 L J (.long (4294967295 : Int64) :: st) h Q) ∧
  (∀ (L : pb_L) (J : pb_J) (st : List Value) (x y : Int64) (h : pb_H) (Q : Option Value → pb_H → Prop), pb_R 33 80 L J (.long y :: .long x :: st) h Q ↔ pb_R 33 81 L J (.long (x &&& y) :: st) h Q) ∧
  (∀ (L : pb_L) (J : pb_J) (st : List Value) (h : pb_H) (Q : Option Value → pb_H → Prop), pb_R 33 81 L J st h Q ↔ pb_R 33 85 L J st h Q) ∧
  (∀ (L : pb_L) (J : pb_J) (st : List Value) (h : pb_H) (Q : Option Value → pb_H → Prop), pb_R 33 84 L J st h Q ↔ pb_R 33 85 L J (.long (0 : Int64) :: st) h Q) ∧
  (∀ (l0 l1 l2 l3 l4 l5 l6 l7 l8 l9 l10 l11 l12 l13 l14 : Option Value) (j0 j1 j2 j3 j4 j5 j6 j7 j8 j9 j10 j11 j12 j13 j14 : Option Int64) (st : List Value) (h : pb_H) (Q : Option Value → pb_H → Prop) (x : Int64), pb_R 33 85 [l0, l1, l2, l3, l4, l5, l6, l7, l8, l9, l10, l11, l12, l13, l14] [j0, j1, j2, j3, j4, j5, j6, j7, j8, j9, j10, j11, j12, j13, j14] (.long x :: st) h Q ↔ pb_R 33 87 [l0, l1, l2, l3, l4, l5, none, none, l8, l9, l10, l11, l12, l13, l14] [j0, j1, j2, j3, j4, none, some x, none, j8, j9, j10, j11, j12, j13, j14] st h Q) ∧
  (∀ (l1 l2 l3 l4 l5 l6 l7 l8 l9 l10 l11 l12 l13 l14 : Option Value) (j0 j1 j2 j3 j4 j5 j6 j7 j8 j9 j10 j11 j12 j13 j14 : Option Int64) (st : List Value) (h : pb_H) (Q : Option Value → pb_H → Prop) (x : Nat), pb_R 33 87 [some (.ref x), l1, l2, l3, l4, l5, l6, l7, l8, l9, l10, l11, l12, l13, l14] [j0, j1, j2, j3, j4, j5, j6, j7, j8, j9, j10, j11, j12, j13, j14] st h Q ↔ pb_R 33 88 [some (.ref x), l1, l2, l3, l4, l5, l6, l7, l8, l9, l10, l11, l12, l13, l14] [j0, j1, j2, j3, j4, j5, j6, j7, j8, j9, j10, j11, j12, j13, j14] (.ref x :: st) h Q) ∧
  (∀ (l1 l2 l3 l4 l5 l6 l7 l8 l9 l10 l11 l12 l13 l14 : Option Value) (j0 j1 j2 j3 j4 j5 j6 j7 j8 j9 j10 j11 j12 j13 j14 : Option Int64) (st : List Value) (h : pb_H) (Q : Option Value → pb_H → Prop), pb_R 33 87 [some .null, l1, l2, l3, l4, l5, l6, l7, l8, l9, l10, l11, l12, l13, l14] [j0, j1, j2, j3, j4, j5, j6, j7, j8, j9, j10, j11, j12, j13, j14] st h Q ↔ pb_R 33 88 [some .null, l1, l2, l3, l4, l5, l6, l7, l8, l9, l10, l11, l12, l13, l14] [j0, j1, j2, j3, j4, j5, j6, j7, j8, j9, j10, j11, j12, j13, j14] (.null :: st) h Q) ∧
  (∀ (L : pb_L) (J : pb_J) (st : List Value) (h : pb_H) (Q : Option Value → pb_H → Prop) (a : Nat), pb_R 33 88 L J (.ref a :: st) h Q ↔ pb_o (pb_gf (h.2 a) 3 1) (fun v => pb_R 33 91 L J (v :: st) h Q)) ∧
  (∀ (l0 l2 l3 l4 l5 l6 l7 l8 l9 l10 l11 l12 l13 l14 : Option Value) (j0 j1 j2 j3 j4 j5 j6 j7 j8 j9 j10 j11 j12 j13 j14 : Option Int64) (st : List Value) (h : pb_H) (Q : Option Value → pb_H → Prop) (x : Int32), pb_R 33 91 [l0, some (.int x), l2, l3, l4, l5, l6, l7, l8, l9, l10, l11, l12, l13, l14] [j0, j1, j2, j3, j4, j5, j6, j7, j8, j9, j10, j11, j12, j13, j14] st h Q ↔ pb_R 33 92 [l0, some (.int x), l2, l3, l4, l5, l6, l7, l8, l9, l10, l11, l12, l13, l14] [j0, j1, j2, j3, j4, j5, j6, j7, j8, j9, j10, j11, j12, j13, j14] (.int x :: st) h Q) ∧
  (∀ (l1 l2 l3 l4 l5 l6 l7 l8 l9 l10 l11 l12 l13 l14 : Option Value) (j0 j1 j2 j3 j4 j5 j6 j7 j8 j9 j10 j11 j12 j13 j14 : Option Int64) (st : List Value) (h : pb_H) (Q : Option Value → pb_H → Prop) (x : Nat), pb_R 33 92 [some (.ref x), l1, l2, l3, l4, l5, l6, l7, l8, l9, l10, l11, l12, l13, l14] [j0, j1, j2, j3, j4, j5, j6, j7, j8, j9, j10, j11, j12, j13, j14] st h Q ↔ pb_R 33 93 [some (.ref x), l1, l2, l3, l4, l5, l6, l7, l8, l9, l10, l11, l12, l13, l14] [j0, j1, j2, j3, j4, j5, j6, j7, j8, j9, j10, j11, j12, j13, j14] (.ref x :: st) h Q) ∧
  (∀ (l1 l2 l3 l4 l5 l6 l7 l8 l9 l10 l11 l12 l13 l14 : Option Value) (j0 j1 j2 j3 j4 j5 j6 j7 j8 j9 j10 j11 j12 j13 j14 : Option Int64) (st : List Value) (h : pb_H) (Q : Option Value → pb_H → Prop), pb_R 33 92 [some .null, l1, l2, l3, l4, l5, l6, l7, l8, l9, l10, l11, l12, l13, l14] [j0, j1, j2, j3, j4, j5, j6, j7, j8, j9, j10, j11, j12, j13, j14] st h Q ↔ pb_R 33 93 [some .null, l1, l2, l3, l4, l5, l6, l7, l8, l9, l10, l11, l12, l13, l14] [j0, j1, j2, j3, j4, j5, j6, j7, j8, j9, j10, j11, j12, j13, j14] (.null :: st) h Q) ∧
  (∀ (L : pb_L) (J : pb_J) (st : List Value) (h : pb_H) (Q : Option Value → pb_H → Prop) (a : Nat), pb_R 33 93 L J (.ref a :: st) h Q ↔ pb_o (pb_gf (h.2 a) 3 3) (fun v => pb_R 33 96 L J (v :: st) h Q)) ∧
  (∀ (L : pb_L) (J : pb_J) (st : List Value) (x y : Int32) (h : pb_H) (Q : Option Value → pb_H → Prop), pb_R 33 96 L J (.int y :: .int x :: st) h Q ↔ pb_R 33 97 L J (.int (x + y) :: st) h Q) ∧
  (∀ (L : pb_L) (J : pb_J) (st : List Value) (h : pb_H) (Q : Option Value → pb_H → Prop) (a : Nat) (i : Int32), pb_R 33 97 L J (.int i :: .ref a :: st) h Q ↔ pb_o (pb_ai (h.2 a) i) (fun v => pb_R 33 98 L J (.int v :: st) h Q)) ∧
  (∀ (L : pb_L) (J : pb_J) (st : List Value) (x : Int32) (h : pb_H) (Q : Option Value → pb_H → Prop), pb_R 33 98 L J (.int x :: st) h Q ↔ pb_R 33 99 L J (.long x.toInt64 :: st) h Q) ∧
  (∀ (L : pb_L) (J : pb_J) (st : List Value) (h : pb_H) (Q : Option Value → pb_H → Prop), pb_R 33 99 L J st h Q ↔ pb_R 33 102 L J (.long (4294967295 : Int64) :: st) h Q) ∧
  (∀ (L : pb_L) (J : pb_J) (st : List Value) (x y : Int64) (h : pb_H) (Q : Option Value → pb_H → Prop), pb_R 33 102 L J (.long y :: .long x :: st) h Q ↔ pb_R 33 103 L J (.long (x &&& y) :: st) h Q) ∧
  (∀ (L : pb_L) (J : pb_J) (st : List Value) (h : pb_H) (Q : Option Value → pb_H → Prop), pb_R 33 103 L J st h Q ↔ pb_R 33 105 L J (.int (32 : Int32) :: st) h Q) ∧
  (∀ (L : pb_L) (J : pb_J) (st : List Value) (x : Int64) (y : Int32) (h : pb_H) (Q : Option Value → pb_H → Prop), pb_R 33 105 L J (.int y :: .long x :: st) h Q ↔ pb_R 33 106 L J (.long (x <<< (y.toInt64 &&& 63)) :: st) h Q) ∧
  (∀ (l1 l2 l3 l4 l5 l6 l7 l8 l9 l10 l11 l12 l13 l14 : Option Value) (j0 j1 j2 j3 j4 j5 j6 j7 j8 j9 j10 j11 j12 j13 j14 : Option Int64) (st : List Value) (h : pb_H) (Q : Option Value → pb_H → Prop) (x : Nat), pb_R 33 106 [some (.ref x), l1, l2, l3, l4, l5, l6, l7, l8, l9, l10, l11, l12, l13, l14] [j0, j1, j2, j3, j4, j5, j6, j7, j8, j9, j10, j11, j12, j13, j14] st h Q ↔ pb_R 33 107 [some (.ref x), l1, l2, l3, l4, l5, l6, l7, l8, l9, l10, l11, l12, l13, l14] [j0, j1, j2, j3, j4, j5, j6, j7, j8, j9, j10, j11, j12, j13, j14] (.ref x :: st) h Q) ∧
  (∀ (l1 l2 l3 l4 l5 l6 l7 l8 l9 l10 l11 l12 l13 l14 : Option Value) (j0 j1 j2 j3 j4 j5 j6 j7 j8 j9 j10 j11 j12 j13 j14 : Option Int64) (st : List Value) (h : pb_H) (Q : Option Value → pb_H → Prop), pb_R 33 106 [some .null, l1, l2, l3, l4, l5, l6, l7, l8, l9, l10, l11, l12, l13, l14] [j0, j1, j2, j3, j4, j5, j6, j7, j8, j9, j10, j11, j12, j13, j14] st h Q ↔ pb_R 33 107 [some .null, l1, l2, l3, l4, l5, l6, l7, l8, l9, l10, l11, l12, l13, l14] [j0, j1, j2, j3, j4, j5, j6, j7, j8, j9, j10, j11, j12, j13, j14] (.null :: st) h Q) ∧
  (∀ (L : pb_L) (J : pb_J) (st : List Value) (h : pb_H) (Q : Option Value → pb_H → Prop) (a : Nat), pb_R 33 107 L J (.ref a :: st) h Q ↔ pb_o (pb_gf (h.2 a) 3 1) (fun v => pb_R 33 110 L J (v :: st) h Q)) ∧
  (∀ (l0 l2 l3 l4 l5 l6 l7 l8 l9 l10 l11 l12 l13 l14 : Option Value) (j0 j1 j2 j3 j4 j5 j6 j7 j8 j9 j10 j11 j12 j13 j14 : Option Int64) (st : List Value) (h : pb_H) (Q : Option Value → pb_H → Prop) (x : Int32), pb_R 33 110 [l0, some (.int x), l2, l3, l4, l5, l6, l7, l8, l9, l10, l11, l12, l13, l14] [j0, j1, j2, j3, j4, j5, j6, j7, j8, j9, j10, j11, j12, j13, j14] st h Q ↔ pb_R 33 111 [l0, some (.int x), l2, l3, l4, l5, l6, l7, l8, l9, l10, l11, l12, l13, l14] [j0, j1, j2, j3, j4, j5, j6, j7, j8, j9, j10, j11, j12, j13, j14] (.int x :: st) h Q) ∧
  (∀ (l1 l2 l3 l4 l5 l6 l7 l8 l9 l10 l11 l12 l13 l14 : Option Value) (j0 j1 j2 j3 j4 j5 j6 j7 j8 j9 j10 j11 j12 j13 j14 : Option Int64) (st : List Value) (h : pb_H) (Q : Option Value → pb_H → Prop) (x : Nat), pb_R 33 111 [some (.ref x), l1, l2, l3, l4, l5, l6, l7, l8, l9, l10, l11, l12, l13, l14] [j0, j1, j2, j3, j4, j5, j6, j7, j8, j9, j10, j11, j12, j13, j14] st h Q ↔ pb_R 33 112 [some (.ref x), l1, l2, l3, l4, l5, l6, l7, l8, l9, l10, l11, l12, l13, l14] [j0, j1, j2, j3, j4, j5, j6, j7, j8, j9, j10, j11, j12, j13, j14] (.ref x :: st) h Q) ∧
  (∀ (l1 l2 l3 l4 l5 l6 l7 l8 l9 l10 l11 l12 l13 l14 : Option Value) (j0 j1 j2 j3 j4 j5 j6 j7 j8 j9 j10 j11 j12 j13 j14 : Option Int64) (st : List Value) (h : pb_H) (Q : Option Value → pb_H → Prop), pb_R 33 111 [some .null, l1, l2, l3, l4, l5, l6, l7, l8, l9, l10, l11, l12, l13, l14] [j0, j1, j2, j3, j4, j5, j6, j7, j8, j9, j10, j11, j12, j13, j14] st h Q ↔ pb_R 33 112 [some .null, l1, l2, l3, l4, l5, l6, l7, l8, l9, l10, l11, l12, l13, l14] [j0, j1, j2, j3, j4, j5, j6, j7, j8, j9, j10, j11, j12, j13, j14] (.null :: st) h Q) ∧
  (∀ (L : pb_L) (J : pb_J) (st : List Value) (h : pb_H) (Q : Option Value → pb_H → Prop) (a : Nat), pb_R 33 112 L J (.ref a :: st) h Q ↔ pb_o (pb_gf (h.2 a) 3 3) (fun v => pb_R 33 115 L J (v :: st) h Q)) ∧
  (∀ (L : pb_L) (J : pb_J) (st : List Value) (x y : Int32) (h : pb_H) (Q : Option Value → pb_H → Prop), pb_R 33 115 L J (.int y :: .int x :: st) h Q ↔ pb_R 33 116 L J (.int (x + y) :: st) h Q) ∧
  (∀ (L : pb_L) (J : pb_J) (st : List Value) (h : pb_H) (Q : Option Value → pb_H → Prop), pb_R 33 116 L J st h Q ↔ pb_R 33 117 L J (.int (1 : Int32) :: st) h Q) ∧
  (∀ (L : pb_L) (J : pb_J) (st : List Value) (x y : Int32) (h : pb_H) (Q : Option Value → pb_H → Prop), pb_R 33 117 L J (.int y :: .int x :: st) h Q ↔ pb_R 33 118 L J (.int (x - y) :: st) h Q) ∧
  (∀ (L : pb_L) (J : pb_J) (st : List Value) (h : pb_H) (Q : Option Value → pb_H → Prop) (a : Nat) (i : Int32), pb_R 33 118 L J (.int i :: .ref a :: st) h Q ↔ pb_o (pb_ai (h.2 a) i) (fun v => pb_R 33 119 L J (.int v :: st) h Q)) ∧
  (∀ (L : pb_L) (J : pb_J) (st : List Value) (x : Int32) (h : pb_H) (Q : Option Value → pb_H → Prop), pb_R 33 119 L J (.int x :: st) h Q ↔ pb_R 33 120 L J (.long x.toInt64 :: st) h Q) ∧
  (∀ (L : pb_L) (J : pb_J) (st : List Value) (h : pb_H) (Q : Option Value → pb_H → Prop), pb_R 33 120 L J st h Q ↔ pb_R 33 123 L J (.long (4294967295 : Int64) :: st) h Q) ∧
  (∀ (L : pb_L) (J : pb_J) (st : List Value) (x y : Int64) (h : pb_H) (Q : Option Value → pb_H → Prop), pb_R 33 123 L J (.long y :: .long x :: st) h Q ↔ pb_R 33 124 L J (.long (x &&& y) :: st) h Q) ∧
  (∀ (L : pb_L) (J : pb_J) (st : List Value) (x y : Int64) (h : pb_H) (Q : Option Value → pb_H → Prop), pb_R 33 124 L J (.long y :: .long x :: st) h Q ↔ pb_R 33 125 L J (.long (x ||| y) :: st) h Q) ∧
  (∀ (l0 l1 l2 l3 l4 l5 l6 l7 l8 l9 l10 l11 l12 l13 l14 : Option Value) (j0 j1 j2 j3 j4 j5 j6 j7 j8 j9 j10 j11 j12 j13 j14 : Option Int64) (st : List Value) (h : pb_H) (Q : Option Value → pb_H → Prop) (x : Int64), pb_R 33 125 [l0, l1, l2, l3, l4, l5, l6, l7, l8, l9, l10, l11, l12, l13, l14] [j0, j1, j2, j3, j4, j5, j6, j7, j8, j9, j10, j11, j12, j13, j14] (.long x :: st) h Q ↔ pb_R 33 127 [l0, l1, l2, l3, l4, l5, l6, l7, none, none, l10, l11, l12, l13, l14] [j0, j1, j2, j3, j4, j5, j6, none, some x, none, j10, j11, j12, j13, j14] st h Q) ∧
  (∀ (l0 l1 l2 l3 l4 l5 l6 l7 l8 l9 l10 l11 l12 l13 l14 : Option Value) (j0 j1 j2 j3 j4 j5 j6 j7 j9 j10 j11 j12 j13 j14 : Option Int64) (st : List Value) (h : pb_H) (Q : Option Value → pb_H → Prop) (x : Int64), pb_R 33 127 [l0, l1, l2, l3, l4, l5, l6, l7, l8, l9, l10, l11, l12, l13, l14] [j0, j1, j2, j3, j4, j5, j6, j7, some x, j9, j10, j11, j12, j13, j14] st h Q ↔ pb_R 33 129 [l0, l1, l2, l3, l4, l5, l6, l7, l8, l9, l10, l11, l12, l13, l14] [j0, j1, j2, j3, j4, j5, j6, j7, some x, j9, j10, j11, j12, j13, j14] (.long x :: st) h Q) ∧
  (∀ (L : pb_L) (J : pb_J) (st : List Value) (h : pb_H) (Q : Option Value → pb_H → Prop), pb_R 33 129 L J st h Q ↔ pb_R 33 130 L J (.int (1 : Int32) :: st) h Q) ∧
  (∀ (L : pb_L) (J : pb_J) (st : List Value) (x : Int64) (y : Int32) (h : pb_H) (Q : Option Value → pb_H → Prop), pb_R 33 130 L J (.int y :: .long x :: st) h Q ↔ pb_R 33 131 L J (.long (x.toUInt64 >>> (y.toInt64.toUInt64 &&& Int64.toUInt64 63)).toInt64 :: st) h Q) ∧
  (∀ (l0 l1 l2 l3 l4 l5 l6 l7 l8 l9 l10 l11 l12 l13 l14 : Option Value) (j0 j1 j3 j4 j5 j6 j7 j8 j9 j10 j11 j12 j13 j14 : Option Int64) (st : List Value) (h : pb_H) (Q : Option Value → pb_H → Prop) (x : Int64), pb_R 33 131 [l0, l1, l2, l3, l4, l5, l6, l7, l8, l9, l10, l11, l12, l13, l14] [j0, j1, some x, j3, j4, j5, j6, j7, j8, j9, j10, j11, j12, j13, j14] st h Q ↔ pb_R 33 132 [l0, l1, l2, l3, l4, l5, l6, l7, l8, l9, l10, l11, l12, l13, l14] [j0, j1, some x, j3, j4, j5, j6, j7, j8, j9, j10, j11, j12, j13, j14] (.long x :: st) h Q) ∧
  (∀ (L : pb_L) (J : pb_J) (st : List Value) (h : pb_H) (Q : Option Value → pb_H → Prop) (x y : Int64), pb_R 33 132 L J (.long y :: .long x :: st) h Q ↔ (¬ y = 0) ∧ pb_R 33 133 L J (.long (x / y) :: st) h Q) ∧
  (∀ (L : pb_L) (J : pb_J) (st : List Value) (h : pb_H) (Q : Option Value → pb_H → Prop), pb_R 33 133 L J st h Q ↔ pb_R 33 134 L J (.int (1 : Int32) :: st) h Q) ∧
  (∀ (L : pb_L) (J : pb_J) (st : List Value) (x : Int64) (y : Int32) (h : pb_H) (Q : Option Value → pb_H → Prop), pb_R 33 134 L J (.int y :: .long x :: st) h Q ↔ pb_R 33 135 L J (.long (x <<< (y.toInt64 &&& 63)) :: st) h Q) ∧
  (∀ (l0 l1 l2 l3 l4 l5 l6 l7 l8 l9 l10 l11 l12 l13 l14 : Option Value) (j0 j1 j2 j3 j4 j5 j6 j7 j8 j9 j10 j11 j12 j13 j14 : Option Int64) (st : List Value) (h : pb_H) (Q : Option Value → pb_H → Prop) (x : Int64), pb_R 33 135 [l0, l1, l2, l3, l4, l5, l6, l7, l8, l9, l10, l11, l12, l13, l14] [j0, j1, j2, j3, j4, j5, j6, j7, j8, j9, j10, j11, j12, j13, j14] (.long x :: st) h Q ↔ pb_R 33 137 [l0, l1, l2, l3, l4, l5, l6, l7, l8, l9, none, none, l12, l13, l14] [j0, j1, j2, j3, j4, j5, j6, j7, j8, none, some x, none, j12, j13, j14] st h Q) ∧
  (∀ (l0 l1 l2 l3 l4 l5 l6 l7 l8 l9 l10 l11 l12 l13 l14 : Option Value) (j0 j1 j2 j3 j4 j5 j6 j7 j9 j10 j11 j12 j13 j14 : Option Int64) (st : List Value) (h : pb_H) (Q : Option Value → pb_H → Prop) (x : Int64), pb_R 33 137 [l0, l1, l2, l3, l4, l5, l6, l7, l8, l9, l10, l11, l12, l13, l14] [j0, j1, j2, j3, j4, j5, j6, j7, some x, j9, j10, j11, j12, j13, j14] st h Q ↔ pb_R 33 139 [l0, l1, l2, l3, l4, l5, l6, l7, l8, l9, l10, l11, l12, l13, l14] [j0, j1, j2, j3, j4, j5, j6, j7, some x, j9, j10, j11, j12, j13, j14] (.long x :: st) h Q) ∧
  (∀ (l0 l1 l2 l3 l4 l5 l6 l7 l8 l9 l10 l11 l12 l13 l14 : Option Value) (j0 j1 j2 j3 j4 j5 j6 j7 j8 j9 j11 j12 j13 j14 : Option Int64) (st : List Value) (h : pb_H) (Q : Option Value → pb_H → Prop) (x : Int64), pb_R 33 139 [l0, l1, l2, l3, l4, l5, l6, l7, l8, l9, l10, l11, l12, l13, l14] [j0, j1, j2, j3, j4, j5, j6, j7, j8, j9, some x, j11, j12, j13, j14] st h Q ↔ pb_R 33 141 [l0, l1, l2, l3, l4, l5, l6, l7, l8, l9, l10, l11, l12, l13, l14] [j0, j1, j2, j3, j4, j5, j6, j7, j8, j9, some x, j11, j12, j13, j14] (.long x :: st) h Q) ∧
  (∀ (l0 l1 l2 l3 l4 l5 l6 l7 l8 l9 l10 l11 l12 l13 l14 : Option Value) (j0 j1 j3 j4 j5 j6 j7 j8 j9 j10 j11 j12 j13 j14 : Option Int64) (st : List Value) (h : pb_H) (Q : Option Value → pb_H → Prop) (x : Int64), pb_R 33 141 [l0, l1, l2, l3, l4, l5, l6, l7, l8, l9, l10, l11, l12, l13, l14] [j0, j1, some x, j3, j4, j5, j6, j7, j8, j9, j10, j11, j12, j13, j14] st h Q ↔ pb_R 33 142 [l0, l1, l2, l3, l4, l5, l6, l7, l8, l9, l10, l11, l12, l13, l14] [j0, j1, some x, j3, j4, j5, j6, j7, j8, j9, j10, j11, j12, j13, j14] (.long x :: st) h Q) ∧
  (∀ (L : pb_L) (J : pb_J) (st : List Value) (x y : Int64) (h : pb_H) (Q : Option Value → pb_H → Prop), pb_R 33 142 L J (.long y :: .long x :: st) h Q ↔ pb_R 33 143 L J (.long (x * y) :: st) h Q) ∧
  (∀ (L : pb_L) (J : pb_J) (st : List Value) (x y : Int64) (h : pb_H) (Q : Option Value → pb_H → Prop), pb_R 33 143 L J (.long y :: .long x :: st) h Q ↔ pb_R 33 144 L J (.long (x - y) :: st) h Q) ∧
  (∀ (l0 l1 l2 l3 l4 l5 l6 l7 l8 l9 l10 l11 l12 l13 l14 : Option Value) (j0 j1 j2 j3 j4 j5 j6 j7 j8 j9 j10 j11 j12 j13 j14 : Option Int64) (st : List Value) (h : pb_H) (Q : Option Value → pb_H → Prop) (x : Int64), pb_R 33 144 [l0, l1, l2, l3, l4, l5, l6, l7, l8, l9, l10, l11, l12, l13, l14] [j0, j1, j2, j3, j4, j5, j6, j7, j8, j9, j10, j11, j12, j13, j14] (.long x :: st) h Q ↔ pb_R 33 146 [l0, l1, l2, l3, l4, l5, l6, l7, l8, l9, l10, l11, none, none, l14] [j0, j1, j2, j3, j4, j5, j6, j7, j8, j9, j10, none, some x, none, j14] st h Q) ∧
  (∀ (l0 l1 l2 l3 l4 l5 l6 l7 l8 l9 l10 l11 l12 l13 l14 : Option Value) (j0 j1 j2 j3 j4 j5 j6 j7 j8 j9 j10 j11 j13 j14 : Option Int64) (st : List Value) (h : pb_H) (Q : Option Value → pb_H → Prop) (x : Int64), pb_R 33 146 [l0, l1, l2, l3, l4, l5, l6, l7, l8, l9, l10, l11, l12, l13, l14] [j0, j1, j2, j3, j4, j5, j6, j7, j8, j9, j10, j11, some x, j13, j14] st h Q ↔ pb_R 33 148 [l0, l1, l2, l3, l4, l5, l6, l7, l8, l9, l10, l11, l12, l13, l14] [j0, j1, j2, j3, j4, j5, j6, j7, j8, j9, j10, j11, some x, j13, j14] (.long x :: st) h Q) ∧
  (∀ (l0 l1 l2 l3 l4 l5 l6 l7 l8 l9 l10 l11 l12 l13 l14 : Option Value) (j0 j1 j3 j4 j5 j6 j7 j8 j9 j10 j11 j12 j13 j14 : Option Int64) (st : List Value) (h : pb_H) (Q : Option Value → pb_H → Prop) (x : Int64), pb_R 33 148 [l0, l1, l2, l3, l4, l5, l6, l7, l8, l9, l10, l11, l12, l13, l14] [j0, j1, some x, j3, j4, j5, j6, j7, j8, j9, j10, j11, j12, j13, j14] st h Q ↔ pb_R 33 149 [l0, l1, l2, l3, l4, l5, l6, l7, l8, l9, l10, l11, l12, l13, l14] [j0, j1, some x, j3, j4, j5, j6, j7, j8, j9, j10, j11, j12, j13, j14] (.long x :: st) h Q) ∧
  (∀ (L : pb_L) (J : pb_J) (st : List Value) (x y : Int64) (h : pb_H) (Q : Option Value → pb_H → Prop), pb_R 33 149 L J (.long y :: .long x :: st) h Q ↔ pb_R 33 150 L J (.int (lg_cmp x y) :: st) h Q) ∧
  (∀ (L : pb_L) (J : pb_J) (st : List Value) (h : pb_H) (Q : Option Value → pb_H → Prop) (x : Int32), pb_R 33 150 L J (.int x :: st) h Q ↔ if x < 0 then pb_R 33 165 L J st h Q else pb_R 33 153 L J st h Q) ∧
  (∀ (l0 l1 l2 l3 l4 l5 l6 l7 l8 l9 l10 l11 l12 l13 l14 : Option Value) (j0 j1 j2 j3 j4 j5 j6 j7 j8 j9 j11 j12 j13 j14 : Option Int64) (st : List Value) (h : pb_H) (Q : Option Value → pb_H → Prop) (x : Int64), pb_R 33 153 [l0, l1, l2, l3, l4, l5, l6, l7, l8, l9, l10, l11, l12, l13, l14] [j0, j1, j2, j3, j4, j5, j6, j7, j8, j9, some x, j11, j12, j13, j14] st h Q ↔ pb_R 33 155 [l0, l1, l2, l3, l4, l5, l6, l7, l8, l9, l10, l11, l12, l13, l14] [j0, j1, j2, j3, j4, j5, j6, j7, j8, j9, some x, j11, j12, j13, j14] (.long x :: st) h Q) ∧
  (∀ (L : pb_L) (J : pb_J) (st : List Value) (h : pb_H) (Q : Option Value → pb_H → Prop), pb_R 33 155 L J st h Q ↔ pb_R 33 156 L J (.long (1 : Int64) :: st) h Q) ∧
  (∀ (L : pb_L) (J : pb_J) (st : List Value) (x y : Int64) (h : pb_H) (Q : Option Value → pb_H → Prop), pb_R 33 156 L J (.long y :: .long x :: st) h Q ↔ pb_R 33 157 L J (.long (x + y) :: st) h Q) ∧
  (∀ (l0 l1 l2 l3 l4 l5 l6 l7 l8 l9 l10 l11 l12 l13 l14 : Option Value) (j0 j1 j2 j3 j4 j5 j6 j7 j8 j9 j10 j11 j12 j13 j14 : Option Int64) (st : List Value) (h : pb_H) (Q : Option Value → pb_H → Prop) (x : Int64), pb_R 33 157 [l0, l1, l2, l3, l4, l5, l6, l7, l8, l9, l10, l11, l12, l13, l14] [j0, j1, j2, j3, j4, j5, j6, j7, j8, j9, j10, j11, j12, j13, j14] (.long x :: st) h Q ↔ pb_R 33 159 [l0, l1, l2, l3, l4, l5, l6, l7, l8, l9, none, none, l12, l13, l14] [j0, j1, j2, j3, j4, j5, j6, j7, j8, none, some x, none, j12, j13, j14] st h Q) ∧
  (∀ (l0 l1 l2 l3 l4 l5 l6 l7 l8 l9 l10 l11 l12 l13 l14 : Option Value) (j0 j1 j2 j3 j4 j5 j6 j7 j8 j9 j10 j11 j13 j14 : Option Int64) (st : List Value) (h : pb_H) (Q : Option Value → pb_H → Prop) (x : Int64), pb_R 33 159 [l0, l1, l2, l3, l4, l5, l6, l7, l8, l9, l10, l11, l12, l13, l14] [j0, j1, j2, j3, j4, j5, j6, j7, j8, j9, j10, j11, some x, j13, j14] st h Q ↔ pb_R 33 161 [l0, l1, l2, l3, l4, l5, l6, l7, l8, l9, l10, l11, l12, l13, l14] [j0, j1, j2, j3, j4, j5, j6, j7, j8, j9, j10, j11, some x, j13, j14] (.long x :: st) h Q) ∧
  (∀ (l0 l1 l2 l3 l4 l5 l6 l7 l8 l9 l10 l11 l12 l13 l14 : Option Value) (j0 j1 j3 j4 j5 j6 j7 j8 j9 j10 j11 j12 j13 j14 : Option Int64) (st : List Value) (h : pb_H) (Q : Option Value → pb_H → Prop) (x : Int64), pb_R 33 161 [l0, l1, l2, l3, l4, l5, l6, l7, l8, l9, l10, l11, l12, l13, l14] [j0, j1, some x, j3, j4, j5, j6, j7, j8, j9, j10, j11, j12, j13, j14] st h Q ↔ pb_R 33 162 [l0, l1, l2, l3, l4, l5, l6, l7, l8, l9, l10, l11, l12, l13, l14] [j0, j1, some x, j3, j4, j5, j6, j7, j8, j9, j10, j11, j12, j13, j14] (.long x :: st) h Q) ∧
  (∀ (L : pb_L) (J : pb_J) (st : List Value) (x y : Int64) (h : pb_H) (Q : Option Value → pb_H → Prop), pb_R 33 162 L J (.long y :: .long x :: st) h Q ↔ pb_R 33 163 L J (.long (x - y) :: st) h Q) ∧
  (∀ (l0 l1 l2 l3 l4 l5 l6 l7 l8 l9 l10 l11 l12 l13 l14 : Option Value) (j0 j1 j2 j3 j4 j5 j6 j7 j8 j9 j10 j11 j12 j13 j14 : Option Int64) (st : List Value) (h : pb_H) (Q : Option Value → pb_H → Prop) (x : Int64), pb_R 33 163 [l0, l1, l2, l3, l4, l5, l6, l7, l8, l9, l10, l11, l12, l13, l14] [j0, j1, j2, j3, j4, j5, j6, j7, j8, j9, j10, j11, j12, j13, j14] (.long x :: st) h Q ↔ pb_R 33 165 [l0, l1, l2, l3, l4, l5, l6, l7, l8, l9, l10, l11, none, none, l14] [j0, j1, j2, j3, j4, j5, j6, j7, j8, j9, j10, none, some x, none, j14] st h Q) ∧
  (∀ (L : pb_L) (J : pb_J) (st : List Value) (h : pb_H) (Q : Option Value → pb_H → Prop), pb_R 33 165 L J st h Q ↔ pb_R 33 166 L J (.int (0 : Int32) :: st) h Q) ∧
  (∀ (l0 l1 l2 l3 l4 l5 l6 l7 l8 l9 l10 l11 l12 l13 l14 : Option Value) (j0 j1 j2 j3 j4 j5 j6 j7 j8 j9 j10 j11 j12 j13 j14 : Option Int64) (st : List Value) (h : pb_H) (Q : Option Value → pb_H → Prop) (x : Int32), pb_R 33 166 [l0, l1, l2, l3, l4, l5, l6, l7, l8, l9, l10, l11, l12, l13, l14] [j0, j1, j2, j3, j4, j5, j6, j7, j8, j9, j10, j11, j12, j13, j14] (.int x :: st) h Q ↔ pb_R 33 168 [l0, l1, l2, l3, l4, l5, l6, l7, l8, l9, l10, l11, l12, l13, some (.int x)] [j0, j1, j2, j3, j4, j5, j6, j7, j8, j9, j10, j11, j12, none, none] st h Q) ∧
  (∀ (L : pb_L) (J : pb_J) (st : List Value) (h : pb_H) (Q : Option Value → pb_H → Prop), pb_R 33 170 L J st h Q ↔ pb_R 33 171 L J (.int (3 : Int32) :: st) h Q) ∧
  (∀ (L : pb_L) (J : pb_J) (st : List Value) (h : pb_H) (Q : Option Value → pb_H → Prop) (x y : Int32), pb_R 33 171 L J (.int y :: .int x :: st) h Q ↔ if y ≤ x then pb_R 33 238 L J st h Q else pb_R 33 174 L J st h Q) ∧
  (∀ (l0 l1 l2 l3 l4 l5 l6 l7 l8 l9 l10 l11 l12 l13 l14 : Option Value) (j0 j1 j2 j3 j4 j5 j6 j7 j8 j9 j10 j11 j13 j14 : Option Int64) (st : List Value) (h : pb_H) (Q : Option Value → pb_H → Prop) (x : Int64), pb_R 33 174 [l0, l1, l2, l3, l4, l5, l6, l7, l8, l9, l10, l11, l12, l13, l14] [j0, j1, j2, j3, j4, j5, j6, j7, j8, j9, j10, j11, some x, j13, j14] st h Q ↔ pb_R 33 176 [l0, l1, l2, l3, l4, l5, l6, l7, l8, l9, l10, l11, l12, l13, l14] [j0, j1, j2, j3, j4, j5, j6, j7, j8, j9, j10, j11, some x, j13, j14] (.long x :: st) h Q) ∧
  (∀ (L : pb_L) (J : pb_J) (st : List Value) (h : pb_H) (Q : Option Value → pb_H → Prop), pb_R 33 176 L J st h Q ↔ pb_R 33 179 L J (.long (4294967295 : Int64) :: st) h Q) ∧
  (∀ (L : pb_L) (J : pb_J) (st : List Value) (x y : Int64) (h : pb_H) (Q : Option Value → pb_H → Prop), pb_R 33 179 L J (.long y :: .long x :: st) h Q ↔ pb_R 33 180 L J (.int (lg_cmp x y) :: st) h Q) ∧
  (∀ (L : pb_L) (J : pb_J) (st : List Value) (h : pb_H) (Q : Option Value → pb_H → Prop) (x : Int32), pb_R 33 180 L J (.int x :: st) h Q ↔ if 0 < x then pb_R 33 238 L J st h Q else pb_R 33 183 L J st h Q) ∧
  (∀ (l0 l1 l2 l3 l4 l5 l6 l7 l8 l9 l10 l11 l12 l13 l14 : Option Value) (j0 j1 j2 j3 j4 j5 j6 j7 j8 j9 j11 j12 j13 j14 : Option Int64) (st : List Value) (h : pb_H) (Q : Option Value → pb_H → Prop) (x : Int64), pb_R 33 183 [l0, l1, l2, l3, l4, l5, l6, l7, l8, l9, l10, l11, l12, l13, l14] [j0, j1, j2, j3, j4, j5, j6, j7, j8, j9, some x, j11, j12, j13, j14] st h Q ↔ pb_R 33 185 [l0, l1, l2, l3, l4, l5, l6, l7, l8, l9, l10, l11, l12, l13, l14] [j0, j1, j2, j3, j4, j5, j6, j7, j8, j9, some x, j11, j12, j13, j14] (.long x :: st) h Q) ∧
  (∀ (L : pb_L) (J : pb_J) (st : List Value) (h : pb_H) (Q : Option Value → pb_H → Prop), pb_R 33 185 L J st h Q ↔ pb_R 33 188 L J (.long (4294967295 : Int64) :: st) h Q) ∧
  (∀ (L : pb_L) (J : pb_J) (st : List Value) (x y : Int64) (h : pb_H) (Q : Option Value → pb_H → Prop), pb_R 33 188 L J (.long y :: .long x :: st) h Q ↔ pb_R 33 189 L J (.int (lg_cmp x y) :: st) h Q) ∧
  (∀ (L : pb_L) (J : pb_J) (st : List Value) (h : pb_H) (Q : Option Value → pb_H → Prop) (x : Int32), pb_R 33 189 L J (.int x :: st) h Q ↔ if 0 < x then pb_R 33 220 L J st h Q else pb_R 33 192 L J st h Q) ∧
  (∀ (l0 l1 l2 l3 l4 l5 l6 l7 l8 l9 l10 l11 l12 l13 l14 : Option Value) (j0 j1 j2 j3 j4 j5 j6 j7 j8 j9 j11 j12 j13 j14 : Option Int64) (st : List Value) (h : pb_H) (Q : Option Value → pb_H → Prop) (x : Int64), pb_R 33 192 [l0, l1, l2, l3, l4, l5, l6, l7, l8, l9, l10, l11, l12, l13, l14] [j0, j1, j2, j3, j4, j5, j6, j7, j8, j9, some x, j11, j12, j13, j14] st h Q ↔ pb_R 33 194 [l0, l1, l2, l3, l4, l5, l6, l7, l8, l9, l10, l11, l12, l13, l14] [j0, j1, j2, j3, j4, j5, j6, j7, j8, j9, some x, j11, j12, j13, j14] (.long x :: st) h Q) ∧
  (∀ (l0 l1 l2 l3 l4 l5 l6 l7 l8 l9 l10 l11 l12 l13 l14 : Option Value) (j0 j1 j2 j3 j5 j6 j7 j8 j9 j10 j11 j12 j13 j14 : Option Int64) (st : List Value) (h : pb_H) (Q : Option Value → pb_H → Prop) (x : Int64), pb_R 33 194 [l0, l1, l2, l3, l4, l5, l6, l7, l8, l9, l10, l11, l12, l13, l14] [j0, j1, j2, j3, some x, j5, j6, j7, j8, j9, j10, j11, j12, j13, j14] st h Q ↔ pb_R 33 196 [l0, l1, l2, l3, l4, l5, l6, l7, l8, l9, l10, l11, l12, l13, l14] [j0, j1, j2, j3, some x, j5, j6, j7, j8, j9, j10, j11, j12, j13, j14] (.long x :: st) h Q) ∧
  (∀ (L : pb_L) (J : pb_J) (st : List Value) (x y : Int64) (h : pb_H) (Q : Option Value → pb_H → Prop), pb_R 33 196 L J (.long y :: .long x :: st) h Q ↔ pb_R 33 197 L J (.long (x * y) :: st) h Q) ∧
  (∀ (L : pb_L) (J : pb_J) (st : List Value) (h : pb_H) (Q : Option Value → pb_H → Prop), pb_R 33 197 L J st h Q ↔ pb_R 33 200 L J (.long (-9223372036854775808 : Int64) :: st) h Q) ∧
  (∀ (L : pb_L) (J : pb_J) (st : List Value) (x y : Int64) (h : pb_H) (Q : Option Value → pb_H → Prop), pb_R 33 200 L J (.long y :: .long x :: st) h Q ↔ pb_R 33 201 L J (.long (x ^^^ y) :: st) h Q) ∧
  (∀ (l0 l1 l2 l3 l4 l5 l6 l7 l8 l9 l10 l11 l12 l13 l14 : Option Value) (j0 j1 j2 j3 j4 j5 j6 j7 j8 j9 j10 j11 j13 j14 : Option Int64) (st : List Value) (h : pb_H) (Q : Option Value → pb_H → Prop) (x : Int64), pb_R 33 201 [l0, l1, l2, l3, l4, l5, l6, l7, l8, l9, l10, l11, l12, l13, l14] [j0, j1, j2, j3, j4, j5, j6, j7, j8, j9, j10, j11, some x, j13, j14] st h Q ↔ pb_R 33 203 [l0, l1, l2, l3, l4, l5, l6, l7, l8, l9, l10, l11, l12, l13, l14] [j0, j1, j2, j3, j4, j5, j6, j7, j8, j9, j10, j11, some x, j13, j14] (.long x :: st) h Q) ∧
  (∀ (L : pb_L) (J : pb_J) (st : List Value) (h : pb_H) (Q : Option Value → pb_H → Prop), pb_R 33 203 L J st h Q ↔ pb_R 33 205 L J (.int (32 : Int32) :: st) h Q) ∧
  (∀ (L : pb_L) (J : pb_J) (st : List Value) (x : Int64) (y : Int32) (h : pb_H) (Q : Option Value → pb_H → Prop), pb_R 33 205 L J (.int y :: .long x :: st) h Q ↔ pb_R 33 206 L J (.long (x <<< (y.toInt64 &&& 63)) :: st) h Q) ∧
  (∀ (l0 l1 l2 l3 l4 l5 l6 l7 l8 l9 l10 l11 l12 l13 l14 : Option Value) (j0 j1 j2 j3 j4 j5 j7 j8 j9 j10 j11 j12 j13 j14 : Option Int64) (st : List Value) (h : pb_H) (Q : Option Value → pb_H → Prop) (x : Int64), pb_R 33 206 [l0, l1, l2, l3, l4, l5, l6, l7, l8, l9, l10, l11, l12, l13, l14] [j0, j1, j2, j3, j4, j5, some x, j7, j8, j9, j10, j11, j12, j13, j14] st h Q ↔ pb_R 33 208 [l0, l1, l2, l3, l4, l5, l6, l7, l8, l9, l10, l11, l12, l13, l14] [j0, j1, j2, j3, j4, j5, some x, j7, j8, j9, j10, j11, j12, j13, j14] (.long x :: st) h Q) ∧
  (∀ (L : pb_L) (J : pb_J) (st : List Value) (x y : Int64) (h : pb_H) (Q : Option Value → pb_H → Prop), pb_R 33 208 L J (.long y :: .long x :: st) h Q ↔ pb_R 33 209 L J (.long (x ||| y) :: st) h Q) ∧
  (∀ (L : pb_L) (J : pb_J) (st : List Value) (h : pb_H) (Q : Option Value → pb_H → Prop), pb_R 33 209 L J st h Q ↔ pb_R 33 212 L J (.long (-9223372036854775808 : Int64) :: st) h Q) ∧
  (∀ (L : pb_L) (J : pb_J) (st : List Value) (x y : Int64) (h : pb_H) (Q : Option Value → pb_H → Prop), pb_R 33 212 L J (.long y :: .long x :: st) h Q ↔ pb_R 33 213 L J (.long (x ^^^ y) :: st) h Q) ∧
  (∀ (L : pb_L) (J : pb_J) (st : List Value) (x y : Int64) (h : pb_H) (Q : Option Value → pb_H → Prop), pb_R 33 213 L J (.long y :: .long x :: st) h Q ↔ pb_R 33 214 L J (.int (lg_cmp x y) :: st) h Q) ∧
  (∀ (L : pb_L) (J : pb_J) (st : List Value) (h : pb_H) (Q : Option Value → pb_H → Prop) (x : Int32), pb_R 33 214 L J (.int x :: st) h Q ↔ if 0 < x then pb_R 33 220 L J st h Q else pb_R 33 217 L J st h Q) ∧
  (∀ (L : pb_L) (J : pb_J) (st : List Value) (h : pb_H) (Q : Option Value → pb_H → Prop), pb_R 33 217 L J st h Q ↔ pb_R 33 238 L J st h Q) ∧
  (∀ (l0 l1 l2 l3 l4 l5 l6 l7 l8 l9 l10 l11 l12 l13 l14 : Option Value) (j0 j1 j2 j3 j4 j5 j6 j7 j8 j9 j11 j12 j13 j14 : Option Int64) (st : List Value) (h : pb_H) (Q : Option Value → pb_H → Prop) (x : Int64), pb_R 33 220 [l0, l1, l2, l3, l4, l5, l6, l7, l8, l9, l10, l11, l12, l13, l14] [j0, j1, j2, j3, j4, j5, j6, j7, j8, j9, some x, j11, j12, j13, j14] st h Q ↔ pb_R 33 222 [l0, l1, l2, l3, l4, l5, l6, l7, l8, l9, l10, l11, l12, l13, l14] [j0, j1, j2, j3, j4, j5, j6, j7, j8, j9, some x, j11, j12, j13, j14] (.long x :: st) h Q) ∧
  (∀ (L : pb_L) (J : pb_J) (st : List Value) (h : pb_H) (Q : Option Value → pb_H → Prop), pb_R 33 222 L J st h Q ↔ pb_R 33 223 L J (.long (1 : Int64) :: st) h Q) ∧
  (∀ (L : pb_L) (J : pb_J) (st : List Value) (x y : Int64) (h : pb_H) (Q : Option Value → pb_H → Prop), pb_R 33 223 L J (.long y :: .long x :: st) h Q ↔ pb_R 33 224 L J (.long (x - y) :: st) h Q) ∧
  (∀ (l0 l1 l2 l3 l4 l5 l6 l7 l8 l9 l10 l11 l12 l13 l14 : Option Value) (j0 j1 j2 j3 j4 j5 j6 j7 j8 j9 j10 j11 j12 j13 j14 : Option Int64) (st : List Value) (h : pb_H) (Q : Option Value → pb_H → Prop) (x : Int64), pb_R 33 224 [l0, l1, l2, l3, l4, l5, l6, l7, l8, l9, l10, l11, l12, l13, l14] [j0, j1, j2, j3, j4, j5, j6, j7, j8, j9, j10, j11, j12, j13, j14] (.long x :: st) h Q ↔ pb_R 33 226 [l0, l1, l2, l3, l4, l5, l6, l7, l8, l9, none, none, l12, l13, l14] [j0, j1, j2, j3, j4, j5, j6, j7, j8, none, some x, none, j12, j13, j14] st h Q) ∧
  (∀ (l0 l1 l2 l3 l4 l5 l6 l7 l8 l9 l10 l11 l12 l13 l14 : Option Value) (j0 j1 j2 j3 j4 j5 j6 j7 j8 j9 j10 j11 j13 j14 : Option Int64) (st : List Value) (h : pb_H) (Q : Option Value → pb_H → Prop) (x : Int64), pb_R 33 226 [l0, l1, l2, l3, l4, l5, l6, l7, l8, l9, l10, l11, l12, l13, l14] [j0, j1, j2, j3, j4, j5, j6, j7, j8, j9, j10, j11, some x, j13, j14] st h Q ↔ pb_R 33 228 [l0, l1, l2, l3, l4, l5, l6, l7, l8, l9, l10, l11, l12, l13, l14] [j0, j1, j2, j3, j4, j5, j6, j7, j8, j9, j10, j11, some x, j13, j14] (.long x :: st) h Q) ∧
  (∀ (l0 l1 l2 l3 l4 l5 l6 l7 l8 l9 l10 l11 l12 l13 l14 : Option Value) (j0 j1 j3 j4 j5 j6 j7 j8 j9 j10 j11 j12 j13 j14 : Option Int64) (st : List Value) (h : pb_H) (Q : Option Value → pb_H → Prop) (x : Int64), pb_R 33 228 [l0, l1, l2, l3, l4, l5, l6, l7, l8, l9, l10, l11, l12, l13, l14] [j0, j1, some x, j3, j4, j5, j6, j7, j8, j9, j10, j11, j12, j13, j14] st h Q ↔ pb_R 33 229 [l0, l1, l2, l3, l4, l5, l6, l7, l8, l9, l10, l11, l12, l13, l14] [j0, j1, some x, j3, j4, j5, j6, j7, j8, j9, j10, j11, j12, j13, j14] (.long x :: st) h Q) ∧
  (∀ (L : pb_L) (J : pb_J) (st : List Value) (x y : Int64) (h : pb_H) (Q : Option Value → pb_H → Prop), pb_R 33 229 L J (.long y :: .long x :: st) h Q ↔ pb_R 33 230 L J (.long (x + y) :: st) h Q) ∧
  (∀ (l0 l1 l2 l3 l4 l5 l6 l7 l8 l9 l10 l11 l12 l13 l14 : Option Value) (j0 j1 j2 j3 j4 j5 j6 j7 j8 j9 j10 j11 j12 j13 j14 : Option Int64) (st : List Value) (h : pb_H) (Q : Option Value → pb_H → Prop) (x : Int64), pb_R 33 230 [l0, l1, l2, l3, l4, l5, l6, l7, l8, l9, l10, l11, l12, l13, l14] [j0, j1, j2, j3, j4, j5, j6, j7, j8, j9, j10, j11, j12, j13, j14] (.long x :: st) h Q ↔ pb_R 33 232 [l0, l1, l2, l3, l4, l5, l6, l7, l8, l9, l10, l11, none, none, l14] [j0, j1, j2, j3, j4, j5, j6, j7, j8, j9, j10, none, some x, none, j14] st h Q) ∧
  (∀ (l0 l1 l2 l3 l4 l5 l6 l7 l8 l9 l10 l11 l12 l13 : Option Value) (j0 j1 j2 j3 j4 j5 j6 j7 j8 j9 j10 j11 j12 j13 j14 : Option Int64) (st : List Value) (h : pb_H) (Q : Option Value → pb_H → Prop) (x : Int32), pb_R 33 232 [l0, l1, l2, l3, l4, l5, l6, l7, l8, l9, l10, l11, l12, l13, some (.int x)] [j0, j1, j2, j3, j4, j5, j6, j7, j8, j9, j10, j11, j12, j13, j14] st h Q ↔ pb_R 33 235 [l0, l1, l2, l3, l4, l5, l6, l7, l8, l9, l10, l11, l12, l13, some (.int (x + (1 : Int32)))] [j0, j1, j2, j3, j4, j5, j6, j7, j8, j9, j10, j11, j12, none, none] st h Q) ∧
  (∀ (L : pb_L) (J : pb_J) (st : List Value) (h : pb_H) (Q : Option Value → pb_H → Prop), pb_R 33 235 L J st h Q ↔ pb_R 33 168 L J st h Q) ∧
  (∀ (l0 l1 l2 l3 l4 l5 l6 l7 l8 l9 l10 l11 l12 l13 l14 : Option Value) (j0 j1 j2 j3 j4 j5 j6 j7 j8 j9 j11 j12 j13 j14 : Option Int64) (st : List Value) (h : pb_H) (Q : Option Value → pb_H → Prop) (x : Int64), pb_R 33 238 [l0, l1, l2, l3, l4, l5, l6, l7, l8, l9, l10, l11, l12, l13, l14] [j0, j1, j2, j3, j4, j5, j6, j7, j8, j9, some x, j11, j12, j13, j14] st h Q ↔ pb_R 33 240 [l0, l1, l2, l3, l4, l5, l6, l7, l8, l9, l10, l11, l12, l13, l14] [j0, j1, j2, j3, j4, j5, j6, j7, j8, j9, some x, j11, j12, j13, j14] (.long x :: st) h Q) ∧
  (∀ (L : pb_L) (J : pb_J) (h : pb_H) (Q : Option Value → pb_H → Prop) (x : Int64), pb_R 33 240 L J [.long x] h Q ↔ Q (some (.long x)) h) := ⟨
  fun l1 l2 l3 l4 l5 l6 l7 l8 l9 l10 l11 l12 l13 l14 j0 j1 j2 j3 j4 j5 j6 j7 j8 j9 j10 j11 j12 j13 j14 st h Q x => pf_S pb_u_33 rfl rfl,
  fun l1 l2 l3 l4 l5 l6 l7 l8 l9 l10 l11 l12 l13 l14 j0 j1 j2 j3 j4 j5 j6 j7 j8 j9 j10 j11 j12 j13 j14 st h Q => pf_S pb_u_33 rfl rfl,
  fun L J st h Q a => pf_gf pb_u_33 rfl rfl,
  fun l1 l2 l3 l4 l5 l6 l7 l8 l9 l10 l11 l12 l13 l14 j0 j1 j2 j3 j4 j5 j6 j7 j8 j9 j10 j11 j12 j13 j14 st h Q x => pf_S pb_u_33 rfl rfl,
  fun l1 l2 l3 l4 l5 l6 l7 l8 l9 l10 l11 l12 l13 l14 j0 j1 j2 j3 j4 j5 j6 j7 j8 j9 j10 j11 j12 j13 j14 st h Q => pf_S pb_u_33 rfl rfl,
  fun L J st h Q a => pf_gf pb_u_33 rfl rfl,
  fun L J st h Q => pf_S pb_u_33 rfl rfl,
  fun L J st x y h Q => pf_S pb_u_33 rfl rfl,
  fun L J st h Q a i => pf_ai pb_u_33 rfl rfl,
  fun L J st x h Q => pf_S pb_u_33 rfl rfl,
  fun L J st h Q => pf_S pb_u_33 rfl rfl,
  fun L J st x y h Q => pf_S pb_u_33 rfl rfl,
  fun l0 l1 l2 l3 l4 l5 l6 l7 l8 l9 l10 l11 l12 l13 l14 j0 j1 j2 j3 j4 j5 j6 j7 j8 j9 j10 j11 j12 j13 j14 st h Q x => pf_S pb_u_33 rfl rfl,
  fun l0 l1 l2 l3 l4 l5 l6 l7 l8 l9 l10 l11 l12 l13 l14 j0 j1 j3 j4 j5 j6 j7 j8 j9 j10 j11 j12 j13 j14 st h Q x => pf_S pb_u_33 rfl rfl,
  fun L J st h Q => pf_S pb_u_33 rfl rfl,
  fun L J st x y h Q => pf_S pb_u_33 rfl rfl,
  fun L J st h Q x => pf_ii pb_u_33 rfl rfl pf_ne,
  fun L J st h Q => pf_S pb_u_33 rfl rfl,
  fun L J h Q x => pf_rj pb_u_33 rfl rfl,
  fun l1 l2 l3 l4 l5 l6 l7 l8 l9 l10 l11 l12 l13 l14 j0 j1 j2 j3 j4 j5 j6 j7 j8 j9 j10 j11 j12 j13 j14 st h Q x => pf_S pb_u_33 rfl rfl,
  fun l1 l2 l3 l4 l5 l6 l7 l8 l9 l10 l11 l12 l13 l14 j0 j1 j2 j3 j4 j5 j6 j7 j8 j9 j10 j11 j12 j13 j14 st h Q => pf_S pb_u_33 rfl rfl,
  fun L J st h Q a => pf_gf pb_u_33 rfl rfl,
  fun L J st h Q => pf_S pb_u_33 rfl rfl,
  fun L J st h Q x y => pf_ic pb_u_33 rfl rfl rfl,
  fun l1 l2 l3 l4 l5 l6 l7 l8 l9 l10 l11 l12 l13 l14 j0 j1 j2 j3 j4 j5 j6 j7 j8 j9 j10 j11 j12 j13 j14 st h Q x => pf_S pb_u_33 rfl rfl,
  fun l1 l2 l3 l4 l5 l6 l7 l8 l9 l10 l11 l12 l13 l14 j0 j1 j2 j3 j4 j5 j6 j7 j8 j9 j10 j11 j12 j13 j14 st h Q => pf_S pb_u_33 rfl rfl,
  fun L J st h Q a => pf_gf pb_u_33 rfl rfl,
  fun l1 l2 l3 l4 l5 l6 l7 l8 l9 l10 l11 l12 l13 l14 j0 j1 j2 j3 j4 j5 j6 j7 j8 j9 j10 j11 j12 j13 j14 st h Q x => pf_S pb_u_33 rfl rfl,
  fun l1 l2 l3 l4 l5 l6 l7 l8 l9 l10 l11 l12 l13 l14 j0 j1 j2 j3 j4 j5 j6 j7 j8 j9 j10 j11 j12 j13 j14 st h Q => pf_S pb_u_33 rfl rfl,
  fun L J st h Q a => pf_gf pb_u_33 rfl rfl,
  fun L J st h Q => pf_S pb_u_33 rfl rfl,
  fun L J st x y h Q => pf_S pb_u_33 rfl rfl,
  fun L J st h Q a i => pf_ai pb_u_33 rfl rfl,
  fun L J st x h Q => pf_S pb_u_33 rfl rfl,
  fun L J st h Q => pf_S pb_u_33 rfl rfl,
  fun L J st x y h Q => pf_S pb_u_33 rfl rfl,
  fun L J st h Q => pf_S pb_u_33 rfl rfl,
  fun L J st h Q => pf_S pb_u_33 rfl rfl,
  fun l0 l1 l2 l3 l4 l5 l6 l7 l8 l9 l10 l11 l12 l13 l14 j0 j1 j2 j3 j4 j5 j6 j7 j8 j9 j10 j11 j12 j13 j14 st h Q x => pf_S pb_u_33 rfl rfl,
  fun l1 l2 l3 l4 l5 l6 l7 l8 l9 l10 l11 l12 l13 l14 j0 j1 j2 j3 j4 j5 j6 j7 j8 j9 j10 j11 j12 j13 j14 st h Q x => pf_S pb_u_33 rfl rfl,
  fun l1 l2 l3 l4 l5 l6 l7 l8 l9 l10 l11 l12 l13 l14 j0 j1 j2 j3 j4 j5 j6 j7 j8 j9 j10 j11 j12 j13 j14 st h Q => pf_S pb_u_33 rfl rfl,
  fun L J st h Q a => pf_gf pb_u_33 rfl rfl,
  fun L J st h Q => pf_S pb_u_33 rfl rfl,
  fun L J st h Q x y => pf_ic pb_u_33 rfl rfl rfl,
  fun l1 l2 l3 l4 l5 l6 l7 l8 l9 l10 l11 l12 l13 l14 j0 j1 j2 j3 j4 j5 j6 j7 j8 j9 j10 j11 j12 j13 j14 st h Q x => pf_S pb_u_33 rfl rfl,
  fun l1 l2 l3 l4 l5 l6 l7 l8 l9 l10 l11 l12 l13 l14 j0 j1 j2 j3 j4 j5 j6 j7 j8 j9 j10 j11 j12 j13 j14 st h Q => pf_S pb_u_33 rfl rfl,
  fun L J st h Q a => pf_gf pb_u_33 rfl rfl,
  fun l0 l2 l3 l4 l5 l6 l7 l8 l9 l10 l11 l12 l13 l14 j0 j1 j2 j3 j4 j5 j6 j7 j8 j9 j10 j11 j12 j13 j14 st h Q x => pf_S pb_u_33 rfl rfl,
  fun l1 l2 l3 l4 l5 l6 l7 l8 l9 l10 l11 l12 l13 l14 j0 j1 j2 j3 j4 j5 j6 j7 j8 j9 j10 j11 j12 j13 j14 st h Q x => pf_S pb_u_33 rfl rfl,
  fun l1 l2 l3 l4 l5 l6 l7 l8 l9 l10 l11 l12 l13 l14 j0 j1 j2 j3 j4 j5 j6 j7 j8 j9 j10 j11 j12 j13 j14 st h Q => pf_S pb_u_33 rfl rfl,
  fun L J st h Q a => pf_gf pb_u_33 rfl rfl,
  fun L J st x y h Q => pf_S pb_u_33 rfl rfl,
  fun L J st h Q => pf_S pb_u_33 rfl rfl,
  fun L J st x y h Q => pf_S pb_u_33 rfl rfl,
  fun L J st h Q a i => pf_ai pb_u_33 rfl rfl,
  fun L J st x h Q => pf_S pb_u_33 rfl rfl,
  fun L J st h Q => pf_S pb_u_33 rfl rfl,
  fun L J st x y h Q => pf_S pb_u_33 rfl rfl,
  fun L J st h Q => pf_S pb_u_33 rfl rfl,
  fun L J st h Q => pf_S pb_u_33 rfl rfl,
  fun l0 l1 l2 l3 l4 l5 l6 l7 l8 l9 l10 l11 l12 l13 l14 j0 j1 j2 j3 j4 j5 j6 j7 j8 j9 j10 j11 j12 j13 j14 st h Q x => pf_S pb_u_33 rfl rfl,
  fun l1 l2 l3 l4 l5 l6 l7 l8 l9 l10 l11 l12 l13 l14 j0 j1 j2 j3 j4 j5 j6 j7 j8 j9 j10 j11 j12 j13 j14 st h Q x => pf_S pb_u_33 rfl rfl,
  fun l1 l2 l3 l4 l5 l6 l7 l8 l9 l10 l11 l12 l13 l14 j0 j1 j2 j3 j4 j5 j6 j7 j8 j9 j10 j11 j12 j13 j14 st h Q => pf_S pb_u_33 rfl rfl,
  fun L J st h Q a => pf_gf pb_u_33 rfl rfl,
  fun l0 l2 l3 l4 l5 l6 l7 l8 l9 l10 l11 l12 l13 l14 j0 j1 j2 j3 j4 j5 j6 j7 j8 j9 j10 j11 j12 j13 j14 st h Q x => pf_S pb_u_33 rfl rfl,
  fun l1 l2 l3 l4 l5 l6 l7 l8 l9 l10 l11 l12 l13 l14 j0 j1 j2 j3 j4 j5 j6 j7 j8 j9 j10 j11 j12 j13 j14 st h Q x => pf_S pb_u_33 rfl rfl,
  fun l1 l2 l3 l4 l5 l6 l7 l8 l9 l10 l11 l12 l13 l14 j0 j1 j2 j3 j4 j5 j6 j7 j8 j9 j10 j11 j12 j13 j14 st h Q => pf_S pb_u_33 rfl rfl,
  fun L J st h Q a => pf_gf pb_u_33 rfl rfl,
  fun L J st x y h Q => pf_S pb_u_33 rfl rfl,
  fun L J st h Q a i => pf_ai pb_u_33 rfl rfl,
  fun L J st x h Q => pf_S pb_u_33 rfl rfl,
  fun L J st h Q => pf_S pb_u_33 rfl rfl,
  fun L J st x y h Q => pf_S pb_u_33 rfl rfl,
  fun L J st h Q => pf_S pb_u_33 rfl rfl,
  fun L J st x y h Q => pf_S pb_u_33 rfl rfl,
  fun l1 l2 l3 l4 l5 l6 l7 l8 l9 l10 l11 l12 l13 l14 j0 j1 j2 j3 j4 j5 j6 j7 j8 j9 j10 j11 j12 j13 j14 st h Q x => pf_S pb_u_33 rfl rfl,
  fun l1 l2 l3 l4 l5 l6 l7 l8 l9 l10 l11 l12 l13 l14 j0 j1 j2 j3 j4 j5 j6 j7 j8 j9 j10 j11 j12 j13 j14 st h Q => pf_S pb_u_33 rfl rfl,
  fun L J st h Q a => pf_gf pb_u_33 rfl rfl,
  fun l0 l2 l3 l4 l5 l6 l7 l8 l9 l10 l11 l12 l13 l14 j0 j1 j2 j3 j4 j5 j6 j7 j8 j9 j10 j11 j12 j13 j14 st h Q x => pf_S pb_u_33 rfl rfl,
  fun l1 l2 l3 l4 l5 l6 l7 l8 l9 l10 l11 l12 l13 l14 j0 j1 j2 j3 j4 j5 j6 j7 j8 j9 j10 j11 j12 j13 j14 st h Q x => pf_S pb_u_33 rfl rfl,
  fun l1 l2 l3 l4 l5 l6 l7 l8 l9 l10 l11 l12 l13 l14 j0 j1 j2 j3 j4 j5 j6 j7 j8 j9 j10 j11 j12 j13 j14 st h Q => pf_S pb_u_33 rfl rfl,
  fun L J st h Q a => pf_gf pb_u_33 rfl rfl,
  fun L J st x y h Q => pf_S pb_u_33 rfl rfl,
  fun L J st h Q => pf_S pb_u_33 rfl rfl,
  fun L J st x y h Q => pf_S pb_u_33 rfl rfl,
  fun L J st h Q a i => pf_ai pb_u_33 rfl rfl,
  fun L J st x h Q => pf_S pb_u_33 rfl rfl,
  fun L J st h Q => pf_S pb_u_33 rfl rfl,
  fun L J st x y h Q => pf_S pb_u_33 rfl rfl,
  fun L J st x y h Q => pf_S pb_u_33 rfl rfl,
  fun l0 l1 l2 l3 l4 l5 l6 l7 l8 l9 l10 l11 l12 l13 l14 j0 j1 j2 j3 j4 j5 j6 j7 j8 j9 j10 j11 j12 j13 j14 st h Q x => pf_S pb_u_33 rfl rfl,
  fun l0 l1 l2 l3 l4 l5 l6 l7 l8 l9 l10 l11 l12 l13 l14 j0 j1 j2 j3 j4 j5 j6 j7 j9 j10 j11 j12 j13 j14 st h Q x => pf_S pb_u_33 rfl rfl,
  fun L J st h Q => pf_S pb_u_33 rfl rfl,
  fun L J st x y h Q => pf_S pb_u_33 rfl rfl,
  fun l0 l1 l2 l3 l4 l5 l6 l7 l8 l9 l10 l11 l12 l13 l14 j0 j1 j3 j4 j5 j6 j7 j8 j9 j10 j11 j12 j13 j14 st h Q x => pf_S pb_u_33 rfl rfl,
  fun L J st h Q x y => pf_ldiv pb_u_33 rfl rfl,
  fun L J st h Q => pf_S pb_u_33 rfl rfl,
  fun L J st x y h Q => pf_S pb_u_33 rfl rfl,
  fun l0 l1 l2 l3 l4 l5 l6 l7 l8 l9 l10 l11 l12 l13 l14 j0 j1 j2 j3 j4 j5 j6 j7 j8 j9 j10 j11 j12 j13 j14 st h Q x => pf_S pb_u_33 rfl rfl,
  fun l0 l1 l2 l3 l4 l5 l6 l7 l8 l9 l10 l11 l12 l13 l14 j0 j1 j2 j3 j4 j5 j6 j7 j9 j10 j11 j12 j13 j14 st h Q x => pf_S pb_u_33 rfl rfl,
  fun l0 l1 l2 l3 l4 l5 l6 l7 l8 l9 l10 l11 l12 l13 l14 j0 j1 j2 j3 j4 j5 j6 j7 j8 j9 j11 j12 j13 j14 st h Q x => pf_S pb_u_33 rfl rfl,
  fun l0 l1 l2 l3 l4 l5 l6 l7 l8 l9 l10 l11 l12 l13 l14 j0 j1 j3 j4 j5 j6 j7 j8 j9 j10 j11 j12 j13 j14 st h Q x => pf_S pb_u_33 rfl rfl,
  fun L J st x y h Q => pf_S pb_u_33 rfl rfl,
  fun L J st x y h Q => pf_S pb_u_33 rfl rfl,
  fun l0 l1 l2 l3 l4 l5 l6 l7 l8 l9 l10 l11 l12 l13 l14 j0 j1 j2 j3 j4 j5 j6 j7 j8 j9 j10 j11 j12 j13 j14 st h Q x => pf_S pb_u_33 rfl rfl,
  fun l0 l1 l2 l3 l4 l5 l6 l7 l8 l9 l10 l11 l12 l13 l14 j0 j1 j2 j3 j4 j5 j6 j7 j8 j9 j10 j11 j13 j14 st h Q x => pf_S pb_u_33 rfl rfl,
  fun l0 l1 l2 l3 l4 l5 l6 l7 l8 l9 l10 l11 l12 l13 l14 j0 j1 j3 j4 j5 j6 j7 j8 j9 j10 j11 j12 j13 j14 st h Q x => pf_S pb_u_33 rfl rfl,
  fun L J st x y h Q => pf_S pb_u_33 rfl rfl,
  fun L J st h Q x => pf_ii pb_u_33 rfl rfl rfl,
  fun l0 l1 l2 l3 l4 l5 l6 l7 l8 l9 l10 l11 l12 l13 l14 j0 j1 j2 j3 j4 j5 j6 j7 j8 j9 j11 j12 j13 j14 st h Q x => pf_S pb_u_33 rfl rfl,
  fun L J st h Q => pf_S pb_u_33 rfl rfl,
  fun L J st x y h Q => pf_S pb_u_33 rfl rfl,
  fun l0 l1 l2 l3 l4 l5 l6 l7 l8 l9 l10 l11 l12 l13 l14 j0 j1 j2 j3 j4 j5 j6 j7 j8 j9 j10 j11 j12 j13 j14 st h Q x => pf_S pb_u_33 rfl rfl,
  fun l0 l1 l2 l3 l4 l5 l6 l7 l8 l9 l10 l11 l12 l13 l14 j0 j1 j2 j3 j4 j5 j6 j7 j8 j9 j10 j11 j13 j14 st h Q x => pf_S pb_u_33 rfl rfl,
  fun l0 l1 l2 l3 l4 l5 l6 l7 l8 l9 l10 l11 l12 l13 l14 j0 j1 j3 j4 j5 j6 j7 j8 j9 j10 j11 j12 j13 j14 st h Q x => pf_S pb_u_33 rfl rfl,
  fun L J st x y h Q => pf_S pb_u_33 rfl rfl,
  fun l0 l1 l2 l3 l4 l5 l6 l7 l8 l9 l10 l11 l12 l13 l14 j0 j1 j2 j3 j4 j5 j6 j7 j8 j9 j10 j11 j12 j13 j14 st h Q x => pf_S pb_u_33 rfl rfl,
  fun L J st h Q => pf_S pb_u_33 rfl rfl,
  fun l0 l1 l2 l3 l4 l5 l6 l7 l8 l9 l10 l11 l12 l13 l14 j0 j1 j2 j3 j4 j5 j6 j7 j8 j9 j10 j11 j12 j13 j14 st h Q x => pf_S pb_u_33 rfl rfl,
  fun L J st h Q => pf_S pb_u_33 rfl rfl,
  fun L J st h Q x y => pf_ic pb_u_33 rfl rfl rfl,
  fun l0 l1 l2 l3 l4 l5 l6 l7 l8 l9 l10 l11 l12 l13 l14 j0 j1 j2 j3 j4 j5 j6 j7 j8 j9 j10 j11 j13 j14 st h Q x => pf_S pb_u_33 rfl rfl,
  fun L J st h Q => pf_S pb_u_33 rfl rfl,
  fun L J st x y h Q => pf_S pb_u_33 rfl rfl,
  fun L J st h Q x => pf_ii pb_u_33 rfl rfl rfl,
  fun l0 l1 l2 l3 l4 l5 l6 l7 l8 l9 l10 l11 l12 l13 l14 j0 j1 j2 j3 j4 j5 j6 j7 j8 j9 j11 j12 j13 j14 st h Q x => pf_S pb_u_33 rfl rfl,
  fun L J st h Q => pf_S pb_u_33 rfl rfl,
  fun L J st x y h Q => pf_S pb_u_33 rfl rfl,
  fun L J st h Q x => pf_ii pb_u_33 rfl rfl rfl,
  fun l0 l1 l2 l3 l4 l5 l6 l7 l8 l9 l10 l11 l12 l13 l14 j0 j1 j2 j3 j4 j5 j6 j7 j8 j9 j11 j12 j13 j14 st h Q x => pf_S pb_u_33 rfl rfl,
  fun l0 l1 l2 l3 l4 l5 l6 l7 l8 l9 l10 l11 l12 l13 l14 j0 j1 j2 j3 j5 j6 j7 j8 j9 j10 j11 j12 j13 j14 st h Q x => pf_S pb_u_33 rfl rfl,
  fun L J st x y h Q => pf_S pb_u_33 rfl rfl,
  fun L J st h Q => pf_S pb_u_33 rfl rfl,
  fun L J st x y h Q => pf_S pb_u_33 rfl rfl,
  fun l0 l1 l2 l3 l4 l5 l6 l7 l8 l9 l10 l11 l12 l13 l14 j0 j1 j2 j3 j4 j5 j6 j7 j8 j9 j10 j11 j13 j14 st h Q x => pf_S pb_u_33 rfl rfl,
  fun L J st h Q => pf_S pb_u_33 rfl rfl,
  fun L J st x y h Q => pf_S pb_u_33 rfl rfl,
  fun l0 l1 l2 l3 l4 l5 l6 l7 l8 l9 l10 l11 l12 l13 l14 j0 j1 j2 j3 j4 j5 j7 j8 j9 j10 j11 j12 j13 j14 st h Q x => pf_S pb_u_33 rfl rfl,
  fun L J st x y h Q => pf_S pb_u_33 rfl rfl,
  fun L J st h Q => pf_S pb_u_33 rfl rfl,
  fun L J st x y h Q => pf_S pb_u_33 rfl rfl,
  fun L J st x y h Q => pf_S pb_u_33 rfl rfl,
  fun L J st h Q x => pf_ii pb_u_33 rfl rfl rfl,
  fun L J st h Q => pf_S pb_u_33 rfl rfl,
  fun l0 l1 l2 l3 l4 l5 l6 l7 l8 l9 l10 l11 l12 l13 l14 j0 j1 j2 j3 j4 j5 j6 j7 j8 j9 j11 j12 j13 j14 st h Q x => pf_S pb_u_33 rfl rfl,
  fun L J st h Q => pf_S pb_u_33 rfl rfl,
  fun L J st x y h Q => pf_S pb_u_33 rfl rfl,
  fun l0 l1 l2 l3 l4 l5 l6 l7 l8 l9 l10 l11 l12 l13 l14 j0 j1 j2 j3 j4 j5 j6 j7 j8 j9 j10 j11 j12 j13 j14 st h Q x => pf_S pb_u_33 rfl rfl,
  fun l0 l1 l2 l3 l4 l5 l6 l7 l8 l9 l10 l11 l12 l13 l14 j0 j1 j2 j3 j4 j5 j6 j7 j8 j9 j10 j11 j13 j14 st h Q x => pf_S pb_u_33 rfl rfl,
  fun l0 l1 l2 l3 l4 l5 l6 l7 l8 l9 l10 l11 l12 l13 l14 j0 j1 j3 j4 j5 j6 j7 j8 j9 j10 j11 j12 j13 j14 st h Q x => pf_S pb_u_33 rfl rfl,
  fun L J st x y h Q => pf_S pb_u_33 rfl rfl,
  fun l0 l1 l2 l3 l4 l5 l6 l7 l8 l9 l10 l11 l12 l13 l14 j0 j1 j2 j3 j4 j5 j6 j7 j8 j9 j10 j11 j12 j13 j14 st h Q x => pf_S pb_u_33 rfl rfl,
  fun l0 l1 l2 l3 l4 l5 l6 l7 l8 l9 l10 l11 l12 l13 j0 j1 j2 j3 j4 j5 j6 j7 j8 j9 j10 j11 j12 j13 j14 st h Q x => pf_S pb_u_33 rfl rfl,
  fun L J st h Q => pf_S pb_u_33 rfl rfl,
  fun l0 l1 l2 l3 l4 l5 l6 l7 l8 l9 l10 l11 l12 l13 l14 j0 j1 j2 j3 j4 j5 j6 j7 j8 j9 j11 j12 j13 j14 st h Q x => pf_S pb_u_33 rfl rfl,
  fun L J h Q x => pf_rj pb_u_33 rfl rfl⟩
theorem pb_c33 (x0 : Nat) (x1 : Int32) (h : pb_H) (Q : Option Value → pb_H → Prop) : pb_call 33 [.ref x0, .int x1] h Q ↔ pb_R 33 0 [some (.ref x0), some (.int x1), none, none, none, none, none, none, none, none, none, none, none, none, none] [none, none, none, none, none, none, none, none, none, none, none, none, none, none, none] [] h Q := Iff.rfl
/-! 34: PlaneBench$Divider.takeOff(IJ)I -/
theorem pb_u_34 : pb_t 34 = pb_t34 := rfl
theorem pb_ci_34 : pb_ci 34 = 3 := by decide +kernel
set_option maxRecDepth 100000 in
theorem pb_q34_9 (l0 l1 l2 l3 l4 l5 l6 l7 l9 l10 : Option Value) (j0 j1 j2 j3 j4 j5 j6 j7 j8 j9 j10 : Option Int64) (st : List Value) (h : pb_H) (Q : Option Value → pb_H → Prop) (x : Int32) : pb_R 34 9 [l0, l1, l2, l3, l4, l5, l6, l7, some (.int x), l9, l10] [j0, j1, j2, j3, j4, j5, j6, j7, j8, j9, j10] st h Q ↔ pb_R 34 11 [l0, l1, l2, l3, l4, l5, l6, l7, some (.int x), l9, l10] [j0, j1, j2, j3, j4, j5, j6, j7, j8, j9, j10] (.int x :: st) h Q := pf_S pb_u_34 rfl rfl
set_option maxRecDepth 100000 in
theorem pb_q34_124 (l0 l1 l2 l3 l4 l5 l6 l7 l8 l9 : Option Value) (j0 j1 j2 j3 j4 j5 j6 j7 j8 j9 j10 : Option Int64) (st : List Value) (h : pb_H) (Q : Option Value → pb_H → Prop) (x : Int32) : pb_R 34 124 [l0, l1, l2, l3, l4, l5, l6, l7, l8, l9, some (.int x)] [j0, j1, j2, j3, j4, j5, j6, j7, j8, j9, j10] st h Q ↔ pb_R 34 126 [l0, l1, l2, l3, l4, l5, l6, l7, l8, l9, some (.int x)] [j0, j1, j2, j3, j4, j5, j6, j7, j8, j9, j10] (.int x :: st) h Q := pf_S pb_u_34 rfl rfl
set_option maxRecDepth 100000 in
theorem pb_e34 : (∀ (L : pb_L) (J : pb_J) (st : List Value) (h : pb_H) (Q : Option Value → pb_H → Prop), pb_R 34 0 L J st h Q ↔ pb_R 34 1 L J (.long (0 : Int64) :: st) h Q) ∧
  (∀ (l0 l1 l2 l3 l4 l5 l6 l7 l8 l9 l10 : Option Value) (j0 j1 j2 j3 j4 j5 j6 j7 j8 j9 j10 : Option Int64) (st : List Value) (h : pb_H) (Q : Option Value → pb_H → Prop) (x : Int64), pb_R 34 1 [l0, l1, l2, l3, l4, l5, l6, l7, l8, l9, l10] [j0, j1, j2, j3, j4, j5, j6, j7, j8, j9, j10] (.long x :: st) h Q ↔ pb_R 34 3 [l0, l1, l2, l3, none, none, l6, l7, l8, l9, l10] [j0, j1, j2, none, some x, none, j6, j7, j8, j9, j10] st h Q) ∧
  (∀ (L : pb_L) (J : pb_J) (st : List Value) (h : pb_H) (Q : Option Value → pb_H → Prop), pb_R 34 3 L J st h Q ↔ pb_R 34 4 L J (.long (0 : Int64) :: st) h Q) ∧
  (∀ (l0 l1 l2 l3 l4 l5 l6 l7 l8 l9 l10 : Option Value) (j0 j1 j2 j3 j4 j5 j6 j7 j8 j9 j10 : Option Int64) (st : List Value) (h : pb_H) (Q : Option Value → pb_H → Prop) (x : Int64), pb_R 34 4 [l0, l1, l2, l3, l4, l5, l6, l7, l8, l9, l10] [j0, j1, j2, j3, j4, j5, j6, j7, j8, j9, j10] (.long x :: st) h Q ↔ pb_R 34 6 [l0, l1, l2, l3, l4, l5, none, none, l8, l9, l10] [j0, j1, j2, j3, j4, none, some x, none, j8, j9, j10] st h Q) ∧
  (∀ (L : pb_L) (J : pb_J) (st : List Value) (h : pb_H) (Q : Option Value → pb_H → Prop), pb_R 34 6 L J st h Q ↔ pb_R 34 7 L J (.int (0 : Int32) :: st) h Q) ∧
  (∀ (l0 l1 l2 l3 l4 l5 l6 l7 l8 l9 l10 : Option Value) (j0 j1 j2 j3 j4 j5 j6 j7 j8 j9 j10 : Option Int64) (st : List Value) (h : pb_H) (Q : Option Value → pb_H → Prop) (x : Int32), pb_R 34 7 [l0, l1, l2, l3, l4, l5, l6, l7, l8, l9, l10] [j0, j1, j2, j3, j4, j5, j6, j7, j8, j9, j10] (.int x :: st) h Q ↔ pb_R 34 9 [l0, l1, l2, l3, l4, l5, l6, l7, some (.int x), l9, l10] [j0, j1, j2, j3, j4, j5, j6, none, none, j9, j10] st h Q) ∧
  (∀ (l1 l2 l3 l4 l5 l6 l7 l8 l9 l10 : Option Value) (j0 j1 j2 j3 j4 j5 j6 j7 j8 j9 j10 : Option Int64) (st : List Value) (h : pb_H) (Q : Option Value → pb_H → Prop) (x : Nat), pb_R 34 11 [some (.ref x), l1, l2, l3, l4, l5, l6, l7, l8, l9, l10] [j0, j1, j2, j3, j4, j5, j6, j7, j8, j9, j10] st h Q ↔ pb_R 34 12 [some (.ref x), l1, l2, l3, l4, l5, l6, l7, l8, l9, l10] [j0, j1, j2, j3, j4, j5, j6, j7, j8, j9, j10] (.ref x :: st) h Q) ∧
  (∀ (l1 l2 l3 l4 l5 l6 l7 l8 l9 l10 : Option Value) (j0 j1 j2 j3 j4 j5 j6 j7 j8 j9 j10 : Option Int64) (st : List Value) (h : pb_H) (Q : Option Value → pb_H → Prop), pb_R 34 11 [some .null, l1, l2, l3, l4, l5, l6, l7, l8, l9, l10] [j0, j1, j2, j3, j4, j5, j6, j7, j8, j9, j10] st h Q ↔ pb_R 34 12 [some .null, l1, l2, l3, l4, l5, l6, l7, l8, l9, l10] [j0, j1, j2, j3, j4, j5, j6, j7, j8, j9, j10] (.null :: st) h Q) ∧
  (∀ (L : pb_L) (J : pb_J) (st : List Value) (h : pb_H) (Q : Option Value → pb_H → Prop) (a : Nat), pb_R 34 12 L J (.ref a :: st) h Q ↔ pb_o (pb_gf (h.2 a) 3 3) (fun v => pb_R 34 15 L J (v :: st) h Q)) ∧
  (∀ (L : pb_L) (J : pb_J) (st : List Value) (h : pb_H) (Q : Option Value → pb_H → Prop) (x y : Int32), pb_R 34 15 L J (.int y :: .int x :: st) h Q ↔ if y < x then pb_R 34 108 L J st h Q else pb_R 34 18 L J st h Q) ∧
  (∀ (l0 l1 l2 l3 l4 l5 l6 l7 l8 l9 l10 : Option Value) (j0 j1 j2 j3 j5 j6 j7 j8 j9 j10 : Option Int64) (st : List Value) (h : pb_H) (Q : Option Value → pb_H → Prop) (x : Int64), pb_R 34 18 [l0, l1, l2, l3, l4, l5, l6, l7, l8, l9, l10] [j0, j1, j2, j3, some x, j5, j6, j7, j8, j9, j10] st h Q ↔ pb_R 34 20 [l0, l1, l2, l3, l4, l5, l6, l7, l8, l9, l10] [j0, j1, j2, j3, some x, j5, j6, j7, j8, j9, j10] (.long x :: st) h Q) ∧
  (∀ (l0 l1 l2 l3 l4 l5 l6 l7 l9 l10 : Option Value) (j0 j1 j2 j3 j4 j5 j6 j7 j8 j9 j10 : Option Int64) (st : List Value) (h : pb_H) (Q : Option Value → pb_H → Prop) (x : Int32), pb_R 34 20 [l0, l1, l2, l3, l4, l5, l6, l7, some (.int x), l9, l10] [j0, j1, j2, j3, j4, j5, j6, j7, j8, j9, j10] st h Q ↔ pb_R 34 22 [l0, l1, l2, l3, l4, l5, l6, l7, some (.int x), l9, l10] [j0, j1, j2, j3, j4, j5, j6, j7, j8, j9, j10] (.int x :: st) h Q) ∧
  (∀ (l1 l2 l3 l4 l5 l6 l7 l8 l9 l10 : Option Value) (j0 j1 j2 j3 j4 j5 j6 j7 j8 j9 j10 : Option Int64) (st : List Value) (h : pb_H) (Q : Option Value → pb_H → Prop) (x : Nat), pb_R 34 22 [some (.ref x), l1, l2, l3, l4, l5, l6, l7, l8, l9, l10] [j0, j1, j2, j3, j4, j5, j6, j7, j8, j9, j10] st h Q ↔ pb_R 34 23 [some (.ref x), l1, l2, l3, l4, l5, l6, l7, l8, l9, l10] [j0, j1, j2, j3, j4, j5, j6, j7, j8, j9, j10] (.ref x :: st) h Q) ∧
  (∀ (l1 l2 l3 l4 l5 l6 l7 l8 l9 l10 : Option Value) (j0 j1 j2 j3 j4 j5 j6 j7 j8 j9 j10 : Option Int64) (st : List Value) (h : pb_H) (Q : Option Value → pb_H → Prop), pb_R 34 22 [some .null, l1, l2, l3, l4, l5, l6, l7, l8, l9, l10] [j0, j1, j2, j3, j4, j5, j6, j7, j8, j9, j10] st h Q ↔ pb_R 34 23 [some .null, l1, l2, l3, l4, l5, l6, l7, l8, l9, l10] [j0, j1, j2, j3, j4, j5, j6, j7, j8, j9, j10] (.null :: st) h Q) ∧
  (∀ (L : pb_L) (J : pb_J) (st : List Value) (h : pb_H) (Q : Option Value → pb_H → Prop) (a : Nat), pb_R 34 23 L J (.ref a :: st) h Q ↔ pb_o (pb_gf (h.2 a) 3 3) (fun v => pb_R 34 26 L J (v :: st) h Q)) ∧
  (∀ (L : pb_L) (J : pb_J) (st : List Value) (h : pb_H) (Q : Option Value → pb_H → Prop) (x y : Int32), pb_R 34 26 L J (.int y :: .int x :: st) h Q ↔ if y ≤ x then pb_R 34 46 L J st h Q else pb_R 34 29 L J st h Q) ∧
  (∀ (l0 l1 l2 l3 l4 l5 l6 l7 l8 l9 l10 : Option Value) (j0 j1 j3 j4 j5 j6 j7 j8 j9 j10 : Option Int64) (st : List Value) (h : pb_H) (Q : Option Value → pb_H → Prop) (x : Int64), pb_R 34 29 [l0, l1, l2, l3, l4, l5, l6, l7, l8, l9, l10] [j0, j1, some x, j3, j4, j5, j6, j7, j8, j9, j10] st h Q ↔ pb_R 34 30 [l0, l1, l2, l3, l4, l5, l6, l7, l8, l9, l10] [j0, j1, some x, j3, j4, j5, j6, j7, j8, j9, j10] (.long x :: st) h Q) ∧
  (∀ (l1 l2 l3 l4 l5 l6 l7 l8 l9 l10 : Option Value) (j0 j1 j2 j3 j4 j5 j6 j7 j8 j9 j10 : Option Int64) (st : List Value) (h : pb_H) (Q : Option Value → pb_H → Prop) (x : Nat), pb_R 34 30 [some (.ref x), l1, l2, l3, l4, l5, l6, l7, l8, l9, l10] [j0, j1, j2, j3, j4, j5, j6, j7, j8, j9, j10] st h Q ↔ pb_R 34 31 [some (.ref x), l1, l2, l3, l4, l5, l6, l7, l8, l9, l10] [j0, j1, j2, j3, j4, j5, j6, j7, j8, j9, j10] (.ref x :: st) h Q) ∧
  (∀ (l1 l2 l3 l4 l5 l6 l7 l8 l9 l10 : Option Value) (j0 j1 j2 j3 j4 j5 j6 j7 j8 j9 j10 : Option Int64) (st : List Value) (h : pb_H) (Q : Option Value → pb_H → Prop), pb_R 34 30 [some .null, l1, l2, l3, l4, l5, l6, l7, l8, l9, l10] [j0, j1, j2, j3, j4, j5, j6, j7, j8, j9, j10] st h Q ↔ pb_R 34 31 [some .null, l1, l2, l3, l4, l5, l6, l7, l8, l9, l10] [j0, j1, j2, j3, j4, j5, j6, j7, j8, j9, j10] (.null :: st) h Q) ∧
  (∀ (L : pb_L) (J : pb_J) (st : List Value) (h : pb_H) (Q : Option Value → pb_H → Prop) (a : Nat), pb_R 34 31 L J (.ref a :: st) h Q ↔ pb_o (pb_gf (h.2 a) 3 0) (fun v => pb_R 34 34 L J (v :: st) h Q)) ∧
  (∀ (l0 l1 l2 l3 l4 l5 l6 l7 l9 l10 : Option Value) (j0 j1 j2 j3 j4 j5 j6 j7 j8 j9 j10 : Option Int64) (st : List Value) (h : pb_H) (Q : Option Value → pb_H → Prop) (x : Int32), pb_R 34 34 [l0, l1, l2, l3, l4, l5, l6, l7, some (.int x), l9, l10] [j0, j1, j2, j3, j4, j5, j6, j7, j8, j9, j10] st h Q ↔ pb_R 34 36 [l0, l1, l2, l3, l4, l5, l6, l7, some (.int x), l9, l10] [j0, j1, j2, j3, j4, j5, j6, j7, j8, j9, j10] (.int x :: st) h Q) ∧
  (∀ (L : pb_L) (J : pb_J) (st : List Value) (h : pb_H) (Q : Option Value → pb_H → Prop) (a : Nat) (i : Int32), pb_R 34 36 L J (.int i :: .ref a :: st) h Q ↔ pb_o (pb_ai (h.2 a) i) (fun v => pb_R 34 37 L J (.int v :: st) h Q)) ∧
  (∀ (L : pb_L) (J : pb_J) (st : List Value) (x : Int32) (h : pb_H) (Q : Option Value → pb_H → Prop), pb_R 34 37 L J (.int x :: st) h Q ↔ pb_R 34 38 L J (.long x.toInt64 :: st) h Q) ∧
  (∀ (L : pb_L) (J : pb_J) (st : List Value) (h : pb_H) (Q : Option Value → pb_H → Prop), pb_R 34 38 L J st h Q ↔ pb_R 34 41 L J (.long (4294967295 : Int64) :: st) h Q) ∧
  (∀ (L : pb_L) (J : pb_J) (st : List Value) (x y : Int64) (h : pb_H) (Q : Option Value → pb_H → Prop), pb_R 34 41 L J (.long y :: .long x :: st) h Q ↔ pb_R 34 42 L J (.long (x &&& y) :: st) h Q) ∧
  (∀ (L : pb_L) (J : pb_J) (st : List Value) (x y : Int64) (h : pb_H) (Q : Option Value → pb_H → Prop), pb_R 34 42 L J (.long y :: .long x :: st) h Q ↔ pb_R 34 43 L J (.long (x * y) :: st) h Q) ∧
  (∀ (L : pb_L) (J : pb_J) (st : List Value) (h : pb_H) (Q : Option Value → pb_H → Prop), pb_R 34 43 L J st h Q ↔ pb_R 34 47 L J st h Q) ∧
  (∀ (L : pb_L) (J : pb_J) (st : List Value) (h : pb_H) (Q : Option Value → pb_H → Prop), pb_R 34 46 L J st h Q ↔ pb_R 34 47 L J (.long (0 : Int64) :: st) h Q) ∧
  (∀ (L : pb_L) (J : pb_J) (st : List Value) (x y : Int64) (h : pb_H) (Q : Option Value → pb_H → Prop), pb_R 34 47 L J (.long y :: .long x :: st) h Q ↔ pb_R 34 48 L J (.long (x + y) :: st) h Q) ∧
  (∀ (l0 l1 l2 l3 l4 l5 l6 l7 l8 l9 l10 : Option Value) (j0 j1 j2 j3 j4 j5 j6 j7 j8 j9 j10 : Option Int64) (st : List Value) (h : pb_H) (Q : Option Value → pb_H → Prop) (x : Int64), pb_R 34 48 [l0, l1, l2, l3, l4, l5, l6, l7, l8, l9, l10] [j0, j1, j2, j3, j4, j5, j6, j7, j8, j9, j10] (.long x :: st) h Q ↔ pb_R 34 50 [l0, l1, l2, l3, none, none, l6, l7, l8, l9, l10] [j0, j1, j2, none, some x, none, j6, j7, j8, j9, j10] st h Q) ∧
  (∀ (l0 l1 l2 l3 l4 l5 l6 l7 l8 l9 l10 : Option Value) (j0 j1 j2 j3 j4 j5 j7 j8 j9 j10 : Option Int64) (st : List Value) (h : pb_H) (Q : Option Value → pb_H → Prop) (x : Int64), pb_R 34 50 [l0, l1, l2, l3, l4, l5, l6, l7, l8, l9, l10] [j0, j1, j2, j3, j4, j5, some x, j7, j8, j9, j10] st h Q ↔ pb_R 34 52 [l0, l1, l2, l3, l4, l5, l6, l7, l8, l9, l10] [j0, j1, j2, j3, j4, j5, some x, j7, j8, j9, j10] (.long x :: st) h Q) ∧
  (∀ (l1 l2 l3 l4 l5 l6 l7 l8 l9 l10 : Option Value) (j0 j1 j2 j3 j4 j5 j6 j7 j8 j9 j10 : Option Int64) (st : List Value) (h : pb_H) (Q : Option Value → pb_H → Prop) (x : Nat), pb_R 34 52 [some (.ref x), l1, l2, l3, l4, l5, l6, l7, l8, l9, l10] [j0, j1, j2, j3, j4, j5, j6, j7, j8, j9, j10] st h Q ↔ pb_R 34 53 [some (.ref x), l1, l2, l3, l4, l5, l6, l7, l8, l9, l10] [j0, j1, j2, j3, j4, j5, j6, j7, j8, j9, j10] (.ref x :: st) h Q) ∧
  (∀ (l1 l2 l3 l4 l5 l6 l7 l8 l9 l10 : Option Value) (j0 j1 j2 j3 j4 j5 j6 j7 j8 j9 j10 : Option Int64) (st : List Value) (h : pb_H) (Q : Option Value → pb_H → Prop), pb_R 34 52 [some .null, l1, l2, l3, l4, l5, l6, l7, l8, l9, l10] [j0, j1, j2, j3, j4, j5, j6, j7, j8, j9, j10] st h Q ↔ pb_R 34 53 [some .null, l1, l2, l3, l4, l5, l6, l7, l8, l9, l10] [j0, j1, j2, j3, j4, j5, j6, j7, j8, j9, j10] (.null :: st) h Q) ∧
  (∀ (L : pb_L) (J : pb_J) (st : List Value) (h : pb_H) (Q : Option Value → pb_H → Prop) (a : Nat), pb_R 34 53 L J (.ref a :: st) h Q ↔ pb_o (pb_gf (h.2 a) 3 1) (fun v => pb_R 34 56 L J (v :: st) h Q)) ∧
  (∀ (l0 l2 l3 l4 l5 l6 l7 l8 l9 l10 : Option Value) (j0 j1 j2 j3 j4 j5 j6 j7 j8 j9 j10 : Option Int64) (st : List Value) (h : pb_H) (Q : Option Value → pb_H → Prop) (x : Int32), pb_R 34 56 [l0, some (.int x), l2, l3, l4, l5, l6, l7, l8, l9, l10] [j0, j1, j2, j3, j4, j5, j6, j7, j8, j9, j10] st h Q ↔ pb_R 34 57 [l0, some (.int x), l2, l3, l4, l5, l6, l7, l8, l9, l10] [j0, j1, j2, j3, j4, j5, j6, j7, j8, j9, j10] (.int x :: st) h Q) ∧
  (∀ (l0 l1 l2 l3 l4 l5 l6 l7 l9 l10 : Option Value) (j0 j1 j2 j3 j4 j5 j6 j7 j8 j9 j10 : Option Int64) (st : List Value) (h : pb_H) (Q : Option Value → pb_H → Prop) (x : Int32), pb_R 34 57 [l0, l1, l2, l3, l4, l5, l6, l7, some (.int x), l9, l10] [j0, j1, j2, j3, j4, j5, j6, j7, j8, j9, j10] st h Q ↔ pb_R 34 59 [l0, l1, l2, l3, l4, l5, l6, l7, some (.int x), l9, l10] [j0, j1, j2, j3, j4, j5, j6, j7, j8, j9, j10] (.int x :: st) h Q) ∧
  (∀ (L : pb_L) (J : pb_J) (st : List Value) (x y : Int32) (h : pb_H) (Q : Option Value → pb_H → Prop), pb_R 34 59 L J (.int y :: .int x :: st) h Q ↔ pb_R 34 60 L J (.int (x + y) :: st) h Q) ∧
  (∀ (L : pb_L) (J : pb_J) (st : List Value) (h : pb_H) (Q : Option Value → pb_H → Prop) (a : Nat) (i : Int32), pb_R 34 60 L J (.int i :: .ref a :: st) h Q ↔ pb_o (pb_ai (h.2 a) i) (fun v => pb_R 34 61 L J (.int v :: st) h Q)) ∧
  (∀ (L : pb_L) (J : pb_J) (st : List Value) (x : Int32) (h : pb_H) (Q : Option Value → pb_H → Prop), pb_R 34 61 L J (.int x :: st) h Q ↔ pb_R 34 62 L J (.long x.toInt64 :: st) h Q) ∧
  (∀ (L : pb_L) (J : pb_J) (st : List Value) (h : pb_H) (Q : Option Value → pb_H → Prop), pb_R 34 62 L J st h Q ↔ pb_R 34 65 L J (.long (4294967295 : Int64) :: st) h Q) ∧
  (∀ (L : pb_L) (J : pb_J) (st : List Value) (x y : Int64) (h : pb_H) (Q : Option Value → pb_H → Prop), pb_R 34 65 L J (.long y :: .long x :: st) h Q ↔ pb_R 34 66 L J (.long (x &&& y) :: st) h Q) ∧
  (∀ (l0 l1 l2 l3 l4 l5 l6 l7 l8 l9 l10 : Option Value) (j0 j1 j2 j3 j5 j6 j7 j8 j9 j10 : Option Int64) (st : List Value) (h : pb_H) (Q : Option Value → pb_H → Prop) (x : Int64), pb_R 34 66 [l0, l1, l2, l3, l4, l5, l6, l7, l8, l9, l10] [j0, j1, j2, j3, some x, j5, j6, j7, j8, j9, j10] st h Q ↔ pb_R 34 68 [l0, l1, l2, l3, l4, l5, l6, l7, l8, l9, l10] [j0, j1, j2, j3, some x, j5, j6, j7, j8, j9, j10] (.long x :: st) h Q) ∧
  (∀ (L : pb_L) (J : pb_J) (st : List Value) (h : pb_H) (Q : Option Value → pb_H → Prop), pb_R 34 68 L J st h Q ↔ pb_R 34 71 L J (.long (4294967295 : Int64) :: st) h Q) ∧
  (∀ (L : pb_L) (J : pb_J) (st : List Value) (x y : Int64) (h : pb_H) (Q : Option Value → pb_H → Prop), pb_R 34 71 L J (.long y :: .long x :: st) h Q ↔ pb_R 34 72 L J (.long (x &&& y) :: st) h Q) ∧
  (∀ (L : pb_L) (J : pb_J) (st : List Value) (x y : Int64) (h : pb_H) (Q : Option Value → pb_H → Prop), pb_R 34 72 L J (.long y :: .long x :: st) h Q ↔ pb_R 34 73 L J (.long (x - y) :: st) h Q) ∧
  (∀ (L : pb_L) (J : pb_J) (st : List Value) (x y : Int64) (h : pb_H) (Q : Option Value → pb_H → Prop), pb_R 34 73 L J (.long y :: .long x :: st) h Q ↔ pb_R 34 74 L J (.long (x + y) :: st) h Q) ∧
  (∀ (l0 l1 l2 l3 l4 l5 l6 l7 l8 l9 l10 : Option Value) (j0 j1 j2 j3 j4 j5 j6 j7 j8 j9 j10 : Option Int64) (st : List Value) (h : pb_H) (Q : Option Value → pb_H → Prop) (x : Int64), pb_R 34 74 [l0, l1, l2, l3, l4, l5, l6, l7, l8, l9, l10] [j0, j1, j2, j3, j4, j5, j6, j7, j8, j9, j10] (.long x :: st) h Q ↔ pb_R 34 76 [l0, l1, l2, l3, l4, l5, none, none, l8, l9, l10] [j0, j1, j2, j3, j4, none, some x, none, j8, j9, j10] st h Q) ∧
  (∀ (l1 l2 l3 l4 l5 l6 l7 l8 l9 l10 : Option Value) (j0 j1 j2 j3 j4 j5 j6 j7 j8 j9 j10 : Option Int64) (st : List Value) (h : pb_H) (Q : Option Value → pb_H → Prop) (x : Nat), pb_R 34 76 [some (.ref x), l1, l2, l3, l4, l5, l6, l7, l8, l9, l10] [j0, j1, j2, j3, j4, j5, j6, j7, j8, j9, j10] st h Q ↔ pb_R 34 77 [some (.ref x), l1, l2, l3, l4, l5, l6, l7, l8, l9, l10] [j0, j1, j2, j3, j4, j5, j6, j7, j8, j9, j10] (.ref x :: st) h Q) ∧
  (∀ (l1 l2 l3 l4 l5 l6 l7 l8 l9 l10 : Option Value) (j0 j1 j2 j3 j4 j5 j6 j7 j8 j9 j10 : Option Int64) (st : List Value) (h : pb_H) (Q : Option Value → pb_H → Prop), pb_R 34 76 [some .null, l1, l2, l3, l4, l5, l6, l7, l8, l9, l10] [j0, j1, j2, j3, j4, j5, j6, j7, j8, j9, j10] st h Q ↔ pb_R 34 77 [some .null, l1, l2, l3, l4, l5, l6, l7, l8, l9, l10] [j0, j1, j2, j3, j4, j5, j6, j7, j8, j9, j10] (.null :: st) h Q) ∧
  (∀ (L : pb_L) (J : pb_J) (st : List Value) (h : pb_H) (Q : Option Value → pb_H → Prop) (a : Nat), pb_R 34 77 L J (.ref a :: st) h Q ↔ pb_o (pb_gf (h.2 a) 3 1) (fun v => pb_R 34 80 L J (v :: st) h Q)) ∧
  (∀ (l0 l2 l3 l4 l5 l6 l7 l8 l9 l10 : Option Value) (j0 j1 j2 j3 j4 j5 j6 j7 j8 j9 j10 : Option Int64) (st : List Value) (h : pb_H) (Q : Option Value → pb_H → Prop) (x : Int32), pb_R 34 80 [l0, some (.int x), l2, l3, l4, l5, l6, l7, l8, l9, l10] [j0, j1, j2, j3, j4, j5, j6, j7, j8, j9, j10] st h Q ↔ pb_R 34 81 [l0, some (.int x), l2, l3, l4, l5, l6, l7, l8, l9, l10] [j0, j1, j2, j3, j4, j5, j6, j7, j8, j9, j10] (.int x :: st) h Q) ∧
  (∀ (l0 l1 l2 l3 l4 l5 l6 l7 l9 l10 : Option Value) (j0 j1 j2 j3 j4 j5 j6 j7 j8 j9 j10 : Option Int64) (st : List Value) (h : pb_H) (Q : Option Value → pb_H → Prop) (x : Int32), pb_R 34 81 [l0, l1, l2, l3, l4, l5, l6, l7, some (.int x), l9, l10] [j0, j1, j2, j3, j4, j5, j6, j7, j8, j9, j10] st h Q ↔ pb_R 34 83 [l0, l1, l2, l3, l4, l5, l6, l7, some (.int x), l9, l10] [j0, j1, j2, j3, j4, j5, j6, j7, j8, j9, j10] (.int x :: st) h Q) ∧
  (∀ (L : pb_L) (J : pb_J) (st : List Value) (x y : Int32) (h : pb_H) (Q : Option Value → pb_H → Prop), pb_R 34 83 L J (.int y :: .int x :: st) h Q ↔ pb_R 34 84 L J (.int (x + y) :: st) h Q) ∧
  (∀ (l0 l1 l2 l3 l4 l5 l6 l7 l8 l9 l10 : Option Value) (j0 j1 j2 j3 j4 j5 j7 j8 j9 j10 : Option Int64) (st : List Value) (h : pb_H) (Q : Option Value → pb_H → Prop) (x : Int64), pb_R 34 84 [l0, l1, l2, l3, l4, l5, l6, l7, l8, l9, l10] [j0, j1, j2, j3, j4, j5, some x, j7, j8, j9, j10] st h Q ↔ pb_R 34 86 [l0, l1, l2, l3, l4, l5, l6, l7, l8, l9, l10] [j0, j1, j2, j3, j4, j5, some x, j7, j8, j9, j10] (.long x :: st) h Q) ∧
  (∀ (L : pb_L) (J : pb_J) (st : List Value) (x : Int64) (h : pb_H) (Q : Option Value → pb_H → Prop), pb_R 34 86 L J (.long x :: st) h Q ↔ pb_R 34 87 L J (.int x.toInt32 :: st) h Q) ∧
  (∀ (L : pb_L) (J : pb_J) (st : List Value) (h : pb_H) (Q : Option Value → pb_H → Prop) (a : Nat) (i x : Int32), pb_R 34 87 L J (.int x :: .int i :: .ref a :: st) h Q ↔ pb_o (pb_si (h.2 a) i x) (fun c => pb_R 34 88 L J st (pb_set h a c) Q)) ∧
  (∀ (l0 l1 l2 l3 l4 l5 l6 l7 l8 l9 l10 : Option Value) (j0 j1 j2 j3 j5 j6 j7 j8 j9 j10 : Option Int64) (st : List Value) (h : pb_H) (Q : Option Value → pb_H → Prop) (x : Int64), pb_R 34 88 [l0, l1, l2, l3, l4, l5, l6, l7, l8, l9, l10] [j0, j1, j2, j3, some x, j5, j6, j7, j8, j9, j10] st h Q ↔ pb_R 34 90 [l0, l1, l2, l3, l4, l5, l6, l7, l8, l9, l10] [j0, j1, j2, j3, some x, j5, j6, j7, j8, j9, j10] (.long x :: st) h Q) ∧
  (∀ (L : pb_L) (J : pb_J) (st : List Value) (h : pb_H) (Q : Option Value → pb_H → Prop), pb_R 34 90 L J st h Q ↔ pb_R 34 92 L J (.int (32 : Int32) :: st) h Q) ∧
  (∀ (L : pb_L) (J : pb_J) (st : List Value) (x : Int64) (y : Int32) (h : pb_H) (Q : Option Value → pb_H → Prop), pb_R 34 92 L J (.int y :: .long x :: st) h Q ↔ pb_R 34 93 L J (.long (x.toUInt64 >>> (y.toInt64.toUInt64 &&& Int64.toUInt64 63)).toInt64 :: st) h Q) ∧
  (∀ (l0 l1 l2 l3 l4 l5 l6 l7 l8 l9 l10 : Option Value) (j0 j1 j2 j3 j4 j5 j6 j7 j8 j9 j10 : Option Int64) (st : List Value) (h : pb_H) (Q : Option Value → pb_H → Prop) (x : Int64), pb_R 34 93 [l0, l1, l2, l3, l4, l5, l6, l7, l8, l9, l10] [j0, j1, j2, j3, j4, j5, j6, j7, j8, j9, j10] (.long x :: st) h Q ↔ pb_R 34 95 [l0, l1, l2, l3, none, none, l6, l7, l8, l9, l10] [j0, j1, j2, none, some x, none, j6, j7, j8, j9, j10] st h Q) ∧
  (∀ (l0 l1 l2 l3 l4 l5 l6 l7 l8 l9 l10 : Option Value) (j0 j1 j2 j3 j4 j5 j7 j8 j9 j10 : Option Int64) (st : List Value) (h : pb_H) (Q : Option Value → pb_H → Prop) (x : Int64), pb_R 34 95 [l0, l1, l2, l3, l4, l5, l6, l7, l8, l9, l10] [j0, j1, j2, j3, j4, j5, some x, j7, j8, j9, j10] st h Q ↔ pb_R 34 97 [l0, l1, l2, l3, l4, l5, l6, l7, l8, l9, l10] [j0, j1, j2, j3, j4, j5, some x, j7, j8, j9, j10] (.long x :: st) h Q) ∧
  (∀ (L : pb_L) (J : pb_J) (st : List Value) (h : pb_H) (Q : Option Value → pb_H → Prop), pb_R 34 97 L J st h Q ↔ pb_R 34 99 L J (.int (32 : Int32) :: st) h Q) ∧
  (∀ (L : pb_L) (J : pb_J) (st : List Value) (x : Int64) (y : Int32) (h : pb_H) (Q : Option Value → pb_H → Prop), pb_R 34 99 L J (.int y :: .long x :: st) h Q ↔ pb_R 34 100 L J (.long (x >>> (y.toInt64 &&& 63)) :: st) h Q) ∧
  (∀ (l0 l1 l2 l3 l4 l5 l6 l7 l8 l9 l10 : Option Value) (j0 j1 j2 j3 j4 j5 j6 j7 j8 j9 j10 : Option Int64) (st : List Value) (h : pb_H) (Q : Option Value → pb_H → Prop) (x : Int64), pb_R 34 100 [l0, l1, l2, l3, l4, l5, l6, l7, l8, l9, l10] [j0, j1, j2, j3, j4, j5, j6, j7, j8, j9, j10] (.long x :: st) h Q ↔ pb_R 34 102 [l0, l1, l2, l3, l4, l5, none, none, l8, l9, l10] [j0, j1, j2, j3, j4, none, some x, none, j8, j9, j10] st h Q) ∧
  (∀ (l0 l1 l2 l3 l4 l5 l6 l7 l9 l10 : Option Value) (j0 j1 j2 j3 j4 j5 j6 j7 j8 j9 j10 : Option Int64) (st : List Value) (h : pb_H) (Q : Option Value → pb_H → Prop) (x : Int32), pb_R 34 102 [l0, l1, l2, l3, l4, l5, l6, l7, some (.int x), l9, l10] [j0, j1, j2, j3, j4, j5, j6, j7, j8, j9, j10] st h Q ↔ pb_R 34 105 [l0, l1, l2, l3, l4, l5, l6, l7, some (.int (x + (1 : Int32))), l9, l10] [j0, j1, j2, j3, j4, j5, j6, none, none, j9, j10] st h Q) ∧
  (∀ (L : pb_L) (J : pb_J) (st : List Value) (h : pb_H) (Q : Option Value → pb_H → Prop), pb_R 34 105 L J st h Q ↔ pb_R 34 9 L J st h Q) ∧
  (∀ (l0 l1 l2 l3 l4 l5 l6 l7 l8 l9 l10 : Option Value) (j0 j1 j2 j3 j4 j5 j7 j8 j9 j10 : Option Int64) (st : List Value) (h : pb_H) (Q : Option Value → pb_H → Prop) (x : Int64), pb_R 34 108 [l0, l1, l2, l3, l4, l5, l6, l7, l8, l9, l10] [j0, j1, j2, j3, j4, j5, some x, j7, j8, j9, j10] st h Q ↔ pb_R 34 110 [l0, l1, l2, l3, l4, l5, l6, l7, l8, l9, l10] [j0, j1, j2, j3, j4, j5, some x, j7, j8, j9, j10] (.long x :: st) h Q) ∧
  (∀ (L : pb_L) (J : pb_J) (st : List Value) (h : pb_H) (Q : Option Value → pb_H → Prop), pb_R 34 110 L J st h Q ↔ pb_R 34 111 L J (.long (0 : Int64) :: st) h Q) ∧
  (∀ (L : pb_L) (J : pb_J) (st : List Value) (x y : Int64) (h : pb_H) (Q : Option Value → pb_H → Prop), pb_R 34 111 L J (.long y :: .long x :: st) h Q ↔ pb_R 34 112 L J (.int (lg_cmp x y) :: st) h Q) ∧
  (∀ (L : pb_L) (J : pb_J) (st : List Value) (h : pb_H) (Q : Option Value → pb_H → Prop) (x : Int32), pb_R 34 112 L J (.int x :: st) h Q ↔ if x < 0 then pb_R 34 118 L J st h Q else pb_R 34 115 L J st h Q) ∧
  (∀ (l0 l1 l2 l3 l4 l5 l6 l7 l8 l9 l10 : Option Value) (j0 j1 j3 j4 j5 j6 j7 j8 j9 j10 : Option Int64) (st : List Value) (h : pb_H) (Q : Option Value → pb_H → Prop) (x : Int64), pb_R 34 115 [l0, l1, l2, l3, l4, l5, l6, l7, l8, l9, l10] [j0, j1, some x, j3, j4, j5, j6, j7, j8, j9, j10] st h Q ↔ pb_R 34 116 [l0, l1, l2, l3, l4, l5, l6, l7, l8, l9, l10] [j0, j1, some x, j3, j4, j5, j6, j7, j8, j9, j10] (.long x :: st) h Q) ∧
  (∀ (L : pb_L) (J : pb_J) (st : List Value) (x : Int64) (h : pb_H) (Q : Option Value → pb_H → Prop), pb_R 34 116 L J (.long x :: st) h Q ↔ pb_R 34 117 L J (.int x.toInt32 :: st) h Q) ∧
  (∀ (L : pb_L) (J : pb_J) (h : pb_H) (Q : Option Value → pb_H → Prop) (x : Int32), pb_R 34 117 L J [.int x] h Q ↔ Q (some (.int x)) h) ∧
  (∀ (L : pb_L) (J : pb_J) (st : List Value) (h : pb_H) (Q : Option Value → pb_H → Prop), pb_R 34 118 L J st h Q ↔ pb_R 34 119 L J (.long (0 : Int64) :: st) h Q) ∧
  (∀ (l0 l1 l2 l3 l4 l5 l6 l7 l8 l9 l10 : Option Value) (j0 j1 j2 j3 j4 j5 j6 j7 j8 j9 j10 : Option Int64) (st : List Value) (h : pb_H) (Q : Option Value → pb_H → Prop) (x : Int64), pb_R 34 119 [l0, l1, l2, l3, l4, l5, l6, l7, l8, l9, l10] [j0, j1, j2, j3, j4, j5, j6, j7, j8, j9, j10] (.long x :: st) h Q ↔ pb_R 34 121 [l0, l1, l2, l3, l4, l5, l6, l7, none, none, l10] [j0, j1, j2, j3, j4, j5, j6, none, some x, none, j10] st h Q) ∧
  (∀ (L : pb_L) (J : pb_J) (st : List Value) (h : pb_H) (Q : Option Value → pb_H → Prop), pb_R 34 121 L J st h Q ↔ pb_R 34 122 L J (.int (0 : Int32) :: st) h Q) ∧
  (∀ (l0 l1 l2 l3 l4 l5 l6 l7 l8 l9 l10 : Option Value) (j0 j1 j2 j3 j4 j5 j6 j7 j8 j9 j10 : Option Int64) (st : List Value) (h : pb_H) (Q : Option Value → pb_H → Prop) (x : Int32), pb_R 34 122 [l0, l1, l2, l3, l4, l5, l6, l7, l8, l9, l10] [j0, j1, j2, j3, j4, j5, j6, j7, j8, j9, j10] (.int x :: st) h Q ↔ pb_R 34 124 [l0, l1, l2, l3, l4, l5, l6, l7, l8, l9, some (.int x)] [j0, j1, j2, j3, j4, j5, j6, j7, j8, none, none] st h Q) ∧
  (∀ (l1 l2 l3 l4 l5 l6 l7 l8 l9 l10 : Option Value) (j0 j1 j2 j3 j4 j5 j6 j7 j8 j9 j10 : Option Int64) (st : List Value) (h : pb_H) (Q : Option Value → pb_H → Prop) (x : Nat), pb_R 34 126 [some (.ref x), l1, l2, l3, l4, l5, l6, l7, l8, l9, l10] [j0, j1, j2, j3, j4, j5, j6, j7, j8, j9, j10] st h Q ↔ pb_R 34 127 [some (.ref x), l1, l2, l3, l4, l5, l6, l7, l8, l9, l10] [j0, j1, j2, j3, j4, j5, j6, j7, j8, j9, j10] (.ref x :: st) h Q) ∧
  (∀ (l1 l2 l3 l4 l5 l6 l7 l8 l9 l10 : Option Value) (j0 j1 j2 j3 j4 j5 j6 j7 j8 j9 j10 : Option Int64) (st : List Value) (h : pb_H) (Q : Option Value → pb_H → Prop), pb_R 34 126 [some .null, l1, l2, l3, l4, l5, l6, l7, l8, l9, l10] [j0, j1, j2, j3, j4, j5, j6, j7, j8, j9, j10] st h Q ↔ pb_R 34 127 [some .null, l1, l2, l3, l4, l5, l6, l7, l8, l9, l10] [j0, j1, j2, j3, j4, j5, j6, j7, j8, j9, j10] (.null :: st) h Q) ∧
  (∀ (L : pb_L) (J : pb_J) (st : List Value) (h : pb_H) (Q : Option Value → pb_H → Prop) (a : Nat), pb_R 34 127 L J (.ref a :: st) h Q ↔ pb_o (pb_gf (h.2 a) 3 3) (fun v => pb_R 34 130 L J (v :: st) h Q)) ∧
  (∀ (L : pb_L) (J : pb_J) (st : List Value) (h : pb_H) (Q : Option Value → pb_H → Prop) (x y : Int32), pb_R 34 130 L J (.int y :: .int x :: st) h Q ↔ if y < x then pb_R 34 203 L J st h Q else pb_R 34 133 L J st h Q) ∧
  (∀ (l0 l1 l2 l3 l4 l5 l6 l7 l8 l9 l10 : Option Value) (j0 j1 j2 j3 j4 j5 j6 j7 j9 j10 : Option Int64) (st : List Value) (h : pb_H) (Q : Option Value → pb_H → Prop) (x : Int64), pb_R 34 133 [l0, l1, l2, l3, l4, l5, l6, l7, l8, l9, l10] [j0, j1, j2, j3, j4, j5, j6, j7, some x, j9, j10] st h Q ↔ pb_R 34 135 [l0, l1, l2, l3, l4, l5, l6, l7, l8, l9, l10] [j0, j1, j2, j3, j4, j5, j6, j7, some x, j9, j10] (.long x :: st) h Q) ∧
  (∀ (l1 l2 l3 l4 l5 l6 l7 l8 l9 l10 : Option Value) (j0 j1 j2 j3 j4 j5 j6 j7 j8 j9 j10 : Option Int64) (st : List Value) (h : pb_H) (Q : Option Value → pb_H → Prop) (x : Nat), pb_R 34 135 [some (.ref x), l1, l2, l3, l4, l5, l6, l7, l8, l9, l10] [j0, j1, j2, j3, j4, j5, j6, j7, j8, j9, j10] st h Q ↔ pb_R 34 136 [some (.ref x), l1, l2, l3, l4, l5, l6, l7, l8, l9, l10] [j0, j1, j2, j3, j4, j5, j6, j7, j8, j9, j10] (.ref x :: st) h Q) ∧
  (∀ (l1 l2 l3 l4 l5 l6 l7 l8 l9 l10 : Option Value) (j0 j1 j2 j3 j4 j5 j6 j7 j8 j9 j10 : Option Int64) (st : List Value) (h : pb_H) (Q : Option Value → pb_H → Prop), pb_R 34 135 [some .null, l1, l2, l3, l4, l5, l6, l7, l8, l9, l10] [j0, j1, j2, j3, j4, j5, j6, j7, j8, j9, j10] st h Q ↔ pb_R 34 136 [some .null, l1, l2, l3, l4, l5, l6, l7, l8, l9, l10] [j0, j1, j2, j3, j4, j5, j6, j7, j8, j9, j10] (.null :: st) h Q) ∧
  (∀ (L : pb_L) (J : pb_J) (st : List Value) (h : pb_H) (Q : Option Value → pb_H → Prop) (a : Nat), pb_R 34 136 L J (.ref a :: st) h Q ↔ pb_o (pb_gf (h.2 a) 3 1) (fun v => pb_R 34 139 L J (v :: st) h Q)) ∧
  (∀ (l0 l2 l3 l4 l5 l6 l7 l8 l9 l10 : Option Value) (j0 j1 j2 j3 j4 j5 j6 j7 j8 j9 j10 : Option Int64) (st : List Value) (h : pb_H) (Q : Option Value → pb_H → Prop) (x : Int32), pb_R 34 139 [l0, some (.int x), l2, l3, l4, l5, l6, l7, l8, l9, l10] [j0, j1, j2, j3, j4, j5, j6, j7, j8, j9, j10] st h Q ↔ pb_R 34 140 [l0, some (.int x), l2, l3, l4, l5, l6, l7, l8, l9, l10] [j0, j1, j2, j3, j4, j5, j6, j7, j8, j9, j10] (.int x :: st) h Q) ∧
  (∀ (l0 l1 l2 l3 l4 l5 l6 l7 l8 l9 : Option Value) (j0 j1 j2 j3 j4 j5 j6 j7 j8 j9 j10 : Option Int64) (st : List Value) (h : pb_H) (Q : Option Value → pb_H → Prop) (x : Int32), pb_R 34 140 [l0, l1, l2, l3, l4, l5, l6, l7, l8, l9, some (.int x)] [j0, j1, j2, j3, j4, j5, j6, j7, j8, j9, j10] st h Q ↔ pb_R 34 142 [l0, l1, l2, l3, l4, l5, l6, l7, l8, l9, some (.int x)] [j0, j1, j2, j3, j4, j5, j6, j7, j8, j9, j10] (.int x :: st) h Q) ∧
  (∀ (L : pb_L) (J : pb_J) (st : List Value) (x y : Int32) (h : pb_H) (Q : Option Value → pb_H → Prop), pb_R 34 142 L J (.int y :: .int x :: st) h Q ↔ pb_R 34 143 L J (.int (x + y) :: st) h Q) ∧
  (∀ (L : pb_L) (J : pb_J) (st : List Value) (h : pb_H) (Q : Option Value → pb_H → Prop) (a : Nat) (i : Int32), pb_R 34 143 L J (.int i :: .ref a :: st) h Q ↔ pb_o (pb_ai (h.2 a) i) (fun v => pb_R 34 144 L J (.int v :: st) h Q)) ∧
  (∀ (L : pb_L) (J : pb_J) (st : List Value) (x : Int32) (h : pb_H) (Q : Option Value → pb_H → Prop), pb_R 34 144 L J (.int x :: st) h Q ↔ pb_R 34 145 L J (.long x.toInt64 :: st) h Q) ∧
  (∀ (L : pb_L) (J : pb_J) (st : List Value) (h : pb_H) (Q : Option Value → pb_H → Prop), pb_R 34 145 L J st h Q ↔ pb_R 34 148 L J (.long (4294967295 : Int64) :: st) h Q) ∧
  (∀ (L : pb_L) (J : pb_J) (st : List Value) (x y : Int64) (h : pb_H) (Q : Option Value → pb_H → Prop), pb_R 34 148 L J (.long y :: .long x :: st) h Q ↔ pb_R 34 149 L J (.long (x &&& y) :: st) h Q) ∧
  (∀ (l0 l1 l2 l3 l4 l5 l6 l7 l8 l9 : Option Value) (j0 j1 j2 j3 j4 j5 j6 j7 j8 j9 j10 : Option Int64) (st : List Value) (h : pb_H) (Q : Option Value → pb_H → Prop) (x : Int32), pb_R 34 149 [l0, l1, l2, l3, l4, l5, l6, l7, l8, l9, some (.int x)] [j0, j1, j2, j3, j4, j5, j6, j7, j8, j9, j10] st h Q ↔ pb_R 34 151 [l0, l1, l2, l3, l4, l5, l6, l7, l8, l9, some (.int x)] [j0, j1, j2, j3, j4, j5, j6, j7, j8, j9, j10] (.int x :: st) h Q) ∧
  (∀ (l1 l2 l3 l4 l5 l6 l7 l8 l9 l10 : Option Value) (j0 j1 j2 j3 j4 j5 j6 j7 j8 j9 j10 : Option Int64) (st : List Value) (h : pb_H) (Q : Option Value → pb_H → Prop) (x : Nat), pb_R 34 151 [some (.ref x), l1, l2, l3, l4, l5, l6, l7, l8, l9, l10] [j0, j1, j2, j3, j4, j5, j6, j7, j8, j9, j10] st h Q ↔ pb_R 34 152 [some (.ref x), l1, l2, l3, l4, l5, l6, l7, l8, l9, l10] [j0, j1, j2, j3, j4, j5, j6, j7, j8, j9, j10] (.ref x :: st) h Q) ∧
  (∀ (l1 l2 l3 l4 l5 l6 l7 l8 l9 l10 : Option Value) (j0 j1 j2 j3 j4 j5 j6 j7 j8 j9 j10 : Option Int64) (st : List Value) (h : pb_H) (Q : Option Value → pb_H → Prop), pb_R 34 151 [some .null, l1, l2, l3, l4, l5, l6, l7, l8, l9, l10] [j0, j1, j2, j3, j4, j5, j6, j7, j8, j9, j10] st h Q ↔ pb_R 34 152 [some .null, l1, l2, l3, l4, l5, l6, l7, l8, l9, l10] [j0, j1, j2, j3, j4, j5, j6, j7, j8, j9, j10] (.null :: st) h Q) ∧
  (∀ (L : pb_L) (J : pb_J) (st : List Value) (h : pb_H) (Q : Option Value → pb_H → Prop) (a : Nat), pb_R 34 152 L J (.ref a :: st) h Q ↔ pb_o (pb_gf (h.2 a) 3 3) (fun v => pb_R 34 155 L J (v :: st) h Q)) ∧
  (∀ (L : pb_L) (J : pb_J) (st : List Value) (h : pb_H) (Q : Option Value → pb_H → Prop) (x y : Int32), pb_R 34 155 L J (.int y :: .int x :: st) h Q ↔ if y ≤ x then pb_R 34 173 L J st h Q else pb_R 34 158 L J st h Q) ∧
  (∀ (l1 l2 l3 l4 l5 l6 l7 l8 l9 l10 : Option Value) (j0 j1 j2 j3 j4 j5 j6 j7 j8 j9 j10 : Option Int64) (st : List Value) (h : pb_H) (Q : Option Value → pb_H → Prop) (x : Nat), pb_R 34 158 [some (.ref x), l1, l2, l3, l4, l5, l6, l7, l8, l9, l10] [j0, j1, j2, j3, j4, j5, j6, j7, j8, j9, j10] st h Q ↔ pb_R 34 159 [some (.ref x), l1, l2, l3, l4, l5, l6, l7, l8, l9, l10] [j0, j1, j2, j3, j4, j5, j6, j7, j8, j9, j10] (.ref x :: st) h Q) ∧
  (∀ (l1 l2 l3 l4 l5 l6 l7 l8 l9 l10 : Option Value) (j0 j1 j2 j3 j4 j5 j6 j7 j8 j9 j10 : Option Int64) (st : List Value) (h : pb_H) (Q : Option Value → pb_H → Prop), pb_R 34 158 [some .null, l1, l2, l3, l4, l5, l6, l7, l8, l9, l10] [j0, j1, j2, j3, j4, j5, j6, j7, j8, j9, j10] st h Q ↔ pb_R 34 159 [some .null, l1, l2, l3, l4, l5, l6, l7, l8, l9, l10] [j0, j1, j2, j3, j4, j5, j6, j7, j8, j9, j10] (.null :: st) h Q) ∧
  (∀ (L : pb_L) (J : pb_J) (st : List Value) (h : pb_H) (Q : Option Value → pb_H → Prop) (a : Nat), pb_R 34 159 L J (.ref a :: st) h Q ↔ pb_o (pb_gf (h.2 a) 3 0) (fun v => pb_R 34 162 L J (v :: st) h Q)) ∧
  (∀ (l0 l1 l2 l3 l4 l5 l6 l7 l8 l9 : Option Value) (j0 j1 j2 j3 j4 j5 j6 j7 j8 j9 j10 : Option Int64) (st : List Value) (h : pb_H) (Q : Option Value → pb_H → Prop) (x : Int32), pb_R 34 162 [l0, l1, l2, l3, l4, l5, l6, l7, l8, l9, some (.int x)] [j0, j1, j2, j3, j4, j5, j6, j7, j8, j9, j10] st h Q ↔ pb_R 34 164 [l0, l1, l2, l3, l4, l5, l6, l7, l8, l9, some (.int x)] [j0, j1, j2, j3, j4, j5, j6, j7, j8, j9, j10] (.int x :: st) h Q) ∧
  (∀ (L : pb_L) (J : pb_J) (st : List Value) (h : pb_H) (Q : Option Value → pb_H → Prop) (a : Nat) (i : Int32), pb_R 34 164 L J (.int i :: .ref a :: st) h Q ↔ pb_o (pb_ai (h.2 a) i) (fun v => pb_R 34 165 L J (.int v :: st) h Q)) ∧
  (∀ (L : pb_L) (J : pb_J) (st : List Value) (x : Int32) (h : pb_H) (Q : Option Value → pb_H → Prop), pb_R 34 165 L J (.int x :: st) h Q ↔ pb_R 34 166 L J (.long x.toInt64 :: st) h Q) ∧
  (∀ (L : pb_L) (J : pb_J) (st : List Value) (h : pb_H) (Q : Option Value → pb_H → Prop), pb_R 34 166 L J st h Q ↔ pb_R 34 169 L J (.long (4294967295 : Int64) :: st) h Q) ∧
  (∀ (L : pb_L) (J : pb_J) (st : List Value) (x y : Int64) (h : pb_H) (Q : Option Value → pb_H → Prop), pb_R 34 169 L J (.long y :: .long x :: st) h Q ↔ pb_R 34 170 L J (.long (x &&& y) :: st) h Q) ∧
  (∀ (L : pb_L) (J : pb_J) (st : List Value) (h : pb_H) (Q : Option Value → pb_H → Prop), pb_R 34 170 L J st h Q ↔ pb_R 34 174 L J st h Q) ∧
  (∀ (L : pb_L) (J : pb_J) (st : List Value) (h : pb_H) (Q : Option Value → pb_H → Prop), pb_R 34 173 L J st h Q ↔ pb_R 34 174 L J (.long (0 : Int64) :: st) h Q) ∧
  (∀ (L : pb_L) (J : pb_J) (st : List Value) (x y : Int64) (h : pb_H) (Q : Option Value → pb_H → Prop), pb_R 34 174 L J (.long y :: .long x :: st) h Q ↔ pb_R 34 175 L J (.long (x + y) :: st) h Q) ∧
  (∀ (L : pb_L) (J : pb_J) (st : List Value) (x y : Int64) (h : pb_H) (Q : Option Value → pb_H → Prop), pb_R 34 175 L J (.long y :: .long x :: st) h Q ↔ pb_R 34 176 L J (.long (x + y) :: st) h Q) ∧
  (∀ (l0 l1 l2 l3 l4 l5 l6 l7 l8 l9 l10 : Option Value) (j0 j1 j2 j3 j4 j5 j6 j7 j8 j9 j10 : Option Int64) (st : List Value) (h : pb_H) (Q : Option Value → pb_H → Prop) (x : Int64), pb_R 34 176 [l0, l1, l2, l3, l4, l5, l6, l7, l8, l9, l10] [j0, j1, j2, j3, j4, j5, j6, j7, j8, j9, j10] (.long x :: st) h Q ↔ pb_R 34 178 [l0, l1, l2, l3, l4, l5, l6, l7, none, none, l10] [j0, j1, j2, j3, j4, j5, j6, none, some x, none, j10] st h Q) ∧
  (∀ (l1 l2 l3 l4 l5 l6 l7 l8 l9 l10 : Option Value) (j0 j1 j2 j3 j4 j5 j6 j7 j8 j9 j10 : Option Int64) (st : List Value) (h : pb_H) (Q : Option Value → pb_H → Prop) (x : Nat), pb_R 34 178 [some (.ref x), l1, l2, l3, l4, l5, l6, l7, l8, l9, l10] [j0, j1, j2, j3, j4, j5, j6, j7, j8, j9, j10] st h Q ↔ pb_R 34 179 [some (.ref x), l1, l2, l3, l4, l5, l6, l7, l8, l9, l10] [j0, j1, j2, j3, j4, j5, j6, j7, j8, j9, j10] (.ref x :: st) h Q) ∧
  (∀ (l1 l2 l3 l4 l5 l6 l7 l8 l9 l10 : Option Value) (j0 j1 j2 j3 j4 j5 j6 j7 j8 j9 j10 : Option Int64) (st : List Value) (h : pb_H) (Q : Option Value → pb_H → Prop), pb_R 34 178 [some .null, l1, l2, l3, l4, l5, l6, l7, l8, l9, l10] [j0, j1, j2, j3, j4, j5, j6, j7, j8, j9, j10] st h Q ↔ pb_R 34 179 [some .null, l1, l2, l3, l4, l5, l6, l7, l8, l9, l10] [j0, j1, j2, j3, j4, j5, j6, j7, j8, j9, j10] (.null :: st) h Q) ∧
  (∀ (L : pb_L) (J : pb_J) (st : List Value) (h : pb_H) (Q : Option Value → pb_H → Prop) (a : Nat), pb_R 34 179 L J (.ref a :: st) h Q ↔ pb_o (pb_gf (h.2 a) 3 1) (fun v => pb_R 34 182 L J (v :: st) h Q)) ∧
  (∀ (l0 l2 l3 l4 l5 l6 l7 l8 l9 l10 : Option Value) (j0 j1 j2 j3 j4 j5 j6 j7 j8 j9 j10 : Option Int64) (st : List Value) (h : pb_H) (Q : Option Value → pb_H → Prop) (x : Int32), pb_R 34 182 [l0, some (.int x), l2, l3, l4, l5, l6, l7, l8, l9, l10] [j0, j1, j2, j3, j4, j5, j6, j7, j8, j9, j10] st h Q ↔ pb_R 34 183 [l0, some (.int x), l2, l3, l4, l5, l6, l7, l8, l9, l10] [j0, j1, j2, j3, j4, j5, j6, j7, j8, j9, j10] (.int x :: st) h Q) ∧
  (∀ (l0 l1 l2 l3 l4 l5 l6 l7 l8 l9 : Option Value) (j0 j1 j2 j3 j4 j5 j6 j7 j8 j9 j10 : Option Int64) (st : List Value) (h : pb_H) (Q : Option Value → pb_H → Prop) (x : Int32), pb_R 34 183 [l0, l1, l2, l3, l4, l5, l6, l7, l8, l9, some (.int x)] [j0, j1, j2, j3, j4, j5, j6, j7, j8, j9, j10] st h Q ↔ pb_R 34 185 [l0, l1, l2, l3, l4, l5, l6, l7, l8, l9, some (.int x)] [j0, j1, j2, j3, j4, j5, j6, j7, j8, j9, j10] (.int x :: st) h Q) ∧
  (∀ (L : pb_L) (J : pb_J) (st : List Value) (x y : Int32) (h : pb_H) (Q : Option Value → pb_H → Prop), pb_R 34 185 L J (.int y :: .int x :: st) h Q ↔ pb_R 34 186 L J (.int (x + y) :: st) h Q) ∧
  (∀ (l0 l1 l2 l3 l4 l5 l6 l7 l8 l9 l10 : Option Value) (j0 j1 j2 j3 j4 j5 j6 j7 j9 j10 : Option Int64) (st : List Value) (h : pb_H) (Q : Option Value → pb_H → Prop) (x : Int64), pb_R 34 186 [l0, l1, l2, l3, l4, l5, l6, l7, l8, l9, l10] [j0, j1, j2, j3, j4, j5, j6, j7, some x, j9, j10] st h Q ↔ pb_R 34 188 [l0, l1, l2, l3, l4, l5, l6, l7, l8, l9, l10] [j0, j1, j2, j3, j4, j5, j6, j7, some x, j9, j10] (.long x :: st) h Q) ∧
  (∀ (L : pb_L) (J : pb_J) (st : List Value) (x : Int64) (h : pb_H) (Q : Option Value → pb_H → Prop), pb_R 34 188 L J (.long x :: st) h Q ↔ pb_R 34 189 L J (.int x.toInt32 :: st) h Q) ∧
  (∀ (L : pb_L) (J : pb_J) (st : List Value) (h : pb_H) (Q : Option Value → pb_H → Prop) (a : Nat) (i x : Int32), pb_R 34 189 L J (.int x :: .int i :: .ref a :: st) h Q ↔ pb_o (pb_si (h.2 a) i x) (fun c => pb_R 34 190 L J st (pb_set h a c) Q)) ∧
  (∀ (l0 l1 l2 l3 l4 l5 l6 l7 l8 l9 l10 : Option Value) (j0 j1 j2 j3 j4 j5 j6 j7 j9 j10 : Option Int64) (st : List Value) (h : pb_H) (Q : Option Value → pb_H → Prop) (x : Int64), pb_R 34 190 [l0, l1, l2, l3, l4, l5, l6, l7, l8, l9, l10] [j0, j1, j2, j3, j4, j5, j6, j7, some x, j9, j10] st h Q ↔ pb_R 34 192 [l0, l1, l2, l3, l4, l5, l6, l7, l8, l9, l10] [j0, j1, j2, j3, j4, j5, j6, j7, some x, j9, j10] (.long x :: st) h Q) ∧
  (∀ (L : pb_L) (J : pb_J) (st : List Value) (h : pb_H) (Q : Option Value → pb_H → Prop), pb_R 34 192 L J st h Q ↔ pb_R 34 194 L J (.int (32 : Int32) :: st) h Q) ∧
  (∀ (L : pb_L) (J : pb_J) (st : List Value) (x : Int64) (y : Int32) (h : pb_H) (Q : Option Value → pb_H → Prop), pb_R 34 194 L J (.int y :: .long x :: st) h Q ↔ pb_R 34 195 L J (.long (x.toUInt64 >>> (y.toInt64.toUInt64 &&& Int64.toUInt64 63)).toInt64 :: st) h Q) ∧
  (∀ (l0 l1 l2 l3 l4 l5 l6 l7 l8 l9 l10 : Option Value) (j0 j1 j2 j3 j4 j5 j6 j7 j8 j9 j10 : Option Int64) (st : List Value) (h : pb_H) (Q : Option Value → pb_H → Prop) (x : Int64), pb_R 34 195 [l0, l1, l2, l3, l4, l5, l6, l7, l8, l9, l10] [j0, j1, j2, j3, j4, j5, j6, j7, j8, j9, j10] (.long x :: st) h Q ↔ pb_R 34 197 [l0, l1, l2, l3, l4, l5, l6, l7, none, none, l10] [j0, j1, j2, j3, j4, j5, j6, none, some x, none, j10] st h Q) ∧
  (∀ (l0 l1 l2 l3 l4 l5 l6 l7 l8 l9 : Option Value) (j0 j1 j2 j3 j4 j5 j6 j7 j8 j9 j10 : Option Int64) (st : List Value) (h : pb_H) (Q : Option Value → pb_H → Prop) (x : Int32), pb_R 34 197 [l0, l1, l2, l3, l4, l5, l6, l7, l8, l9, some (.int x)] [j0, j1, j2, j3, j4, j5, j6, j7, j8, j9, j10] st h Q ↔ pb_R 34 200 [l0, l1, l2, l3, l4, l5, l6, l7, l8, l9, some (.int (x + (1 : Int32)))] [j0, j1, j2, j3, j4, j5, j6, j7, j8, none, none] st h Q) ∧
  (∀ (L : pb_L) (J : pb_J) (st : List Value) (h : pb_H) (Q : Option Value → pb_H → Prop), pb_R 34 200 L J st h Q ↔ pb_R 34 124 L J st h Q) ∧
  (∀ (l0 l1 l2 l3 l4 l5 l6 l7 l8 l9 l10 : Option Value) (j0 j1 j3 j4 j5 j6 j7 j8 j9 j10 : Option Int64) (st : List Value) (h : pb_H) (Q : Option Value → pb_H → Prop) (x : Int64), pb_R 34 203 [l0, l1, l2, l3, l4, l5, l6, l7, l8, l9, l10] [j0, j1, some x, j3, j4, j5, j6, j7, j8, j9, j10] st h Q ↔ pb_R 34 204 [l0, l1, l2, l3, l4, l5, l6, l7, l8, l9, l10] [j0, j1, some x, j3, j4, j5, j6, j7, j8, j9, j10] (.long x :: st) h Q) ∧
  (∀ (L : pb_L) (J : pb_J) (st : List Value) (h : pb_H) (Q : Option Value → pb_H → Prop), pb_R 34 204 L J st h Q ↔ pb_R 34 205 L J (.long (1 : Int64) :: st) h Q) ∧
  (∀ (L : pb_L) (J : pb_J) (st : List Value) (x y : Int64) (h : pb_H) (Q : Option Value → pb_H → Prop), pb_R 34 205 L J (.long y :: .long x :: st) h Q ↔ pb_R 34 206 L J (.long (x - y) :: st) h Q) ∧
  (∀ (L : pb_L) (J : pb_J) (st : List Value) (x : Int64) (h : pb_H) (Q : Option Value → pb_H → Prop), pb_R 34 206 L J (.long x :: st) h Q ↔ pb_R 34 207 L J (.int x.toInt32 :: st) h Q) ∧
  (∀ (L : pb_L) (J : pb_J) (h : pb_H) (Q : Option Value → pb_H → Prop) (x : Int32), pb_R 34 207 L J [.int x] h Q ↔ Q (some (.int x)) h) := ⟨
  fun L J st h Q => pf_S pb_u_34 rfl rfl,
  fun l0 l1 l2 l3 l4 l5 l6 l7 l8 l9 l10 j0 j1 j2 j3 j4 j5 j6 j7 j8 j9 j10 st h Q x => pf_S pb_u_34 rfl rfl,
  fun L J st h Q => pf_S pb_u_34 rfl rfl,
  fun l0 l1 l2 l3 l4 l5 l6 l7 l8 l9 l10 j0 j1 j2 j3 j4 j5 j6 j7 j8 j9 j10 st h Q x => pf_S pb_u_34 rfl rfl,
  fun L J st h Q => pf_S pb_u_34 rfl rfl,
  fun l0 l1 l2 l3 l4 l5 l6 l7 l8 l9 l10 j0 j1 j2 j3 j4 j5 j6 j7 j8 j9 j10 st h Q x => pf_S pb_u_34 rfl rfl,
  fun l1 l2 l3 l4 l5 l6 l7 l8 l9 l10 j0 j1 j2 j3 j4 j5 j6 j7 j8 j9 j10 st h Q x => pf_S pb_u_34 rfl rfl,
  fun l1 l2 l3 l4 l5 l6 l7 l8 l9 l10 j0 j1 j2 j3 j4 j5 j6 j7 j8 j9 j10 st h Q => pf_S pb_u_34 rfl rfl,
  fun L J st h Q a => pf_gf pb_u_34 rfl rfl,
  fun L J st h Q x y => pf_ic pb_u_34 rfl rfl rfl,
  fun l0 l1 l2 l3 l4 l5 l6 l7 l8 l9 l10 j0 j1 j2 j3 j5 j6 j7 j8 j9 j10 st h Q x => pf_S pb_u_34 rfl rfl,
  fun l0 l1 l2 l3 l4 l5 l6 l7 l9 l10 j0 j1 j2 j3 j4 j5 j6 j7 j8 j9 j10 st h Q x => pf_S pb_u_34 rfl rfl,
  fun l1 l2 l3 l4 l5 l6 l7 l8 l9 l10 j0 j1 j2 j3 j4 j5 j6 j7 j8 j9 j10 st h Q x => pf_S pb_u_34 rfl rfl,
  fun l1 l2 l3 l4 l5 l6 l7 l8 l9 l10 j0 j1 j2 j3 j4 j5 j6 j7 j8 j9 j10 st h Q => pf_S pb_u_34 rfl rfl,
  fun L J st h Q a => pf_gf pb_u_34 rfl rfl,
  fun L J st h Q x y => pf_ic pb_u_34 rfl rfl rfl,
  fun l0 l1 l2 l3 l4 l5 l6 l7 l8 l9 l10 j0 j1 j3 j4 j5 j6 j7 j8 j9 j10 st h Q x => pf_S pb_u_34 rfl rfl,
  fun l1 l2 l3 l4 l5 l6 l7 l8 l9 l10 j0 j1 j2 j3 j4 j5 j6 j7 j8 j9 j10 st h Q x => pf_S pb_u_34 rfl rfl,
  fun l1 l2 l3 l4 l5 l6 l7 l8 l9 l10 j0 j1 j2 j3 j4 j5 j6 j7 j8 j9 j10 st h Q => pf_S pb_u_34 rfl rfl,
  fun L J st h Q a => pf_gf pb_u_34 rfl rfl,
  fun l0 l1 l2 l3 l4 l5 l6 l7 l9 l10 j0 j1 j2 j3 j4 j5 j6 j7 j8 j9 j10 st h Q x => pf_S pb_u_34 rfl rfl,
  fun L J st h Q a i => pf_ai pb_u_34 rfl rfl,
  fun L J st x h Q => pf_S pb_u_34 rfl rfl,
  fun L J st h Q => pf_S pb_u_34 rfl rfl,
  fun L J st x y h Q => pf_S pb_u_34 rfl rfl,
  fun L J st x y h Q => pf_S pb_u_34 rfl rfl,
  fun L J st h Q => pf_S pb_u_34 rfl rfl,
  fun L J st h Q => pf_S pb_u_34 rfl rfl,
  fun L J st x y h Q => pf_S pb_u_34 rfl rfl,
  fun l0 l1 l2 l3 l4 l5 l6 l7 l8 l9 l10 j0 j1 j2 j3 j4 j5 j6 j7 j8 j9 j10 st h Q x => pf_S pb_u_34 rfl rfl,
  fun l0 l1 l2 l3 l4 l5 l6 l7 l8 l9 l10 j0 j1 j2 j3 j4 j5 j7 j8 j9 j10 st h Q x => pf_S pb_u_34 rfl rfl,
  fun l1 l2 l3 l4 l5 l6 l7 l8 l9 l10 j0 j1 j2 j3 j4 j5 j6 j7 j8 j9 j10 st h Q x => pf_S pb_u_34 rfl rfl,
  fun l1 l2 l3 l4 l5 l6 l7 l8 l9 l10 j0 j1 j2 j3 j4 j5 j6 j7 j8 j9 j10 st h Q => pf_S pb_u_34 rfl rfl,
  fun L J st h Q a => pf_gf pb_u_34 rfl rfl,
  fun l0 l2 l3 l4 l5 l6 l7 l8 l9 l10 j0 j1 j2 j3 j4 j5 j6 j7 j8 j9 j10 st h Q x => pf_S pb_u_34 rfl rfl,
  fun l0 l1 l2 l3 l4 l5 l6 l7 l9 l10 j0 j1 j2 j3 j4 j5 j6 j7 j8 j9 j10 st h Q x => pf_S pb_u_34 rfl rfl,
  fun L J st x y h Q => pf_S pb_u_34 rfl rfl,
  fun L J st h Q a i => pf_ai pb_u_34 rfl rfl,
  fun L J st x h Q => pf_S pb_u_34 rfl rfl,
  fun L J st h Q => pf_S pb_u_34 rfl rfl,
  fun L J st x y h Q => pf_S pb_u_34 rfl rfl,
  fun l0 l1 l2 l3 l4 l5 l6 l7 l8 l9 l10 j0 j1 j2 j3 j5 j6 j7 j8 j9 j10 st h Q x => pf_S pb_u_34 rfl rfl,
  fun L J st h Q => pf_S pb_u_34 rfl rfl,
  fun L J st x y h Q => pf_S pb_u_34 rfl rfl,
  fun L J st x y h Q => pf_S pb_u_34 rfl rfl,
  fun L J st x y h Q => pf_S pb_u_34 rfl rfl,
  fun l0 l1 l2 l3 l4 l5 l6 l7 l8 l9 l10 j0 j1 j2 j3 j4 j5 j6 j7 j8 j9 j10 st h Q x => pf_S pb_u_34 rfl rfl,
  fun l1 l2 l3 l4 l5 l6 l7 l8 l9 l10 j0 j1 j2 j3 j4 j5 j6 j7 j8 j9 j10 st h Q x => pf_S pb_u_34 rfl rfl,
  fun l1 l2 l3 l4 l5 l6 l7 l8 l9 l10 j0 j1 j2 j3 j4 j5 j6 j7 j8 j9 j10 st h Q => pf_S pb_u_34 rfl rfl,
  fun L J st h Q a => pf_gf pb_u_34 rfl rfl,
  fun l0 l2 l3 l4 l5 l6 l7 l8 l9 l10 j0 j1 j2 j3 j4 j5 j6 j7 j8 j9 j10 st h Q x => pf_S pb_u_34 rfl rfl,
  fun l0 l1 l2 l3 l4 l5 l6 l7 l9 l10 j0 j1 j2 j3 j4 j5 j6 j7 j8 j9 j10 st h Q x => pf_S pb_u_34 rfl rfl,
  fun L J st x y h Q => pf_S pb_u_34 rfl rfl,
  fun l0 l1 l2 l3 l4 l5 l6 l7 l8 l9 l10 j0 j1 j2 j3 j4 j5 j7 j8 j9 j10 st h Q x => pf_S pb_u_34 rfl rfl,
  fun L J st x h Q => pf_S pb_u_34 rfl rfl,
  fun L J st h Q a i x => pf_si pb_u_34 rfl rfl,
  fun l0 l1 l2 l3 l4 l5 l6 l7 l8 l9 l10 j0 j1 j2 j3 j5 j6 j7 j8 j9 j10 st h Q x => pf_S pb_u_34 rfl rfl,
  fun L J st h Q => pf_S pb_u_34 rfl rfl,
  fun L J st x y h Q => pf_S pb_u_34 rfl rfl,
  fun l0 l1 l2 l3 l4 l5 l6 l7 l8 l9 l10 j0 j1 j2 j3 j4 j5 j6 j7 j8 j9 j10 st h Q x => pf_S pb_u_34 rfl rfl,
  fun l0 l1 l2 l3 l4 l5 l6 l7 l8 l9 l10 j0 j1 j2 j3 j4 j5 j7 j8 j9 j10 st h Q x => pf_S pb_u_34 rfl rfl,
  fun L J st h Q => pf_S pb_u_34 rfl rfl,
  fun L J st x y h Q => pf_S pb_u_34 rfl rfl,
  fun l0 l1 l2 l3 l4 l5 l6 l7 l8 l9 l10 j0 j1 j2 j3 j4 j5 j6 j7 j8 j9 j10 st h Q x => pf_S pb_u_34 rfl rfl,
  fun l0 l1 l2 l3 l4 l5 l6 l7 l9 l10 j0 j1 j2 j3 j4 j5 j6 j7 j8 j9 j10 st h Q x => pf_S pb_u_34 rfl rfl,
  fun L J st h Q => pf_S pb_u_34 rfl rfl,
  fun l0 l1 l2 l3 l4 l5 l6 l7 l8 l9 l10 j0 j1 j2 j3 j4 j5 j7 j8 j9 j10 st h Q x => pf_S pb_u_34 rfl rfl,
  fun L J st h Q => pf_S pb_u_34 rfl rfl,
  fun L J st x y h Q => pf_S pb_u_34 rfl rfl,
  fun L J st h Q x => pf_ii pb_u_34 rfl rfl rfl,
  fun l0 l1 l2 l3 l4 l5 l6 l7 l8 l9 l10 j0 j1 j3 j4 j5 j6 j7 j8 j9 j10 st h Q x => pf_S pb_u_34 rfl rfl,
  fun L J st x h Q => pf_S pb_u_34 rfl rfl,
  fun L J h Q x => pf_ri pb_u_34 rfl rfl,
  fun L J st h Q => pf_S pb_u_34 rfl rfl,
  fun l0 l1 l2 l3 l4 l5 l6 l7 l8 l9 l10 j0 j1 j2 j3 j4 j5 j6 j7 j8 j9 j10 st h Q x => pf_S pb_u_34 rfl rfl,
  fun L J st h Q => pf_S pb_u_34 rfl rfl,
  fun l0 l1 l2 l3 l4 l5 l6 l7 l8 l9 l10 j0 j1 j2 j3 j4 j5 j6 j7 j8 j9 j10 st h Q x => pf_S pb_u_34 rfl rfl,
  fun l1 l2 l3 l4 l5 l6 l7 l8 l9 l10 j0 j1 j2 j3 j4 j5 j6 j7 j8 j9 j10 st h Q x => pf_S pb_u_34 rfl rfl,
  fun l1 l2 l3 l4 l5 l6 l7 l8 l9 l10 j0 j1 j2 j3 j4 j5 j6 j7 j8 j9 j10 st h Q => pf_S pb_u_34 rfl rfl,
  fun L J st h Q a => pf_gf pb_u_34 rfl rfl,
  fun L J st h Q x y => pf_ic pb_u_34 rfl rfl rfl,
  fun l0 l1 l2 l3 l4 l5 l6 l7 l8 l9 l10 j0 j1 j2 j3 j4 j5 j6 j7 j9 j10 st h Q x => pf_S pb_u_34 rfl rfl,
  fun l1 l2 l3 l4 l5 l6 l7 l8 l9 l10 j0 j1 j2 j3 j4 j5 j6 j7 j8 j9 j10 st h Q x => pf_S pb_u_34 rfl rfl,
  fun l1 l2 l3 l4 l5 l6 l7 l8 l9 l10 j0 j1 j2 j3 j4 j5 j6 j7 j8 j9 j10 st h Q => pf_S pb_u_34 rfl rfl,
  fun L J st h Q a => pf_gf pb_u_34 rfl rfl,
  fun l0 l2 l3 l4 l5 l6 l7 l8 l9 l10 j0 j1 j2 j3 j4 j5 j6 j7 j8 j9 j10 st h Q x => pf_S pb_u_34 rfl rfl,
  fun l0 l1 l2 l3 l4 l5 l6 l7 l8 l9 j0 j1 j2 j3 j4 j5 j6 j7 j8 j9 j10 st h Q x => pf_S pb_u_34 rfl rfl,
  fun L J st x y h Q => pf_S pb_u_34 rfl rfl,
  fun L J st h Q a i => pf_ai pb_u_34 rfl rfl,
  fun L J st x h Q => pf_S pb_u_34 rfl rfl,
  fun L J st h Q => pf_S pb_u_34 rfl rfl,
  fun L J st x y h Q => pf_S pb_u_34 rfl rfl,
  fun l0 l1 l2 l3 l4 l5 l6 l7 l8 l9 j0 j1 j2 j3 j4 j5 j6 j7 j8 j9 j10 st h Q x => pf_S pb_u_34 rfl rfl,
  fun l1 l2 l3 l4 l5 l6 l7 l8 l9 l10 j0 j1 j2 j3 j4 j5 j6 j7 j8 j9 j10 st h Q x => pf_S pb_u_34 rfl rfl,
  fun l1 l2 l3 l4 l5 l6 l7 l8 l9 l10 j0 j1 j2 j3 j4 j5 j6 j7 j8 j9 j10 st h Q => pf_S pb_u_34 rfl rfl,
  fun L J st h Q a => pf_gf pb_u_34 rfl rfl,
  fun L J st h Q x y => pf_ic pb_u_34 rfl rfl rfl,
  fun l1 l2 l3 l4 l5 l6 l7 l8 l9 l10 j0 j1 j2 j3 j4 j5 j6 j7 j8 j9 j10 st h Q x => pf_S pb_u_34 rfl rfl,
  fun l1 l2 l3 l4 l5 l6 l7 l8 l9 l10 j0 j1 j2 j3 j4 j5 j6 j7 j8 j9 j10 st h Q => pf_S pb_u_34 rfl rfl,
  fun L J st h Q a => pf_gf pb_u_34 rfl rfl,
  fun l0 l1 l2 l3 l4 l5 l6 l7 l8 l9 j0 j1 j2 j3 j4 j5 j6 j7 j8 j9 j10 st h Q x => pf_S pb_u_34 rfl rfl,
  fun L J st h Q a i => pf_ai pb_u_34 rfl rfl,
  fun L J st x h Q => pf_S pb_u_34 rfl rfl,
  fun L J st h Q => pf_S pb_u_34 rfl rfl,
  fun L J st x y h Q => pf_S pb_u_34 rfl rfl,
  fun L J st h Q => pf_S pb_u_34 rfl rfl,
  fun L J st h Q => pf_S pb_u_34 rfl rfl,
  fun L J st x y h Q => pf_S pb_u_34 rfl rfl,
  fun L J st x y h Q => pf_S pb_u_34 rfl rfl,
  fun l0 l1 l2 l3 l4 l5 l6 l7 l8 l9 l10 j0 j1 j2 j3 j4 j5 j6 j7 j8 j9 j10 st h Q x => pf_S pb_u_34 rfl rfl,
  fun l1 l2 l3 l4 l5 l6 l7 l8 l9 l10 j0 j1 j2 j3 j4 j5 j6 j7 j8 j9 j10 st h Q x => pf_S pb_u_34 rfl rfl,
  fun l1 l2 l3 l4 l5 l6 l7 l8 l9 l10 j0 j1 j2 j3 j4 j5 j6 j7 j8 j9 j10 st h Q => pf_S pb_u_34 rfl rfl,
  fun L J st h Q a => pf_gf pb_u_34 rfl rfl,
  fun l0 l2 l3 l4 l5 l6 l7 l8 l9 l10 j0 j1 j2 j3 j4 j5 j6 j7 j8 j9 j10 st h Q x => pf_S pb_u_34 rfl rfl,
  fun l0 l1 l2 l3 l4 l5 l6 l7 l8 l9 j0 j1 j2 j3 j4 j5 j6 j7 j8 j9 j10 st h Q x => pf_S pb_u_34 rfl rfl,
  fun L J st x y h Q => pf_S pb_u_34 rfl rfl,
  fun l0 l1 l2 l3 l4 l5 l6 l7 l8 l9 l10 j0 j1 j2 j3 j4 j5 j6 j7 j9 j10 st h Q x => pf_S pb_u_34 rfl rfl,
  fun L J st x h Q => pf_S pb_u_34 rfl rfl,
  fun L J st h Q a i x => pf_si pb_u_34 rfl rfl,
  fun l0 l1 l2 l3 l4 l5 l6 l7 l8 l9 l10 j0 j1 j2 j3 j4 j5 j6 j7 j9 j10 st h Q x => pf_S pb_u_34 rfl rfl,
  fun L J st h Q => pf_S pb_u_34 rfl rfl,
  fun L J st x y h Q => pf_S pb_u_34 rfl rfl,
  fun l0 l1 l2 l3 l4 l5 l6 l7 l8 l9 l10 j0 j1 j2 j3 j4 j5 j6 j7 j8 j9 j10 st h Q x => pf_S pb_u_34 rfl rfl,
  fun l0 l1 l2 l3 l4 l5 l6 l7 l8 l9 j0 j1 j2 j3 j4 j5 j6 j7 j8 j9 j10 st h Q x => pf_S pb_u_34 rfl rfl,
  fun L J st h Q => pf_S pb_u_34 rfl rfl,
  fun l0 l1 l2 l3 l4 l5 l6 l7 l8 l9 l10 j0 j1 j3 j4 j5 j6 j7 j8 j9 j10 st h Q x => pf_S pb_u_34 rfl rfl,
  fun L J st h Q => pf_S pb_u_34 rfl rfl,
  fun L J st x y h Q => pf_S pb_u_34 rfl rfl,
  fun L J st x h Q => pf_S pb_u_34 rfl rfl,
  fun L J h Q x => pf_ri pb_u_34 rfl rfl⟩
theorem pb_c34 (x0 : Nat) (x1 : Int32) (x2 : Int64) (h : pb_H) (Q : Option Value → pb_H → Prop) : pb_call 34 [.ref x0, .int x1, .long x2] h Q ↔ pb_R 34 0 [some (.ref x0), some (.int x1), none, none, none, none, none, none, none, none, none] [none, none, some x2, none, none, none, none, none, none, none, none] [] h Q := Iff.rfl
/-! 35: PlaneBench$Divider.somethingLeft()Z -/
theorem pb_u_35 : pb_t 35 = pb_t35 := rfl
theorem pb_ci_35 : pb_ci 35 = 3 := by decide +kernel
set_option maxRecDepth 100000 in
theorem pb_q35_4 (l0 l1 : Option Value) (st : List Value) (h : pb_H) (Q : Option Value → pb_H → Prop) (x : Int32) : pb_R 35 4 [l0, l1, some (.int x)] [] st h Q ↔ pb_R 35 5 [l0, l1, some (.int x)] [] (.int x :: st) h Q := pf_S pb_u_35 rfl rfl
set_option maxRecDepth 100000 in
theorem pb_e35 : (∀ (L : pb_L) (J : pb_J) (st : List Value) (h : pb_H) (Q : Option Value → pb_H → Prop), pb_R 35 0 L J st h Q ↔ pb_R 35 1 L J (.int (0 : Int32) :: st) h Q) ∧
  (∀ (l0 l1 l2 : Option Value) (st : List Value) (h : pb_H) (Q : Option Value → pb_H → Prop) (x : Int32), pb_R 35 1 [l0, l1, l2] [] (.int x :: st) h Q ↔ pb_R 35 2 [l0, some (.int x), l2] [] st h Q) ∧
  (∀ (L : pb_L) (J : pb_J) (st : List Value) (h : pb_H) (Q : Option Value → pb_H → Prop), pb_R 35 2 L J st h Q ↔ pb_R 35 3 L J (.int (0 : Int32) :: st) h Q) ∧
  (∀ (l0 l1 l2 : Option Value) (st : List Value) (h : pb_H) (Q : Option Value → pb_H → Prop) (x : Int32), pb_R 35 3 [l0, l1, l2] [] (.int x :: st) h Q ↔ pb_R 35 4 [l0, l1, some (.int x)] [] st h Q) ∧
  (∀ (L : pb_L) (J : pb_J) (st : List Value) (h : pb_H) (Q : Option Value → pb_H → Prop), pb_R 35 5 L J st h Q ↔ pb_R 35 7 L J (.int (8 : Int32) :: st) h Q) ∧
  (∀ (L : pb_L) (J : pb_J) (st : List Value) (h : pb_H) (Q : Option Value → pb_H → Prop) (x y : Int32), pb_R 35 7 L J (.int y :: .int x :: st) h Q ↔ if y < x then pb_R 35 25 L J st h Q else pb_R 35 10 L J st h Q) ∧
  (∀ (l0 l2 : Option Value) (st : List Value) (h : pb_H) (Q : Option Value → pb_H → Prop) (x : Int32), pb_R 35 10 [l0, some (.int x), l2] [] st h Q ↔ pb_R 35 11 [l0, some (.int x), l2] [] (.int x :: st) h Q) ∧
  (∀ (l1 l2 : Option Value) (st : List Value) (h : pb_H) (Q : Option Value → pb_H → Prop) (x : Nat), pb_R 35 11 [some (.ref x), l1, l2] [] st h Q ↔ pb_R 35 12 [some (.ref x), l1, l2] [] (.ref x :: st) h Q) ∧
  (∀ (l1 l2 : Option Value) (st : List Value) (h : pb_H) (Q : Option Value → pb_H → Prop), pb_R 35 11 [some .null, l1, l2] [] st h Q ↔ pb_R 35 12 [some .null, l1, l2] [] (.null :: st) h Q) ∧
  (∀ (L : pb_L) (J : pb_J) (st : List Value) (h : pb_H) (Q : Option Value → pb_H → Prop) (a : Nat), pb_R 35 12 L J (.ref a :: st) h Q ↔ pb_o (pb_gf (h.2 a) 3 1) (fun v => pb_R 35 15 L J (v :: st) h Q)) ∧
  (∀ (l0 l1 : Option Value) (st : List Value) (h : pb_H) (Q : Option Value → pb_H → Prop) (x : Int32), pb_R 35 15 [l0, l1, some (.int x)] [] st h Q ↔ pb_R 35 16 [l0, l1, some (.int x)] [] (.int x :: st) h Q) ∧
  (∀ (L : pb_L) (J : pb_J) (st : List Value) (h : pb_H) (Q : Option Value → pb_H → Prop) (a : Nat) (i : Int32), pb_R 35 16 L J (.int i :: .ref a :: st) h Q ↔ pb_o (pb_ai (h.2 a) i) (fun v => pb_R 35 17 L J (.int v :: st) h Q)) ∧
  (∀ (L : pb_L) (J : pb_J) (st : List Value) (x y : Int32) (h : pb_H) (Q : Option Value → pb_H → Prop), pb_R 35 17 L J (.int y :: .int x :: st) h Q ↔ pb_R 35 18 L J (.int (x ||| y) :: st) h Q) ∧
  (∀ (l0 l1 l2 : Option Value) (st : List Value) (h : pb_H) (Q : Option Value → pb_H → Prop) (x : Int32), pb_R 35 18 [l0, l1, l2] [] (.int x :: st) h Q ↔ pb_R 35 19 [l0, some (.int x), l2] [] st h Q) ∧
  (∀ (l0 l1 : Option Value) (st : List Value) (h : pb_H) (Q : Option Value → pb_H → Prop) (x : Int32), pb_R 35 19 [l0, l1, some (.int x)] [] st h Q ↔ pb_R 35 22 [l0, l1, some (.int (x + (1 : Int32)))] [] st h Q) ∧
  (∀ (L : pb_L) (J : pb_J) (st : List Value) (h : pb_H) (Q : Option Value → pb_H → Prop), pb_R 35 22 L J st h Q ↔ pb_R 35 4 L J st h Q) ∧
  (∀ (l0 l2 : Option Value) (st : List Value) (h : pb_H) (Q : Option Value → pb_H → Prop) (x : Int32), pb_R 35 25 [l0, some (.int x), l2] [] st h Q ↔ pb_R 35 26 [l0, some (.int x), l2] [] (.int x :: st) h Q) ∧
  (∀ (L : pb_L) (J : pb_J) (st : List Value) (h : pb_H) (Q : Option Value → pb_H → Prop) (x : Int32), pb_R 35 26 L J (.int x :: st) h Q ↔ if x = 0 then pb_R 35 33 L J st h Q else pb_R 35 29 L J st h Q) ∧
  (∀ (L : pb_L) (J : pb_J) (st : List Value) (h : pb_H) (Q : Option Value → pb_H → Prop), pb_R 35 29 L J st h Q ↔ pb_R 35 30 L J (.int (1 : Int32) :: st) h Q) ∧
  (∀ (L : pb_L) (J : pb_J) (st : List Value) (h : pb_H) (Q : Option Value → pb_H → Prop), pb_R 35 30 L J st h Q ↔ pb_R 35 34 L J st h Q) ∧
  (∀ (L : pb_L) (J : pb_J) (st : List Value) (h : pb_H) (Q : Option Value → pb_H → Prop), pb_R 35 33 L J st h Q ↔ pb_R 35 34 L J (.int (0 : Int32) :: st) h Q) ∧
  (∀ (L : pb_L) (J : pb_J) (h : pb_H) (Q : Option Value → pb_H → Prop) (x : Int32), pb_R 35 34 L J [.int x] h Q ↔ narrow .boolean (.int x) = .int x ∧ Q (some (.int x)) h) := ⟨
  fun L J st h Q => pf_S pb_u_35 rfl rfl,
  fun l0 l1 l2 st h Q x => pf_S pb_u_35 rfl rfl,
  fun L J st h Q => pf_S pb_u_35 rfl rfl,
  fun l0 l1 l2 st h Q x => pf_S pb_u_35 rfl rfl,
  fun L J st h Q => pf_S pb_u_35 rfl rfl,
  fun L J st h Q x y => pf_ic pb_u_35 rfl rfl rfl,
  fun l0 l2 st h Q x => pf_S pb_u_35 rfl rfl,
  fun l1 l2 st h Q x => pf_S pb_u_35 rfl rfl,
  fun l1 l2 st h Q => pf_S pb_u_35 rfl rfl,
  fun L J st h Q a => pf_gf pb_u_35 rfl rfl,
  fun l0 l1 st h Q x => pf_S pb_u_35 rfl rfl,
  fun L J st h Q a i => pf_ai pb_u_35 rfl rfl,
  fun L J st x y h Q => pf_S pb_u_35 rfl rfl,
  fun l0 l1 l2 st h Q x => pf_S pb_u_35 rfl rfl,
  fun l0 l1 st h Q x => pf_S pb_u_35 rfl rfl,
  fun L J st h Q => pf_S pb_u_35 rfl rfl,
  fun l0 l2 st h Q x => pf_S pb_u_35 rfl rfl,
  fun L J st h Q x => pf_ii pb_u_35 rfl rfl rfl,
  fun L J st h Q => pf_S pb_u_35 rfl rfl,
  fun L J st h Q => pf_S pb_u_35 rfl rfl,
  fun L J st h Q => pf_S pb_u_35 rfl rfl,
  fun L J h Q x => pf_rz pb_u_35 rfl rfl⟩
theorem pb_c35 (x0 : Nat) (h : pb_H) (Q : Option Value → pb_H → Prop) : pb_call 35 [.ref x0] h Q ↔ pb_R 35 0 [some (.ref x0), none, none] [] [] h Q := Iff.rfl
/-! 36: PlaneBench$Divider.split([II)Z -/
theorem pb_u_36 : pb_t 36 = pb_t36 := rfl
theorem pb_ci_36 : pb_ci 36 = 3 := by decide +kernel
set_option maxRecDepth 100000 in
theorem pb_q36_13 (l0 l1 l2 l3 l4 : Option Value) (j0 j1 j2 j3 j4 j5 : Option Int64) (st : List Value) (h : pb_H) (Q : Option Value → pb_H → Prop) (x : Int32) : pb_R 36 13 [l0, l1, l2, l3, l4, some (.int x)] [j0, j1, j2, j3, j4, j5] st h Q ↔ pb_R 36 15 [l0, l1, l2, l3, l4, some (.int x)] [j0, j1, j2, j3, j4, j5] (.int x :: st) h Q := pf_S pb_u_36 rfl rfl
set_option maxRecDepth 100000 in
theorem pb_q36_89 (l0 l1 l2 l3 l4 : Option Value) (j0 j1 j2 j3 j4 j5 : Option Int64) (st : List Value) (h : pb_H) (Q : Option Value → pb_H → Prop) (x : Int32) : pb_R 36 89 [l0, l1, l2, l3, l4, some (.int x)] [j0, j1, j2, j3, j4, j5] st h Q ↔ pb_R 36 91 [l0, l1, l2, l3, l4, some (.int x)] [j0, j1, j2, j3, j4, j5] (.int x :: st) h Q := pf_S pb_u_36 rfl rfl
set_option maxRecDepth 100000 in
theorem pb_e36 : (∀ (l1 l2 l3 l4 l5 : Option Value) (j0 j1 j2 j3 j4 j5 : Option Int64) (st : List Value) (h : pb_H) (Q : Option Value → pb_H → Prop) (x : Nat), pb_R 36 0 [some (.ref x), l1, l2, l3, l4, l5] [j0, j1, j2, j3, j4, j5] st h Q ↔ pb_R 36 1 [some (.ref x), l1, l2, l3, l4, l5] [j0, j1, j2, j3, j4, j5] (.ref x :: st) h Q) ∧
  (∀ (l1 l2 l3 l4 l5 : Option Value) (j0 j1 j2 j3 j4 j5 : Option Int64) (st : List Value) (h : pb_H) (Q : Option Value → pb_H → Prop), pb_R 36 0 [some .null, l1, l2, l3, l4, l5] [j0, j1, j2, j3, j4, j5] st h Q ↔ pb_R 36 1 [some .null, l1, l2, l3, l4, l5] [j0, j1, j2, j3, j4, j5] (.null :: st) h Q) ∧
  (∀ (L : pb_L) (J : pb_J) (st : List Value) (h : pb_H) (Q : Option Value → pb_H → Prop) (a : Nat), pb_R 36 1 L J (.ref a :: st) h Q ↔ pb_o (pb_gf (h.2 a) 3 2) (fun v => pb_R 36 4 L J (v :: st) h Q)) ∧
  (∀ (L : pb_L) (J : pb_J) (st : List Value) (h : pb_H) (Q : Option Value → pb_H → Prop), pb_R 36 4 L J st h Q ↔ pb_R 36 5 L J (.int (0 : Int32) :: st) h Q) ∧
  (∀ (L : pb_L) (J : pb_J) (h : pb_H) (Q : Option Value → pb_H → Prop) (x0 : Int32) (x1 : Nat), pb_R 36 5 L J [.int x0, .ref x1] h Q ↔ pb_call 24 [.ref x1, .int x0] h (fun v t => pb_R 36 8 L J (v.toList ++ []) t Q)) ∧
  (∀ (L : pb_L) (J : pb_J) (st : List Value) (h : pb_H) (Q : Option Value → pb_H → Prop), pb_R 36 8 L J st h Q ↔ pb_R 36 9 L J (.long (0 : Int64) :: st) h Q) ∧
  (∀ (l0 l1 l2 l3 l4 l5 : Option Value) (j0 j1 j2 j3 j4 j5 : Option Int64) (st : List Value) (h : pb_H) (Q : Option Value → pb_H → Prop) (x : Int64), pb_R 36 9 [l0, l1, l2, l3, l4, l5] [j0, j1, j2, j3, j4, j5] (.long x :: st) h Q ↔ pb_R 36 10 [l0, l1, l2, none, none, l5] [j0, j1, none, some x, none, j5] st h Q) ∧
  (∀ (L : pb_L) (J : pb_J) (st : List Value) (h : pb_H) (Q : Option Value → pb_H → Prop), pb_R 36 10 L J st h Q ↔ pb_R 36 11 L J (.int (0 : Int32) :: st) h Q) ∧
  (∀ (l0 l1 l2 l3 l4 l5 : Option Value) (j0 j1 j2 j3 j4 j5 : Option Int64) (st : List Value) (h : pb_H) (Q : Option Value → pb_H → Prop) (x : Int32), pb_R 36 11 [l0, l1, l2, l3, l4, l5] [j0, j1, j2, j3, j4, j5] (.int x :: st) h Q ↔ pb_R 36 13 [l0, l1, l2, l3, l4, some (.int x)] [j0, j1, j2, j3, none, none] st h Q) ∧
  (∀ (L : pb_L) (J : pb_J) (st : List Value) (h : pb_H) (Q : Option Value → pb_H → Prop), pb_R 36 15 L J st h Q ↔ pb_R 36 17 L J (.int (8 : Int32) :: st) h Q) ∧
  (∀ (L : pb_L) (J : pb_J) (st : List Value) (h : pb_H) (Q : Option Value → pb_H → Prop) (x y : Int32), pb_R 36 17 L J (.int y :: .int x :: st) h Q ↔ if y ≤ x then pb_R 36 59 L J st h Q else pb_R 36 20 L J st h Q) ∧
  (∀ (l0 l1 l2 l3 l4 l5 : Option Value) (j0 j1 j2 j4 j5 : Option Int64) (st : List Value) (h : pb_H) (Q : Option Value → pb_H → Prop) (x : Int64), pb_R 36 20 [l0, l1, l2, l3, l4, l5] [j0, j1, j2, some x, j4, j5] st h Q ↔ pb_R 36 21 [l0, l1, l2, l3, l4, l5] [j0, j1, j2, some x, j4, j5] (.long x :: st) h Q) ∧
  (∀ (l0 l2 l3 l4 l5 : Option Value) (j0 j1 j2 j3 j4 j5 : Option Int64) (st : List Value) (h : pb_H) (Q : Option Value → pb_H → Prop) (x : Nat), pb_R 36 21 [l0, some (.ref x), l2, l3, l4, l5] [j0, j1, j2, j3, j4, j5] st h Q ↔ pb_R 36 22 [l0, some (.ref x), l2, l3, l4, l5] [j0, j1, j2, j3, j4, j5] (.ref x :: st) h Q) ∧
  (∀ (l0 l2 l3 l4 l5 : Option Value) (j0 j1 j2 j3 j4 j5 : Option Int64) (st : List Value) (h : pb_H) (Q : Option Value → pb_H → Prop), pb_R 36 21 [l0, some .null, l2, l3, l4, l5] [j0, j1, j2, j3, j4, j5] st h Q ↔ pb_R 36 22 [l0, some .null, l2, l3, l4, l5] [j0, j1, j2, j3, j4, j5] (.null :: st) h Q) ∧
  (∀ (l0 l1 l3 l4 l5 : Option Value) (j0 j1 j2 j3 j4 j5 : Option Int64) (st : List Value) (h : pb_H) (Q : Option Value → pb_H → Prop) (x : Int32), pb_R 36 22 [l0, l1, some (.int x), l3, l4, l5] [j0, j1, j2, j3, j4, j5] st h Q ↔ pb_R 36 23 [l0, l1, some (.int x), l3, l4, l5] [j0, j1, j2, j3, j4, j5] (.int x :: st) h Q) ∧
  (∀ (l0 l1 l2 l3 l4 : Option Value) (j0 j1 j2 j3 j4 j5 : Option Int64) (st : List Value) (h : pb_H) (Q : Option Value → pb_H → Prop) (x : Int32), pb_R 36 23 [l0, l1, l2, l3, l4, some (.int x)] [j0, j1, j2, j3, j4, j5] st h Q ↔ pb_R 36 25 [l0, l1, l2, l3, l4, some (.int x)] [j0, j1, j2, j3, j4, j5] (.int x :: st) h Q) ∧
  (∀ (L : pb_L) (J : pb_J) (st : List Value) (x y : Int32) (h : pb_H) (Q : Option Value → pb_H → Prop), pb_R 36 25 L J (.int y :: .int x :: st) h Q ↔ pb_R 36 26 L J (.int (x + y) :: st) h Q) ∧
  (∀ (L : pb_L) (J : pb_J) (st : List Value) (h : pb_H) (Q : Option Value → pb_H → Prop) (a : Nat) (i : Int32), pb_R 36 26 L J (.int i :: .ref a :: st) h Q ↔ pb_o (pb_ai (h.2 a) i) (fun v => pb_R 36 27 L J (.int v :: st) h Q)) ∧
  (∀ (L : pb_L) (J : pb_J) (st : List Value) (x : Int32) (h : pb_H) (Q : Option Value → pb_H → Prop), pb_R 36 27 L J (.int x :: st) h Q ↔ pb_R 36 28 L J (.long x.toInt64 :: st) h Q) ∧
  (∀ (L : pb_L) (J : pb_J) (st : List Value) (h : pb_H) (Q : Option Value → pb_H → Prop), pb_R 36 28 L J st h Q ↔ pb_R 36 31 L J (.long (4294967295 : Int64) :: st) h Q) ∧
  (∀ (L : pb_L) (J : pb_J) (st : List Value) (x y : Int64) (h : pb_H) (Q : Option Value → pb_H → Prop), pb_R 36 31 L J (.long y :: .long x :: st) h Q ↔ pb_R 36 32 L J (.long (x &&& y) :: st) h Q) ∧
  (∀ (l1 l2 l3 l4 l5 : Option Value) (j0 j1 j2 j3 j4 j5 : Option Int64) (st : List Value) (h : pb_H) (Q : Option Value → pb_H → Prop) (x : Nat), pb_R 36 32 [some (.ref x), l1, l2, l3, l4, l5] [j0, j1, j2, j3, j4, j5] st h Q ↔ pb_R 36 33 [some (.ref x), l1, l2, l3, l4, l5] [j0, j1, j2, j3, j4, j5] (.ref x :: st) h Q) ∧
  (∀ (l1 l2 l3 l4 l5 : Option Value) (j0 j1 j2 j3 j4 j5 : Option Int64) (st : List Value) (h : pb_H) (Q : Option Value → pb_H → Prop), pb_R 36 32 [some .null, l1, l2, l3, l4, l5] [j0, j1, j2, j3, j4, j5] st h Q ↔ pb_R 36 33 [some .null, l1, l2, l3, l4, l5] [j0, j1, j2, j3, j4, j5] (.null :: st) h Q) ∧
  (∀ (L : pb_L) (J : pb_J) (st : List Value) (h : pb_H) (Q : Option Value → pb_H → Prop) (a : Nat), pb_R 36 33 L J (.ref a :: st) h Q ↔ pb_o (pb_gf (h.2 a) 3 4) (fun v => pb_R 36 36 L J (v :: st) h Q)) ∧
  (∀ (L : pb_L) (J : pb_J) (st : List Value) (x : Int64) (y : Int32) (h : pb_H) (Q : Option Value → pb_H → Prop), pb_R 36 36 L J (.int y :: .long x :: st) h Q ↔ pb_R 36 37 L J (.long (x <<< (y.toInt64 &&& 63)) :: st) h Q) ∧
  (∀ (L : pb_L) (J : pb_J) (st : List Value) (x y : Int64) (h : pb_H) (Q : Option Value → pb_H → Prop), pb_R 36 37 L J (.long y :: .long x :: st) h Q ↔ pb_R 36 38 L J (.long (x + y) :: st) h Q) ∧
  (∀ (l0 l1 l2 l3 l4 l5 : Option Value) (j0 j1 j2 j3 j4 j5 : Option Int64) (st : List Value) (h : pb_H) (Q : Option Value → pb_H → Prop) (x : Int64), pb_R 36 38 [l0, l1, l2, l3, l4, l5] [j0, j1, j2, j3, j4, j5] (.long x :: st) h Q ↔ pb_R 36 39 [l0, l1, l2, none, none, l5] [j0, j1, none, some x, none, j5] st h Q) ∧
  (∀ (l1 l2 l3 l4 l5 : Option Value) (j0 j1 j2 j3 j4 j5 : Option Int64) (st : List Value) (h : pb_H) (Q : Option Value → pb_H → Prop) (x : Nat), pb_R 36 39 [some (.ref x), l1, l2, l3, l4, l5] [j0, j1, j2, j3, j4, j5] st h Q ↔ pb_R 36 40 [some (.ref x), l1, l2, l3, l4, l5] [j0, j1, j2, j3, j4, j5] (.ref x :: st) h Q) ∧
  (∀ (l1 l2 l3 l4 l5 : Option Value) (j0 j1 j2 j3 j4 j5 : Option Int64) (st : List Value) (h : pb_H) (Q : Option Value → pb_H → Prop), pb_R 36 39 [some .null, l1, l2, l3, l4, l5] [j0, j1, j2, j3, j4, j5] st h Q ↔ pb_R 36 40 [some .null, l1, l2, l3, l4, l5] [j0, j1, j2, j3, j4, j5] (.null :: st) h Q) ∧
  (∀ (L : pb_L) (J : pb_J) (st : List Value) (h : pb_H) (Q : Option Value → pb_H → Prop) (a : Nat), pb_R 36 40 L J (.ref a :: st) h Q ↔ pb_o (pb_gf (h.2 a) 3 1) (fun v => pb_R 36 43 L J (v :: st) h Q)) ∧
  (∀ (l0 l1 l2 l3 l4 : Option Value) (j0 j1 j2 j3 j4 j5 : Option Int64) (st : List Value) (h : pb_H) (Q : Option Value → pb_H → Prop) (x : Int32), pb_R 36 43 [l0, l1, l2, l3, l4, some (.int x)] [j0, j1, j2, j3, j4, j5] st h Q ↔ pb_R 36 45 [l0, l1, l2, l3, l4, some (.int x)] [j0, j1, j2, j3, j4, j5] (.int x :: st) h Q) ∧
  (∀ (l0 l1 l2 l3 l4 l5 : Option Value) (j0 j1 j2 j4 j5 : Option Int64) (st : List Value) (h : pb_H) (Q : Option Value → pb_H → Prop) (x : Int64), pb_R 36 45 [l0, l1, l2, l3, l4, l5] [j0, j1, j2, some x, j4, j5] st h Q ↔ pb_R 36 46 [l0, l1, l2, l3, l4, l5] [j0, j1, j2, some x, j4, j5] (.long x :: st) h Q) ∧
  (∀ (L : pb_L) (J : pb_J) (st : List Value) (x : Int64) (h : pb_H) (Q : Option Value → pb_H → Prop), pb_R 36 46 L J (.long x :: st) h Q ↔ pb_R 36 47 L J (.int x.toInt32 :: st) h Q) ∧
  (∀ (L : pb_L) (J : pb_J) (st : List Value) (h : pb_H) (Q : Option Value → pb_H → Prop) (a : Nat) (i x : Int32), pb_R 36 47 L J (.int x :: .int i :: .ref a :: st) h Q ↔ pb_o (pb_si (h.2 a) i x) (fun c => pb_R 36 48 L J st (pb_set h a c) Q)) ∧
  (∀ (l0 l1 l2 l3 l4 l5 : Option Value) (j0 j1 j2 j4 j5 : Option Int64) (st : List Value) (h : pb_H) (Q : Option Value → pb_H → Prop) (x : Int64), pb_R 36 48 [l0, l1, l2, l3, l4, l5] [j0, j1, j2, some x, j4, j5] st h Q ↔ pb_R 36 49 [l0, l1, l2, l3, l4, l5] [j0, j1, j2, some x, j4, j5] (.long x :: st) h Q) ∧
  (∀ (L : pb_L) (J : pb_J) (st : List Value) (h : pb_H) (Q : Option Value → pb_H → Prop), pb_R 36 49 L J st h Q ↔ pb_R 36 51 L J (.int (32 : Int32) :: st) h Q) ∧
  (∀ (L : pb_L) (J : pb_J) (st : List Value) (x : Int64) (y : Int32) (h : pb_H) (Q : Option Value → pb_H → Prop), pb_R 36 51 L J (.int y :: .long x :: st) h Q ↔ pb_R 36 52 L J (.long (x.toUInt64 >>> (y.toInt64.toUInt64 &&& Int64.toUInt64 63)).toInt64 :: st) h Q) ∧
  (∀ (l0 l1 l2 l3 l4 l5 : Option Value) (j0 j1 j2 j3 j4 j5 : Option Int64) (st : List Value) (h : pb_H) (Q : Option Value → pb_H → Prop) (x : Int64), pb_R 36 52 [l0, l1, l2, l3, l4, l5] [j0, j1, j2, j3, j4, j5] (.long x :: st) h Q ↔ pb_R 36 53 [l0, l1, l2, none, none, l5] [j0, j1, none, some x, none, j5] st h Q) ∧
  (∀ (l0 l1 l2 l3 l4 : Option Value) (j0 j1 j2 j3 j4 j5 : Option Int64) (st : List Value) (h : pb_H) (Q : Option Value → pb_H → Prop) (x : Int32), pb_R 36 53 [l0, l1, l2, l3, l4, some (.int x)] [j0, j1, j2, j3, j4, j5] st h Q ↔ pb_R 36 56 [l0, l1, l2, l3, l4, some (.int (x + (1 : Int32)))] [j0, j1, j2, j3, none, none] st h Q) ∧
  (∀ (L : pb_L) (J : pb_J) (st : List Value) (h : pb_H) (Q : Option Value → pb_H → Prop), pb_R 36 56 L J st h Q ↔ pb_R 36 13 L J st h Q) ∧
  (∀ (l1 l2 l3 l4 l5 : Option Value) (j0 j1 j2 j3 j4 j5 : Option Int64) (st : List Value) (h : pb_H) (Q : Option Value → pb_H → Prop) (x : Nat), pb_R 36 59 [some (.ref x), l1, l2, l3, l4, l5] [j0, j1, j2, j3, j4, j5] st h Q ↔ pb_R 36 60 [some (.ref x), l1, l2, l3, l4, l5] [j0, j1, j2, j3, j4, j5] (.ref x :: st) h Q) ∧
  (∀ (l1 l2 l3 l4 l5 : Option Value) (j0 j1 j2 j3 j4 j5 : Option Int64) (st : List Value) (h : pb_H) (Q : Option Value → pb_H → Prop), pb_R 36 59 [some .null, l1, l2, l3, l4, l5] [j0, j1, j2, j3, j4, j5] st h Q ↔ pb_R 36 60 [some .null, l1, l2, l3, l4, l5] [j0, j1, j2, j3, j4, j5] (.null :: st) h Q) ∧
  (∀ (L : pb_L) (J : pb_J) (st : List Value) (h : pb_H) (Q : Option Value → pb_H → Prop) (a : Nat), pb_R 36 60 L J (.ref a :: st) h Q ↔ pb_o (pb_gf (h.2 a) 3 1) (fun v => pb_R 36 63 L J (v :: st) h Q)) ∧
  (∀ (L : pb_L) (J : pb_J) (st : List Value) (h : pb_H) (Q : Option Value → pb_H → Prop), pb_R 36 63 L J st h Q ↔ pb_R 36 65 L J (.int (8 : Int32) :: st) h Q) ∧
  (∀ (l0 l1 l2 l3 l4 l5 : Option Value) (j0 j1 j2 j4 j5 : Option Int64) (st : List Value) (h : pb_H) (Q : Option Value → pb_H → Prop) (x : Int64), pb_R 36 65 [l0, l1, l2, l3, l4, l5] [j0, j1, j2, some x, j4, j5] st h Q ↔ pb_R 36 66 [l0, l1, l2, l3, l4, l5] [j0, j1, j2, some x, j4, j5] (.long x :: st) h Q) ∧
  (∀ (L : pb_L) (J : pb_J) (st : List Value) (x : Int64) (h : pb_H) (Q : Option Value → pb_H → Prop), pb_R 36 66 L J (.long x :: st) h Q ↔ pb_R 36 67 L J (.int x.toInt32 :: st) h Q) ∧
  (∀ (L : pb_L) (J : pb_J) (st : List Value) (h : pb_H) (Q : Option Value → pb_H → Prop) (a : Nat) (i x : Int32), pb_R 36 67 L J (.int x :: .int i :: .ref a :: st) h Q ↔ pb_o (pb_si (h.2 a) i x) (fun c => pb_R 36 68 L J st (pb_set h a c) Q)) ∧
  (∀ (l1 l2 l3 l4 l5 : Option Value) (j0 j1 j2 j3 j4 j5 : Option Int64) (st : List Value) (h : pb_H) (Q : Option Value → pb_H → Prop) (x : Nat), pb_R 36 68 [some (.ref x), l1, l2, l3, l4, l5] [j0, j1, j2, j3, j4, j5] st h Q ↔ pb_R 36 69 [some (.ref x), l1, l2, l3, l4, l5] [j0, j1, j2, j3, j4, j5] (.ref x :: st) h Q) ∧
  (∀ (l1 l2 l3 l4 l5 : Option Value) (j0 j1 j2 j3 j4 j5 : Option Int64) (st : List Value) (h : pb_H) (Q : Option Value → pb_H → Prop), pb_R 36 68 [some .null, l1, l2, l3, l4, l5] [j0, j1, j2, j3, j4, j5] st h Q ↔ pb_R 36 69 [some .null, l1, l2, l3, l4, l5] [j0, j1, j2, j3, j4, j5] (.null :: st) h Q) ∧
  (∀ (L : pb_L) (J : pb_J) (st : List Value) (h : pb_H) (Q : Option Value → pb_H → Prop) (a : Nat), pb_R 36 69 L J (.ref a :: st) h Q ↔ pb_o (pb_gf (h.2 a) 3 3) (fun v => pb_R 36 72 L J (v :: st) h Q)) ∧
  (∀ (L : pb_L) (J : pb_J) (st : List Value) (h : pb_H) (Q : Option Value → pb_H → Prop) (x : Int32), pb_R 36 72 L J (.int x :: st) h Q ↔ if ¬ x = 0 then pb_R 36 77 L J st h Q else pb_R 36 75 L J st h Q) ∧
  (∀ (L : pb_L) (J : pb_J) (st : List Value) (h : pb_H) (Q : Option Value → pb_H → Prop), pb_R 36 75 L J st h Q ↔ pb_R 36 76 L J (.int (0 : Int32) :: st) h Q) ∧
  (∀ (L : pb_L) (J : pb_J) (h : pb_H) (Q : Option Value → pb_H → Prop) (x : Int32), pb_R 36 76 L J [.int x] h Q ↔ narrow .boolean (.int x) = .int x ∧ Q (some (.int x)) h) ∧
  (∀ (l0 l2 l3 l4 l5 : Option Value) (j0 j1 j2 j3 j4 j5 : Option Int64) (st : List Value) (h : pb_H) (Q : Option Value → pb_H → Prop) (x : Nat), pb_R 36 77 [l0, some (.ref x), l2, l3, l4, l5] [j0, j1, j2, j3, j4, j5] st h Q ↔ pb_R 36 78 [l0, some (.ref x), l2, l3, l4, l5] [j0, j1, j2, j3, j4, j5] (.ref x :: st) h Q) ∧
  (∀ (l0 l2 l3 l4 l5 : Option Value) (j0 j1 j2 j3 j4 j5 : Option Int64) (st : List Value) (h : pb_H) (Q : Option Value → pb_H → Prop), pb_R 36 77 [l0, some .null, l2, l3, l4, l5] [j0, j1, j2, j3, j4, j5] st h Q ↔ pb_R 36 78 [l0, some .null, l2, l3, l4, l5] [j0, j1, j2, j3, j4, j5] (.null :: st) h Q) ∧
  (∀ (l0 l1 l3 l4 l5 : Option Value) (j0 j1 j2 j3 j4 j5 : Option Int64) (st : List Value) (h : pb_H) (Q : Option Value → pb_H → Prop) (x : Int32), pb_R 36 78 [l0, l1, some (.int x), l3, l4, l5] [j0, j1, j2, j3, j4, j5] st h Q ↔ pb_R 36 79 [l0, l1, some (.int x), l3, l4, l5] [j0, j1, j2, j3, j4, j5] (.int x :: st) h Q) ∧
  (∀ (L : pb_L) (J : pb_J) (h : pb_H) (Q : Option Value → pb_H → Prop) (x0 : Int32) (x1 : Nat), pb_R 36 79 L J [.int x0, .ref x1] h Q ↔ pb_call 4 [.ref x1, .int x0] h (fun v t => pb_R 36 82 L J (v.toList ++ []) t Q)) ∧
  (∀ (l1 l2 l3 l4 l5 : Option Value) (j0 j1 j2 j3 j4 j5 : Option Int64) (st : List Value) (h : pb_H) (Q : Option Value → pb_H → Prop) (x : Nat), pb_R 36 82 [some (.ref x), l1, l2, l3, l4, l5] [j0, j1, j2, j3, j4, j5] st h Q ↔ pb_R 36 83 [some (.ref x), l1, l2, l3, l4, l5] [j0, j1, j2, j3, j4, j5] (.ref x :: st) h Q) ∧
  (∀ (l1 l2 l3 l4 l5 : Option Value) (j0 j1 j2 j3 j4 j5 : Option Int64) (st : List Value) (h : pb_H) (Q : Option Value → pb_H → Prop), pb_R 36 82 [some .null, l1, l2, l3, l4, l5] [j0, j1, j2, j3, j4, j5] st h Q ↔ pb_R 36 83 [some .null, l1, l2, l3, l4, l5] [j0, j1, j2, j3, j4, j5] (.null :: st) h Q) ∧
  (∀ (L : pb_L) (J : pb_J) (st : List Value) (h : pb_H) (Q : Option Value → pb_H → Prop) (a : Nat), pb_R 36 83 L J (.ref a :: st) h Q ↔ pb_o (pb_gf (h.2 a) 3 3) (fun v => pb_R 36 86 L J (v :: st) h Q)) ∧
  (∀ (L : pb_L) (J : pb_J) (st : List Value) (x y : Int32) (h : pb_H) (Q : Option Value → pb_H → Prop), pb_R 36 86 L J (.int y :: .int x :: st) h Q ↔ pb_R 36 87 L J (.int (x - y) :: st) h Q) ∧
  (∀ (l0 l1 l2 l3 l4 l5 : Option Value) (j0 j1 j2 j3 j4 j5 : Option Int64) (st : List Value) (h : pb_H) (Q : Option Value → pb_H → Prop) (x : Int32), pb_R 36 87 [l0, l1, l2, l3, l4, l5] [j0, j1, j2, j3, j4, j5] (.int x :: st) h Q ↔ pb_R 36 89 [l0, l1, l2, l3, l4, some (.int x)] [j0, j1, j2, j3, none, none] st h Q) ∧
  (∀ (L : pb_L) (J : pb_J) (st : List Value) (h : pb_H) (Q : Option Value → pb_H → Prop) (x : Int32), pb_R 36 91 L J (.int x :: st) h Q ↔ if x < 0 then pb_R 36 119 L J st h Q else pb_R 36 94 L J st h Q) ∧
  (∀ (l1 l2 l3 l4 l5 : Option Value) (j0 j1 j2 j3 j4 j5 : Option Int64) (st : List Value) (h : pb_H) (Q : Option Value → pb_H → Prop) (x : Nat), pb_R 36 94 [some (.ref x), l1, l2, l3, l4, l5] [j0, j1, j2, j3, j4, j5] st h Q ↔ pb_R 36 95 [some (.ref x), l1, l2, l3, l4, l5] [j0, j1, j2, j3, j4, j5] (.ref x :: st) h Q) ∧
  (∀ (l1 l2 l3 l4 l5 : Option Value) (j0 j1 j2 j3 j4 j5 : Option Int64) (st : List Value) (h : pb_H) (Q : Option Value → pb_H → Prop), pb_R 36 94 [some .null, l1, l2, l3, l4, l5] [j0, j1, j2, j3, j4, j5] st h Q ↔ pb_R 36 95 [some .null, l1, l2, l3, l4, l5] [j0, j1, j2, j3, j4, j5] (.null :: st) h Q) ∧
  (∀ (L : pb_L) (J : pb_J) (st : List Value) (h : pb_H) (Q : Option Value → pb_H → Prop) (a : Nat), pb_R 36 95 L J (.ref a :: st) h Q ↔ pb_o (pb_gf (h.2 a) 3 2) (fun v => pb_R 36 98 L J (v :: st) h Q)) ∧
  (∀ (l0 l1 l2 l3 l4 : Option Value) (j0 j1 j2 j3 j4 j5 : Option Int64) (st : List Value) (h : pb_H) (Q : Option Value → pb_H → Prop) (x : Int32), pb_R 36 98 [l0, l1, l2, l3, l4, some (.int x)] [j0, j1, j2, j3, j4, j5] st h Q ↔ pb_R 36 100 [l0, l1, l2, l3, l4, some (.int x)] [j0, j1, j2, j3, j4, j5] (.int x :: st) h Q) ∧
  (∀ (l1 l2 l3 l4 l5 : Option Value) (j0 j1 j2 j3 j4 j5 : Option Int64) (st : List Value) (h : pb_H) (Q : Option Value → pb_H → Prop) (x : Nat), pb_R 36 100 [some (.ref x), l1, l2, l3, l4, l5] [j0, j1, j2, j3, j4, j5] st h Q ↔ pb_R 36 101 [some (.ref x), l1, l2, l3, l4, l5] [j0, j1, j2, j3, j4, j5] (.ref x :: st) h Q) ∧
  (∀ (l1 l2 l3 l4 l5 : Option Value) (j0 j1 j2 j3 j4 j5 : Option Int64) (st : List Value) (h : pb_H) (Q : Option Value → pb_H → Prop), pb_R 36 100 [some .null, l1, l2, l3, l4, l5] [j0, j1, j2, j3, j4, j5] st h Q ↔ pb_R 36 101 [some .null, l1, l2, l3, l4, l5] [j0, j1, j2, j3, j4, j5] (.null :: st) h Q) ∧
  (∀ (l0 l1 l2 l3 l4 : Option Value) (j0 j1 j2 j3 j4 j5 : Option Int64) (st : List Value) (h : pb_H) (Q : Option Value → pb_H → Prop) (x : Int32), pb_R 36 101 [l0, l1, l2, l3, l4, some (.int x)] [j0, j1, j2, j3, j4, j5] st h Q ↔ pb_R 36 103 [l0, l1, l2, l3, l4, some (.int x)] [j0, j1, j2, j3, j4, j5] (.int x :: st) h Q) ∧
  (∀ (l1 l2 l3 l4 l5 : Option Value) (j0 j1 j2 j3 j4 j5 : Option Int64) (st : List Value) (h : pb_H) (Q : Option Value → pb_H → Prop) (x : Nat), pb_R 36 103 [some (.ref x), l1, l2, l3, l4, l5] [j0, j1, j2, j3, j4, j5] st h Q ↔ pb_R 36 104 [some (.ref x), l1, l2, l3, l4, l5] [j0, j1, j2, j3, j4, j5] (.ref x :: st) h Q) ∧
  (∀ (l1 l2 l3 l4 l5 : Option Value) (j0 j1 j2 j3 j4 j5 : Option Int64) (st : List Value) (h : pb_H) (Q : Option Value → pb_H → Prop), pb_R 36 103 [some .null, l1, l2, l3, l4, l5] [j0, j1, j2, j3, j4, j5] st h Q ↔ pb_R 36 104 [some .null, l1, l2, l3, l4, l5] [j0, j1, j2, j3, j4, j5] (.null :: st) h Q) ∧
  (∀ (l0 l1 l2 l3 l4 : Option Value) (j0 j1 j2 j3 j4 j5 : Option Int64) (st : List Value) (h : pb_H) (Q : Option Value → pb_H → Prop) (x : Int32), pb_R 36 104 [l0, l1, l2, l3, l4, some (.int x)] [j0, j1, j2, j3, j4, j5] st h Q ↔ pb_R 36 106 [l0, l1, l2, l3, l4, some (.int x)] [j0, j1, j2, j3, j4, j5] (.int x :: st) h Q) ∧
  (∀ (L : pb_L) (J : pb_J) (h : pb_H) (Q : Option Value → pb_H → Prop) (x0 : Int32) (x1 : Nat) (x2 : Int32) (x3 : Nat) (x4 : Int32) (x5 : Nat), pb_R 36 106 L J [.int x0, .ref x1, .int x2, .ref x3, .int x4, .ref x5] h Q ↔ pb_is0 (h.2 x1) 3 = true ∧ pb_call 33 [.ref x1, .int x0] h (fun v t => pb_R 36 109 L J (v.toList ++ [.int x2, .ref x3, .int x4, .ref x5]) t Q)) ∧
  (∀ (L : pb_L) (J : pb_J) (h : pb_H) (Q : Option Value → pb_H → Prop) (x0 : Int64) (x1 : Int32) (x2 : Nat) (x3 : Int32) (x4 : Nat), pb_R 36 109 L J [.long x0, .int x1, .ref x2, .int x3, .ref x4] h Q ↔ pb_is0 (h.2 x2) 3 = true ∧ pb_call 34 [.ref x2, .int x1, .long x0] h (fun v t => pb_R 36 112 L J (v.toList ++ [.int x3, .ref x4]) t Q)) ∧
  (∀ (L : pb_L) (J : pb_J) (st : List Value) (h : pb_H) (Q : Option Value → pb_H → Prop) (a : Nat) (i x : Int32), pb_R 36 112 L J (.int x :: .int i :: .ref a :: st) h Q ↔ pb_o (pb_si (h.2 a) i x) (fun c => pb_R 36 113 L J st (pb_set h a c) Q)) ∧
  (∀ (l0 l1 l2 l3 l4 : Option Value) (j0 j1 j2 j3 j4 j5 : Option Int64) (st : List Value) (h : pb_H) (Q : Option Value → pb_H → Prop) (x : Int32), pb_R 36 113 [l0, l1, l2, l3, l4, some (.int x)] [j0, j1, j2, j3, j4, j5] st h Q ↔ pb_R 36 116 [l0, l1, l2, l3, l4, some (.int (x + (-1 : Int32)))] [j0, j1, j2, j3, none, none] st h Q) ∧
  (∀ (L : pb_L) (J : pb_J) (st : List Value) (h : pb_H) (Q : Option Value → pb_H → Prop), pb_R 36 116 L J st h Q ↔ pb_R 36 89 L J st h Q) ∧
  (∀ (l1 l2 l3 l4 l5 : Option Value) (j0 j1 j2 j3 j4 j5 : Option Int64) (st : List Value) (h : pb_H) (Q : Option Value → pb_H → Prop) (x : Nat), pb_R 36 119 [some (.ref x), l1, l2, l3, l4, l5] [j0, j1, j2, j3, j4, j5] st h Q ↔ pb_R 36 120 [some (.ref x), l1, l2, l3, l4, l5] [j0, j1, j2, j3, j4, j5] (.ref x :: st) h Q) ∧
  (∀ (l1 l2 l3 l4 l5 : Option Value) (j0 j1 j2 j3 j4 j5 : Option Int64) (st : List Value) (h : pb_H) (Q : Option Value → pb_H → Prop), pb_R 36 119 [some .null, l1, l2, l3, l4, l5] [j0, j1, j2, j3, j4, j5] st h Q ↔ pb_R 36 120 [some .null, l1, l2, l3, l4, l5] [j0, j1, j2, j3, j4, j5] (.null :: st) h Q) ∧
  (∀ (L : pb_L) (J : pb_J) (h : pb_H) (Q : Option Value → pb_H → Prop) (x0 : Nat), pb_R 36 120 L J [.ref x0] h Q ↔ pb_is0 (h.2 x0) 3 = true ∧ pb_call 35 [.ref x0] h (fun v t => pb_R 36 123 L J (v.toList ++ []) t Q)) ∧
  (∀ (L : pb_L) (J : pb_J) (h : pb_H) (Q : Option Value → pb_H → Prop) (x : Int32), pb_R 36 123 L J [.int x] h Q ↔ narrow .boolean (.int x) = .int x ∧ Q (some (.int x)) h) := ⟨
  fun l1 l2 l3 l4 l5 j0 j1 j2 j3 j4 j5 st h Q x => pf_S pb_u_36 rfl rfl,
  fun l1 l2 l3 l4 l5 j0 j1 j2 j3 j4 j5 st h Q => pf_S pb_u_36 rfl rfl,
  fun L J st h Q a => pf_gf pb_u_36 rfl rfl,
  fun L J st h Q => pf_S pb_u_36 rfl rfl,
  fun L J h Q x0 x1 => pf_ks pb_u_36 rfl rfl rfl rfl,
  fun L J st h Q => pf_S pb_u_36 rfl rfl,
  fun l0 l1 l2 l3 l4 l5 j0 j1 j2 j3 j4 j5 st h Q x => pf_S pb_u_36 rfl rfl,
  fun L J st h Q => pf_S pb_u_36 rfl rfl,
  fun l0 l1 l2 l3 l4 l5 j0 j1 j2 j3 j4 j5 st h Q x => pf_S pb_u_36 rfl rfl,
  fun L J st h Q => pf_S pb_u_36 rfl rfl,
  fun L J st h Q x y => pf_ic pb_u_36 rfl rfl rfl,
  fun l0 l1 l2 l3 l4 l5 j0 j1 j2 j4 j5 st h Q x => pf_S pb_u_36 rfl rfl,
  fun l0 l2 l3 l4 l5 j0 j1 j2 j3 j4 j5 st h Q x => pf_S pb_u_36 rfl rfl,
  fun l0 l2 l3 l4 l5 j0 j1 j2 j3 j4 j5 st h Q => pf_S pb_u_36 rfl rfl,
  fun l0 l1 l3 l4 l5 j0 j1 j2 j3 j4 j5 st h Q x => pf_S pb_u_36 rfl rfl,
  fun l0 l1 l2 l3 l4 j0 j1 j2 j3 j4 j5 st h Q x => pf_S pb_u_36 rfl rfl,
  fun L J st x y h Q => pf_S pb_u_36 rfl rfl,
  fun L J st h Q a i => pf_ai pb_u_36 rfl rfl,
  fun L J st x h Q => pf_S pb_u_36 rfl rfl,
  fun L J st h Q => pf_S pb_u_36 rfl rfl,
  fun L J st x y h Q => pf_S pb_u_36 rfl rfl,
  fun l1 l2 l3 l4 l5 j0 j1 j2 j3 j4 j5 st h Q x => pf_S pb_u_36 rfl rfl,
  fun l1 l2 l3 l4 l5 j0 j1 j2 j3 j4 j5 st h Q => pf_S pb_u_36 rfl rfl,
  fun L J st h Q a => pf_gf pb_u_36 rfl rfl,
  fun L J st x y h Q => pf_S pb_u_36 rfl rfl,
  fun L J st x y h Q => pf_S pb_u_36 rfl rfl,
  fun l0 l1 l2 l3 l4 l5 j0 j1 j2 j3 j4 j5 st h Q x => pf_S pb_u_36 rfl rfl,
  fun l1 l2 l3 l4 l5 j0 j1 j2 j3 j4 j5 st h Q x => pf_S pb_u_36 rfl rfl,
  fun l1 l2 l3 l4 l5 j0 j1 j2 j3 j4 j5 st h Q => pf_S pb_u_36 rfl rfl,
  fun L J st h Q a => pf_gf pb_u_36 rfl rfl,
  fun l0 l1 l2 l3 l4 j0 j1 j2 j3 j4 j5 st h Q x => pf_S pb_u_36 rfl rfl,
  fun l0 l1 l2 l3 l4 l5 j0 j1 j2 j4 j5 st h Q x => pf_S pb_u_36 rfl rfl,
  fun L J st x h Q => pf_S pb_u_36 rfl rfl,
  fun L J st h Q a i x => pf_si pb_u_36 rfl rfl,
  fun l0 l1 l2 l3 l4 l5 j0 j1 j2 j4 j5 st h Q x => pf_S pb_u_36 rfl rfl,
  fun L J st h Q => pf_S pb_u_36 rfl rfl,
  fun L J st x y h Q => pf_S pb_u_36 rfl rfl,
  fun l0 l1 l2 l3 l4 l5 j0 j1 j2 j3 j4 j5 st h Q x => pf_S pb_u_36 rfl rfl,
  fun l0 l1 l2 l3 l4 j0 j1 j2 j3 j4 j5 st h Q x => pf_S pb_u_36 rfl rfl,
  fun L J st h Q => pf_S pb_u_36 rfl rfl,
  fun l1 l2 l3 l4 l5 j0 j1 j2 j3 j4 j5 st h Q x => pf_S pb_u_36 rfl rfl,
  fun l1 l2 l3 l4 l5 j0 j1 j2 j3 j4 j5 st h Q => pf_S pb_u_36 rfl rfl,
  fun L J st h Q a => pf_gf pb_u_36 rfl rfl,
  fun L J st h Q => pf_S pb_u_36 rfl rfl,
  fun l0 l1 l2 l3 l4 l5 j0 j1 j2 j4 j5 st h Q x => pf_S pb_u_36 rfl rfl,
  fun L J st x h Q => pf_S pb_u_36 rfl rfl,
  fun L J st h Q a i x => pf_si pb_u_36 rfl rfl,
  fun l1 l2 l3 l4 l5 j0 j1 j2 j3 j4 j5 st h Q x => pf_S pb_u_36 rfl rfl,
  fun l1 l2 l3 l4 l5 j0 j1 j2 j3 j4 j5 st h Q => pf_S pb_u_36 rfl rfl,
  fun L J st h Q a => pf_gf pb_u_36 rfl rfl,
  fun L J st h Q x => pf_ii pb_u_36 rfl rfl pf_ne,
  fun L J st h Q => pf_S pb_u_36 rfl rfl,
  fun L J h Q x => pf_rz pb_u_36 rfl rfl,
  fun l0 l2 l3 l4 l5 j0 j1 j2 j3 j4 j5 st h Q x => pf_S pb_u_36 rfl rfl,
  fun l0 l2 l3 l4 l5 j0 j1 j2 j3 j4 j5 st h Q => pf_S pb_u_36 rfl rfl,
  fun l0 l1 l3 l4 l5 j0 j1 j2 j3 j4 j5 st h Q x => pf_S pb_u_36 rfl rfl,
  fun L J h Q x0 x1 => pf_ks pb_u_36 rfl rfl rfl rfl,
  fun l1 l2 l3 l4 l5 j0 j1 j2 j3 j4 j5 st h Q x => pf_S pb_u_36 rfl rfl,
  fun l1 l2 l3 l4 l5 j0 j1 j2 j3 j4 j5 st h Q => pf_S pb_u_36 rfl rfl,
  fun L J st h Q a => pf_gf pb_u_36 rfl rfl,
  fun L J st x y h Q => pf_S pb_u_36 rfl rfl,
  fun l0 l1 l2 l3 l4 l5 j0 j1 j2 j3 j4 j5 st h Q x => pf_S pb_u_36 rfl rfl,
  fun L J st h Q x => pf_ii pb_u_36 rfl rfl rfl,
  fun l1 l2 l3 l4 l5 j0 j1 j2 j3 j4 j5 st h Q x => pf_S pb_u_36 rfl rfl,
  fun l1 l2 l3 l4 l5 j0 j1 j2 j3 j4 j5 st h Q => pf_S pb_u_36 rfl rfl,
  fun L J st h Q a => pf_gf pb_u_36 rfl rfl,
  fun l0 l1 l2 l3 l4 j0 j1 j2 j3 j4 j5 st h Q x => pf_S pb_u_36 rfl rfl,
  fun l1 l2 l3 l4 l5 j0 j1 j2 j3 j4 j5 st h Q x => pf_S pb_u_36 rfl rfl,
  fun l1 l2 l3 l4 l5 j0 j1 j2 j3 j4 j5 st h Q => pf_S pb_u_36 rfl rfl,
  fun l0 l1 l2 l3 l4 j0 j1 j2 j3 j4 j5 st h Q x => pf_S pb_u_36 rfl rfl,
  fun l1 l2 l3 l4 l5 j0 j1 j2 j3 j4 j5 st h Q x => pf_S pb_u_36 rfl rfl,
  fun l1 l2 l3 l4 l5 j0 j1 j2 j3 j4 j5 st h Q => pf_S pb_u_36 rfl rfl,
  fun l0 l1 l2 l3 l4 j0 j1 j2 j3 j4 j5 st h Q x => pf_S pb_u_36 rfl rfl,
  fun L J h Q x0 x1 x2 x3 x4 x5 => pf_kv pb_u_36 rfl pb_ci_33 rfl ⟨Nat.le_of_ble_eq_true rfl, Nat.le_of_ble_eq_true rfl, Nat.le_of_ble_eq_true rfl, Nat.le_of_ble_eq_true rfl, rfl⟩ rfl rfl,
  fun L J h Q x0 x1 x2 x3 x4 => pf_kv pb_u_36 rfl pb_ci_34 rfl ⟨Nat.le_of_ble_eq_true rfl, Nat.le_of_ble_eq_true rfl, Nat.le_of_ble_eq_true rfl, Nat.le_of_ble_eq_true rfl, rfl⟩ rfl rfl,
  fun L J st h Q a i x => pf_si pb_u_36 rfl rfl,
  fun l0 l1 l2 l3 l4 j0 j1 j2 j3 j4 j5 st h Q x => pf_S pb_u_36 rfl rfl,
  fun L J st h Q => pf_S pb_u_36 rfl rfl,
  fun l1 l2 l3 l4 l5 j0 j1 j2 j3 j4 j5 st h Q x => pf_S pb_u_36 rfl rfl,
  fun l1 l2 l3 l4 l5 j0 j1 j2 j3 j4 j5 st h Q => pf_S pb_u_36 rfl rfl,
  fun L J h Q x0 => pf_kv pb_u_36 rfl pb_ci_35 rfl ⟨Nat.le_of_ble_eq_true rfl, Nat.le_of_ble_eq_true rfl, Nat.le_of_ble_eq_true rfl, Nat.le_of_ble_eq_true rfl, rfl⟩ rfl rfl,
  fun L J h Q x => pf_rz pb_u_36 rfl rfl⟩
theorem pb_c36 (x0 : Nat) (x1 : Nat) (x2 : Int32) (h : pb_H) (Q : Option Value → pb_H → Prop) : pb_call 36 [.ref x0, .ref x1, .int x2] h Q ↔ pb_R 36 0 [some (.ref x0), some (.ref x1), some (.int x2), none, none, none] [none, none, none, none, none, none] [] h Q := Iff.rfl
/-! 37: PlaneBench$Divider.putRoundedUp([IIZ)V -/
theorem pb_u_37 : pb_t 37 = pb_t37 := rfl
theorem pb_ci_37 : pb_ci 37 = 3 := by decide +kernel
set_option maxRecDepth 100000 in
theorem pb_q37_14 (l0 l1 l2 l3 l4 l5 : Option Value) (j0 j1 j2 j3 j4 j5 j6 : Option Int64) (st : List Value) (h : pb_H) (Q : Option Value → pb_H → Prop) (x : Int32) : pb_R 37 14 [l0, l1, l2, l3, l4, l5, some (.int x)] [j0, j1, j2, j3, j4, j5, j6] st h Q ↔ pb_R 37 16 [l0, l1, l2, l3, l4, l5, some (.int x)] [j0, j1, j2, j3, j4, j5, j6] (.int x :: st) h Q := pf_S pb_u_37 rfl rfl
set_option maxRecDepth 100000 in
theorem pb_e37 : (∀ (l0 l1 l2 l4 l5 l6 : Option Value) (j0 j1 j2 j3 j4 j5 j6 : Option Int64) (st : List Value) (h : pb_H) (Q : Option Value → pb_H → Prop) (x : Int32), pb_R 37 0 [l0, l1, l2, some (.int x), l4, l5, l6] [j0, j1, j2, j3, j4, j5, j6] st h Q ↔ pb_R 37 1 [l0, l1, l2, some (.int x), l4, l5, l6] [j0, j1, j2, j3, j4, j5, j6] (.int x :: st) h Q) ∧
  (∀ (L : pb_L) (J : pb_J) (st : List Value) (h : pb_H) (Q : Option Value → pb_H → Prop) (x : Int32), pb_R 37 1 L J (.int x :: st) h Q ↔ if x = 0 then pb_R 37 8 L J st h Q else pb_R 37 4 L J st h Q) ∧
  (∀ (L : pb_L) (J : pb_J) (st : List Value) (h : pb_H) (Q : Option Value → pb_H → Prop), pb_R 37 4 L J st h Q ↔ pb_R 37 5 L J (.long (1 : Int64) :: st) h Q) ∧
  (∀ (L : pb_L) (J : pb_J) (st : List Value) (h : pb_H) (Q : Option Value → pb_H → Prop), pb_R 37 5 L J st h Q ↔ pb_R 37 9 L J st h Q) ∧
  (∀ (L : pb_L) (J : pb_J) (st : List Value) (h : pb_H) (Q : Option Value → pb_H → Prop), pb_R 37 8 L J st h Q ↔ pb_R 37 9 L J (.long (0 : Int64) :: st) h Q) ∧
  (∀ (l0 l1 l2 l3 l4 l5 l6 : Option Value) (j0 j1 j2 j3 j4 j5 j6 : Option Int64) (st : List Value) (h : pb_H) (Q : Option Value → pb_H → Prop) (x : Int64), pb_R 37 9 [l0, l1, l2, l3, l4, l5, l6] [j0, j1, j2, j3, j4, j5, j6] (.long x :: st) h Q ↔ pb_R 37 11 [l0, l1, l2, l3, none, none, l6] [j0, j1, j2, none, some x, none, j6] st h Q) ∧
  (∀ (L : pb_L) (J : pb_J) (st : List Value) (h : pb_H) (Q : Option Value → pb_H → Prop), pb_R 37 11 L J st h Q ↔ pb_R 37 12 L J (.int (0 : Int32) :: st) h Q) ∧
  (∀ (l0 l1 l2 l3 l4 l5 l6 : Option Value) (j0 j1 j2 j3 j4 j5 j6 : Option Int64) (st : List Value) (h : pb_H) (Q : Option Value → pb_H → Prop) (x : Int32), pb_R 37 12 [l0, l1, l2, l3, l4, l5, l6] [j0, j1, j2, j3, j4, j5, j6] (.int x :: st) h Q ↔ pb_R 37 14 [l0, l1, l2, l3, l4, l5, some (.int x)] [j0, j1, j2, j3, j4, none, none] st h Q) ∧
  (∀ (L : pb_L) (J : pb_J) (st : List Value) (h : pb_H) (Q : Option Value → pb_H → Prop), pb_R 37 16 L J st h Q ↔ pb_R 37 18 L J (.int (8 : Int32) :: st) h Q) ∧
  (∀ (L : pb_L) (J : pb_J) (st : List Value) (h : pb_H) (Q : Option Value → pb_H → Prop) (x y : Int32), pb_R 37 18 L J (.int y :: .int x :: st) h Q ↔ if y ≤ x then pb_R 37 60 L J st h Q else pb_R 37 21 L J st h Q) ∧
  (∀ (l0 l1 l2 l3 l4 l5 l6 : Option Value) (j0 j1 j2 j3 j5 j6 : Option Int64) (st : List Value) (h : pb_H) (Q : Option Value → pb_H → Prop) (x : Int64), pb_R 37 21 [l0, l1, l2, l3, l4, l5, l6] [j0, j1, j2, j3, some x, j5, j6] st h Q ↔ pb_R 37 23 [l0, l1, l2, l3, l4, l5, l6] [j0, j1, j2, j3, some x, j5, j6] (.long x :: st) h Q) ∧
  (∀ (l1 l2 l3 l4 l5 l6 : Option Value) (j0 j1 j2 j3 j4 j5 j6 : Option Int64) (st : List Value) (h : pb_H) (Q : Option Value → pb_H → Prop) (x : Nat), pb_R 37 23 [some (.ref x), l1, l2, l3, l4, l5, l6] [j0, j1, j2, j3, j4, j5, j6] st h Q ↔ pb_R 37 24 [some (.ref x), l1, l2, l3, l4, l5, l6] [j0, j1, j2, j3, j4, j5, j6] (.ref x :: st) h Q) ∧
  (∀ (l1 l2 l3 l4 l5 l6 : Option Value) (j0 j1 j2 j3 j4 j5 j6 : Option Int64) (st : List Value) (h : pb_H) (Q : Option Value → pb_H → Prop), pb_R 37 23 [some .null, l1, l2, l3, l4, l5, l6] [j0, j1, j2, j3, j4, j5, j6] st h Q ↔ pb_R 37 24 [some .null, l1, l2, l3, l4, l5, l6] [j0, j1, j2, j3, j4, j5, j6] (.null :: st) h Q) ∧
  (∀ (L : pb_L) (J : pb_J) (st : List Value) (h : pb_H) (Q : Option Value → pb_H → Prop) (a : Nat), pb_R 37 24 L J (.ref a :: st) h Q ↔ pb_o (pb_gf (h.2 a) 3 2) (fun v => pb_R 37 27 L J (v :: st) h Q)) ∧
  (∀ (l0 l1 l2 l3 l4 l5 : Option Value) (j0 j1 j2 j3 j4 j5 j6 : Option Int64) (st : List Value) (h : pb_H) (Q : Option Value → pb_H → Prop) (x : Int32), pb_R 37 27 [l0, l1, l2, l3, l4, l5, some (.int x)] [j0, j1, j2, j3, j4, j5, j6] st h Q ↔ pb_R 37 29 [l0, l1, l2, l3, l4, l5, some (.int x)] [j0, j1, j2, j3, j4, j5, j6] (.int x :: st) h Q) ∧
  (∀ (L : pb_L) (J : pb_J) (st : List Value) (h : pb_H) (Q : Option Value → pb_H → Prop) (a : Nat) (i : Int32), pb_R 37 29 L J (.int i :: .ref a :: st) h Q ↔ pb_o (pb_ai (h.2 a) i) (fun v => pb_R 37 30 L J (.int v :: st) h Q)) ∧
  (∀ (L : pb_L) (J : pb_J) (st : List Value) (x : Int32) (h : pb_H) (Q : Option Value → pb_H → Prop), pb_R 37 30 L J (.int x :: st) h Q ↔ pb_R 37 31 L J (.long x.toInt64 :: st) h Q) ∧
  (∀ (L : pb_L) (J : pb_J) (st : List Value) (h : pb_H) (Q : Option Value → pb_H → Prop), pb_R 37 31 L J st h Q ↔ pb_R 37 34 L J (.long (4294967295 : Int64) :: st) h Q) ∧
  (∀ (L : pb_L) (J : pb_J) (st : List Value) (x y : Int64) (h : pb_H) (Q : Option Value → pb_H → Prop), pb_R 37 34 L J (.long y :: .long x :: st) h Q ↔ pb_R 37 35 L J (.long (x &&& y) :: st) h Q) ∧
  (∀ (L : pb_L) (J : pb_J) (st : List Value) (x y : Int64) (h : pb_H) (Q : Option Value → pb_H → Prop), pb_R 37 35 L J (.long y :: .long x :: st) h Q ↔ pb_R 37 36 L J (.long (x + y) :: st) h Q) ∧
  (∀ (l0 l1 l2 l3 l4 l5 l6 : Option Value) (j0 j1 j2 j3 j4 j5 j6 : Option Int64) (st : List Value) (h : pb_H) (Q : Option Value → pb_H → Prop) (x : Int64), pb_R 37 36 [l0, l1, l2, l3, l4, l5, l6] [j0, j1, j2, j3, j4, j5, j6] (.long x :: st) h Q ↔ pb_R 37 38 [l0, l1, l2, l3, none, none, l6] [j0, j1, j2, none, some x, none, j6] st h Q) ∧
  (∀ (l0 l2 l3 l4 l5 l6 : Option Value) (j0 j1 j2 j3 j4 j5 j6 : Option Int64) (st : List Value) (h : pb_H) (Q : Option Value → pb_H → Prop) (x : Nat), pb_R 37 38 [l0, some (.ref x), l2, l3, l4, l5, l6] [j0, j1, j2, j3, j4, j5, j6] st h Q ↔ pb_R 37 39 [l0, some (.ref x), l2, l3, l4, l5, l6] [j0, j1, j2, j3, j4, j5, j6] (.ref x :: st) h Q) ∧
  (∀ (l0 l2 l3 l4 l5 l6 : Option Value) (j0 j1 j2 j3 j4 j5 j6 : Option Int64) (st : List Value) (h : pb_H) (Q : Option Value → pb_H → Prop), pb_R 37 38 [l0, some .null, l2, l3, l4, l5, l6] [j0, j1, j2, j3, j4, j5, j6] st h Q ↔ pb_R 37 39 [l0, some .null, l2, l3, l4, l5, l6] [j0, j1, j2, j3, j4, j5, j6] (.null :: st) h Q) ∧
  (∀ (l0 l1 l3 l4 l5 l6 : Option Value) (j0 j1 j2 j3 j4 j5 j6 : Option Int64) (st : List Value) (h : pb_H) (Q : Option Value → pb_H → Prop) (x : Int32), pb_R 37 39 [l0, l1, some (.int x), l3, l4, l5, l6] [j0, j1, j2, j3, j4, j5, j6] st h Q ↔ pb_R 37 40 [l0, l1, some (.int x), l3, l4, l5, l6] [j0, j1, j2, j3, j4, j5, j6] (.int x :: st) h Q) ∧
  (∀ (l0 l1 l2 l3 l4 l5 : Option Value) (j0 j1 j2 j3 j4 j5 j6 : Option Int64) (st : List Value) (h : pb_H) (Q : Option Value → pb_H → Prop) (x : Int32), pb_R 37 40 [l0, l1, l2, l3, l4, l5, some (.int x)] [j0, j1, j2, j3, j4, j5, j6] st h Q ↔ pb_R 37 42 [l0, l1, l2, l3, l4, l5, some (.int x)] [j0, j1, j2, j3, j4, j5, j6] (.int x :: st) h Q) ∧
  (∀ (L : pb_L) (J : pb_J) (st : List Value) (x y : Int32) (h : pb_H) (Q : Option Value → pb_H → Prop), pb_R 37 42 L J (.int y :: .int x :: st) h Q ↔ pb_R 37 43 L J (.int (x + y) :: st) h Q) ∧
  (∀ (l0 l1 l2 l3 l4 l5 l6 : Option Value) (j0 j1 j2 j3 j5 j6 : Option Int64) (st : List Value) (h : pb_H) (Q : Option Value → pb_H → Prop) (x : Int64), pb_R 37 43 [l0, l1, l2, l3, l4, l5, l6] [j0, j1, j2, j3, some x, j5, j6] st h Q ↔ pb_R 37 45 [l0, l1, l2, l3, l4, l5, l6] [j0, j1, j2, j3, some x, j5, j6] (.long x :: st) h Q) ∧
  (∀ (L : pb_L) (J : pb_J) (st : List Value) (x : Int64) (h : pb_H) (Q : Option Value → pb_H → Prop), pb_R 37 45 L J (.long x :: st) h Q ↔ pb_R 37 46 L J (.int x.toInt32 :: st) h Q) ∧
  (∀ (L : pb_L) (J : pb_J) (st : List Value) (h : pb_H) (Q : Option Value → pb_H → Prop) (a : Nat) (i x : Int32), pb_R 37 46 L J (.int x :: .int i :: .ref a :: st) h Q ↔ pb_o (pb_si (h.2 a) i x) (fun c => pb_R 37 47 L J st (pb_set h a c) Q)) ∧
  (∀ (l0 l1 l2 l3 l4 l5 l6 : Option Value) (j0 j1 j2 j3 j5 j6 : Option Int64) (st : List Value) (h : pb_H) (Q : Option Value → pb_H → Prop) (x : Int64), pb_R 37 47 [l0, l1, l2, l3, l4, l5, l6] [j0, j1, j2, j3, some x, j5, j6] st h Q ↔ pb_R 37 49 [l0, l1, l2, l3, l4, l5, l6] [j0, j1, j2, j3, some x, j5, j6] (.long x :: st) h Q) ∧
  (∀ (L : pb_L) (J : pb_J) (st : List Value) (h : pb_H) (Q : Option Value → pb_H → Prop), pb_R 37 49 L J st h Q ↔ pb_R 37 51 L J (.int (32 : Int32) :: st) h Q) ∧
  (∀ (L : pb_L) (J : pb_J) (st : List Value) (x : Int64) (y : Int32) (h : pb_H) (Q : Option Value → pb_H → Prop), pb_R 37 51 L J (.int y :: .long x :: st) h Q ↔ pb_R 37 52 L J (.long (x.toUInt64 >>> (y.toInt64.toUInt64 &&& Int64.toUInt64 63)).toInt64 :: st) h Q) ∧
  (∀ (l0 l1 l2 l3 l4 l5 l6 : Option Value) (j0 j1 j2 j3 j4 j5 j6 : Option Int64) (st : List Value) (h : pb_H) (Q : Option Value → pb_H → Prop) (x : Int64), pb_R 37 52 [l0, l1, l2, l3, l4, l5, l6] [j0, j1, j2, j3, j4, j5, j6] (.long x :: st) h Q ↔ pb_R 37 54 [l0, l1, l2, l3, none, none, l6] [j0, j1, j2, none, some x, none, j6] st h Q) ∧
  (∀ (l0 l1 l2 l3 l4 l5 : Option Value) (j0 j1 j2 j3 j4 j5 j6 : Option Int64) (st : List Value) (h : pb_H) (Q : Option Value → pb_H → Prop) (x : Int32), pb_R 37 54 [l0, l1, l2, l3, l4, l5, some (.int x)] [j0, j1, j2, j3, j4, j5, j6] st h Q ↔ pb_R 37 57 [l0, l1, l2, l3, l4, l5, some (.int (x + (1 : Int32)))] [j0, j1, j2, j3, j4, none, none] st h Q) ∧
  (∀ (L : pb_L) (J : pb_J) (st : List Value) (h : pb_H) (Q : Option Value → pb_H → Prop), pb_R 37 57 L J st h Q ↔ pb_R 37 14 L J st h Q) ∧
  (∀ (L : pb_L) (J : pb_J) (h : pb_H) (Q : Option Value → pb_H → Prop), pb_R 37 60 L J [] h Q ↔ Q none h) := ⟨
  fun l0 l1 l2 l4 l5 l6 j0 j1 j2 j3 j4 j5 j6 st h Q x => pf_S pb_u_37 rfl rfl,
  fun L J st h Q x => pf_ii pb_u_37 rfl rfl rfl,
  fun L J st h Q => pf_S pb_u_37 rfl rfl,
  fun L J st h Q => pf_S pb_u_37 rfl rfl,
  fun L J st h Q => pf_S pb_u_37 rfl rfl,
  fun l0 l1 l2 l3 l4 l5 l6 j0 j1 j2 j3 j4 j5 j6 st h Q x => pf_S pb_u_37 rfl rfl,
  fun L J st h Q => pf_S pb_u_37 rfl rfl,
  fun l0 l1 l2 l3 l4 l5 l6 j0 j1 j2 j3 j4 j5 j6 st h Q x => pf_S pb_u_37 rfl rfl,
  fun L J st h Q => pf_S pb_u_37 rfl rfl,
  fun L J st h Q x y => pf_ic pb_u_37 rfl rfl rfl,
  fun l0 l1 l2 l3 l4 l5 l6 j0 j1 j2 j3 j5 j6 st h Q x => pf_S pb_u_37 rfl rfl,
  fun l1 l2 l3 l4 l5 l6 j0 j1 j2 j3 j4 j5 j6 st h Q x => pf_S pb_u_37 rfl rfl,
  fun l1 l2 l3 l4 l5 l6 j0 j1 j2 j3 j4 j5 j6 st h Q => pf_S pb_u_37 rfl rfl,
  fun L J st h Q a => pf_gf pb_u_37 rfl rfl,
  fun l0 l1 l2 l3 l4 l5 j0 j1 j2 j3 j4 j5 j6 st h Q x => pf_S pb_u_37 rfl rfl,
  fun L J st h Q a i => pf_ai pb_u_37 rfl rfl,
  fun L J st x h Q => pf_S pb_u_37 rfl rfl,
  fun L J st h Q => pf_S pb_u_37 rfl rfl,
  fun L J st x y h Q => pf_S pb_u_37 rfl rfl,
  fun L J st x y h Q => pf_S pb_u_37 rfl rfl,
  fun l0 l1 l2 l3 l4 l5 l6 j0 j1 j2 j3 j4 j5 j6 st h Q x => pf_S pb_u_37 rfl rfl,
  fun l0 l2 l3 l4 l5 l6 j0 j1 j2 j3 j4 j5 j6 st h Q x => pf_S pb_u_37 rfl rfl,
  fun l0 l2 l3 l4 l5 l6 j0 j1 j2 j3 j4 j5 j6 st h Q => pf_S pb_u_37 rfl rfl,
  fun l0 l1 l3 l4 l5 l6 j0 j1 j2 j3 j4 j5 j6 st h Q x => pf_S pb_u_37 rfl rfl,
  fun l0 l1 l2 l3 l4 l5 j0 j1 j2 j3 j4 j5 j6 st h Q x => pf_S pb_u_37 rfl rfl,
  fun L J st x y h Q => pf_S pb_u_37 rfl rfl,
  fun l0 l1 l2 l3 l4 l5 l6 j0 j1 j2 j3 j5 j6 st h Q x => pf_S pb_u_37 rfl rfl,
  fun L J st x h Q => pf_S pb_u_37 rfl rfl,
  fun L J st h Q a i x => pf_si pb_u_37 rfl rfl,
  fun l0 l1 l2 l3 l4 l5 l6 j0 j1 j2 j3 j5 j6 st h Q x => pf_S pb_u_37 rfl rfl,
  fun L J st h Q => pf_S pb_u_37 rfl rfl,
  fun L J st x y h Q => pf_S pb_u_37 rfl rfl,
  fun l0 l1 l2 l3 l4 l5 l6 j0 j1 j2 j3 j4 j5 j6 st h Q x => pf_S pb_u_37 rfl rfl,
  fun l0 l1 l2 l3 l4 l5 j0 j1 j2 j3 j4 j5 j6 st h Q x => pf_S pb_u_37 rfl rfl,
  fun L J st h Q => pf_S pb_u_37 rfl rfl,
  fun L J h Q => pf_rv pb_u_37 rfl rfl⟩
theorem pb_c37 (x0 : Nat) (x1 : Nat) (x2 : Int32) (x3 : Int32) (h : pb_H) (Q : Option Value → pb_H → Prop) : pb_call 37 [.ref x0, .ref x1, .int x2, .int x3] h Q ↔ pb_R 37 0 [some (.ref x0), some (.ref x1), some (.int x2), some (.int x3), none, none, none] [none, none, none, none, none, none, none] [] h Q := Iff.rfl
/-! 38: PlaneBench$Line.topIsEmpty()Z -/
theorem pb_u_38 : pb_t 38 = pb_t38 := rfl
theorem pb_ci_38 : pb_ci 38 = 4 := by decide +kernel
set_option maxRecDepth 100000 in
theorem pb_q38_7 (l0 : Option Value) (st : List Value) (h : pb_H) (Q : Option Value → pb_H → Prop) (x : Int32) : pb_R 38 7 [l0, some (.int x)] [] st h Q ↔ pb_R 38 8 [l0, some (.int x)] [] (.int x :: st) h Q := pf_S pb_u_38 rfl rfl
set_option maxRecDepth 100000 in
theorem pb_e38 : (∀ (l1 : Option Value) (st : List Value) (h : pb_H) (Q : Option Value → pb_H → Prop) (x : Nat), pb_R 38 0 [some (.ref x), l1] [] st h Q ↔ pb_R 38 1 [some (.ref x), l1] [] (.ref x :: st) h Q) ∧
  (∀ (l1 : Option Value) (st : List Value) (h : pb_H) (Q : Option Value → pb_H → Prop), pb_R 38 0 [some .null, l1] [] st h Q ↔ pb_R 38 1 [some .null, l1] [] (.null :: st) h Q) ∧
  (∀ (L : pb_L) (J : pb_J) (st : List Value) (h : pb_H) (Q : Option Value → pb_H → Prop) (a : Nat), pb_R 38 1 L J (.ref a :: st) h Q ↔ pb_o (pb_gf (h.2 a) 4 4) (fun v => pb_R 38 4 L J (v :: st) h Q)) ∧
  (∀ (L : pb_L) (J : pb_J) (st : List Value) (h : pb_H) (Q : Option Value → pb_H → Prop), pb_R 38 4 L J st h Q ↔ pb_R 38 5 L J (.int (1 : Int32) :: st) h Q) ∧
  (∀ (L : pb_L) (J : pb_J) (st : List Value) (x y : Int32) (h : pb_H) (Q : Option Value → pb_H → Prop), pb_R 38 5 L J (.int y :: .int x :: st) h Q ↔ pb_R 38 6 L J (.int (x - y) :: st) h Q) ∧
  (∀ (l0 l1 : Option Value) (st : List Value) (h : pb_H) (Q : Option Value → pb_H → Prop) (x : Int32), pb_R 38 6 [l0, l1] [] (.int x :: st) h Q ↔ pb_R 38 7 [l0, some (.int x)] [] st h Q) ∧
  (∀ (l1 : Option Value) (st : List Value) (h : pb_H) (Q : Option Value → pb_H → Prop) (x : Nat), pb_R 38 8 [some (.ref x), l1] [] st h Q ↔ pb_R 38 9 [some (.ref x), l1] [] (.ref x :: st) h Q) ∧
  (∀ (l1 : Option Value) (st : List Value) (h : pb_H) (Q : Option Value → pb_H → Prop), pb_R 38 8 [some .null, l1] [] st h Q ↔ pb_R 38 9 [some .null, l1] [] (.null :: st) h Q) ∧
  (∀ (L : pb_L) (J : pb_J) (st : List Value) (h : pb_H) (Q : Option Value → pb_H → Prop) (a : Nat), pb_R 38 9 L J (.ref a :: st) h Q ↔ pb_o (pb_gf (h.2 a) 4 1) (fun v => pb_R 38 12 L J (v :: st) h Q)) ∧
  (∀ (L : pb_L) (J : pb_J) (st : List Value) (h : pb_H) (Q : Option Value → pb_H → Prop) (a : Nat), pb_R 38 12 L J (.ref a :: st) h Q ↔ pb_o (pb_al2 (h.2 a)) (fun n => pb_R 38 13 L J (.int (Int32.ofNat n) :: st) h Q)) ∧
  (∀ (L : pb_L) (J : pb_J) (st : List Value) (h : pb_H) (Q : Option Value → pb_H → Prop) (x y : Int32), pb_R 38 13 L J (.int y :: .int x :: st) h Q ↔ if y ≤ x then pb_R 38 33 L J st h Q else pb_R 38 16 L J st h Q) ∧
  (∀ (l1 : Option Value) (st : List Value) (h : pb_H) (Q : Option Value → pb_H → Prop) (x : Nat), pb_R 38 16 [some (.ref x), l1] [] st h Q ↔ pb_R 38 17 [some (.ref x), l1] [] (.ref x :: st) h Q) ∧
  (∀ (l1 : Option Value) (st : List Value) (h : pb_H) (Q : Option Value → pb_H → Prop), pb_R 38 16 [some .null, l1] [] st h Q ↔ pb_R 38 17 [some .null, l1] [] (.null :: st) h Q) ∧
  (∀ (L : pb_L) (J : pb_J) (st : List Value) (h : pb_H) (Q : Option Value → pb_H → Prop) (a : Nat), pb_R 38 17 L J (.ref a :: st) h Q ↔ pb_o (pb_gf (h.2 a) 4 1) (fun v => pb_R 38 20 L J (v :: st) h Q)) ∧
  (∀ (l0 : Option Value) (st : List Value) (h : pb_H) (Q : Option Value → pb_H → Prop) (x : Int32), pb_R 38 20 [l0, some (.int x)] [] st h Q ↔ pb_R 38 21 [l0, some (.int x)] [] (.int x :: st) h Q) ∧
  (∀ (L : pb_L) (J : pb_J) (st : List Value) (h : pb_H) (Q : Option Value → pb_H → Prop) (a : Nat) (i : Int32), pb_R 38 21 L J (.int i :: .ref a :: st) h Q ↔ pb_o (pb_ai (h.2 a) i) (fun v => pb_R 38 22 L J (.int v :: st) h Q)) ∧
  (∀ (L : pb_L) (J : pb_J) (st : List Value) (h : pb_H) (Q : Option Value → pb_H → Prop) (x : Int32), pb_R 38 22 L J (.int x :: st) h Q ↔ if x = 0 then pb_R 38 27 L J st h Q else pb_R 38 25 L J st h Q) ∧
  (∀ (L : pb_L) (J : pb_J) (st : List Value) (h : pb_H) (Q : Option Value → pb_H → Prop), pb_R 38 25 L J st h Q ↔ pb_R 38 26 L J (.int (0 : Int32) :: st) h Q) ∧
  (∀ (L : pb_L) (J : pb_J) (h : pb_H) (Q : Option Value → pb_H → Prop) (x : Int32), pb_R 38 26 L J [.int x] h Q ↔ narrow .boolean (.int x) = .int x ∧ Q (some (.int x)) h) ∧
  (∀ (l0 : Option Value) (st : List Value) (h : pb_H) (Q : Option Value → pb_H → Prop) (x : Int32), pb_R 38 27 [l0, some (.int x)] [] st h Q ↔ pb_R 38 30 [l0, some (.int (x + (8 : Int32)))] [] st h Q) ∧
  (∀ (L : pb_L) (J : pb_J) (st : List Value) (h : pb_H) (Q : Option Value → pb_H → Prop), pb_R 38 30 L J st h Q ↔ pb_R 38 7 L J st h Q) ∧
  (∀ (L : pb_L) (J : pb_J) (st : List Value) (h : pb_H) (Q : Option Value → pb_H → Prop), pb_R 38 33 L J st h Q ↔ pb_R 38 34 L J (.int (1 : Int32) :: st) h Q) ∧
  (∀ (L : pb_L) (J : pb_J) (h : pb_H) (Q : Option Value → pb_H → Prop) (x : Int32), pb_R 38 34 L J [.int x] h Q ↔ narrow .boolean (.int x) = .int x ∧ Q (some (.int x)) h) := ⟨
  fun l1 st h Q x => pf_S pb_u_38 rfl rfl,
  fun l1 st h Q => pf_S pb_u_38 rfl rfl,
  fun L J st h Q a => pf_gf pb_u_38 rfl rfl,
  fun L J st h Q => pf_S pb_u_38 rfl rfl,
  fun L J st x y h Q => pf_S pb_u_38 rfl rfl,
  fun l0 l1 st h Q x => pf_S pb_u_38 rfl rfl,
  fun l1 st h Q x => pf_S pb_u_38 rfl rfl,
  fun l1 st h Q => pf_S pb_u_38 rfl rfl,
  fun L J st h Q a => pf_gf pb_u_38 rfl rfl,
  fun L J st h Q a => pf_le pb_u_38 rfl rfl,
  fun L J st h Q x y => pf_ic pb_u_38 rfl rfl rfl,
  fun l1 st h Q x => pf_S pb_u_38 rfl rfl,
  fun l1 st h Q => pf_S pb_u_38 rfl rfl,
  fun L J st h Q a => pf_gf pb_u_38 rfl rfl,
  fun l0 st h Q x => pf_S pb_u_38 rfl rfl,
  fun L J st h Q a i => pf_ai pb_u_38 rfl rfl,
  fun L J st h Q x => pf_ii pb_u_38 rfl rfl rfl,
  fun L J st h Q => pf_S pb_u_38 rfl rfl,
  fun L J h Q x => pf_rz pb_u_38 rfl rfl,
  fun l0 st h Q x => pf_S pb_u_38 rfl rfl,
  fun L J st h Q => pf_S pb_u_38 rfl rfl,
  fun L J st h Q => pf_S pb_u_38 rfl rfl,
  fun L J h Q x => pf_rz pb_u_38 rfl rfl⟩
theorem pb_c38 (x0 : Nat) (h : pb_H) (Q : Option Value → pb_H → Prop) : pb_call 38 [.ref x0] h Q ↔ pb_R 38 0 [some (.ref x0), none] [] [] h Q := Iff.rfl
/-! 39: PlaneBench$Line.settle(I)V -/
theorem pb_u_39 : pb_t 39 = pb_t39 := rfl
theorem pb_ci_39 : pb_ci 39 = 4 := by decide +kernel
set_option maxRecDepth 100000 in
theorem pb_q39_10 (l1 : Option Value) (st : List Value) (h : pb_H) (Q : Option Value → pb_H → Prop) (x : Nat) : pb_R 39 10 [some (.ref x), l1] [] st h Q ↔ pb_R 39 11 [some (.ref x), l1] [] (.ref x :: st) h Q := pf_S pb_u_39 rfl rfl
set_option maxRecDepth 100000 in
theorem pb_q39_10n (l1 : Option Value) (st : List Value) (h : pb_H) (Q : Option Value → pb_H → Prop) : pb_R 39 10 [some .null, l1] [] st h Q ↔ pb_R 39 11 [some .null, l1] [] (.null :: st) h Q := pf_S pb_u_39 rfl rfl
set_option maxRecDepth 100000 in
theorem pb_e39 : (∀ (l1 : Option Value) (st : List Value) (h : pb_H) (Q : Option Value → pb_H → Prop) (x : Nat), pb_R 39 0 [some (.ref x), l1] [] st h Q ↔ pb_R 39 1 [some (.ref x), l1] [] (.ref x :: st) h Q) ∧
  (∀ (l1 : Option Value) (st : List Value) (h : pb_H) (Q : Option Value → pb_H → Prop), pb_R 39 0 [some .null, l1] [] st h Q ↔ pb_R 39 1 [some .null, l1] [] (.null :: st) h Q) ∧
  (∀ (L : pb_L) (J : pb_J) (st : List Value) (h : pb_H) (Q : Option Value → pb_H → Prop), pb_R 39 1 L J st h Q ↔ pb_R 39 2 L J (.int (0 : Int32) :: st) h Q) ∧
  (∀ (L : pb_L) (J : pb_J) (st : List Value) (h : pb_H) (Q : Option Value → pb_H → Prop) (a : Nat) (x : Int32), pb_R 39 2 L J (.int x :: .ref a :: st) h Q ↔ pb_o (pb_pf (h.2 a) 4 6 (.int x)) (fun c => pb_R 39 5 L J st (pb_set h a c) Q)) ∧
  (∀ (l1 : Option Value) (st : List Value) (h : pb_H) (Q : Option Value → pb_H → Prop) (x : Nat), pb_R 39 5 [some (.ref x), l1] [] st h Q ↔ pb_R 39 6 [some (.ref x), l1] [] (.ref x :: st) h Q) ∧
  (∀ (l1 : Option Value) (st : List Value) (h : pb_H) (Q : Option Value → pb_H → Prop), pb_R 39 5 [some .null, l1] [] st h Q ↔ pb_R 39 6 [some .null, l1] [] (.null :: st) h Q) ∧
  (∀ (l0 : Option Value) (st : List Value) (h : pb_H) (Q : Option Value → pb_H → Prop) (x : Int32), pb_R 39 6 [l0, some (.int x)] [] st h Q ↔ pb_R 39 7 [l0, some (.int x)] [] (.int x :: st) h Q) ∧
  (∀ (L : pb_L) (J : pb_J) (st : List Value) (h : pb_H) (Q : Option Value → pb_H → Prop) (a : Nat) (x : Int32), pb_R 39 7 L J (.int x :: .ref a :: st) h Q ↔ pb_o (pb_pf (h.2 a) 4 4 (.int x)) (fun c => pb_R 39 10 L J st (pb_set h a c) Q)) ∧
  (∀ (L : pb_L) (J : pb_J) (st : List Value) (h : pb_H) (Q : Option Value → pb_H → Prop) (a : Nat), pb_R 39 11 L J (.ref a :: st) h Q ↔ pb_o (pb_gf (h.2 a) 4 4) (fun v => pb_R 39 14 L J (v :: st) h Q)) ∧
  (∀ (L : pb_L) (J : pb_J) (st : List Value) (h : pb_H) (Q : Option Value → pb_H → Prop) (x : Int32), pb_R 39 14 L J (.int x :: st) h Q ↔ if x ≤ 0 then pb_R 39 37 L J st h Q else pb_R 39 17 L J st h Q) ∧
  (∀ (l1 : Option Value) (st : List Value) (h : pb_H) (Q : Option Value → pb_H → Prop) (x : Nat), pb_R 39 17 [some (.ref x), l1] [] st h Q ↔ pb_R 39 18 [some (.ref x), l1] [] (.ref x :: st) h Q) ∧
  (∀ (l1 : Option Value) (st : List Value) (h : pb_H) (Q : Option Value → pb_H → Prop), pb_R 39 17 [some .null, l1] [] st h Q ↔ pb_R 39 18 [some .null, l1] [] (.null :: st) h Q) ∧
  (∀ (L : pb_L) (J : pb_J) (h : pb_H) (Q : Option Value → pb_H → Prop) (x0 : Nat), pb_R 39 18 L J [.ref x0] h Q ↔ pb_is0 (h.2 x0) 4 = true ∧ pb_call 38 [.ref x0] h (fun v t => pb_R 39 21 L J (v.toList ++ []) t Q)) ∧
  (∀ (L : pb_L) (J : pb_J) (st : List Value) (h : pb_H) (Q : Option Value → pb_H → Prop) (x : Int32), pb_R 39 21 L J (.int x :: st) h Q ↔ if x = 0 then pb_R 39 37 L J st h Q else pb_R 39 24 L J st h Q) ∧
  (∀ (l1 : Option Value) (st : List Value) (h : pb_H) (Q : Option Value → pb_H → Prop) (x : Nat), pb_R 39 24 [some (.ref x), l1] [] st h Q ↔ pb_R 39 25 [some (.ref x), l1] [] (.ref x :: st) h Q) ∧
  (∀ (l1 : Option Value) (st : List Value) (h : pb_H) (Q : Option Value → pb_H → Prop), pb_R 39 24 [some .null, l1] [] st h Q ↔ pb_R 39 25 [some .null, l1] [] (.null :: st) h Q) ∧
  (∀ (L : pb_L) (J : pb_J) (st : List Value) (x : Nat) (h : pb_H) (Q : Option Value → pb_H → Prop), pb_R 39 25 L J (.ref x :: st) h Q ↔ pb_R 39 26 L J (.ref x :: .ref x :: st) h Q) ∧
  (∀ (L : pb_L) (J : pb_J) (st : List Value) (h : pb_H) (Q : Option Value → pb_H → Prop) (a : Nat), pb_R 39 26 L J (.ref a :: st) h Q ↔ pb_o (pb_gf (h.2 a) 4 4) (fun v => pb_R 39 29 L J (v :: st) h Q)) ∧
  (∀ (L : pb_L) (J : pb_J) (st : List Value) (h : pb_H) (Q : Option Value → pb_H → Prop), pb_R 39 29 L J st h Q ↔ pb_R 39 30 L J (.int (1 : Int32) :: st) h Q) ∧
  (∀ (L : pb_L) (J : pb_J) (st : List Value) (x y : Int32) (h : pb_H) (Q : Option Value → pb_H → Prop), pb_R 39 30 L J (.int y :: .int x :: st) h Q ↔ pb_R 39 31 L J (.int (x - y) :: st) h Q) ∧
  (∀ (L : pb_L) (J : pb_J) (st : List Value) (h : pb_H) (Q : Option Value → pb_H → Prop) (a : Nat) (x : Int32), pb_R 39 31 L J (.int x :: .ref a :: st) h Q ↔ pb_o (pb_pf (h.2 a) 4 4 (.int x)) (fun c => pb_R 39 34 L J st (pb_set h a c) Q)) ∧
  (∀ (L : pb_L) (J : pb_J) (st : List Value) (h : pb_H) (Q : Option Value → pb_H → Prop), pb_R 39 34 L J st h Q ↔ pb_R 39 10 L J st h Q) ∧
  (∀ (L : pb_L) (J : pb_J) (h : pb_H) (Q : Option Value → pb_H → Prop), pb_R 39 37 L J [] h Q ↔ Q none h) := ⟨
  fun l1 st h Q x => pf_S pb_u_39 rfl rfl,
  fun l1 st h Q => pf_S pb_u_39 rfl rfl,
  fun L J st h Q => pf_S pb_u_39 rfl rfl,
  fun L J st h Q a x => pf_pf pb_u_39 rfl rfl,
  fun l1 st h Q x => pf_S pb_u_39 rfl rfl,
  fun l1 st h Q => pf_S pb_u_39 rfl rfl,
  fun l0 st h Q x => pf_S pb_u_39 rfl rfl,
  fun L J st h Q a x => pf_pf pb_u_39 rfl rfl,
  fun L J st h Q a => pf_gf pb_u_39 rfl rfl,
  fun L J st h Q x => pf_ii pb_u_39 rfl rfl rfl,
  fun l1 st h Q x => pf_S pb_u_39 rfl rfl,
  fun l1 st h Q => pf_S pb_u_39 rfl rfl,
  fun L J h Q x0 => pf_kv pb_u_39 rfl pb_ci_38 rfl ⟨Nat.le_of_ble_eq_true rfl, Nat.le_of_ble_eq_true rfl, Nat.le_of_ble_eq_true rfl, Nat.le_of_ble_eq_true rfl, rfl⟩ rfl rfl,
  fun L J st h Q x => pf_ii pb_u_39 rfl rfl rfl,
  fun l1 st h Q x => pf_S pb_u_39 rfl rfl,
  fun l1 st h Q => pf_S pb_u_39 rfl rfl,
  fun L J st x h Q => pf_S pb_u_39 rfl rfl,
  fun L J st h Q a => pf_gf pb_u_39 rfl rfl,
  fun L J st h Q => pf_S pb_u_39 rfl rfl,
  fun L J st x y h Q => pf_S pb_u_39 rfl rfl,
  fun L J st h Q a x => pf_pf pb_u_39 rfl rfl,
  fun L J st h Q => pf_S pb_u_39 rfl rfl,
  fun L J h Q => pf_rv pb_u_39 rfl rfl⟩
theorem pb_c39 (x0 : Nat) (x1 : Int32) (h : pb_H) (Q : Option Value → pb_H → Prop) : pb_call 39 [.ref x0, .int x1] h Q ↔ pb_R 39 0 [some (.ref x0), some (.int x1)] [] [] h Q := Iff.rfl
/-! 40: PlaneBench$Line.divide(LPlaneBench$Divider;)V -/
theorem pb_u_40 : pb_t 40 = pb_t40 := rfl
theorem pb_ci_40 : pb_ci 40 = 4 := by decide +kernel
set_option maxRecDepth 100000 in
theorem pb_q40_2 (l0 l1 l3 : Option Value) (st : List Value) (h : pb_H) (Q : Option Value → pb_H → Prop) (x : Int32) : pb_R 40 2 [l0, l1, some (.int x), l3] [] st h Q ↔ pb_R 40 3 [l0, l1, some (.int x), l3] [] (.int x :: st) h Q := pf_S pb_u_40 rfl rfl
set_option maxRecDepth 100000 in
theorem pb_e40 : (∀ (L : pb_L) (J : pb_J) (st : List Value) (h : pb_H) (Q : Option Value → pb_H → Prop), pb_R 40 0 L J st h Q ↔ pb_R 40 1 L J (.int (0 : Int32) :: st) h Q) ∧
  (∀ (l0 l1 l2 l3 : Option Value) (st : List Value) (h : pb_H) (Q : Option Value → pb_H → Prop) (x : Int32), pb_R 40 1 [l0, l1, l2, l3] [] (.int x :: st) h Q ↔ pb_R 40 2 [l0, l1, some (.int x), l3] [] st h Q) ∧
  (∀ (l1 l2 l3 : Option Value) (st : List Value) (h : pb_H) (Q : Option Value → pb_H → Prop) (x : Nat), pb_R 40 3 [some (.ref x), l1, l2, l3] [] st h Q ↔ pb_R 40 4 [some (.ref x), l1, l2, l3] [] (.ref x :: st) h Q) ∧
  (∀ (l1 l2 l3 : Option Value) (st : List Value) (h : pb_H) (Q : Option Value → pb_H → Prop), pb_R 40 3 [some .null, l1, l2, l3] [] st h Q ↔ pb_R 40 4 [some .null, l1, l2, l3] [] (.null :: st) h Q) ∧
  (∀ (L : pb_L) (J : pb_J) (st : List Value) (h : pb_H) (Q : Option Value → pb_H → Prop) (a : Nat), pb_R 40 4 L J (.ref a :: st) h Q ↔ pb_o (pb_gf (h.2 a) 4 0) (fun v => pb_R 40 7 L J (v :: st) h Q)) ∧
  (∀ (L : pb_L) (J : pb_J) (st : List Value) (h : pb_H) (Q : Option Value → pb_H → Prop) (x y : Int32), pb_R 40 7 L J (.int y :: .int x :: st) h Q ↔ if y < x then pb_R 40 54 L J st h Q else pb_R 40 10 L J st h Q) ∧
  (∀ (l0 l1 l3 : Option Value) (st : List Value) (h : pb_H) (Q : Option Value → pb_H → Prop) (x : Int32), pb_R 40 10 [l0, l1, some (.int x), l3] [] st h Q ↔ pb_R 40 11 [l0, l1, some (.int x), l3] [] (.int x :: st) h Q) ∧
  (∀ (L : pb_L) (J : pb_J) (st : List Value) (h : pb_H) (Q : Option Value → pb_H → Prop) (x : Int32), pb_R 40 11 L J (.int x :: st) h Q ↔ if x = 0 then pb_R 40 22 L J st h Q else pb_R 40 14 L J st h Q) ∧
  (∀ (l1 l2 l3 : Option Value) (st : List Value) (h : pb_H) (Q : Option Value → pb_H → Prop) (x : Nat), pb_R 40 14 [some (.ref x), l1, l2, l3] [] st h Q ↔ pb_R 40 15 [some (.ref x), l1, l2, l3] [] (.ref x :: st) h Q) ∧
  (∀ (l1 l2 l3 : Option Value) (st : List Value) (h : pb_H) (Q : Option Value → pb_H → Prop), pb_R 40 14 [some .null, l1, l2, l3] [] st h Q ↔ pb_R 40 15 [some .null, l1, l2, l3] [] (.null :: st) h Q) ∧
  (∀ (l0 l1 l3 : Option Value) (st : List Value) (h : pb_H) (Q : Option Value → pb_H → Prop) (x : Int32), pb_R 40 15 [l0, l1, some (.int x), l3] [] st h Q ↔ pb_R 40 16 [l0, l1, some (.int x), l3] [] (.int x :: st) h Q) ∧
  (∀ (L : pb_L) (J : pb_J) (h : pb_H) (Q : Option Value → pb_H → Prop) (x0 : Int32) (x1 : Nat), pb_R 40 16 L J [.int x0, .ref x1] h Q ↔ pb_is0 (h.2 x1) 4 = true ∧ pb_call 32 [.ref x1, .int x0] h (fun v t => pb_R 40 19 L J (v.toList ++ []) t Q)) ∧
  (∀ (L : pb_L) (J : pb_J) (st : List Value) (h : pb_H) (Q : Option Value → pb_H → Prop) (x : Int32), pb_R 40 19 L J (.int x :: st) h Q ↔ if x = 0 then pb_R 40 48 L J st h Q else pb_R 40 22 L J st h Q) ∧
  (∀ (l0 l2 l3 : Option Value) (st : List Value) (h : pb_H) (Q : Option Value → pb_H → Prop) (x : Nat), pb_R 40 22 [l0, some (.ref x), l2, l3] [] st h Q ↔ pb_R 40 23 [l0, some (.ref x), l2, l3] [] (.ref x :: st) h Q) ∧
  (∀ (l0 l2 l3 : Option Value) (st : List Value) (h : pb_H) (Q : Option Value → pb_H → Prop), pb_R 40 22 [l0, some .null, l2, l3] [] st h Q ↔ pb_R 40 23 [l0, some .null, l2, l3] [] (.null :: st) h Q) ∧
  (∀ (l1 l2 l3 : Option Value) (st : List Value) (h : pb_H) (Q : Option Value → pb_H → Prop) (x : Nat), pb_R 40 23 [some (.ref x), l1, l2, l3] [] st h Q ↔ pb_R 40 24 [some (.ref x), l1, l2, l3] [] (.ref x :: st) h Q) ∧
  (∀ (l1 l2 l3 : Option Value) (st : List Value) (h : pb_H) (Q : Option Value → pb_H → Prop), pb_R 40 23 [some .null, l1, l2, l3] [] st h Q ↔ pb_R 40 24 [some .null, l1, l2, l3] [] (.null :: st) h Q) ∧
  (∀ (L : pb_L) (J : pb_J) (st : List Value) (h : pb_H) (Q : Option Value → pb_H → Prop) (a : Nat), pb_R 40 24 L J (.ref a :: st) h Q ↔ pb_o (pb_gf (h.2 a) 4 1) (fun v => pb_R 40 27 L J (v :: st) h Q)) ∧
  (∀ (l0 l1 l3 : Option Value) (st : List Value) (h : pb_H) (Q : Option Value → pb_H → Prop) (x : Int32), pb_R 40 27 [l0, l1, some (.int x), l3] [] st h Q ↔ pb_R 40 28 [l0, l1, some (.int x), l3] [] (.int x :: st) h Q) ∧
  (∀ (L : pb_L) (J : pb_J) (st : List Value) (h : pb_H) (Q : Option Value → pb_H → Prop), pb_R 40 28 L J st h Q ↔ pb_R 40 30 L J (.int (8 : Int32) :: st) h Q) ∧
  (∀ (L : pb_L) (J : pb_J) (st : List Value) (x y : Int32) (h : pb_H) (Q : Option Value → pb_H → Prop), pb_R 40 30 L J (.int y :: .int x :: st) h Q ↔ pb_R 40 31 L J (.int (x * y) :: st) h Q) ∧
  (∀ (L : pb_L) (J : pb_J) (h : pb_H) (Q : Option Value → pb_H → Prop) (x0 : Int32) (x1 : Nat) (x2 : Nat), pb_R 40 31 L J [.int x0, .ref x1, .ref x2] h Q ↔ pb_is0 (h.2 x2) 3 = true ∧ pb_call 36 [.ref x2, .ref x1, .int x0] h (fun v t => pb_R 40 34 L J (v.toList ++ []) t Q)) ∧
  (∀ (l0 l1 l2 l3 : Option Value) (st : List Value) (h : pb_H) (Q : Option Value → pb_H → Prop) (x : Int32), pb_R 40 34 [l0, l1, l2, l3] [] (.int x :: st) h Q ↔ pb_R 40 35 [l0, l1, l2, some (.int x)] [] st h Q) ∧
  (∀ (l0 l2 l3 : Option Value) (st : List Value) (h : pb_H) (Q : Option Value → pb_H → Prop) (x : Nat), pb_R 40 35 [l0, some (.ref x), l2, l3] [] st h Q ↔ pb_R 40 36 [l0, some (.ref x), l2, l3] [] (.ref x :: st) h Q) ∧
  (∀ (l0 l2 l3 : Option Value) (st : List Value) (h : pb_H) (Q : Option Value → pb_H → Prop), pb_R 40 35 [l0, some .null, l2, l3] [] st h Q ↔ pb_R 40 36 [l0, some .null, l2, l3] [] (.null :: st) h Q) ∧
  (∀ (l1 l2 l3 : Option Value) (st : List Value) (h : pb_H) (Q : Option Value → pb_H → Prop) (x : Nat), pb_R 40 36 [some (.ref x), l1, l2, l3] [] st h Q ↔ pb_R 40 37 [some (.ref x), l1, l2, l3] [] (.ref x :: st) h Q) ∧
  (∀ (l1 l2 l3 : Option Value) (st : List Value) (h : pb_H) (Q : Option Value → pb_H → Prop), pb_R 40 36 [some .null, l1, l2, l3] [] st h Q ↔ pb_R 40 37 [some .null, l1, l2, l3] [] (.null :: st) h Q) ∧
  (∀ (L : pb_L) (J : pb_J) (st : List Value) (h : pb_H) (Q : Option Value → pb_H → Prop) (a : Nat), pb_R 40 37 L J (.ref a :: st) h Q ↔ pb_o (pb_gf (h.2 a) 4 1) (fun v => pb_R 40 40 L J (v :: st) h Q)) ∧
  (∀ (l0 l1 l3 : Option Value) (st : List Value) (h : pb_H) (Q : Option Value → pb_H → Prop) (x : Int32), pb_R 40 40 [l0, l1, some (.int x), l3] [] st h Q ↔ pb_R 40 41 [l0, l1, some (.int x), l3] [] (.int x :: st) h Q) ∧
  (∀ (L : pb_L) (J : pb_J) (st : List Value) (h : pb_H) (Q : Option Value → pb_H → Prop), pb_R 40 41 L J st h Q ↔ pb_R 40 43 L J (.int (8 : Int32) :: st) h Q) ∧
  (∀ (L : pb_L) (J : pb_J) (st : List Value) (x y : Int32) (h : pb_H) (Q : Option Value → pb_H → Prop), pb_R 40 43 L J (.int y :: .int x :: st) h Q ↔ pb_R 40 44 L J (.int (x * y) :: st) h Q) ∧
  (∀ (l0 l1 l2 : Option Value) (st : List Value) (h : pb_H) (Q : Option Value → pb_H → Prop) (x : Int32), pb_R 40 44 [l0, l1, l2, some (.int x)] [] st h Q ↔ pb_R 40 45 [l0, l1, l2, some (.int x)] [] (.int x :: st) h Q) ∧
  (∀ (L : pb_L) (J : pb_J) (h : pb_H) (Q : Option Value → pb_H → Prop) (x0 : Int32) (x1 : Int32) (x2 : Nat) (x3 : Nat), pb_R 40 45 L J [.int x0, .int x1, .ref x2, .ref x3] h Q ↔ pb_is0 (h.2 x3) 3 = true ∧ pb_call 37 [.ref x3, .ref x2, .int x1, .int x0] h (fun v t => pb_R 40 48 L J (v.toList ++ []) t Q)) ∧
  (∀ (l0 l1 l3 : Option Value) (st : List Value) (h : pb_H) (Q : Option Value → pb_H → Prop) (x : Int32), pb_R 40 48 [l0, l1, some (.int x), l3] [] st h Q ↔ pb_R 40 51 [l0, l1, some (.int (x + (1 : Int32))), l3] [] st h Q) ∧
  (∀ (L : pb_L) (J : pb_J) (st : List Value) (h : pb_H) (Q : Option Value → pb_H → Prop), pb_R 40 51 L J st h Q ↔ pb_R 40 2 L J st h Q) ∧
  (∀ (l1 l2 l3 : Option Value) (st : List Value) (h : pb_H) (Q : Option Value → pb_H → Prop) (x : Nat), pb_R 40 54 [some (.ref x), l1, l2, l3] [] st h Q ↔ pb_R 40 55 [some (.ref x), l1, l2, l3] [] (.ref x :: st) h Q) ∧
  (∀ (l1 l2 l3 : Option Value) (st : List Value) (h : pb_H) (Q : Option Value → pb_H → Prop), pb_R 40 54 [some .null, l1, l2, l3] [] st h Q ↔ pb_R 40 55 [some .null, l1, l2, l3] [] (.null :: st) h Q) ∧
  (∀ (l1 l2 l3 : Option Value) (st : List Value) (h : pb_H) (Q : Option Value → pb_H → Prop) (x : Nat), pb_R 40 55 [some (.ref x), l1, l2, l3] [] st h Q ↔ pb_R 40 56 [some (.ref x), l1, l2, l3] [] (.ref x :: st) h Q) ∧
  (∀ (l1 l2 l3 : Option Value) (st : List Value) (h : pb_H) (Q : Option Value → pb_H → Prop), pb_R 40 55 [some .null, l1, l2, l3] [] st h Q ↔ pb_R 40 56 [some .null, l1, l2, l3] [] (.null :: st) h Q) ∧
  (∀ (L : pb_L) (J : pb_J) (st : List Value) (h : pb_H) (Q : Option Value → pb_H → Prop) (a : Nat), pb_R 40 56 L J (.ref a :: st) h Q ↔ pb_o (pb_gf (h.2 a) 4 4) (fun v => pb_R 40 59 L J (v :: st) h Q)) ∧
  (∀ (L : pb_L) (J : pb_J) (h : pb_H) (Q : Option Value → pb_H → Prop) (x0 : Int32) (x1 : Nat), pb_R 40 59 L J [.int x0, .ref x1] h Q ↔ pb_is0 (h.2 x1) 4 = true ∧ pb_call 39 [.ref x1, .int x0] h (fun v t => pb_R 40 62 L J (v.toList ++ []) t Q)) ∧
  (∀ (L : pb_L) (J : pb_J) (h : pb_H) (Q : Option Value → pb_H → Prop), pb_R 40 62 L J [] h Q ↔ Q none h) := ⟨
  fun L J st h Q => pf_S pb_u_40 rfl rfl,
  fun l0 l1 l2 l3 st h Q x => pf_S pb_u_40 rfl rfl,
  fun l1 l2 l3 st h Q x => pf_S pb_u_40 rfl rfl,
  fun l1 l2 l3 st h Q => pf_S pb_u_40 rfl rfl,
  fun L J st h Q a => pf_gf pb_u_40 rfl rfl,
  fun L J st h Q x y => pf_ic pb_u_40 rfl rfl rfl,
  fun l0 l1 l3 st h Q x => pf_S pb_u_40 rfl rfl,
  fun L J st h Q x => pf_ii pb_u_40 rfl rfl rfl,
  fun l1 l2 l3 st h Q x => pf_S pb_u_40 rfl rfl,
  fun l1 l2 l3 st h Q => pf_S pb_u_40 rfl rfl,
  fun l0 l1 l3 st h Q x => pf_S pb_u_40 rfl rfl,
  fun L J h Q x0 x1 => pf_kv pb_u_40 rfl pb_ci_32 rfl ⟨Nat.le_of_ble_eq_true rfl, Nat.le_of_ble_eq_true rfl, Nat.le_of_ble_eq_true rfl, Nat.le_of_ble_eq_true rfl, rfl⟩ rfl rfl,
  fun L J st h Q x => pf_ii pb_u_40 rfl rfl rfl,
  fun l0 l2 l3 st h Q x => pf_S pb_u_40 rfl rfl,
  fun l0 l2 l3 st h Q => pf_S pb_u_40 rfl rfl,
  fun l1 l2 l3 st h Q x => pf_S pb_u_40 rfl rfl,
  fun l1 l2 l3 st h Q => pf_S pb_u_40 rfl rfl,
  fun L J st h Q a => pf_gf pb_u_40 rfl rfl,
  fun l0 l1 l3 st h Q x => pf_S pb_u_40 rfl rfl,
  fun L J st h Q => pf_S pb_u_40 rfl rfl,
  fun L J st x y h Q => pf_S pb_u_40 rfl rfl,
  fun L J h Q x0 x1 x2 => pf_kv pb_u_40 rfl pb_ci_36 rfl ⟨Nat.le_of_ble_eq_true rfl, Nat.le_of_ble_eq_true rfl, Nat.le_of_ble_eq_true rfl, Nat.le_of_ble_eq_true rfl, rfl⟩ rfl rfl,
  fun l0 l1 l2 l3 st h Q x => pf_S pb_u_40 rfl rfl,
  fun l0 l2 l3 st h Q x => pf_S pb_u_40 rfl rfl,
  fun l0 l2 l3 st h Q => pf_S pb_u_40 rfl rfl,
  fun l1 l2 l3 st h Q x => pf_S pb_u_40 rfl rfl,
  fun l1 l2 l3 st h Q => pf_S pb_u_40 rfl rfl,
  fun L J st h Q a => pf_gf pb_u_40 rfl rfl,
  fun l0 l1 l3 st h Q x => pf_S pb_u_40 rfl rfl,
  fun L J st h Q => pf_S pb_u_40 rfl rfl,
  fun L J st x y h Q => pf_S pb_u_40 rfl rfl,
  fun l0 l1 l2 st h Q x => pf_S pb_u_40 rfl rfl,
  fun L J h Q x0 x1 x2 x3 => pf_kv pb_u_40 rfl pb_ci_37 rfl ⟨Nat.le_of_ble_eq_true rfl, Nat.le_of_ble_eq_true rfl, Nat.le_of_ble_eq_true rfl, Nat.le_of_ble_eq_true rfl, rfl⟩ rfl rfl,
  fun l0 l1 l3 st h Q x => pf_S pb_u_40 rfl rfl,
  fun L J st h Q => pf_S pb_u_40 rfl rfl,
  fun l1 l2 l3 st h Q x => pf_S pb_u_40 rfl rfl,
  fun l1 l2 l3 st h Q => pf_S pb_u_40 rfl rfl,
  fun l1 l2 l3 st h Q x => pf_S pb_u_40 rfl rfl,
  fun l1 l2 l3 st h Q => pf_S pb_u_40 rfl rfl,
  fun L J st h Q a => pf_gf pb_u_40 rfl rfl,
  fun L J h Q x0 x1 => pf_kv pb_u_40 rfl pb_ci_39 rfl ⟨Nat.le_of_ble_eq_true rfl, Nat.le_of_ble_eq_true rfl, Nat.le_of_ble_eq_true rfl, Nat.le_of_ble_eq_true rfl, rfl⟩ rfl rfl,
  fun L J h Q => pf_rv pb_u_40 rfl rfl⟩
theorem pb_c40 (x0 : Nat) (x1 : Nat) (h : pb_H) (Q : Option Value → pb_H → Prop) : pb_call 40 [.ref x0, .ref x1] h Q ↔ pb_R 40 0 [some (.ref x0), some (.ref x1), none, none] [] [] h Q := Iff.rfl
/-! 41: PlaneBench$Wide.multiply([III[II[I)V -/
theorem pb_u_41 : pb_t 41 = pb_t41 := rfl
set_option maxRecDepth 100000 in
theorem pb_q41_9 (l0 l1 l2 l3 l4 l5 l7 l8 l9 l10 l11 : Option Value) (j0 j1 j2 j3 j4 j5 j6 j7 j8 j9 j10 j11 : Option Int64) (st : List Value) (h : pb_H) (Q : Option Value → pb_H → Prop) (x : Int32) : pb_R 41 9 [l0, l1, l2, l3, l4, l5, some (.int x), l7, l8, l9, l10, l11] [j0, j1, j2, j3, j4, j5, j6, j7, j8, j9, j10, j11] st h Q ↔ pb_R 41 11 [l0, l1, l2, l3, l4, l5, some (.int x), l7, l8, l9, l10, l11] [j0, j1, j2, j3, j4, j5, j6, j7, j8, j9, j10, j11] (.int x :: st) h Q := pf_S pb_u_41 rfl rfl
set_option maxRecDepth 100000 in
theorem pb_q41_34 (l0 l1 l2 l3 l4 l5 l6 l7 l8 l9 l10 : Option Value) (j0 j1 j2 j3 j4 j5 j6 j7 j8 j9 j10 j11 : Option Int64) (st : List Value) (h : pb_H) (Q : Option Value → pb_H → Prop) (x : Int32) : pb_R 41 34 [l0, l1, l2, l3, l4, l5, l6, l7, l8, l9, l10, some (.int x)] [j0, j1, j2, j3, j4, j5, j6, j7, j8, j9, j10, j11] st h Q ↔ pb_R 41 36 [l0, l1, l2, l3, l4, l5, l6, l7, l8, l9, l10, some (.int x)] [j0, j1, j2, j3, j4, j5, j6, j7, j8, j9, j10, j11] (.int x :: st) h Q := pf_S pb_u_41 rfl rfl
set_option maxRecDepth 100000 in
theorem pb_e41 : (∀ (l0 l1 l2 l3 l4 l6 l7 l8 l9 l10 l11 : Option Value) (j0 j1 j2 j3 j4 j5 j6 j7 j8 j9 j10 j11 : Option Int64) (st : List Value) (h : pb_H) (Q : Option Value → pb_H → Prop) (x : Nat), pb_R 41 0 [l0, l1, l2, l3, l4, some (.ref x), l6, l7, l8, l9, l10, l11] [j0, j1, j2, j3, j4, j5, j6, j7, j8, j9, j10, j11] st h Q ↔ pb_R 41 2 [l0, l1, l2, l3, l4, some (.ref x), l6, l7, l8, l9, l10, l11] [j0, j1, j2, j3, j4, j5, j6, j7, j8, j9, j10, j11] (.ref x :: st) h Q) ∧
  (∀ (l0 l1 l2 l3 l4 l6 l7 l8 l9 l10 l11 : Option Value) (j0 j1 j2 j3 j4 j5 j6 j7 j8 j9 j10 j11 : Option Int64) (st : List Value) (h : pb_H) (Q : Option Value → pb_H → Prop), pb_R 41 0 [l0, l1, l2, l3, l4, some .null, l6, l7, l8, l9, l10, l11] [j0, j1, j2, j3, j4, j5, j6, j7, j8, j9, j10, j11] st h Q ↔ pb_R 41 2 [l0, l1, l2, l3, l4, some .null, l6, l7, l8, l9, l10, l11] [j0, j1, j2, j3, j4, j5, j6, j7, j8, j9, j10, j11] (.null :: st) h Q) ∧
  (∀ (L : pb_L) (J : pb_J) (st : List Value) (h : pb_H) (Q : Option Value → pb_H → Prop), pb_R 41 2 L J st h Q ↔ pb_R 41 3 L J (.int (0 : Int32) :: st) h Q) ∧
  (∀ (L : pb_L) (J : pb_J) (h : pb_H) (Q : Option Value → pb_H → Prop) (x0 : Int32) (x1 : Nat), pb_R 41 3 L J [.int x0, .ref x1] h Q ↔ pb_call 24 [.ref x1, .int x0] h (fun v t => pb_R 41 6 L J (v.toList ++ []) t Q)) ∧
  (∀ (L : pb_L) (J : pb_J) (st : List Value) (h : pb_H) (Q : Option Value → pb_H → Prop), pb_R 41 6 L J st h Q ↔ pb_R 41 7 L J (.int (0 : Int32) :: st) h Q) ∧
  (∀ (l0 l1 l2 l3 l4 l5 l6 l7 l8 l9 l10 l11 : Option Value) (j0 j1 j2 j3 j4 j5 j6 j7 j8 j9 j10 j11 : Option Int64) (st : List Value) (h : pb_H) (Q : Option Value → pb_H → Prop) (x : Int32), pb_R 41 7 [l0, l1, l2, l3, l4, l5, l6, l7, l8, l9, l10, l11] [j0, j1, j2, j3, j4, j5, j6, j7, j8, j9, j10, j11] (.int x :: st) h Q ↔ pb_R 41 9 [l0, l1, l2, l3, l4, l5, some (.int x), l7, l8, l9, l10, l11] [j0, j1, j2, j3, j4, none, none, j7, j8, j9, j10, j11] st h Q) ∧
  (∀ (l0 l1 l3 l4 l5 l6 l7 l8 l9 l10 l11 : Option Value) (j0 j1 j2 j3 j4 j5 j6 j7 j8 j9 j10 j11 : Option Int64) (st : List Value) (h : pb_H) (Q : Option Value → pb_H → Prop) (x : Int32), pb_R 41 11 [l0, l1, some (.int x), l3, l4, l5, l6, l7, l8, l9, l10, l11] [j0, j1, j2, j3, j4, j5, j6, j7, j8, j9, j10, j11] st h Q ↔ pb_R 41 12 [l0, l1, some (.int x), l3, l4, l5, l6, l7, l8, l9, l10, l11] [j0, j1, j2, j3, j4, j5, j6, j7, j8, j9, j10, j11] (.int x :: st) h Q) ∧
  (∀ (L : pb_L) (J : pb_J) (st : List Value) (h : pb_H) (Q : Option Value → pb_H → Prop) (x y : Int32), pb_R 41 12 L J (.int y :: .int x :: st) h Q ↔ if y ≤ x then pb_R 41 113 L J st h Q else pb_R 41 15 L J st h Q) ∧
  (∀ (l1 l2 l3 l4 l5 l6 l7 l8 l9 l10 l11 : Option Value) (j0 j1 j2 j3 j4 j5 j6 j7 j8 j9 j10 j11 : Option Int64) (st : List Value) (h : pb_H) (Q : Option Value → pb_H → Prop) (x : Nat), pb_R 41 15 [some (.ref x), l1, l2, l3, l4, l5, l6, l7, l8, l9, l10, l11] [j0, j1, j2, j3, j4, j5, j6, j7, j8, j9, j10, j11] st h Q ↔ pb_R 41 16 [some (.ref x), l1, l2, l3, l4, l5, l6, l7, l8, l9, l10, l11] [j0, j1, j2, j3, j4, j5, j6, j7, j8, j9, j10, j11] (.ref x :: st) h Q) ∧
  (∀ (l1 l2 l3 l4 l5 l6 l7 l8 l9 l10 l11 : Option Value) (j0 j1 j2 j3 j4 j5 j6 j7 j8 j9 j10 j11 : Option Int64) (st : List Value) (h : pb_H) (Q : Option Value → pb_H → Prop), pb_R 41 15 [some .null, l1, l2, l3, l4, l5, l6, l7, l8, l9, l10, l11] [j0, j1, j2, j3, j4, j5, j6, j7, j8, j9, j10, j11] st h Q ↔ pb_R 41 16 [some .null, l1, l2, l3, l4, l5, l6, l7, l8, l9, l10, l11] [j0, j1, j2, j3, j4, j5, j6, j7, j8, j9, j10, j11] (.null :: st) h Q) ∧
  (∀ (l0 l2 l3 l4 l5 l6 l7 l8 l9 l10 l11 : Option Value) (j0 j1 j2 j3 j4 j5 j6 j7 j8 j9 j10 j11 : Option Int64) (st : List Value) (h : pb_H) (Q : Option Value → pb_H → Prop) (x : Int32), pb_R 41 16 [l0, some (.int x), l2, l3, l4, l5, l6, l7, l8, l9, l10, l11] [j0, j1, j2, j3, j4, j5, j6, j7, j8, j9, j10, j11] st h Q ↔ pb_R 41 17 [l0, some (.int x), l2, l3, l4, l5, l6, l7, l8, l9, l10, l11] [j0, j1, j2, j3, j4, j5, j6, j7, j8, j9, j10, j11] (.int x :: st) h Q) ∧
  (∀ (l0 l1 l2 l3 l4 l5 l7 l8 l9 l10 l11 : Option Value) (j0 j1 j2 j3 j4 j5 j6 j7 j8 j9 j10 j11 : Option Int64) (st : List Value) (h : pb_H) (Q : Option Value → pb_H → Prop) (x : Int32), pb_R 41 17 [l0, l1, l2, l3, l4, l5, some (.int x), l7, l8, l9, l10, l11] [j0, j1, j2, j3, j4, j5, j6, j7, j8, j9, j10, j11] st h Q ↔ pb_R 41 19 [l0, l1, l2, l3, l4, l5, some (.int x), l7, l8, l9, l10, l11] [j0, j1, j2, j3, j4, j5, j6, j7, j8, j9, j10, j11] (.int x :: st) h Q) ∧
  (∀ (L : pb_L) (J : pb_J) (st : List Value) (x y : Int32) (h : pb_H) (Q : Option Value → pb_H → Prop), pb_R 41 19 L J (.int y :: .int x :: st) h Q ↔ pb_R 41 20 L J (.int (x + y) :: st) h Q) ∧
  (∀ (L : pb_L) (J : pb_J) (st : List Value) (h : pb_H) (Q : Option Value → pb_H → Prop) (a : Nat) (i : Int32), pb_R 41 20 L J (.int i :: .ref a :: st) h Q ↔ pb_o (pb_ai (h.2 a) i) (fun v => pb_R 41 21 L J (.int v :: st) h Q)) ∧
  (∀ (L : pb_L) (J : pb_J) (st : List Value) (x : Int32) (h : pb_H) (Q : Option Value → pb_H → Prop), pb_R 41 21 L J (.int x :: st) h Q ↔ pb_R 41 22 L J (.long x.toInt64 :: st) h Q) ∧
  (∀ (L : pb_L) (J : pb_J) (st : List Value) (h : pb_H) (Q : Option Value → pb_H → Prop), pb_R 41 22 L J st h Q ↔ pb_R 41 25 L J (.long (4294967295 : Int64) :: st) h Q) ∧
  (∀ (L : pb_L) (J : pb_J) (st : List Value) (x y : Int64) (h : pb_H) (Q : Option Value → pb_H → Prop), pb_R 41 25 L J (.long y :: .long x :: st) h Q ↔ pb_R 41 26 L J (.long (x &&& y) :: st) h Q) ∧
  (∀ (l0 l1 l2 l3 l4 l5 l6 l7 l8 l9 l10 l11 : Option Value) (j0 j1 j2 j3 j4 j5 j6 j7 j8 j9 j10 j11 : Option Int64) (st : List Value) (h : pb_H) (Q : Option Value → pb_H → Prop) (x : Int64), pb_R 41 26 [l0, l1, l2, l3, l4, l5, l6, l7, l8, l9, l10, l11] [j0, j1, j2, j3, j4, j5, j6, j7, j8, j9, j10, j11] (.long x :: st) h Q ↔ pb_R 41 28 [l0, l1, l2, l3, l4, l5, l6, none, none, l9, l10, l11] [j0, j1, j2, j3, j4, j5, none, some x, none, j9, j10, j11] st h Q) ∧
  (∀ (L : pb_L) (J : pb_J) (st : List Value) (h : pb_H) (Q : Option Value → pb_H → Prop), pb_R 41 28 L J st h Q ↔ pb_R 41 29 L J (.long (0 : Int64) :: st) h Q) ∧
  (∀ (l0 l1 l2 l3 l4 l5 l6 l7 l8 l9 l10 l11 : Option Value) (j0 j1 j2 j3 j4 j5 j6 j7 j8 j9 j10 j11 : Option Int64) (st : List Value) (h : pb_H) (Q : Option Value → pb_H → Prop) (x : Int64), pb_R 41 29 [l0, l1, l2, l3, l4, l5, l6, l7, l8, l9, l10, l11] [j0, j1, j2, j3, j4, j5, j6, j7, j8, j9, j10, j11] (.long x :: st) h Q ↔ pb_R 41 31 [l0, l1, l2, l3, l4, l5, l6, l7, l8, none, none, l11] [j0, j1, j2, j3, j4, j5, j6, j7, none, some x, none, j11] st h Q) ∧
  (∀ (L : pb_L) (J : pb_J) (st : List Value) (h : pb_H) (Q : Option Value → pb_H → Prop), pb_R 41 31 L J st h Q ↔ pb_R 41 32 L J (.int (0 : Int32) :: st) h Q) ∧
  (∀ (l0 l1 l2 l3 l4 l5 l6 l7 l8 l9 l10 l11 : Option Value) (j0 j1 j2 j3 j4 j5 j6 j7 j8 j9 j10 j11 : Option Int64) (st : List Value) (h : pb_H) (Q : Option Value → pb_H → Prop) (x : Int32), pb_R 41 32 [l0, l1, l2, l3, l4, l5, l6, l7, l8, l9, l10, l11] [j0, j1, j2, j3, j4, j5, j6, j7, j8, j9, j10, j11] (.int x :: st) h Q ↔ pb_R 41 34 [l0, l1, l2, l3, l4, l5, l6, l7, l8, l9, l10, some (.int x)] [j0, j1, j2, j3, j4, j5, j6, j7, j8, j9, none, none] st h Q) ∧
  (∀ (l0 l1 l2 l3 l5 l6 l7 l8 l9 l10 l11 : Option Value) (j0 j1 j2 j3 j4 j5 j6 j7 j8 j9 j10 j11 : Option Int64) (st : List Value) (h : pb_H) (Q : Option Value → pb_H → Prop) (x : Int32), pb_R 41 36 [l0, l1, l2, l3, some (.int x), l5, l6, l7, l8, l9, l10, l11] [j0, j1, j2, j3, j4, j5, j6, j7, j8, j9, j10, j11] st h Q ↔ pb_R 41 38 [l0, l1, l2, l3, some (.int x), l5, l6, l7, l8, l9, l10, l11] [j0, j1, j2, j3, j4, j5, j6, j7, j8, j9, j10, j11] (.int x :: st) h Q) ∧
  (∀ (L : pb_L) (J : pb_J) (st : List Value) (h : pb_H) (Q : Option Value → pb_H → Prop) (x y : Int32), pb_R 41 38 L J (.int y :: .int x :: st) h Q ↔ if y ≤ x then pb_R 41 96 L J st h Q else pb_R 41 41 L J st h Q) ∧
  (∀ (l0 l1 l2 l3 l4 l5 l6 l7 l8 l9 l10 l11 : Option Value) (j0 j1 j2 j3 j4 j5 j6 j7 j8 j10 j11 : Option Int64) (st : List Value) (h : pb_H) (Q : Option Value → pb_H → Prop) (x : Int64), pb_R 41 41 [l0, l1, l2, l3, l4, l5, l6, l7, l8, l9, l10, l11] [j0, j1, j2, j3, j4, j5, j6, j7, j8, some x, j10, j11] st h Q ↔ pb_R 41 43 [l0, l1, l2, l3, l4, l5, l6, l7, l8, l9, l10, l11] [j0, j1, j2, j3, j4, j5, j6, j7, j8, some x, j10, j11] (.long x :: st) h Q) ∧
  (∀ (l0 l1 l2 l3 l4 l5 l6 l7 l8 l9 l10 l11 : Option Value) (j0 j1 j2 j3 j4 j5 j6 j8 j9 j10 j11 : Option Int64) (st : List Value) (h : pb_H) (Q : Option Value → pb_H → Prop) (x : Int64), pb_R 41 43 [l0, l1, l2, l3, l4, l5, l6, l7, l8, l9, l10, l11] [j0, j1, j2, j3, j4, j5, j6, some x, j8, j9, j10, j11] st h Q ↔ pb_R 41 45 [l0, l1, l2, l3, l4, l5, l6, l7, l8, l9, l10, l11] [j0, j1, j2, j3, j4, j5, j6, some x, j8, j9, j10, j11] (.long x :: st) h Q) ∧
  (∀ (l0 l1 l2 l4 l5 l6 l7 l8 l9 l10 l11 : Option Value) (j0 j1 j2 j3 j4 j5 j6 j7 j8 j9 j10 j11 : Option Int64) (st : List Value) (h : pb_H) (Q : Option Value → pb_H → Prop) (x : Nat), pb_R 41 45 [l0, l1, l2, some (.ref x), l4, l5, l6, l7, l8, l9, l10, l11] [j0, j1, j2, j3, j4, j5, j6, j7, j8, j9, j10, j11] st h Q ↔ pb_R 41 46 [l0, l1, l2, some (.ref x), l4, l5, l6, l7, l8, l9, l10, l11] [j0, j1, j2, j3, j4, j5, j6, j7, j8, j9, j10, j11] (.ref x :: st) h Q) ∧
  (∀ (l0 l1 l2 l4 l5 l6 l7 l8 l9 l10 l11 : Option Value) (j0 j1 j2 j3 j4 j5 j6 j7 j8 j9 j10 j11 : Option Int64) (st : List Value) (h : pb_H) (Q : Option Value → pb_H → Prop), pb_R 41 45 [l0, l1, l2, some .null, l4, l5, l6, l7, l8, l9, l10, l11] [j0, j1, j2, j3, j4, j5, j6, j7, j8, j9, j10, j11] st h Q ↔ pb_R 41 46 [l0, l1, l2, some .null, l4, l5, l6, l7, l8, l9, l10, l11] [j0, j1, j2, j3, j4, j5, j6, j7, j8, j9, j10, j11] (.null :: st) h Q) ∧
  (∀ (l0 l1 l2 l3 l4 l5 l6 l7 l8 l9 l10 : Option Value) (j0 j1 j2 j3 j4 j5 j6 j7 j8 j9 j10 j11 : Option Int64) (st : List Value) (h : pb_H) (Q : Option Value → pb_H → Prop) (x : Int32), pb_R 41 46 [l0, l1, l2, l3, l4, l5, l6, l7, l8, l9, l10, some (.int x)] [j0, j1, j2, j3, j4, j5, j6, j7, j8, j9, j10, j11] st h Q ↔ pb_R 41 48 [l0, l1, l2, l3, l4, l5, l6, l7, l8, l9, l10, some (.int x)] [j0, j1, j2, j3, j4, j5, j6, j7, j8, j9, j10, j11] (.int x :: st) h Q) ∧
  (∀ (L : pb_L) (J : pb_J) (st : List Value) (h : pb_H) (Q : Option Value → pb_H → Prop) (a : Nat) (i : Int32), pb_R 41 48 L J (.int i :: .ref a :: st) h Q ↔ pb_o (pb_ai (h.2 a) i) (fun v => pb_R 41 49 L J (.int v :: st) h Q)) ∧
  (∀ (L : pb_L) (J : pb_J) (st : List Value) (x : Int32) (h : pb_H) (Q : Option Value → pb_H → Prop), pb_R 41 49 L J (.int x :: st) h Q ↔ pb_R 41 50 L J (.long x.toInt64 :: st) h Q) ∧
  (∀ (L : pb_L) (J : pb_J) (st : List Value) (h : pb_H) (Q : Option Value → pb_H → Prop), pb_R 41 50 L J st h Q ↔ pb_R 41 53 L J (.long (4294967295 : Int64) :: st) h Q) ∧
  (∀ (L : pb_L) (J : pb_J) (st : List Value) (x y : Int64) (h : pb_H) (Q : Option Value → pb_H → Prop), pb_R 41 53 L J (.long y :: .long x :: st) h Q ↔ pb_R 41 54 L J (.long (x &&& y) :: st) h Q) ∧
  (∀ (L : pb_L) (J : pb_J) (st : List Value) (x y : Int64) (h : pb_H) (Q : Option Value → pb_H → Prop), pb_R 41 54 L J (.long y :: .long x :: st) h Q ↔ pb_R 41 55 L J (.long (x * y) :: st) h Q) ∧
  (∀ (l0 l1 l2 l3 l4 l6 l7 l8 l9 l10 l11 : Option Value) (j0 j1 j2 j3 j4 j5 j6 j7 j8 j9 j10 j11 : Option Int64) (st : List Value) (h : pb_H) (Q : Option Value → pb_H → Prop) (x : Nat), pb_R 41 55 [l0, l1, l2, l3, l4, some (.ref x), l6, l7, l8, l9, l10, l11] [j0, j1, j2, j3, j4, j5, j6, j7, j8, j9, j10, j11] st h Q ↔ pb_R 41 57 [l0, l1, l2, l3, l4, some (.ref x), l6, l7, l8, l9, l10, l11] [j0, j1, j2, j3, j4, j5, j6, j7, j8, j9, j10, j11] (.ref x :: st) h Q) ∧
  (∀ (l0 l1 l2 l3 l4 l6 l7 l8 l9 l10 l11 : Option Value) (j0 j1 j2 j3 j4 j5 j6 j7 j8 j9 j10 j11 : Option Int64) (st : List Value) (h : pb_H) (Q : Option Value → pb_H → Prop), pb_R 41 55 [l0, l1, l2, l3, l4, some .null, l6, l7, l8, l9, l10, l11] [j0, j1, j2, j3, j4, j5, j6, j7, j8, j9, j10, j11] st h Q ↔ pb_R 41 57 [l0, l1, l2, l3, l4, some .null, l6, l7, l8, l9, l10, l11] [j0, j1, j2, j3, j4, j5, j6, j7, j8, j9, j10, j11] (.null :: st) h Q) ∧
  (∀ (l0 l1 l2 l3 l4 l5 l7 l8 l9 l10 l11 : Option Value) (j0 j1 j2 j3 j4 j5 j6 j7 j8 j9 j10 j11 : Option Int64) (st : List Value) (h : pb_H) (Q : Option Value → pb_H → Prop) (x : Int32), pb_R 41 57 [l0, l1, l2, l3, l4, l5, some (.int x), l7, l8, l9, l10, l11] [j0, j1, j2, j3, j4, j5, j6, j7, j8, j9, j10, j11] st h Q ↔ pb_R 41 59 [l0, l1, l2, l3, l4, l5, some (.int x), l7, l8, l9, l10, l11] [j0, j1, j2, j3, j4, j5, j6, j7, j8, j9, j10, j11] (.int x :: st) h Q) ∧
  (∀ (l0 l1 l2 l3 l4 l5 l6 l7 l8 l9 l10 : Option Value) (j0 j1 j2 j3 j4 j5 j6 j7 j8 j9 j10 j11 : Option Int64) (st : List Value) (h : pb_H) (Q : Option Value → pb_H → Prop) (x : Int32), pb_R 41 59 [l0, l1, l2, l3, l4, l5, l6, l7, l8, l9, l10, some (.int x)] [j0, j1, j2, j3, j4, j5, j6, j7, j8, j9, j10, j11] st h Q ↔ pb_R 41 61 [l0, l1, l2, l3, l4, l5, l6, l7, l8, l9, l10, some (.int x)] [j0, j1, j2, j3, j4, j5, j6, j7, j8, j9, j10, j11] (.int x :: st) h Q) ∧
  (∀ (L : pb_L) (J : pb_J) (st : List Value) (x y : Int32) (h : pb_H) (Q : Option Value → pb_H → Prop), pb_R 41 61 L J (.int y :: .int x :: st) h Q ↔ pb_R 41 62 L J (.int (x + y) :: st) h Q) ∧
  (∀ (L : pb_L) (J : pb_J) (st : List Value) (h : pb_H) (Q : Option Value → pb_H → Prop) (a : Nat) (i : Int32), pb_R 41 62 L J (.int i :: .ref a :: st) h Q ↔ pb_o (pb_ai (h.2 a) i) (fun v => pb_R 41 63 L J (.int v :: st) h Q)) ∧
  (∀ (L : pb_L) (J : pb_J) (st : List Value) (x : Int32) (h : pb_H) (Q : Option Value → pb_H → Prop), pb_R 41 63 L J (.int x :: st) h Q ↔ pb_R 41 64 L J (.long x.toInt64 :: st) h Q) ∧
  (∀ (L : pb_L) (J : pb_J) (st : List Value) (h : pb_H) (Q : Option Value → pb_H → Prop), pb_R 41 64 L J st h Q ↔ pb_R 41 67 L J (.long (4294967295 : Int64) :: st) h Q) ∧
  (∀ (L : pb_L) (J : pb_J) (st : List Value) (x y : Int64) (h : pb_H) (Q : Option Value → pb_H → Prop), pb_R 41 67 L J (.long y :: .long x :: st) h Q ↔ pb_R 41 68 L J (.long (x &&& y) :: st) h Q) ∧
  (∀ (L : pb_L) (J : pb_J) (st : List Value) (x y : Int64) (h : pb_H) (Q : Option Value → pb_H → Prop), pb_R 41 68 L J (.long y :: .long x :: st) h Q ↔ pb_R 41 69 L J (.long (x + y) :: st) h Q) ∧
  (∀ (L : pb_L) (J : pb_J) (st : List Value) (x y : Int64) (h : pb_H) (Q : Option Value → pb_H → Prop), pb_R 41 69 L J (.long y :: .long x :: st) h Q ↔ pb_R 41 70 L J (.long (x + y) :: st) h Q) ∧
  (∀ (l0 l1 l2 l3 l4 l5 l6 l7 l8 l9 l10 l11 : Option Value) (j0 j1 j2 j3 j4 j5 j6 j7 j8 j9 j10 j11 : Option Int64) (st : List Value) (h : pb_H) (Q : Option Value → pb_H → Prop) (x : Int64), pb_R 41 70 [l0, l1, l2, l3, l4, l5, l6, l7, l8, l9, l10, l11] [j0, j1, j2, j3, j4, j5, j6, j7, j8, j9, j10, j11] (.long x :: st) h Q ↔ pb_R 41 72 [l0, l1, l2, l3, l4, l5, l6, l7, l8, none, none, l11] [j0, j1, j2, j3, j4, j5, j6, j7, none, some x, none, j11] st h Q) ∧
  (∀ (l0 l1 l2 l3 l4 l6 l7 l8 l9 l10 l11 : Option Value) (j0 j1 j2 j3 j4 j5 j6 j7 j8 j9 j10 j11 : Option Int64) (st : List Value) (h : pb_H) (Q : Option Value → pb_H → Prop) (x : Nat), pb_R 41 72 [l0, l1, l2, l3, l4, some (.ref x), l6, l7, l8, l9, l10, l11] [j0, j1, j2, j3, j4, j5, j6, j7, j8, j9, j10, j11] st h Q ↔ pb_R 41 74 [l0, l1, l2, l3, l4, some (.ref x), l6, l7, l8, l9, l10, l11] [j0, j1, j2, j3, j4, j5, j6, j7, j8, j9, j10, j11] (.ref x :: st) h Q) ∧
  (∀ (l0 l1 l2 l3 l4 l6 l7 l8 l9 l10 l11 : Option Value) (j0 j1 j2 j3 j4 j5 j6 j7 j8 j9 j10 j11 : Option Int64) (st : List Value) (h : pb_H) (Q : Option Value → pb_H → Prop), pb_R 41 72 [l0, l1, l2, l3, l4, some .null, l6, l7, l8, l9, l10, l11] [j0, j1, j2, j3, j4, j5, j6, j7, j8, j9, j10, j11] st h Q ↔ pb_R 41 74 [l0, l1, l2, l3, l4, some .null, l6, l7, l8, l9, l10, l11] [j0, j1, j2, j3, j4, j5, j6, j7, j8, j9, j10, j11] (.null :: st) h Q) ∧
  (∀ (l0 l1 l2 l3 l4 l5 l7 l8 l9 l10 l11 : Option Value) (j0 j1 j2 j3 j4 j5 j6 j7 j8 j9 j10 j11 : Option Int64) (st : List Value) (h : pb_H) (Q : Option Value → pb_H → Prop) (x : Int32), pb_R 41 74 [l0, l1, l2, l3, l4, l5, some (.int x), l7, l8, l9, l10, l11] [j0, j1, j2, j3, j4, j5, j6, j7, j8, j9, j10, j11] st h Q ↔ pb_R 41 76 [l0, l1, l2, l3, l4, l5, some (.int x), l7, l8, l9, l10, l11] [j0, j1, j2, j3, j4, j5, j6, j7, j8, j9, j10, j11] (.int x :: st) h Q) ∧
  (∀ (l0 l1 l2 l3 l4 l5 l6 l7 l8 l9 l10 : Option Value) (j0 j1 j2 j3 j4 j5 j6 j7 j8 j9 j10 j11 : Option Int64) (st : List Value) (h : pb_H) (Q : Option Value → pb_H → Prop) (x : Int32), pb_R 41 76 [l0, l1, l2, l3, l4, l5, l6, l7, l8, l9, l10, some (.int x)] [j0, j1, j2, j3, j4, j5, j6, j7, j8, j9, j10, j11] st h Q ↔ pb_R 41 78 [l0, l1, l2, l3, l4, l5, l6, l7, l8, l9, l10, some (.int x)] [j0, j1, j2, j3, j4, j5, j6, j7, j8, j9, j10, j11] (.int x :: st) h Q) ∧
  (∀ (L : pb_L) (J : pb_J) (st : List Value) (x y : Int32) (h : pb_H) (Q : Option Value → pb_H → Prop), pb_R 41 78 L J (.int y :: .int x :: st) h Q ↔ pb_R 41 79 L J (.int (x + y) :: st) h Q) ∧
  (∀ (l0 l1 l2 l3 l4 l5 l6 l7 l8 l9 l10 l11 : Option Value) (j0 j1 j2 j3 j4 j5 j6 j7 j8 j10 j11 : Option Int64) (st : List Value) (h : pb_H) (Q : Option Value → pb_H → Prop) (x : Int64), pb_R 41 79 [l0, l1, l2, l3, l4, l5, l6, l7, l8, l9, l10, l11] [j0, j1, j2, j3, j4, j5, j6, j7, j8, some x, j10, j11] st h Q ↔ pb_R 41 81 [l0, l1, l2, l3, l4, l5, l6, l7, l8, l9, l10, l11] [j0, j1, j2, j3, j4, j5, j6, j7, j8, some x, j10, j11] (.long x :: st) h Q) ∧
  (∀ (L : pb_L) (J : pb_J) (st : List Value) (x : Int64) (h : pb_H) (Q : Option Value → pb_H → Prop), pb_R 41 81 L J (.long x :: st) h Q ↔ pb_R 41 82 L J (.int x.toInt32 :: st) h Q) ∧
  (∀ (L : pb_L) (J : pb_J) (st : List Value) (h : pb_H) (Q : Option Value → pb_H → Prop) (a : Nat) (i x : Int32), pb_R 41 82 L J (.int x :: .int i :: .ref a :: st) h Q ↔ pb_o (pb_si (h.2 a) i x) (fun c => pb_R 41 83 L J st (pb_set h a c) Q)) ∧
  (∀ (l0 l1 l2 l3 l4 l5 l6 l7 l8 l9 l10 l11 : Option Value) (j0 j1 j2 j3 j4 j5 j6 j7 j8 j10 j11 : Option Int64) (st : List Value) (h : pb_H) (Q : Option Value → pb_H → Prop) (x : Int64), pb_R 41 83 [l0, l1, l2, l3, l4, l5, l6, l7, l8, l9, l10, l11] [j0, j1, j2, j3, j4, j5, j6, j7, j8, some x, j10, j11] st h Q ↔ pb_R 41 85 [l0, l1, l2, l3, l4, l5, l6, l7, l8, l9, l10, l11] [j0, j1, j2, j3, j4, j5, j6, j7, j8, some x, j10, j11] (.long x :: st) h Q) ∧
  (∀ (L : pb_L) (J : pb_J) (st : List Value) (h : pb_H) (Q : Option Value → pb_H → Prop), pb_R 41 85 L J st h Q ↔ pb_R 41 87 L J (.int (32 : Int32) :: st) h Q) ∧
  (∀ (L : pb_L) (J : pb_J) (st : List Value) (x : Int64) (y : Int32) (h : pb_H) (Q : Option Value → pb_H → Prop), pb_R 41 87 L J (.int y :: .long x :: st) h Q ↔ pb_R 41 88 L J (.long (x.toUInt64 >>> (y.toInt64.toUInt64 &&& Int64.toUInt64 63)).toInt64 :: st) h Q) ∧
  (∀ (l0 l1 l2 l3 l4 l5 l6 l7 l8 l9 l10 l11 : Option Value) (j0 j1 j2 j3 j4 j5 j6 j7 j8 j9 j10 j11 : Option Int64) (st : List Value) (h : pb_H) (Q : Option Value → pb_H → Prop) (x : Int64), pb_R 41 88 [l0, l1, l2, l3, l4, l5, l6, l7, l8, l9, l10, l11] [j0, j1, j2, j3, j4, j5, j6, j7, j8, j9, j10, j11] (.long x :: st) h Q ↔ pb_R 41 90 [l0, l1, l2, l3, l4, l5, l6, l7, l8, none, none, l11] [j0, j1, j2, j3, j4, j5, j6, j7, none, some x, none, j11] st h Q) ∧
  (∀ (l0 l1 l2 l3 l4 l5 l6 l7 l8 l9 l10 : Option Value) (j0 j1 j2 j3 j4 j5 j6 j7 j8 j9 j10 j11 : Option Int64) (st : List Value) (h : pb_H) (Q : Option Value → pb_H → Prop) (x : Int32), pb_R 41 90 [l0, l1, l2, l3, l4, l5, l6, l7, l8, l9, l10, some (.int x)] [j0, j1, j2, j3, j4, j5, j6, j7, j8, j9, j10, j11] st h Q ↔ pb_R 41 93 [l0, l1, l2, l3, l4, l5, l6, l7, l8, l9, l10, some (.int (x + (1 : Int32)))] [j0, j1, j2, j3, j4, j5, j6, j7, j8, j9, none, none] st h Q) ∧
  (∀ (L : pb_L) (J : pb_J) (st : List Value) (h : pb_H) (Q : Option Value → pb_H → Prop), pb_R 41 93 L J st h Q ↔ pb_R 41 34 L J st h Q) ∧
  (∀ (l0 l1 l2 l3 l4 l6 l7 l8 l9 l10 l11 : Option Value) (j0 j1 j2 j3 j4 j5 j6 j7 j8 j9 j10 j11 : Option Int64) (st : List Value) (h : pb_H) (Q : Option Value → pb_H → Prop) (x : Nat), pb_R 41 96 [l0, l1, l2, l3, l4, some (.ref x), l6, l7, l8, l9, l10, l11] [j0, j1, j2, j3, j4, j5, j6, j7, j8, j9, j10, j11] st h Q ↔ pb_R 41 98 [l0, l1, l2, l3, l4, some (.ref x), l6, l7, l8, l9, l10, l11] [j0, j1, j2, j3, j4, j5, j6, j7, j8, j9, j10, j11] (.ref x :: st) h Q) ∧
  (∀ (l0 l1 l2 l3 l4 l6 l7 l8 l9 l10 l11 : Option Value) (j0 j1 j2 j3 j4 j5 j6 j7 j8 j9 j10 j11 : Option Int64) (st : List Value) (h : pb_H) (Q : Option Value → pb_H → Prop), pb_R 41 96 [l0, l1, l2, l3, l4, some .null, l6, l7, l8, l9, l10, l11] [j0, j1, j2, j3, j4, j5, j6, j7, j8, j9, j10, j11] st h Q ↔ pb_R 41 98 [l0, l1, l2, l3, l4, some .null, l6, l7, l8, l9, l10, l11] [j0, j1, j2, j3, j4, j5, j6, j7, j8, j9, j10, j11] (.null :: st) h Q) ∧
  (∀ (l0 l1 l2 l3 l4 l5 l7 l8 l9 l10 l11 : Option Value) (j0 j1 j2 j3 j4 j5 j6 j7 j8 j9 j10 j11 : Option Int64) (st : List Value) (h : pb_H) (Q : Option Value → pb_H → Prop) (x : Int32), pb_R 41 98 [l0, l1, l2, l3, l4, l5, some (.int x), l7, l8, l9, l10, l11] [j0, j1, j2, j3, j4, j5, j6, j7, j8, j9, j10, j11] st h Q ↔ pb_R 41 100 [l0, l1, l2, l3, l4, l5, some (.int x), l7, l8, l9, l10, l11] [j0, j1, j2, j3, j4, j5, j6, j7, j8, j9, j10, j11] (.int x :: st) h Q) ∧
  (∀ (l0 l1 l2 l3 l5 l6 l7 l8 l9 l10 l11 : Option Value) (j0 j1 j2 j3 j4 j5 j6 j7 j8 j9 j10 j11 : Option Int64) (st : List Value) (h : pb_H) (Q : Option Value → pb_H → Prop) (x : Int32), pb_R 41 100 [l0, l1, l2, l3, some (.int x), l5, l6, l7, l8, l9, l10, l11] [j0, j1, j2, j3, j4, j5, j6, j7, j8, j9, j10, j11] st h Q ↔ pb_R 41 102 [l0, l1, l2, l3, some (.int x), l5, l6, l7, l8, l9, l10, l11] [j0, j1, j2, j3, j4, j5, j6, j7, j8, j9, j10, j11] (.int x :: st) h Q) ∧
  (∀ (L : pb_L) (J : pb_J) (st : List Value) (x y : Int32) (h : pb_H) (Q : Option Value → pb_H → Prop), pb_R 41 102 L J (.int y :: .int x :: st) h Q ↔ pb_R 41 103 L J (.int (x + y) :: st) h Q) ∧
  (∀ (l0 l1 l2 l3 l4 l5 l6 l7 l8 l9 l10 l11 : Option Value) (j0 j1 j2 j3 j4 j5 j6 j7 j8 j10 j11 : Option Int64) (st : List Value) (h : pb_H) (Q : Option Value → pb_H → Prop) (x : Int64), pb_R 41 103 [l0, l1, l2, l3, l4, l5, l6, l7, l8, l9, l10, l11] [j0, j1, j2, j3, j4, j5, j6, j7, j8, some x, j10, j11] st h Q ↔ pb_R 41 105 [l0, l1, l2, l3, l4, l5, l6, l7, l8, l9, l10, l11] [j0, j1, j2, j3, j4, j5, j6, j7, j8, some x, j10, j11] (.long x :: st) h Q) ∧
  (∀ (L : pb_L) (J : pb_J) (st : List Value) (x : Int64) (h : pb_H) (Q : Option Value → pb_H → Prop), pb_R 41 105 L J (.long x :: st) h Q ↔ pb_R 41 106 L J (.int x.toInt32 :: st) h Q) ∧
  (∀ (L : pb_L) (J : pb_J) (st : List Value) (h : pb_H) (Q : Option Value → pb_H → Prop) (a : Nat) (i x : Int32), pb_R 41 106 L J (.int x :: .int i :: .ref a :: st) h Q ↔ pb_o (pb_si (h.2 a) i x) (fun c => pb_R 41 107 L J st (pb_set h a c) Q)) ∧
  (∀ (l0 l1 l2 l3 l4 l5 l7 l8 l9 l10 l11 : Option Value) (j0 j1 j2 j3 j4 j5 j6 j7 j8 j9 j10 j11 : Option Int64) (st : List Value) (h : pb_H) (Q : Option Value → pb_H → Prop) (x : Int32), pb_R 41 107 [l0, l1, l2, l3, l4, l5, some (.int x), l7, l8, l9, l10, l11] [j0, j1, j2, j3, j4, j5, j6, j7, j8, j9, j10, j11] st h Q ↔ pb_R 41 110 [l0, l1, l2, l3, l4, l5, some (.int (x + (1 : Int32))), l7, l8, l9, l10, l11] [j0, j1, j2, j3, j4, none, none, j7, j8, j9, j10, j11] st h Q) ∧
  (∀ (L : pb_L) (J : pb_J) (st : List Value) (h : pb_H) (Q : Option Value → pb_H → Prop), pb_R 41 110 L J st h Q ↔ pb_R 41 9 L J st h Q) ∧
  (∀ (L : pb_L) (J : pb_J) (h : pb_H) (Q : Option Value → pb_H → Prop), pb_R 41 113 L J [] h Q ↔ Q none h) := ⟨
  fun l0 l1 l2 l3 l4 l6 l7 l8 l9 l10 l11 j0 j1 j2 j3 j4 j5 j6 j7 j8 j9 j10 j11 st h Q x => pf_S pb_u_41 rfl rfl,
  fun l0 l1 l2 l3 l4 l6 l7 l8 l9 l10 l11 j0 j1 j2 j3 j4 j5 j6 j7 j8 j9 j10 j11 st h Q => pf_S pb_u_41 rfl rfl,
  fun L J st h Q => pf_S pb_u_41 rfl rfl,
  fun L J h Q x0 x1 => pf_ks pb_u_41 rfl rfl rfl rfl,
  fun L J st h Q => pf_S pb_u_41 rfl rfl,
  fun l0 l1 l2 l3 l4 l5 l6 l7 l8 l9 l10 l11 j0 j1 j2 j3 j4 j5 j6 j7 j8 j9 j10 j11 st h Q x => pf_S pb_u_41 rfl rfl,
  fun l0 l1 l3 l4 l5 l6 l7 l8 l9 l10 l11 j0 j1 j2 j3 j4 j5 j6 j7 j8 j9 j10 j11 st h Q x => pf_S pb_u_41 rfl rfl,
  fun L J st h Q x y => pf_ic pb_u_41 rfl rfl rfl,
  fun l1 l2 l3 l4 l5 l6 l7 l8 l9 l10 l11 j0 j1 j2 j3 j4 j5 j6 j7 j8 j9 j10 j11 st h Q x => pf_S pb_u_41 rfl rfl,
  fun l1 l2 l3 l4 l5 l6 l7 l8 l9 l10 l11 j0 j1 j2 j3 j4 j5 j6 j7 j8 j9 j10 j11 st h Q => pf_S pb_u_41 rfl rfl,
  fun l0 l2 l3 l4 l5 l6 l7 l8 l9 l10 l11 j0 j1 j2 j3 j4 j5 j6 j7 j8 j9 j10 j11 st h Q x => pf_S pb_u_41 rfl rfl,
  fun l0 l1 l2 l3 l4 l5 l7 l8 l9 l10 l11 j0 j1 j2 j3 j4 j5 j6 j7 j8 j9 j10 j11 st h Q x => pf_S pb_u_41 rfl rfl,
  fun L J st x y h Q => pf_S pb_u_41 rfl rfl,
  fun L J st h Q a i => pf_ai pb_u_41 rfl rfl,
  fun L J st x h Q => pf_S pb_u_41 rfl rfl,
  fun L J st h Q => pf_S pb_u_41 rfl rfl,
  fun L J st x y h Q => pf_S pb_u_41 rfl rfl,
  fun l0 l1 l2 l3 l4 l5 l6 l7 l8 l9 l10 l11 j0 j1 j2 j3 j4 j5 j6 j7 j8 j9 j10 j11 st h Q x => pf_S pb_u_41 rfl rfl,
  fun L J st h Q => pf_S pb_u_41 rfl rfl,
  fun l0 l1 l2 l3 l4 l5 l6 l7 l8 l9 l10 l11 j0 j1 j2 j3 j4 j5 j6 j7 j8 j9 j10 j11 st h Q x => pf_S pb_u_41 rfl rfl,
  fun L J st h Q => pf_S pb_u_41 rfl rfl,
  fun l0 l1 l2 l3 l4 l5 l6 l7 l8 l9 l10 l11 j0 j1 j2 j3 j4 j5 j6 j7 j8 j9 j10 j11 st h Q x => pf_S pb_u_41 rfl rfl,
  fun l0 l1 l2 l3 l5 l6 l7 l8 l9 l10 l11 j0 j1 j2 j3 j4 j5 j6 j7 j8 j9 j10 j11 st h Q x => pf_S pb_u_41 rfl rfl,
  fun L J st h Q x y => pf_ic pb_u_41 rfl rfl rfl,
  fun l0 l1 l2 l3 l4 l5 l6 l7 l8 l9 l10 l11 j0 j1 j2 j3 j4 j5 j6 j7 j8 j10 j11 st h Q x => pf_S pb_u_41 rfl rfl,
  fun l0 l1 l2 l3 l4 l5 l6 l7 l8 l9 l10 l11 j0 j1 j2 j3 j4 j5 j6 j8 j9 j10 j11 st h Q x => pf_S pb_u_41 rfl rfl,
  fun l0 l1 l2 l4 l5 l6 l7 l8 l9 l10 l11 j0 j1 j2 j3 j4 j5 j6 j7 j8 j9 j10 j11 st h Q x => pf_S pb_u_41 rfl rfl,
  fun l0 l1 l2 l4 l5 l6 l7 l8 l9 l10 l11 j0 j1 j2 j3 j4 j5 j6 j7 j8 j9 j10 j11 st h Q => pf_S pb_u_41 rfl rfl,
  fun l0 l1 l2 l3 l4 l5 l6 l7 l8 l9 l10 j0 j1 j2 j3 j4 j5 j6 j7 j8 j9 j10 j11 st h Q x => pf_S pb_u_41 rfl rfl,
  fun L J st h Q a i => pf_ai pb_u_41 rfl rfl,
  fun L J st x h Q => pf_S pb_u_41 rfl rfl,
  fun L J st h Q => pf_S pb_u_41 rfl rfl,
  fun L J st x y h Q => pf_S pb_u_41 rfl rfl,
  fun L J st x y h Q => pf_S pb_u_41 rfl rfl,
  fun l0 l1 l2 l3 l4 l6 l7 l8 l9 l10 l11 j0 j1 j2 j3 j4 j5 j6 j7 j8 j9 j10 j11 st h Q x => pf_S pb_u_41 rfl rfl,
  fun l0 l1 l2 l3 l4 l6 l7 l8 l9 l10 l11 j0 j1 j2 j3 j4 j5 j6 j7 j8 j9 j10 j11 st h Q => pf_S pb_u_41 rfl rfl,
  fun l0 l1 l2 l3 l4 l5 l7 l8 l9 l10 l11 j0 j1 j2 j3 j4 j5 j6 j7 j8 j9 j10 j11 st h Q x => pf_S pb_u_41 rfl rfl,
  fun l0 l1 l2 l3 l4 l5 l6 l7 l8 l9 l10 j0 j1 j2 j3 j4 j5 j6 j7 j8 j9 j10 j11 st h Q x => pf_S pb_u_41 rfl rfl,
  fun L J st x y h Q => pf_S pb_u_41 rfl rfl,
  fun L J st h Q a i => pf_ai pb_u_41 rfl rfl,
  fun L J st x h Q => pf_S pb_u_41 rfl rfl,
  fun L J st h Q => pf_S pb_u_41 rfl rfl,
  fun L J st x y h Q => pf_S pb_u_41 rfl rfl,
  fun L J st x y h Q => pf_S pb_u_41 rfl rfl,
  fun L J st x y h Q => pf_S pb_u_41 rfl rfl,
  fun l0 l1 l2 l3 l4 l5 l6 l7 l8 l9 l10 l11 j0 j1 j2 j3 j4 j5 j6 j7 j8 j9 j10 j11 st h Q x => pf_S pb_u_41 rfl rfl,
  fun l0 l1 l2 l3 l4 l6 l7 l8 l9 l10 l11 j0 j1 j2 j3 j4 j5 j6 j7 j8 j9 j10 j11 st h Q x => pf_S pb_u_41 rfl rfl,
  fun l0 l1 l2 l3 l4 l6 l7 l8 l9 l10 l11 j0 j1 j2 j3 j4 j5 j6 j7 j8 j9 j10 j11 st h Q => pf_S pb_u_41 rfl rfl,
  fun l0 l1 l2 l3 l4 l5 l7 l8 l9 l10 l11 j0 j1 j2 j3 j4 j5 j6 j7 j8 j9 j10 j11 st h Q x => pf_S pb_u_41 rfl rfl,
  fun l0 l1 l2 l3 l4 l5 l6 l7 l8 l9 l10 j0 j1 j2 j3 j4 j5 j6 j7 j8 j9 j10 j11 st h Q x => pf_S pb_u_41 rfl rfl,
  fun L J st x y h Q => pf_S pb_u_41 rfl rfl,
  fun l0 l1 l2 l3 l4 l5 l6 l7 l8 l9 l10 l11 j0 j1 j2 j3 j4 j5 j6 j7 j8 j10 j11 st h Q x => pf_S pb_u_41 rfl rfl,
  fun L J st x h Q => pf_S pb_u_41 rfl rfl,
  fun L J st h Q a i x => pf_si pb_u_41 rfl rfl,
  fun l0 l1 l2 l3 l4 l5 l6 l7 l8 l9 l10 l11 j0 j1 j2 j3 j4 j5 j6 j7 j8 j10 j11 st h Q x => pf_S pb_u_41 rfl rfl,
  fun L J st h Q => pf_S pb_u_41 rfl rfl,
  fun L J st x y h Q => pf_S pb_u_41 rfl rfl,
  fun l0 l1 l2 l3 l4 l5 l6 l7 l8 l9 l10 l11 j0 j1 j2 j3 j4 j5 j6 j7 j8 j9 j10 j11 st h Q x => pf_S pb_u_41 rfl rfl,
  fun l0 l1 l2 l3 l4 l5 l6 l7 l8 l9 l10 j0 j1 j2 j3 j4 j5 j6 j7 j8 j9 j10 j11 st h Q x => pf_S pb_u_41 rfl rfl,
  fun L J st h Q => pf_S pb_u_41 rfl rfl,
  fun l0 l1 l2 l3 l4 l6 l7 l8 l9 l10 l11 j0 j1 j2 j3 j4 j5 j6 j7 j8 j9 j10 j11 st h Q x => pf_S pb_u_41 rfl rfl,
  fun l0 l1 l2 l3 l4 l6 l7 l8 l9 l10 l11 j0 j1 j2 j3 j4 j5 j6 j7 j8 j9 j10 j11 st h Q => pf_S pb_u_41 rfl rfl,
  fun l0 l1 l2 l3 l4 l5 l7 l8 l9 l10 l11 j0 j1 j2 j3 j4 j5 j6 j7 j8 j9 j10 j11 st h Q x => pf_S pb_u_41 rfl rfl,
  fun l0 l1 l2 l3 l5 l6 l7 l8 l9 l10 l11 j0 j1 j2 j3 j4 j5 j6 j7 j8 j9 j10 j11 st h Q x => pf_S pb_u_41 rfl rfl,
  fun L J st x y h Q => pf_S pb_u_41 rfl rfl,
  fun l0 l1 l2 l3 l4 l5 l6 l7 l8 l9 l10 l11 j0 j1 j2 j3 j4 j5 j6 j7 j8 j10 j11 st h Q x => pf_S pb_u_41 rfl rfl,
  fun L J st x h Q => pf_S pb_u_41 rfl rfl,
  fun L J st h Q a i x => pf_si pb_u_41 rfl rfl,
  fun l0 l1 l2 l3 l4 l5 l7 l8 l9 l10 l11 j0 j1 j2 j3 j4 j5 j6 j7 j8 j9 j10 j11 st h Q x => pf_S pb_u_41 rfl rfl,
  fun L J st h Q => pf_S pb_u_41 rfl rfl,
  fun L J h Q => pf_rv pb_u_41 rfl rfl⟩
theorem pb_c41 (x0 : Nat) (x1 : Int32) (x2 : Int32) (x3 : Nat) (x4 : Int32) (x5 : Nat) (h : pb_H) (Q : Option Value → pb_H → Prop) : pb_call 41 [.ref x0, .int x1, .int x2, .ref x3, .int x4, .ref x5] h Q ↔ pb_R 41 0 [some (.ref x0), some (.int x1), some (.int x2), some (.ref x3), some (.int x4), some (.ref x5), none, none, none, none, none, none] [none, none, none, none, none, none, none, none, none, none, none, none] [] h Q := Iff.rfl
/-! 42: PlaneBench$Wide.copy([II[II)V -/
theorem pb_u_42 : pb_t 42 = pb_t42 := rfl
set_option maxRecDepth 100000 in
theorem pb_e42 : (∀ (l0 l1 l3 : Option Value) (st : List Value) (h : pb_H) (Q : Option Value → pb_H → Prop) (x : Nat), pb_R 42 0 [l0, l1, some (.ref x), l3] [] st h Q ↔ pb_R 42 1 [l0, l1, some (.ref x), l3] [] (.ref x :: st) h Q) ∧
  (∀ (l0 l1 l3 : Option Value) (st : List Value) (h : pb_H) (Q : Option Value → pb_H → Prop), pb_R 42 0 [l0, l1, some .null, l3] [] st h Q ↔ pb_R 42 1 [l0, l1, some .null, l3] [] (.null :: st) h Q) ∧
  (∀ (l0 l1 l2 : Option Value) (st : List Value) (h : pb_H) (Q : Option Value → pb_H → Prop) (x : Int32), pb_R 42 1 [l0, l1, l2, some (.int x)] [] st h Q ↔ pb_R 42 2 [l0, l1, l2, some (.int x)] [] (.int x :: st) h Q) ∧
  (∀ (l1 l2 l3 : Option Value) (st : List Value) (h : pb_H) (Q : Option Value → pb_H → Prop) (x : Nat), pb_R 42 2 [some (.ref x), l1, l2, l3] [] st h Q ↔ pb_R 42 3 [some (.ref x), l1, l2, l3] [] (.ref x :: st) h Q) ∧
  (∀ (l1 l2 l3 : Option Value) (st : List Value) (h : pb_H) (Q : Option Value → pb_H → Prop), pb_R 42 2 [some .null, l1, l2, l3] [] st h Q ↔ pb_R 42 3 [some .null, l1, l2, l3] [] (.null :: st) h Q) ∧
  (∀ (l0 l2 l3 : Option Value) (st : List Value) (h : pb_H) (Q : Option Value → pb_H → Prop) (x : Int32), pb_R 42 3 [l0, some (.int x), l2, l3] [] st h Q ↔ pb_R 42 4 [l0, some (.int x), l2, l3] [] (.int x :: st) h Q) ∧
  (∀ (L : pb_L) (J : pb_J) (st : List Value) (h : pb_H) (Q : Option Value → pb_H → Prop), pb_R 42 4 L J st h Q ↔ pb_R 42 6 L J (.int (8 : Int32) :: st) h Q) ∧
  (∀ (L : pb_L) (J : pb_J) (h : pb_H) (Q : Option Value → pb_H → Prop) (x0 : Int32) (x1 : Int32) (x2 : Nat) (x3 : Int32) (x4 : Nat), pb_R 42 6 L J [.int x0, .int x1, .ref x2, .int x3, .ref x4] h Q ↔ pb_o (pb_cp (h.2 x4) (h.2 x2) x3 x1 x0) (fun c => pb_R 42 9 L J [] (pb_set h x2 c) Q)) ∧
  (∀ (L : pb_L) (J : pb_J) (h : pb_H) (Q : Option Value → pb_H → Prop), pb_R 42 9 L J [] h Q ↔ Q none h) := ⟨
  fun l0 l1 l3 st h Q x => pf_S pb_u_42 rfl rfl,
  fun l0 l1 l3 st h Q => pf_S pb_u_42 rfl rfl,
  fun l0 l1 l2 st h Q x => pf_S pb_u_42 rfl rfl,
  fun l1 l2 l3 st h Q x => pf_S pb_u_42 rfl rfl,
  fun l1 l2 l3 st h Q => pf_S pb_u_42 rfl rfl,
  fun l0 l2 l3 st h Q x => pf_S pb_u_42 rfl rfl,
  fun L J st h Q => pf_S pb_u_42 rfl rfl,
  fun L J h Q x0 x1 x2 x3 x4 => pf_cp pb_u_42 rfl rfl,
  fun L J h Q => pf_rv pb_u_42 rfl rfl⟩
theorem pb_c42 (x0 : Nat) (x1 : Int32) (x2 : Nat) (x3 : Int32) (h : pb_H) (Q : Option Value → pb_H → Prop) : pb_call 42 [.ref x0, .int x1, .ref x2, .int x3] h Q ↔ pb_R 42 0 [some (.ref x0), some (.int x1), some (.ref x2), some (.int x3)] [] [] h Q := Iff.rfl
/-! 43: PlaneBench$Line.multiply([I[I)Z -/
theorem pb_u_43 : pb_t 43 = pb_t43 := rfl
theorem pb_ci_43 : pb_ci 43 = 4 := by decide +kernel
set_option maxRecDepth 100000 in
theorem pb_q43_12 (l0 l1 l2 l3 l4 : Option Value) (st : List Value) (h : pb_H) (Q : Option Value → pb_H → Prop) (x : Int32) : pb_R 43 12 [l0, l1, l2, l3, l4, some (.int x)] [] st h Q ↔ pb_R 43 14 [l0, l1, l2, l3, l4, some (.int x)] [] (.int x :: st) h Q := pf_S pb_u_43 rfl rfl
set_option maxRecDepth 100000 in
theorem pb_e43 : (∀ (l0 l2 l3 l4 l5 : Option Value) (st : List Value) (h : pb_H) (Q : Option Value → pb_H → Prop) (x : Nat), pb_R 43 0 [l0, some (.ref x), l2, l3, l4, l5] [] st h Q ↔ pb_R 43 1 [l0, some (.ref x), l2, l3, l4, l5] [] (.ref x :: st) h Q) ∧
  (∀ (l0 l2 l3 l4 l5 : Option Value) (st : List Value) (h : pb_H) (Q : Option Value → pb_H → Prop), pb_R 43 0 [l0, some .null, l2, l3, l4, l5] [] st h Q ↔ pb_R 43 1 [l0, some .null, l2, l3, l4, l5] [] (.null :: st) h Q) ∧
  (∀ (L : pb_L) (J : pb_J) (st : List Value) (h : pb_H) (Q : Option Value → pb_H → Prop), pb_R 43 1 L J st h Q ↔ pb_R 43 2 L J (.int (0 : Int32) :: st) h Q) ∧
  (∀ (L : pb_L) (J : pb_J) (h : pb_H) (Q : Option Value → pb_H → Prop) (x0 : Int32) (x1 : Nat), pb_R 43 2 L J [.int x0, .ref x1] h Q ↔ pb_call 4 [.ref x1, .int x0] h (fun v t => pb_R 43 5 L J (v.toList ++ []) t Q)) ∧
  (∀ (l0 l1 l2 l3 l4 l5 : Option Value) (st : List Value) (h : pb_H) (Q : Option Value → pb_H → Prop) (x : Int32), pb_R 43 5 [l0, l1, l2, l3, l4, l5] [] (.int x :: st) h Q ↔ pb_R 43 6 [l0, l1, l2, some (.int x), l4, l5] [] st h Q) ∧
  (∀ (L : pb_L) (J : pb_J) (st : List Value) (h : pb_H) (Q : Option Value → pb_H → Prop), pb_R 43 6 L J st h Q ↔ pb_R 43 7 L J (.int (1 : Int32) :: st) h Q) ∧
  (∀ (l0 l1 l2 l3 l4 l5 : Option Value) (st : List Value) (h : pb_H) (Q : Option Value → pb_H → Prop) (x : Int32), pb_R 43 7 [l0, l1, l2, l3, l4, l5] [] (.int x :: st) h Q ↔ pb_R 43 9 [l0, l1, l2, l3, some (.int x), l5] [] st h Q) ∧
  (∀ (L : pb_L) (J : pb_J) (st : List Value) (h : pb_H) (Q : Option Value → pb_H → Prop), pb_R 43 9 L J st h Q ↔ pb_R 43 10 L J (.int (0 : Int32) :: st) h Q) ∧
  (∀ (l0 l1 l2 l3 l4 l5 : Option Value) (st : List Value) (h : pb_H) (Q : Option Value → pb_H → Prop) (x : Int32), pb_R 43 10 [l0, l1, l2, l3, l4, l5] [] (.int x :: st) h Q ↔ pb_R 43 12 [l0, l1, l2, l3, l4, some (.int x)] [] st h Q) ∧
  (∀ (l1 l2 l3 l4 l5 : Option Value) (st : List Value) (h : pb_H) (Q : Option Value → pb_H → Prop) (x : Nat), pb_R 43 14 [some (.ref x), l1, l2, l3, l4, l5] [] st h Q ↔ pb_R 43 15 [some (.ref x), l1, l2, l3, l4, l5] [] (.ref x :: st) h Q) ∧
  (∀ (l1 l2 l3 l4 l5 : Option Value) (st : List Value) (h : pb_H) (Q : Option Value → pb_H → Prop), pb_R 43 14 [some .null, l1, l2, l3, l4, l5] [] st h Q ↔ pb_R 43 15 [some .null, l1, l2, l3, l4, l5] [] (.null :: st) h Q) ∧
  (∀ (L : pb_L) (J : pb_J) (st : List Value) (h : pb_H) (Q : Option Value → pb_H → Prop) (a : Nat), pb_R 43 15 L J (.ref a :: st) h Q ↔ pb_o (pb_gf (h.2 a) 4 0) (fun v => pb_R 43 18 L J (v :: st) h Q)) ∧
  (∀ (L : pb_L) (J : pb_J) (st : List Value) (h : pb_H) (Q : Option Value → pb_H → Prop) (x y : Int32), pb_R 43 18 L J (.int y :: .int x :: st) h Q ↔ if y < x then pb_R 43 95 L J st h Q else pb_R 43 21 L J st h Q) ∧
  (∀ (l0 l1 l2 l3 l4 : Option Value) (st : List Value) (h : pb_H) (Q : Option Value → pb_H → Prop) (x : Int32), pb_R 43 21 [l0, l1, l2, l3, l4, some (.int x)] [] st h Q ↔ pb_R 43 23 [l0, l1, l2, l3, l4, some (.int x)] [] (.int x :: st) h Q) ∧
  (∀ (L : pb_L) (J : pb_J) (st : List Value) (h : pb_H) (Q : Option Value → pb_H → Prop) (x : Int32), pb_R 43 23 L J (.int x :: st) h Q ↔ if x = 0 then pb_R 43 35 L J st h Q else pb_R 43 26 L J st h Q) ∧
  (∀ (l1 l2 l3 l4 l5 : Option Value) (st : List Value) (h : pb_H) (Q : Option Value → pb_H → Prop) (x : Nat), pb_R 43 26 [some (.ref x), l1, l2, l3, l4, l5] [] st h Q ↔ pb_R 43 27 [some (.ref x), l1, l2, l3, l4, l5] [] (.ref x :: st) h Q) ∧
  (∀ (l1 l2 l3 l4 l5 : Option Value) (st : List Value) (h : pb_H) (Q : Option Value → pb_H → Prop), pb_R 43 26 [some .null, l1, l2, l3, l4, l5] [] st h Q ↔ pb_R 43 27 [some .null, l1, l2, l3, l4, l5] [] (.null :: st) h Q) ∧
  (∀ (l0 l1 l2 l3 l4 : Option Value) (st : List Value) (h : pb_H) (Q : Option Value → pb_H → Prop) (x : Int32), pb_R 43 27 [l0, l1, l2, l3, l4, some (.int x)] [] st h Q ↔ pb_R 43 29 [l0, l1, l2, l3, l4, some (.int x)] [] (.int x :: st) h Q) ∧
  (∀ (L : pb_L) (J : pb_J) (h : pb_H) (Q : Option Value → pb_H → Prop) (x0 : Int32) (x1 : Nat), pb_R 43 29 L J [.int x0, .ref x1] h Q ↔ pb_is0 (h.2 x1) 4 = true ∧ pb_call 32 [.ref x1, .int x0] h (fun v t => pb_R 43 32 L J (v.toList ++ []) t Q)) ∧
  (∀ (L : pb_L) (J : pb_J) (st : List Value) (h : pb_H) (Q : Option Value → pb_H → Prop) (x : Int32), pb_R 43 32 L J (.int x :: st) h Q ↔ if x = 0 then pb_R 43 89 L J st h Q else pb_R 43 35 L J st h Q) ∧
  (∀ (l1 l2 l3 l4 l5 : Option Value) (st : List Value) (h : pb_H) (Q : Option Value → pb_H → Prop) (x : Nat), pb_R 43 35 [some (.ref x), l1, l2, l3, l4, l5] [] st h Q ↔ pb_R 43 36 [some (.ref x), l1, l2, l3, l4, l5] [] (.ref x :: st) h Q) ∧
  (∀ (l1 l2 l3 l4 l5 : Option Value) (st : List Value) (h : pb_H) (Q : Option Value → pb_H → Prop), pb_R 43 35 [some .null, l1, l2, l3, l4, l5] [] st h Q ↔ pb_R 43 36 [some .null, l1, l2, l3, l4, l5] [] (.null :: st) h Q) ∧
  (∀ (L : pb_L) (J : pb_J) (st : List Value) (h : pb_H) (Q : Option Value → pb_H → Prop) (a : Nat), pb_R 43 36 L J (.ref a :: st) h Q ↔ pb_o (pb_gf (h.2 a) 4 1) (fun v => pb_R 43 39 L J (v :: st) h Q)) ∧
  (∀ (l0 l1 l2 l3 l4 : Option Value) (st : List Value) (h : pb_H) (Q : Option Value → pb_H → Prop) (x : Int32), pb_R 43 39 [l0, l1, l2, l3, l4, some (.int x)] [] st h Q ↔ pb_R 43 41 [l0, l1, l2, l3, l4, some (.int x)] [] (.int x :: st) h Q) ∧
  (∀ (L : pb_L) (J : pb_J) (st : List Value) (h : pb_H) (Q : Option Value → pb_H → Prop), pb_R 43 41 L J st h Q ↔ pb_R 43 43 L J (.int (8 : Int32) :: st) h Q) ∧
  (∀ (L : pb_L) (J : pb_J) (st : List Value) (x y : Int32) (h : pb_H) (Q : Option Value → pb_H → Prop), pb_R 43 43 L J (.int y :: .int x :: st) h Q ↔ pb_R 43 44 L J (.int (x * y) :: st) h Q) ∧
  (∀ (l1 l2 l3 l4 l5 : Option Value) (st : List Value) (h : pb_H) (Q : Option Value → pb_H → Prop) (x : Nat), pb_R 43 44 [some (.ref x), l1, l2, l3, l4, l5] [] st h Q ↔ pb_R 43 45 [some (.ref x), l1, l2, l3, l4, l5] [] (.ref x :: st) h Q) ∧
  (∀ (l1 l2 l3 l4 l5 : Option Value) (st : List Value) (h : pb_H) (Q : Option Value → pb_H → Prop), pb_R 43 44 [some .null, l1, l2, l3, l4, l5] [] st h Q ↔ pb_R 43 45 [some .null, l1, l2, l3, l4, l5] [] (.null :: st) h Q) ∧
  (∀ (L : pb_L) (J : pb_J) (st : List Value) (h : pb_H) (Q : Option Value → pb_H → Prop) (a : Nat), pb_R 43 45 L J (.ref a :: st) h Q ↔ pb_o (pb_gf (h.2 a) 4 4) (fun v => pb_R 43 48 L J (v :: st) h Q)) ∧
  (∀ (l0 l2 l3 l4 l5 : Option Value) (st : List Value) (h : pb_H) (Q : Option Value → pb_H → Prop) (x : Nat), pb_R 43 48 [l0, some (.ref x), l2, l3, l4, l5] [] st h Q ↔ pb_R 43 49 [l0, some (.ref x), l2, l3, l4, l5] [] (.ref x :: st) h Q) ∧
  (∀ (l0 l2 l3 l4 l5 : Option Value) (st : List Value) (h : pb_H) (Q : Option Value → pb_H → Prop), pb_R 43 48 [l0, some .null, l2, l3, l4, l5] [] st h Q ↔ pb_R 43 49 [l0, some .null, l2, l3, l4, l5] [] (.null :: st) h Q) ∧
  (∀ (l0 l1 l2 l4 l5 : Option Value) (st : List Value) (h : pb_H) (Q : Option Value → pb_H → Prop) (x : Int32), pb_R 43 49 [l0, l1, l2, some (.int x), l4, l5] [] st h Q ↔ pb_R 43 50 [l0, l1, l2, some (.int x), l4, l5] [] (.int x :: st) h Q) ∧
  (∀ (l0 l1 l3 l4 l5 : Option Value) (st : List Value) (h : pb_H) (Q : Option Value → pb_H → Prop) (x : Nat), pb_R 43 50 [l0, l1, some (.ref x), l3, l4, l5] [] st h Q ↔ pb_R 43 51 [l0, l1, some (.ref x), l3, l4, l5] [] (.ref x :: st) h Q) ∧
  (∀ (l0 l1 l3 l4 l5 : Option Value) (st : List Value) (h : pb_H) (Q : Option Value → pb_H → Prop), pb_R 43 50 [l0, l1, some .null, l3, l4, l5] [] st h Q ↔ pb_R 43 51 [l0, l1, some .null, l3, l4, l5] [] (.null :: st) h Q) ∧
  (∀ (L : pb_L) (J : pb_J) (h : pb_H) (Q : Option Value → pb_H → Prop) (x0 : Nat) (x1 : Int32) (x2 : Nat) (x3 : Int32) (x4 : Int32) (x5 : Nat), pb_R 43 51 L J [.ref x0, .int x1, .ref x2, .int x3, .int x4, .ref x5] h Q ↔ pb_call 41 [.ref x5, .int x4, .int x3, .ref x2, .int x1, .ref x0] h (fun v t => pb_R 43 54 L J (v.toList ++ []) t Q)) ∧
  (∀ (l0 l1 l2 l3 l5 : Option Value) (st : List Value) (h : pb_H) (Q : Option Value → pb_H → Prop) (x : Int32), pb_R 43 54 [l0, l1, l2, l3, some (.int x), l5] [] st h Q ↔ pb_R 43 56 [l0, l1, l2, l3, some (.int x), l5] [] (.int x :: st) h Q) ∧
  (∀ (L : pb_L) (J : pb_J) (st : List Value) (h : pb_H) (Q : Option Value → pb_H → Prop) (x : Int32), pb_R 43 56 L J (.int x :: st) h Q ↔ if x = 0 then pb_R 43 72 L J st h Q else pb_R 43 59 L J st h Q) ∧
  (∀ (l0 l1 l3 l4 l5 : Option Value) (st : List Value) (h : pb_H) (Q : Option Value → pb_H → Prop) (x : Nat), pb_R 43 59 [l0, l1, some (.ref x), l3, l4, l5] [] st h Q ↔ pb_R 43 60 [l0, l1, some (.ref x), l3, l4, l5] [] (.ref x :: st) h Q) ∧
  (∀ (l0 l1 l3 l4 l5 : Option Value) (st : List Value) (h : pb_H) (Q : Option Value → pb_H → Prop), pb_R 43 59 [l0, l1, some .null, l3, l4, l5] [] st h Q ↔ pb_R 43 60 [l0, l1, some .null, l3, l4, l5] [] (.null :: st) h Q) ∧
  (∀ (L : pb_L) (J : pb_J) (st : List Value) (h : pb_H) (Q : Option Value → pb_H → Prop), pb_R 43 60 L J st h Q ↔ pb_R 43 62 L J (.int (8 : Int32) :: st) h Q) ∧
  (∀ (L : pb_L) (J : pb_J) (h : pb_H) (Q : Option Value → pb_H → Prop) (x0 : Int32) (x1 : Nat), pb_R 43 62 L J [.int x0, .ref x1] h Q ↔ pb_call 4 [.ref x1, .int x0] h (fun v t => pb_R 43 65 L J (v.toList ++ []) t Q)) ∧
  (∀ (L : pb_L) (J : pb_J) (st : List Value) (h : pb_H) (Q : Option Value → pb_H → Prop) (x : Int32), pb_R 43 65 L J (.int x :: st) h Q ↔ if ¬ x = 0 then pb_R 43 72 L J st h Q else pb_R 43 68 L J st h Q) ∧
  (∀ (L : pb_L) (J : pb_J) (st : List Value) (h : pb_H) (Q : Option Value → pb_H → Prop), pb_R 43 68 L J st h Q ↔ pb_R 43 69 L J (.int (1 : Int32) :: st) h Q) ∧
  (∀ (L : pb_L) (J : pb_J) (st : List Value) (h : pb_H) (Q : Option Value → pb_H → Prop), pb_R 43 69 L J st h Q ↔ pb_R 43 73 L J st h Q) ∧
  (∀ (L : pb_L) (J : pb_J) (st : List Value) (h : pb_H) (Q : Option Value → pb_H → Prop), pb_R 43 72 L J st h Q ↔ pb_R 43 73 L J (.int (0 : Int32) :: st) h Q) ∧
  (∀ (l0 l1 l2 l3 l4 l5 : Option Value) (st : List Value) (h : pb_H) (Q : Option Value → pb_H → Prop) (x : Int32), pb_R 43 73 [l0, l1, l2, l3, l4, l5] [] (.int x :: st) h Q ↔ pb_R 43 75 [l0, l1, l2, l3, some (.int x), l5] [] st h Q) ∧
  (∀ (l1 l2 l3 l4 l5 : Option Value) (st : List Value) (h : pb_H) (Q : Option Value → pb_H → Prop) (x : Nat), pb_R 43 75 [some (.ref x), l1, l2, l3, l4, l5] [] st h Q ↔ pb_R 43 76 [some (.ref x), l1, l2, l3, l4, l5] [] (.ref x :: st) h Q) ∧
  (∀ (l1 l2 l3 l4 l5 : Option Value) (st : List Value) (h : pb_H) (Q : Option Value → pb_H → Prop), pb_R 43 75 [some .null, l1, l2, l3, l4, l5] [] st h Q ↔ pb_R 43 76 [some .null, l1, l2, l3, l4, l5] [] (.null :: st) h Q) ∧
  (∀ (L : pb_L) (J : pb_J) (st : List Value) (h : pb_H) (Q : Option Value → pb_H → Prop) (a : Nat), pb_R 43 76 L J (.ref a :: st) h Q ↔ pb_o (pb_gf (h.2 a) 4 1) (fun v => pb_R 43 79 L J (v :: st) h Q)) ∧
  (∀ (l0 l1 l2 l3 l4 : Option Value) (st : List Value) (h : pb_H) (Q : Option Value → pb_H → Prop) (x : Int32), pb_R 43 79 [l0, l1, l2, l3, l4, some (.int x)] [] st h Q ↔ pb_R 43 81 [l0, l1, l2, l3, l4, some (.int x)] [] (.int x :: st) h Q) ∧
  (∀ (L : pb_L) (J : pb_J) (st : List Value) (h : pb_H) (Q : Option Value → pb_H → Prop), pb_R 43 81 L J st h Q ↔ pb_R 43 83 L J (.int (8 : Int32) :: st) h Q) ∧
  (∀ (L : pb_L) (J : pb_J) (st : List Value) (x y : Int32) (h : pb_H) (Q : Option Value → pb_H → Prop), pb_R 43 83 L J (.int y :: .int x :: st) h Q ↔ pb_R 43 84 L J (.int (x * y) :: st) h Q) ∧
  (∀ (l0 l1 l3 l4 l5 : Option Value) (st : List Value) (h : pb_H) (Q : Option Value → pb_H → Prop) (x : Nat), pb_R 43 84 [l0, l1, some (.ref x), l3, l4, l5] [] st h Q ↔ pb_R 43 85 [l0, l1, some (.ref x), l3, l4, l5] [] (.ref x :: st) h Q) ∧
  (∀ (l0 l1 l3 l4 l5 : Option Value) (st : List Value) (h : pb_H) (Q : Option Value → pb_H → Prop), pb_R 43 84 [l0, l1, some .null, l3, l4, l5] [] st h Q ↔ pb_R 43 85 [l0, l1, some .null, l3, l4, l5] [] (.null :: st) h Q) ∧
  (∀ (L : pb_L) (J : pb_J) (st : List Value) (h : pb_H) (Q : Option Value → pb_H → Prop), pb_R 43 85 L J st h Q ↔ pb_R 43 86 L J (.int (0 : Int32) :: st) h Q) ∧
  (∀ (L : pb_L) (J : pb_J) (h : pb_H) (Q : Option Value → pb_H → Prop) (x0 : Int32) (x1 : Nat) (x2 : Int32) (x3 : Nat), pb_R 43 86 L J [.int x0, .ref x1, .int x2, .ref x3] h Q ↔ pb_call 42 [.ref x3, .int x2, .ref x1, .int x0] h (fun v t => pb_R 43 89 L J (v.toList ++ []) t Q)) ∧
  (∀ (l0 l1 l2 l3 l4 : Option Value) (st : List Value) (h : pb_H) (Q : Option Value → pb_H → Prop) (x : Int32), pb_R 43 89 [l0, l1, l2, l3, l4, some (.int x)] [] st h Q ↔ pb_R 43 92 [l0, l1, l2, l3, l4, some (.int (x + (1 : Int32)))] [] st h Q) ∧
  (∀ (L : pb_L) (J : pb_J) (st : List Value) (h : pb_H) (Q : Option Value → pb_H → Prop), pb_R 43 92 L J st h Q ↔ pb_R 43 12 L J st h Q) ∧
  (∀ (l1 l2 l3 l4 l5 : Option Value) (st : List Value) (h : pb_H) (Q : Option Value → pb_H → Prop) (x : Nat), pb_R 43 95 [some (.ref x), l1, l2, l3, l4, l5] [] st h Q ↔ pb_R 43 96 [some (.ref x), l1, l2, l3, l4, l5] [] (.ref x :: st) h Q) ∧
  (∀ (l1 l2 l3 l4 l5 : Option Value) (st : List Value) (h : pb_H) (Q : Option Value → pb_H → Prop), pb_R 43 95 [some .null, l1, l2, l3, l4, l5] [] st h Q ↔ pb_R 43 96 [some .null, l1, l2, l3, l4, l5] [] (.null :: st) h Q) ∧
  (∀ (L : pb_L) (J : pb_J) (st : List Value) (h : pb_H) (Q : Option Value → pb_H → Prop), pb_R 43 96 L J st h Q ↔ pb_R 43 98 L J (.int (8 : Int32) :: st) h Q) ∧
  (∀ (L : pb_L) (J : pb_J) (h : pb_H) (Q : Option Value → pb_H → Prop) (x0 : Int32) (x1 : Nat), pb_R 43 98 L J [.int x0, .ref x1] h Q ↔ pb_is0 (h.2 x1) 4 = true ∧ pb_call 39 [.ref x1, .int x0] h (fun v t => pb_R 43 101 L J (v.toList ++ []) t Q)) ∧
  (∀ (l0 l1 l2 l3 l5 : Option Value) (st : List Value) (h : pb_H) (Q : Option Value → pb_H → Prop) (x : Int32), pb_R 43 101 [l0, l1, l2, l3, some (.int x), l5] [] st h Q ↔ pb_R 43 103 [l0, l1, l2, l3, some (.int x), l5] [] (.int x :: st) h Q) ∧
  (∀ (L : pb_L) (J : pb_J) (h : pb_H) (Q : Option Value → pb_H → Prop) (x : Int32), pb_R 43 103 L J [.int x] h Q ↔ narrow .boolean (.int x) = .int x ∧ Q (some (.int x)) h) := ⟨
  fun l0 l2 l3 l4 l5 st h Q x => pf_S pb_u_43 rfl rfl,
  fun l0 l2 l3 l4 l5 st h Q => pf_S pb_u_43 rfl rfl,
  fun L J st h Q => pf_S pb_u_43 rfl rfl,
  fun L J h Q x0 x1 => pf_ks pb_u_43 rfl rfl rfl rfl,
  fun l0 l1 l2 l3 l4 l5 st h Q x => pf_S pb_u_43 rfl rfl,
  fun L J st h Q => pf_S pb_u_43 rfl rfl,
  fun l0 l1 l2 l3 l4 l5 st h Q x => pf_S pb_u_43 rfl rfl,
  fun L J st h Q => pf_S pb_u_43 rfl rfl,
  fun l0 l1 l2 l3 l4 l5 st h Q x => pf_S pb_u_43 rfl rfl,
  fun l1 l2 l3 l4 l5 st h Q x => pf_S pb_u_43 rfl rfl,
  fun l1 l2 l3 l4 l5 st h Q => pf_S pb_u_43 rfl rfl,
  fun L J st h Q a => pf_gf pb_u_43 rfl rfl,
  fun L J st h Q x y => pf_ic pb_u_43 rfl rfl rfl,
  fun l0 l1 l2 l3 l4 st h Q x => pf_S pb_u_43 rfl rfl,
  fun L J st h Q x => pf_ii pb_u_43 rfl rfl rfl,
  fun l1 l2 l3 l4 l5 st h Q x => pf_S pb_u_43 rfl rfl,
  fun l1 l2 l3 l4 l5 st h Q => pf_S pb_u_43 rfl rfl,
  fun l0 l1 l2 l3 l4 st h Q x => pf_S pb_u_43 rfl rfl,
  fun L J h Q x0 x1 => pf_kv pb_u_43 rfl pb_ci_32 rfl ⟨Nat.le_of_ble_eq_true rfl, Nat.le_of_ble_eq_true rfl, Nat.le_of_ble_eq_true rfl, Nat.le_of_ble_eq_true rfl, rfl⟩ rfl rfl,
  fun L J st h Q x => pf_ii pb_u_43 rfl rfl rfl,
  fun l1 l2 l3 l4 l5 st h Q x => pf_S pb_u_43 rfl rfl,
  fun l1 l2 l3 l4 l5 st h Q => pf_S pb_u_43 rfl rfl,
  fun L J st h Q a => pf_gf pb_u_43 rfl rfl,
  fun l0 l1 l2 l3 l4 st h Q x => pf_S pb_u_43 rfl rfl,
  fun L J st h Q => pf_S pb_u_43 rfl rfl,
  fun L J st x y h Q => pf_S pb_u_43 rfl rfl,
  fun l1 l2 l3 l4 l5 st h Q x => pf_S pb_u_43 rfl rfl,
  fun l1 l2 l3 l4 l5 st h Q => pf_S pb_u_43 rfl rfl,
  fun L J st h Q a => pf_gf pb_u_43 rfl rfl,
  fun l0 l2 l3 l4 l5 st h Q x => pf_S pb_u_43 rfl rfl,
  fun l0 l2 l3 l4 l5 st h Q => pf_S pb_u_43 rfl rfl,
  fun l0 l1 l2 l4 l5 st h Q x => pf_S pb_u_43 rfl rfl,
  fun l0 l1 l3 l4 l5 st h Q x => pf_S pb_u_43 rfl rfl,
  fun l0 l1 l3 l4 l5 st h Q => pf_S pb_u_43 rfl rfl,
  fun L J h Q x0 x1 x2 x3 x4 x5 => pf_ks pb_u_43 rfl rfl rfl rfl,
  fun l0 l1 l2 l3 l5 st h Q x => pf_S pb_u_43 rfl rfl,
  fun L J st h Q x => pf_ii pb_u_43 rfl rfl rfl,
  fun l0 l1 l3 l4 l5 st h Q x => pf_S pb_u_43 rfl rfl,
  fun l0 l1 l3 l4 l5 st h Q => pf_S pb_u_43 rfl rfl,
  fun L J st h Q => pf_S pb_u_43 rfl rfl,
  fun L J h Q x0 x1 => pf_ks pb_u_43 rfl rfl rfl rfl,
  fun L J st h Q x => pf_ii pb_u_43 rfl rfl pf_ne,
  fun L J st h Q => pf_S pb_u_43 rfl rfl,
  fun L J st h Q => pf_S pb_u_43 rfl rfl,
  fun L J st h Q => pf_S pb_u_43 rfl rfl,
  fun l0 l1 l2 l3 l4 l5 st h Q x => pf_S pb_u_43 rfl rfl,
  fun l1 l2 l3 l4 l5 st h Q x => pf_S pb_u_43 rfl rfl,
  fun l1 l2 l3 l4 l5 st h Q => pf_S pb_u_43 rfl rfl,
  fun L J st h Q a => pf_gf pb_u_43 rfl rfl,
  fun l0 l1 l2 l3 l4 st h Q x => pf_S pb_u_43 rfl rfl,
  fun L J st h Q => pf_S pb_u_43 rfl rfl,
  fun L J st x y h Q => pf_S pb_u_43 rfl rfl,
  fun l0 l1 l3 l4 l5 st h Q x => pf_S pb_u_43 rfl rfl,
  fun l0 l1 l3 l4 l5 st h Q => pf_S pb_u_43 rfl rfl,
  fun L J st h Q => pf_S pb_u_43 rfl rfl,
  fun L J h Q x0 x1 x2 x3 => pf_ks pb_u_43 rfl rfl rfl rfl,
  fun l0 l1 l2 l3 l4 st h Q x => pf_S pb_u_43 rfl rfl,
  fun L J st h Q => pf_S pb_u_43 rfl rfl,
  fun l1 l2 l3 l4 l5 st h Q x => pf_S pb_u_43 rfl rfl,
  fun l1 l2 l3 l4 l5 st h Q => pf_S pb_u_43 rfl rfl,
  fun L J st h Q => pf_S pb_u_43 rfl rfl,
  fun L J h Q x0 x1 => pf_kv pb_u_43 rfl pb_ci_39 rfl ⟨Nat.le_of_ble_eq_true rfl, Nat.le_of_ble_eq_true rfl, Nat.le_of_ble_eq_true rfl, Nat.le_of_ble_eq_true rfl, rfl⟩ rfl rfl,
  fun l0 l1 l2 l3 l5 st h Q x => pf_S pb_u_43 rfl rfl,
  fun L J h Q x => pf_rz pb_u_43 rfl rfl⟩
theorem pb_c43 (x0 : Nat) (x1 : Nat) (x2 : Nat) (h : pb_H) (Q : Option Value → pb_H → Prop) : pb_call 43 [.ref x0, .ref x1, .ref x2] h Q ↔ pb_R 43 0 [some (.ref x0), some (.ref x1), some (.ref x2), none, none, none] [] [] h Q := Iff.rfl
/-! 44: PlaneBench$Checker.scaleUppermost(I)Z -/
theorem pb_u_44 : pb_t 44 = pb_t44 := rfl
theorem pb_ci_44 : pb_ci 44 = 1 := by decide +kernel
set_option maxRecDepth 100000 in
theorem pb_e44 : (∀ (l1 l2 : Option Value) (st : List Value) (h : pb_H) (Q : Option Value → pb_H → Prop) (x : Nat), pb_R 44 0 [some (.ref x), l1, l2] [] st h Q ↔ pb_R 44 1 [some (.ref x), l1, l2] [] (.ref x :: st) h Q) ∧
  (∀ (l1 l2 : Option Value) (st : List Value) (h : pb_H) (Q : Option Value → pb_H → Prop), pb_R 44 0 [some .null, l1, l2] [] st h Q ↔ pb_R 44 1 [some .null, l1, l2] [] (.null :: st) h Q) ∧
  (∀ (L : pb_L) (J : pb_J) (st : List Value) (h : pb_H) (Q : Option Value → pb_H → Prop) (a : Nat), pb_R 44 1 L J (.ref a :: st) h Q ↔ pb_o (pb_gf (h.2 a) 1 6) (fun v => pb_R 44 4 L J (v :: st) h Q)) ∧
  (∀ (L : pb_L) (J : pb_J) (st : List Value) (h : pb_H) (Q : Option Value → pb_H → Prop), pb_R 44 4 L J st h Q ↔ pb_R 44 5 L J (.int (0 : Int32) :: st) h Q) ∧
  (∀ (L : pb_L) (J : pb_J) (h : pb_H) (Q : Option Value → pb_H → Prop) (x0 : Int32) (x1 : Nat), pb_R 44 5 L J [.int x0, .ref x1] h Q ↔ pb_call 4 [.ref x1, .int x0] h (fun v t => pb_R 44 8 L J (v.toList ++ []) t Q)) ∧
  (∀ (L : pb_L) (J : pb_J) (st : List Value) (h : pb_H) (Q : Option Value → pb_H → Prop) (x : Int32), pb_R 44 8 L J (.int x :: st) h Q ↔ if ¬ x = 0 then pb_R 44 21 L J st h Q else pb_R 44 11 L J st h Q) ∧
  (∀ (l1 l2 : Option Value) (st : List Value) (h : pb_H) (Q : Option Value → pb_H → Prop) (x : Nat), pb_R 44 11 [some (.ref x), l1, l2] [] st h Q ↔ pb_R 44 12 [some (.ref x), l1, l2] [] (.ref x :: st) h Q) ∧
  (∀ (l1 l2 : Option Value) (st : List Value) (h : pb_H) (Q : Option Value → pb_H → Prop), pb_R 44 11 [some .null, l1, l2] [] st h Q ↔ pb_R 44 12 [some .null, l1, l2] [] (.null :: st) h Q) ∧
  (∀ (L : pb_L) (J : pb_J) (st : List Value) (h : pb_H) (Q : Option Value → pb_H → Prop) (a : Nat), pb_R 44 12 L J (.ref a :: st) h Q ↔ pb_o (pb_gf (h.2 a) 1 0) (fun v => pb_R 44 15 L J (v :: st) h Q)) ∧
  (∀ (L : pb_L) (J : pb_J) (st : List Value) (h : pb_H) (Q : Option Value → pb_H → Prop), pb_R 44 15 L J st h Q ↔ pb_R 44 16 L J (.int (3 : Int32) :: st) h Q) ∧
  (∀ (l0 l2 : Option Value) (st : List Value) (h : pb_H) (Q : Option Value → pb_H → Prop) (x : Int32), pb_R 44 16 [l0, some (.int x), l2] [] st h Q ↔ pb_R 44 17 [l0, some (.int x), l2] [] (.int x :: st) h Q) ∧
  (∀ (L : pb_L) (J : pb_J) (h : pb_H) (Q : Option Value → pb_H → Prop) (x0 : Int32) (x1 : Int32) (x2 : Nat), pb_R 44 17 L J [.int x0, .int x1, .ref x2] h Q ↔ pb_is0 (h.2 x2) 8 = true ∧ pb_call 27 [.ref x2, .int x1, .int x0] h (fun v t => pb_R 44 20 L J (v.toList ++ []) t Q)) ∧
  (∀ (L : pb_L) (J : pb_J) (h : pb_H) (Q : Option Value → pb_H → Prop) (x : Int32), pb_R 44 20 L J [.int x] h Q ↔ narrow .boolean (.int x) = .int x ∧ Q (some (.int x)) h) ∧
  (∀ (l1 l2 : Option Value) (st : List Value) (h : pb_H) (Q : Option Value → pb_H → Prop) (x : Nat), pb_R 44 21 [some (.ref x), l1, l2] [] st h Q ↔ pb_R 44 22 [some (.ref x), l1, l2] [] (.ref x :: st) h Q) ∧
  (∀ (l1 l2 : Option Value) (st : List Value) (h : pb_H) (Q : Option Value → pb_H → Prop), pb_R 44 21 [some .null, l1, l2] [] st h Q ↔ pb_R 44 22 [some .null, l1, l2] [] (.null :: st) h Q) ∧
  (∀ (L : pb_L) (J : pb_J) (h : pb_H) (Q : Option Value → pb_H → Prop) (x0 : Nat), pb_R 44 22 L J [.ref x0] h Q ↔ pb_is0 (h.2 x0) 1 = true ∧ pb_call 28 [.ref x0] h (fun v t => pb_R 44 25 L J (v.toList ++ []) t Q)) ∧
  (∀ (l0 l1 l2 : Option Value) (st : List Value) (h : pb_H) (Q : Option Value → pb_H → Prop) (x : Nat), pb_R 44 25 [l0, l1, l2] [] (.ref x :: st) h Q ↔ pb_R 44 26 [l0, l1, some (.ref x)] [] st h Q) ∧
  (∀ (l0 l1 l2 : Option Value) (st : List Value) (h : pb_H) (Q : Option Value → pb_H → Prop), pb_R 44 25 [l0, l1, l2] [] (.null :: st) h Q ↔ pb_R 44 26 [l0, l1, some .null] [] st h Q) ∧
  (∀ (l0 l1 : Option Value) (st : List Value) (h : pb_H) (Q : Option Value → pb_H → Prop) (x : Nat), pb_R 44 26 [l0, l1, some (.ref x)] [] st h Q ↔ pb_R 44 27 [l0, l1, some (.ref x)] [] (.ref x :: st) h Q) ∧
  (∀ (l0 l1 : Option Value) (st : List Value) (h : pb_H) (Q : Option Value → pb_H → Prop), pb_R 44 26 [l0, l1, some .null] [] st h Q ↔ pb_R 44 27 [l0, l1, some .null] [] (.null :: st) h Q) ∧
  (∀ (L : pb_L) (J : pb_J) (st : List Value) (h : pb_H) (Q : Option Value → pb_H → Prop), pb_R 44 27 L J (.null :: st) h Q ↔ pb_R 44 30 L J st h Q) ∧
  (∀ (L : pb_L) (J : pb_J) (st : List Value) (h : pb_H) (Q : Option Value → pb_H → Prop) (x : Nat), pb_R 44 27 L J (.ref x :: st) h Q ↔ pb_R 44 39 L J st h Q) ∧
  (∀ (l1 l2 : Option Value) (st : List Value) (h : pb_H) (Q : Option Value → pb_H → Prop) (x : Nat), pb_R 44 30 [some (.ref x), l1, l2] [] st h Q ↔ pb_R 44 31 [some (.ref x), l1, l2] [] (.ref x :: st) h Q) ∧
  (∀ (l1 l2 : Option Value) (st : List Value) (h : pb_H) (Q : Option Value → pb_H → Prop), pb_R 44 30 [some .null, l1, l2] [] st h Q ↔ pb_R 44 31 [some .null, l1, l2] [] (.null :: st) h Q) ∧
  (∀ (L : pb_L) (J : pb_J) (st : List Value) (h : pb_H) (Q : Option Value → pb_H → Prop) (a : Nat), pb_R 44 31 L J (.ref a :: st) h Q ↔ pb_o (pb_gf (h.2 a) 1 0) (fun v => pb_R 44 34 L J (v :: st) h Q)) ∧
  (∀ (L : pb_L) (J : pb_J) (st : List Value) (h : pb_H) (Q : Option Value → pb_H → Prop), pb_R 44 34 L J st h Q ↔ pb_R 44 35 L J (.int (4 : Int32) :: st) h Q) ∧
  (∀ (L : pb_L) (J : pb_J) (h : pb_H) (Q : Option Value → pb_H → Prop) (x0 : Int32) (x1 : Nat), pb_R 44 35 L J [.int x0, .ref x1] h Q ↔ pb_is0 (h.2 x1) 8 = true ∧ pb_call 29 [.ref x1, .int x0] h (fun v t => pb_R 44 38 L J (v.toList ++ []) t Q)) ∧
  (∀ (L : pb_L) (J : pb_J) (h : pb_H) (Q : Option Value → pb_H → Prop) (x : Int32), pb_R 44 38 L J [.int x] h Q ↔ narrow .boolean (.int x) = .int x ∧ Q (some (.int x)) h) ∧
  (∀ (l1 l2 : Option Value) (st : List Value) (h : pb_H) (Q : Option Value → pb_H → Prop) (x : Nat), pb_R 44 39 [some (.ref x), l1, l2] [] st h Q ↔ pb_R 44 40 [some (.ref x), l1, l2] [] (.ref x :: st) h Q) ∧
  (∀ (l1 l2 : Option Value) (st : List Value) (h : pb_H) (Q : Option Value → pb_H → Prop), pb_R 44 39 [some .null, l1, l2] [] st h Q ↔ pb_R 44 40 [some .null, l1, l2] [] (.null :: st) h Q) ∧
  (∀ (L : pb_L) (J : pb_J) (st : List Value) (h : pb_H) (Q : Option Value → pb_H → Prop) (a : Nat), pb_R 44 40 L J (.ref a :: st) h Q ↔ pb_o (pb_gf (h.2 a) 1 0) (fun v => pb_R 44 43 L J (v :: st) h Q)) ∧
  (∀ (L : pb_L) (J : pb_J) (st : List Value) (h : pb_H) (Q : Option Value → pb_H → Prop) (a : Nat), pb_R 44 43 L J (.ref a :: st) h Q ↔ pb_o (pb_gf (h.2 a) 8 2) (fun v => pb_R 44 46 L J (v :: st) h Q)) ∧
  (∀ (L : pb_L) (J : pb_J) (st : List Value) (h : pb_H) (Q : Option Value → pb_H → Prop), pb_R 44 46 L J st h Q ↔ pb_R 44 48 L J (.int (100 : Int32) :: st) h Q) ∧
  (∀ (L : pb_L) (J : pb_J) (st : List Value) (h : pb_H) (Q : Option Value → pb_H → Prop) (x y : Int32), pb_R 44 48 L J (.int y :: .int x :: st) h Q ↔ if ¬ x = y then pb_R 44 73 L J st h Q else pb_R 44 51 L J st h Q) ∧
  (∀ (l1 l2 : Option Value) (st : List Value) (h : pb_H) (Q : Option Value → pb_H → Prop) (x : Nat), pb_R 44 51 [some (.ref x), l1, l2] [] st h Q ↔ pb_R 44 52 [some (.ref x), l1, l2] [] (.ref x :: st) h Q) ∧
  (∀ (l1 l2 : Option Value) (st : List Value) (h : pb_H) (Q : Option Value → pb_H → Prop), pb_R 44 51 [some .null, l1, l2] [] st h Q ↔ pb_R 44 52 [some .null, l1, l2] [] (.null :: st) h Q) ∧
  (∀ (L : pb_L) (J : pb_J) (st : List Value) (h : pb_H) (Q : Option Value → pb_H → Prop) (a : Nat), pb_R 44 52 L J (.ref a :: st) h Q ↔ pb_o (pb_gf (h.2 a) 1 5) (fun v => pb_R 44 55 L J (v :: st) h Q)) ∧
  (∀ (l1 l2 : Option Value) (st : List Value) (h : pb_H) (Q : Option Value → pb_H → Prop) (x : Nat), pb_R 44 55 [some (.ref x), l1, l2] [] st h Q ↔ pb_R 44 56 [some (.ref x), l1, l2] [] (.ref x :: st) h Q) ∧
  (∀ (l1 l2 : Option Value) (st : List Value) (h : pb_H) (Q : Option Value → pb_H → Prop), pb_R 44 55 [some .null, l1, l2] [] st h Q ↔ pb_R 44 56 [some .null, l1, l2] [] (.null :: st) h Q) ∧
  (∀ (L : pb_L) (J : pb_J) (st : List Value) (h : pb_H) (Q : Option Value → pb_H → Prop) (a : Nat), pb_R 44 56 L J (.ref a :: st) h Q ↔ pb_o (pb_gf (h.2 a) 1 6) (fun v => pb_R 44 59 L J (v :: st) h Q)) ∧
  (∀ (L : pb_L) (J : pb_J) (h : pb_H) (Q : Option Value → pb_H → Prop) (x0 : Nat) (x1 : Nat), pb_R 44 59 L J [.ref x0, .ref x1] h Q ↔ pb_is0 (h.2 x1) 3 = true ∧ pb_call 31 [.ref x1, .ref x0] h (fun v t => pb_R 44 62 L J (v.toList ++ []) t Q)) ∧
  (∀ (l0 l1 : Option Value) (st : List Value) (h : pb_H) (Q : Option Value → pb_H → Prop) (x : Nat), pb_R 44 62 [l0, l1, some (.ref x)] [] st h Q ↔ pb_R 44 63 [l0, l1, some (.ref x)] [] (.ref x :: st) h Q) ∧
  (∀ (l0 l1 : Option Value) (st : List Value) (h : pb_H) (Q : Option Value → pb_H → Prop), pb_R 44 62 [l0, l1, some .null] [] st h Q ↔ pb_R 44 63 [l0, l1, some .null] [] (.null :: st) h Q) ∧
  (∀ (l1 l2 : Option Value) (st : List Value) (h : pb_H) (Q : Option Value → pb_H → Prop) (x : Nat), pb_R 44 63 [some (.ref x), l1, l2] [] st h Q ↔ pb_R 44 64 [some (.ref x), l1, l2] [] (.ref x :: st) h Q) ∧
  (∀ (l1 l2 : Option Value) (st : List Value) (h : pb_H) (Q : Option Value → pb_H → Prop), pb_R 44 63 [some .null, l1, l2] [] st h Q ↔ pb_R 44 64 [some .null, l1, l2] [] (.null :: st) h Q) ∧
  (∀ (L : pb_L) (J : pb_J) (st : List Value) (h : pb_H) (Q : Option Value → pb_H → Prop) (a : Nat), pb_R 44 64 L J (.ref a :: st) h Q ↔ pb_o (pb_gf (h.2 a) 1 5) (fun v => pb_R 44 67 L J (v :: st) h Q)) ∧
  (∀ (L : pb_L) (J : pb_J) (h : pb_H) (Q : Option Value → pb_H → Prop) (x0 : Nat) (x1 : Nat), pb_R 44 67 L J [.ref x0, .ref x1] h Q ↔ pb_is0 (h.2 x1) 4 = true ∧ pb_call 40 [.ref x1, .ref x0] h (fun v t => pb_R 44 70 L J (v.toList ++ []) t Q)) ∧
  (∀ (L : pb_L) (J : pb_J) (st : List Value) (h : pb_H) (Q : Option Value → pb_H → Prop), pb_R 44 70 L J st h Q ↔ pb_R 44 97 L J st h Q) ∧
  (∀ (l0 l1 : Option Value) (st : List Value) (h : pb_H) (Q : Option Value → pb_H → Prop) (x : Nat), pb_R 44 73 [l0, l1, some (.ref x)] [] st h Q ↔ pb_R 44 74 [l0, l1, some (.ref x)] [] (.ref x :: st) h Q) ∧
  (∀ (l0 l1 : Option Value) (st : List Value) (h : pb_H) (Q : Option Value → pb_H → Prop), pb_R 44 73 [l0, l1, some .null] [] st h Q ↔ pb_R 44 74 [l0, l1, some .null] [] (.null :: st) h Q) ∧
  (∀ (l1 l2 : Option Value) (st : List Value) (h : pb_H) (Q : Option Value → pb_H → Prop) (x : Nat), pb_R 44 74 [some (.ref x), l1, l2] [] st h Q ↔ pb_R 44 75 [some (.ref x), l1, l2] [] (.ref x :: st) h Q) ∧
  (∀ (l1 l2 : Option Value) (st : List Value) (h : pb_H) (Q : Option Value → pb_H → Prop), pb_R 44 74 [some .null, l1, l2] [] st h Q ↔ pb_R 44 75 [some .null, l1, l2] [] (.null :: st) h Q) ∧
  (∀ (L : pb_L) (J : pb_J) (st : List Value) (h : pb_H) (Q : Option Value → pb_H → Prop) (a : Nat), pb_R 44 75 L J (.ref a :: st) h Q ↔ pb_o (pb_gf (h.2 a) 1 6) (fun v => pb_R 44 78 L J (v :: st) h Q)) ∧
  (∀ (l1 l2 : Option Value) (st : List Value) (h : pb_H) (Q : Option Value → pb_H → Prop) (x : Nat), pb_R 44 78 [some (.ref x), l1, l2] [] st h Q ↔ pb_R 44 79 [some (.ref x), l1, l2] [] (.ref x :: st) h Q) ∧
  (∀ (l1 l2 : Option Value) (st : List Value) (h : pb_H) (Q : Option Value → pb_H → Prop), pb_R 44 78 [some .null, l1, l2] [] st h Q ↔ pb_R 44 79 [some .null, l1, l2] [] (.null :: st) h Q) ∧
  (∀ (L : pb_L) (J : pb_J) (st : List Value) (h : pb_H) (Q : Option Value → pb_H → Prop) (a : Nat), pb_R 44 79 L J (.ref a :: st) h Q ↔ pb_o (pb_gf (h.2 a) 1 7) (fun v => pb_R 44 82 L J (v :: st) h Q)) ∧
  (∀ (L : pb_L) (J : pb_J) (h : pb_H) (Q : Option Value → pb_H → Prop) (x0 : Nat) (x1 : Nat) (x2 : Nat), pb_R 44 82 L J [.ref x0, .ref x1, .ref x2] h Q ↔ pb_is0 (h.2 x2) 4 = true ∧ pb_call 43 [.ref x2, .ref x1, .ref x0] h (fun v t => pb_R 44 85 L J (v.toList ++ []) t Q)) ∧
  (∀ (L : pb_L) (J : pb_J) (st : List Value) (h : pb_H) (Q : Option Value → pb_H → Prop) (x : Int32), pb_R 44 85 L J (.int x :: st) h Q ↔ if ¬ x = 0 then pb_R 44 97 L J st h Q else pb_R 44 88 L J st h Q) ∧
  (∀ (l1 l2 : Option Value) (st : List Value) (h : pb_H) (Q : Option Value → pb_H → Prop) (x : Nat), pb_R 44 88 [some (.ref x), l1, l2] [] st h Q ↔ pb_R 44 89 [some (.ref x), l1, l2] [] (.ref x :: st) h Q) ∧
  (∀ (l1 l2 : Option Value) (st : List Value) (h : pb_H) (Q : Option Value → pb_H → Prop), pb_R 44 88 [some .null, l1, l2] [] st h Q ↔ pb_R 44 89 [some .null, l1, l2] [] (.null :: st) h Q) ∧
  (∀ (L : pb_L) (J : pb_J) (st : List Value) (h : pb_H) (Q : Option Value → pb_H → Prop) (a : Nat), pb_R 44 89 L J (.ref a :: st) h Q ↔ pb_o (pb_gf (h.2 a) 1 0) (fun v => pb_R 44 92 L J (v :: st) h Q)) ∧
  (∀ (L : pb_L) (J : pb_J) (st : List Value) (h : pb_H) (Q : Option Value → pb_H → Prop), pb_R 44 92 L J st h Q ↔ pb_R 44 93 L J (.int (5 : Int32) :: st) h Q) ∧
  (∀ (L : pb_L) (J : pb_J) (h : pb_H) (Q : Option Value → pb_H → Prop) (x0 : Int32) (x1 : Nat), pb_R 44 93 L J [.int x0, .ref x1] h Q ↔ pb_is0 (h.2 x1) 8 = true ∧ pb_call 29 [.ref x1, .int x0] h (fun v t => pb_R 44 96 L J (v.toList ++ []) t Q)) ∧
  (∀ (L : pb_L) (J : pb_J) (h : pb_H) (Q : Option Value → pb_H → Prop) (x : Int32), pb_R 44 96 L J [.int x] h Q ↔ narrow .boolean (.int x) = .int x ∧ Q (some (.int x)) h) ∧
  (∀ (l1 l2 : Option Value) (st : List Value) (h : pb_H) (Q : Option Value → pb_H → Prop) (x : Nat), pb_R 44 97 [some (.ref x), l1, l2] [] st h Q ↔ pb_R 44 98 [some (.ref x), l1, l2] [] (.ref x :: st) h Q) ∧
  (∀ (l1 l2 : Option Value) (st : List Value) (h : pb_H) (Q : Option Value → pb_H → Prop), pb_R 44 97 [some .null, l1, l2] [] st h Q ↔ pb_R 44 98 [some .null, l1, l2] [] (.null :: st) h Q) ∧
  (∀ (L : pb_L) (J : pb_J) (st : List Value) (h : pb_H) (Q : Option Value → pb_H → Prop) (a : Nat), pb_R 44 98 L J (.ref a :: st) h Q ↔ pb_o (pb_gf (h.2 a) 1 0) (fun v => pb_R 44 101 L J (v :: st) h Q)) ∧
  (∀ (L : pb_L) (J : pb_J) (h : pb_H) (Q : Option Value → pb_H → Prop) (x0 : Nat), pb_R 44 101 L J [.ref x0] h Q ↔ pb_is0 (h.2 x0) 8 = true ∧ pb_call 23 [.ref x0] h (fun v t => pb_R 44 104 L J (v.toList ++ []) t Q)) ∧
  (∀ (L : pb_L) (J : pb_J) (st : List Value) (h : pb_H) (Q : Option Value → pb_H → Prop), pb_R 44 104 L J st h Q ↔ pb_R 44 105 L J (.int (1 : Int32) :: st) h Q) ∧
  (∀ (L : pb_L) (J : pb_J) (h : pb_H) (Q : Option Value → pb_H → Prop) (x : Int32), pb_R 44 105 L J [.int x] h Q ↔ narrow .boolean (.int x) = .int x ∧ Q (some (.int x)) h) := ⟨
  fun l1 l2 st h Q x => pf_S pb_u_44 rfl rfl,
  fun l1 l2 st h Q => pf_S pb_u_44 rfl rfl,
  fun L J st h Q a => pf_gf pb_u_44 rfl rfl,
  fun L J st h Q => pf_S pb_u_44 rfl rfl,
  fun L J h Q x0 x1 => pf_ks pb_u_44 rfl rfl rfl rfl,
  fun L J st h Q x => pf_ii pb_u_44 rfl rfl pf_ne,
  fun l1 l2 st h Q x => pf_S pb_u_44 rfl rfl,
  fun l1 l2 st h Q => pf_S pb_u_44 rfl rfl,
  fun L J st h Q a => pf_gf pb_u_44 rfl rfl,
  fun L J st h Q => pf_S pb_u_44 rfl rfl,
  fun l0 l2 st h Q x => pf_S pb_u_44 rfl rfl,
  fun L J h Q x0 x1 x2 => pf_kv pb_u_44 rfl pb_ci_27 rfl ⟨Nat.le_of_ble_eq_true rfl, Nat.le_of_ble_eq_true rfl, Nat.le_of_ble_eq_true rfl, Nat.le_of_ble_eq_true rfl, rfl⟩ rfl rfl,
  fun L J h Q x => pf_rz pb_u_44 rfl rfl,
  fun l1 l2 st h Q x => pf_S pb_u_44 rfl rfl,
  fun l1 l2 st h Q => pf_S pb_u_44 rfl rfl,
  fun L J h Q x0 => pf_kv pb_u_44 rfl pb_ci_28 rfl ⟨Nat.le_of_ble_eq_true rfl, Nat.le_of_ble_eq_true rfl, Nat.le_of_ble_eq_true rfl, Nat.le_of_ble_eq_true rfl, rfl⟩ rfl rfl,
  fun l0 l1 l2 st h Q x => pf_S pb_u_44 rfl rfl,
  fun l0 l1 l2 st h Q => pf_S pb_u_44 rfl rfl,
  fun l0 l1 st h Q x => pf_S pb_u_44 rfl rfl,
  fun l0 l1 st h Q => pf_S pb_u_44 rfl rfl,
  fun L J st h Q => pf_S pb_u_44 rfl rfl,
  fun L J st h Q x => pf_S pb_u_44 rfl rfl,
  fun l1 l2 st h Q x => pf_S pb_u_44 rfl rfl,
  fun l1 l2 st h Q => pf_S pb_u_44 rfl rfl,
  fun L J st h Q a => pf_gf pb_u_44 rfl rfl,
  fun L J st h Q => pf_S pb_u_44 rfl rfl,
  fun L J h Q x0 x1 => pf_kv pb_u_44 rfl pb_ci_29 rfl ⟨Nat.le_of_ble_eq_true rfl, Nat.le_of_ble_eq_true rfl, Nat.le_of_ble_eq_true rfl, Nat.le_of_ble_eq_true rfl, rfl⟩ rfl rfl,
  fun L J h Q x => pf_rz pb_u_44 rfl rfl,
  fun l1 l2 st h Q x => pf_S pb_u_44 rfl rfl,
  fun l1 l2 st h Q => pf_S pb_u_44 rfl rfl,
  fun L J st h Q a => pf_gf pb_u_44 rfl rfl,
  fun L J st h Q a => pf_gf pb_u_44 rfl rfl,
  fun L J st h Q => pf_S pb_u_44 rfl rfl,
  fun L J st h Q x y => pf_ic pb_u_44 rfl rfl pf_ne,
  fun l1 l2 st h Q x => pf_S pb_u_44 rfl rfl,
  fun l1 l2 st h Q => pf_S pb_u_44 rfl rfl,
  fun L J st h Q a => pf_gf pb_u_44 rfl rfl,
  fun l1 l2 st h Q x => pf_S pb_u_44 rfl rfl,
  fun l1 l2 st h Q => pf_S pb_u_44 rfl rfl,
  fun L J st h Q a => pf_gf pb_u_44 rfl rfl,
  fun L J h Q x0 x1 => pf_kv pb_u_44 rfl pb_ci_31 rfl ⟨Nat.le_of_ble_eq_true rfl, Nat.le_of_ble_eq_true rfl, Nat.le_of_ble_eq_true rfl, Nat.le_of_ble_eq_true rfl, rfl⟩ rfl rfl,
  fun l0 l1 st h Q x => pf_S pb_u_44 rfl rfl,
  fun l0 l1 st h Q => pf_S pb_u_44 rfl rfl,
  fun l1 l2 st h Q x => pf_S pb_u_44 rfl rfl,
  fun l1 l2 st h Q => pf_S pb_u_44 rfl rfl,
  fun L J st h Q a => pf_gf pb_u_44 rfl rfl,
  fun L J h Q x0 x1 => pf_kv pb_u_44 rfl pb_ci_40 rfl ⟨Nat.le_of_ble_eq_true rfl, Nat.le_of_ble_eq_true rfl, Nat.le_of_ble_eq_true rfl, Nat.le_of_ble_eq_true rfl, rfl⟩ rfl rfl,
  fun L J st h Q => pf_S pb_u_44 rfl rfl,
  fun l0 l1 st h Q x => pf_S pb_u_44 rfl rfl,
  fun l0 l1 st h Q => pf_S pb_u_44 rfl rfl,
  fun l1 l2 st h Q x => pf_S pb_u_44 rfl rfl,
  fun l1 l2 st h Q => pf_S pb_u_44 rfl rfl,
  fun L J st h Q a => pf_gf pb_u_44 rfl rfl,
  fun l1 l2 st h Q x => pf_S pb_u_44 rfl rfl,
  fun l1 l2 st h Q => pf_S pb_u_44 rfl rfl,
  fun L J st h Q a => pf_gf pb_u_44 rfl rfl,
  fun L J h Q x0 x1 x2 => pf_kv pb_u_44 rfl pb_ci_43 rfl ⟨Nat.le_of_ble_eq_true rfl, Nat.le_of_ble_eq_true rfl, Nat.le_of_ble_eq_true rfl, Nat.le_of_ble_eq_true rfl, rfl⟩ rfl rfl,
  fun L J st h Q x => pf_ii pb_u_44 rfl rfl pf_ne,
  fun l1 l2 st h Q x => pf_S pb_u_44 rfl rfl,
  fun l1 l2 st h Q => pf_S pb_u_44 rfl rfl,
  fun L J st h Q a => pf_gf pb_u_44 rfl rfl,
  fun L J st h Q => pf_S pb_u_44 rfl rfl,
  fun L J h Q x0 x1 => pf_kv pb_u_44 rfl pb_ci_29 rfl ⟨Nat.le_of_ble_eq_true rfl, Nat.le_of_ble_eq_true rfl, Nat.le_of_ble_eq_true rfl, Nat.le_of_ble_eq_true rfl, rfl⟩ rfl rfl,
  fun L J h Q x => pf_rz pb_u_44 rfl rfl,
  fun l1 l2 st h Q x => pf_S pb_u_44 rfl rfl,
  fun l1 l2 st h Q => pf_S pb_u_44 rfl rfl,
  fun L J st h Q a => pf_gf pb_u_44 rfl rfl,
  fun L J h Q x0 => pf_kv pb_u_44 rfl pb_ci_23 rfl ⟨Nat.le_of_ble_eq_true rfl, Nat.le_of_ble_eq_true rfl, Nat.le_of_ble_eq_true rfl, Nat.le_of_ble_eq_true rfl, rfl⟩ rfl rfl,
  fun L J st h Q => pf_S pb_u_44 rfl rfl,
  fun L J h Q x => pf_rz pb_u_44 rfl rfl⟩
theorem pb_c44 (x0 : Nat) (x1 : Int32) (h : pb_H) (Q : Option Value → pb_H → Prop) : pb_call 44 [.ref x0, .int x1] h Q ↔ pb_R 44 0 [some (.ref x0), some (.int x1), none] [] [] h Q := Iff.rfl
/-! 45: PlaneBench$Wide.small([I)I -/
theorem pb_u_45 : pb_t 45 = pb_t45 := rfl
set_option maxRecDepth 100000 in
theorem pb_e45 : (∀ (st : List Value) (h : pb_H) (Q : Option Value → pb_H → Prop) (x : Nat), pb_R 45 0 [some (.ref x)] [] st h Q ↔ pb_R 45 1 [some (.ref x)] [] (.ref x :: st) h Q) ∧
  (∀ (st : List Value) (h : pb_H) (Q : Option Value → pb_H → Prop), pb_R 45 0 [some .null] [] st h Q ↔ pb_R 45 1 [some .null] [] (.null :: st) h Q) ∧
  (∀ (L : pb_L) (J : pb_J) (st : List Value) (h : pb_H) (Q : Option Value → pb_H → Prop), pb_R 45 1 L J st h Q ↔ pb_R 45 2 L J (.int (0 : Int32) :: st) h Q) ∧
  (∀ (L : pb_L) (J : pb_J) (h : pb_H) (Q : Option Value → pb_H → Prop) (x0 : Int32) (x1 : Nat), pb_R 45 2 L J [.int x0, .ref x1] h Q ↔ pb_call 4 [.ref x1, .int x0] h (fun v t => pb_R 45 5 L J (v.toList ++ []) t Q)) ∧
  (∀ (L : pb_L) (J : pb_J) (st : List Value) (h : pb_H) (Q : Option Value → pb_H → Prop), pb_R 45 5 L J st h Q ↔ pb_R 45 6 L J (.int (1 : Int32) :: st) h Q) ∧
  (∀ (L : pb_L) (J : pb_J) (st : List Value) (h : pb_H) (Q : Option Value → pb_H → Prop) (x y : Int32), pb_R 45 6 L J (.int y :: .int x :: st) h Q ↔ if y < x then pb_R 45 15 L J st h Q else pb_R 45 9 L J st h Q) ∧
  (∀ (st : List Value) (h : pb_H) (Q : Option Value → pb_H → Prop) (x : Nat), pb_R 45 9 [some (.ref x)] [] st h Q ↔ pb_R 45 10 [some (.ref x)] [] (.ref x :: st) h Q) ∧
  (∀ (st : List Value) (h : pb_H) (Q : Option Value → pb_H → Prop), pb_R 45 9 [some .null] [] st h Q ↔ pb_R 45 10 [some .null] [] (.null :: st) h Q) ∧
  (∀ (L : pb_L) (J : pb_J) (st : List Value) (h : pb_H) (Q : Option Value → pb_H → Prop), pb_R 45 10 L J st h Q ↔ pb_R 45 11 L J (.int (0 : Int32) :: st) h Q) ∧
  (∀ (L : pb_L) (J : pb_J) (st : List Value) (h : pb_H) (Q : Option Value → pb_H → Prop) (a : Nat) (i : Int32), pb_R 45 11 L J (.int i :: .ref a :: st) h Q ↔ pb_o (pb_ai (h.2 a) i) (fun v => pb_R 45 12 L J (.int v :: st) h Q)) ∧
  (∀ (L : pb_L) (J : pb_J) (st : List Value) (h : pb_H) (Q : Option Value → pb_H → Prop) (x : Int32), pb_R 45 12 L J (.int x :: st) h Q ↔ if 0 ≤ x then pb_R 45 19 L J st h Q else pb_R 45 15 L J st h Q) ∧
  (∀ (L : pb_L) (J : pb_J) (st : List Value) (h : pb_H) (Q : Option Value → pb_H → Prop), pb_R 45 15 L J st h Q ↔ pb_R 45 16 L J (.int (-1 : Int32) :: st) h Q) ∧
  (∀ (L : pb_L) (J : pb_J) (st : List Value) (h : pb_H) (Q : Option Value → pb_H → Prop), pb_R 45 16 L J st h Q ↔ pb_R 45 22 L J st h Q) ∧
  (∀ (st : List Value) (h : pb_H) (Q : Option Value → pb_H → Prop) (x : Nat), pb_R 45 19 [some (.ref x)] [] st h Q ↔ pb_R 45 20 [some (.ref x)] [] (.ref x :: st) h Q) ∧
  (∀ (st : List Value) (h : pb_H) (Q : Option Value → pb_H → Prop), pb_R 45 19 [some .null] [] st h Q ↔ pb_R 45 20 [some .null] [] (.null :: st) h Q) ∧
  (∀ (L : pb_L) (J : pb_J) (st : List Value) (h : pb_H) (Q : Option Value → pb_H → Prop), pb_R 45 20 L J st h Q ↔ pb_R 45 21 L J (.int (0 : Int32) :: st) h Q) ∧
  (∀ (L : pb_L) (J : pb_J) (st : List Value) (h : pb_H) (Q : Option Value → pb_H → Prop) (a : Nat) (i : Int32), pb_R 45 21 L J (.int i :: .ref a :: st) h Q ↔ pb_o (pb_ai (h.2 a) i) (fun v => pb_R 45 22 L J (.int v :: st) h Q)) ∧
  (∀ (L : pb_L) (J : pb_J) (h : pb_H) (Q : Option Value → pb_H → Prop) (x : Int32), pb_R 45 22 L J [.int x] h Q ↔ Q (some (.int x)) h) := ⟨
  fun st h Q x => pf_S pb_u_45 rfl rfl,
  fun st h Q => pf_S pb_u_45 rfl rfl,
  fun L J st h Q => pf_S pb_u_45 rfl rfl,
  fun L J h Q x0 x1 => pf_ks pb_u_45 rfl rfl rfl rfl,
  fun L J st h Q => pf_S pb_u_45 rfl rfl,
  fun L J st h Q x y => pf_ic pb_u_45 rfl rfl rfl,
  fun st h Q x => pf_S pb_u_45 rfl rfl,
  fun st h Q => pf_S pb_u_45 rfl rfl,
  fun L J st h Q => pf_S pb_u_45 rfl rfl,
  fun L J st h Q a i => pf_ai pb_u_45 rfl rfl,
  fun L J st h Q x => pf_ii pb_u_45 rfl rfl rfl,
  fun L J st h Q => pf_S pb_u_45 rfl rfl,
  fun L J st h Q => pf_S pb_u_45 rfl rfl,
  fun st h Q x => pf_S pb_u_45 rfl rfl,
  fun st h Q => pf_S pb_u_45 rfl rfl,
  fun L J st h Q => pf_S pb_u_45 rfl rfl,
  fun L J st h Q a i => pf_ai pb_u_45 rfl rfl,
  fun L J h Q x => pf_ri pb_u_45 rfl rfl⟩
theorem pb_c45 (x0 : Nat) (h : pb_H) (Q : Option Value → pb_H → Prop) : pb_call 45 [.ref x0] h Q ↔ pb_R 45 0 [some (.ref x0)] [] [] h Q := Iff.rfl
/-! 46: PlaneBench$Shelf.line(I)LPlaneBench$Line; -/
theorem pb_u_46 : pb_t 46 = pb_t46 := rfl
theorem pb_ci_46 : pb_ci 46 = 7 := by decide +kernel
set_option maxRecDepth 100000 in
theorem pb_e46 : (∀ (l0 : Option Value) (st : List Value) (h : pb_H) (Q : Option Value → pb_H → Prop) (x : Int32), pb_R 46 0 [l0, some (.int x)] [] st h Q ↔ pb_R 46 1 [l0, some (.int x)] [] (.int x :: st) h Q) ∧
  (∀ (L : pb_L) (J : pb_J) (st : List Value) (h : pb_H) (Q : Option Value → pb_H → Prop), pb_R 46 1 L J st h Q ↔ pb_R 46 2 L J (.int (1 : Int32) :: st) h Q) ∧
  (∀ (L : pb_L) (J : pb_J) (st : List Value) (h : pb_H) (Q : Option Value → pb_H → Prop) (x y : Int32), pb_R 46 2 L J (.int y :: .int x :: st) h Q ↔ if x < y then pb_R 46 22 L J st h Q else pb_R 46 5 L J st h Q) ∧
  (∀ (l0 : Option Value) (st : List Value) (h : pb_H) (Q : Option Value → pb_H → Prop) (x : Int32), pb_R 46 5 [l0, some (.int x)] [] st h Q ↔ pb_R 46 6 [l0, some (.int x)] [] (.int x :: st) h Q) ∧
  (∀ (l1 : Option Value) (st : List Value) (h : pb_H) (Q : Option Value → pb_H → Prop) (x : Nat), pb_R 46 6 [some (.ref x), l1] [] st h Q ↔ pb_R 46 7 [some (.ref x), l1] [] (.ref x :: st) h Q) ∧
  (∀ (l1 : Option Value) (st : List Value) (h : pb_H) (Q : Option Value → pb_H → Prop), pb_R 46 6 [some .null, l1] [] st h Q ↔ pb_R 46 7 [some .null, l1] [] (.null :: st) h Q) ∧
  (∀ (L : pb_L) (J : pb_J) (st : List Value) (h : pb_H) (Q : Option Value → pb_H → Prop) (a : Nat), pb_R 46 7 L J (.ref a :: st) h Q ↔ pb_o (pb_gf (h.2 a) 7 2) (fun v => pb_R 46 10 L J (v :: st) h Q)) ∧
  (∀ (L : pb_L) (J : pb_J) (st : List Value) (h : pb_H) (Q : Option Value → pb_H → Prop) (x y : Int32), pb_R 46 10 L J (.int y :: .int x :: st) h Q ↔ if y < x then pb_R 46 22 L J st h Q else pb_R 46 13 L J st h Q) ∧
  (∀ (l0 : Option Value) (st : List Value) (h : pb_H) (Q : Option Value → pb_H → Prop) (x : Int32), pb_R 46 13 [l0, some (.int x)] [] st h Q ↔ pb_R 46 14 [l0, some (.int x)] [] (.int x :: st) h Q) ∧
  (∀ (l1 : Option Value) (st : List Value) (h : pb_H) (Q : Option Value → pb_H → Prop) (x : Nat), pb_R 46 14 [some (.ref x), l1] [] st h Q ↔ pb_R 46 15 [some (.ref x), l1] [] (.ref x :: st) h Q) ∧
  (∀ (l1 : Option Value) (st : List Value) (h : pb_H) (Q : Option Value → pb_H → Prop), pb_R 46 14 [some .null, l1] [] st h Q ↔ pb_R 46 15 [some .null, l1] [] (.null :: st) h Q) ∧
  (∀ (L : pb_L) (J : pb_J) (st : List Value) (h : pb_H) (Q : Option Value → pb_H → Prop) (a : Nat), pb_R 46 15 L J (.ref a :: st) h Q ↔ pb_o (pb_gf (h.2 a) 7 5) (fun v => pb_R 46 18 L J (v :: st) h Q)) ∧
  (∀ (L : pb_L) (J : pb_J) (st : List Value) (h : pb_H) (Q : Option Value → pb_H → Prop) (a : Nat), pb_R 46 18 L J (.ref a :: st) h Q ↔ pb_o (pb_al2 (h.2 a)) (fun n => pb_R 46 19 L J (.int (Int32.ofNat n) :: st) h Q)) ∧
  (∀ (L : pb_L) (J : pb_J) (st : List Value) (h : pb_H) (Q : Option Value → pb_H → Prop) (x y : Int32), pb_R 46 19 L J (.int y :: .int x :: st) h Q ↔ if x ≤ y then pb_R 46 26 L J st h Q else pb_R 46 22 L J st h Q) ∧
  (∀ (L : pb_L) (J : pb_J) (st : List Value) (h : pb_H) (Q : Option Value → pb_H → Prop), pb_R 46 22 L J st h Q ↔ pb_R 46 23 L J (.null :: st) h Q) ∧
  (∀ (L : pb_L) (J : pb_J) (st : List Value) (h : pb_H) (Q : Option Value → pb_H → Prop), pb_R 46 23 L J st h Q ↔ pb_R 46 34 L J st h Q) ∧
  (∀ (l1 : Option Value) (st : List Value) (h : pb_H) (Q : Option Value → pb_H → Prop) (x : Nat), pb_R 46 26 [some (.ref x), l1] [] st h Q ↔ pb_R 46 27 [some (.ref x), l1] [] (.ref x :: st) h Q) ∧
  (∀ (l1 : Option Value) (st : List Value) (h : pb_H) (Q : Option Value → pb_H → Prop), pb_R 46 26 [some .null, l1] [] st h Q ↔ pb_R 46 27 [some .null, l1] [] (.null :: st) h Q) ∧
  (∀ (L : pb_L) (J : pb_J) (st : List Value) (h : pb_H) (Q : Option Value → pb_H → Prop) (a : Nat), pb_R 46 27 L J (.ref a :: st) h Q ↔ pb_o (pb_gf (h.2 a) 7 5) (fun v => pb_R 46 30 L J (v :: st) h Q)) ∧
  (∀ (l0 : Option Value) (st : List Value) (h : pb_H) (Q : Option Value → pb_H → Prop) (x : Int32), pb_R 46 30 [l0, some (.int x)] [] st h Q ↔ pb_R 46 31 [l0, some (.int x)] [] (.int x :: st) h Q) ∧
  (∀ (L : pb_L) (J : pb_J) (st : List Value) (h : pb_H) (Q : Option Value → pb_H → Prop), pb_R 46 31 L J st h Q ↔ pb_R 46 32 L J (.int (1 : Int32) :: st) h Q) ∧
  (∀ (L : pb_L) (J : pb_J) (st : List Value) (x y : Int32) (h : pb_H) (Q : Option Value → pb_H → Prop), pb_R 46 32 L J (.int y :: .int x :: st) h Q ↔ pb_R 46 33 L J (.int (x - y) :: st) h Q) ∧
  (∀ (L : pb_L) (J : pb_J) (st : List Value) (h : pb_H) (Q : Option Value → pb_H → Prop) (a : Nat) (i : Int32), pb_R 46 33 L J (.int i :: .ref a :: st) h Q ↔ pb_o (pb_aa (h.2 a) i) (fun v => pb_R 46 34 L J (va_rf v :: st) h Q)) ∧
  (∀ (L : pb_L) (J : pb_J) (h : pb_H) (Q : Option Value → pb_H → Prop) (x : Nat), pb_R 46 34 L J [.ref x] h Q ↔ Q (some (.ref x)) h) ∧
  (∀ (L : pb_L) (J : pb_J) (h : pb_H) (Q : Option Value → pb_H → Prop), pb_R 46 34 L J [.null] h Q ↔ Q (some .null) h) := ⟨
  fun l0 st h Q x => pf_S pb_u_46 rfl rfl,
  fun L J st h Q => pf_S pb_u_46 rfl rfl,
  fun L J st h Q x y => pf_ic pb_u_46 rfl rfl rfl,
  fun l0 st h Q x => pf_S pb_u_46 rfl rfl,
  fun l1 st h Q x => pf_S pb_u_46 rfl rfl,
  fun l1 st h Q => pf_S pb_u_46 rfl rfl,
  fun L J st h Q a => pf_gf pb_u_46 rfl rfl,
  fun L J st h Q x y => pf_ic pb_u_46 rfl rfl rfl,
  fun l0 st h Q x => pf_S pb_u_46 rfl rfl,
  fun l1 st h Q x => pf_S pb_u_46 rfl rfl,
  fun l1 st h Q => pf_S pb_u_46 rfl rfl,
  fun L J st h Q a => pf_gf pb_u_46 rfl rfl,
  fun L J st h Q a => pf_le pb_u_46 rfl rfl,
  fun L J st h Q x y => pf_ic pb_u_46 rfl rfl rfl,
  fun L J st h Q => pf_S pb_u_46 rfl rfl,
  fun L J st h Q => pf_S pb_u_46 rfl rfl,
  fun l1 st h Q x => pf_S pb_u_46 rfl rfl,
  fun l1 st h Q => pf_S pb_u_46 rfl rfl,
  fun L J st h Q a => pf_gf pb_u_46 rfl rfl,
  fun l0 st h Q x => pf_S pb_u_46 rfl rfl,
  fun L J st h Q => pf_S pb_u_46 rfl rfl,
  fun L J st x y h Q => pf_S pb_u_46 rfl rfl,
  fun L J st h Q a i => pf_aa pb_u_46 rfl rfl,
  fun L J h Q x => pf_ra (r := some x) pb_u_46 rfl rfl,
  fun L J h Q => pf_ra (r := none) pb_u_46 rfl rfl⟩
theorem pb_c46 (x0 : Nat) (x1 : Int32) (h : pb_H) (Q : Option Value → pb_H → Prop) : pb_call 46 [.ref x0, .int x1] h Q ↔ pb_R 46 0 [some (.ref x0), some (.int x1)] [] [] h Q := Iff.rfl
/-! 47: PlaneBench$Checker.raise()LPlaneBench$Line; -/
theorem pb_u_47 : pb_t 47 = pb_t47 := rfl
theorem pb_ci_47 : pb_ci 47 = 1 := by decide +kernel
set_option maxRecDepth 100000 in
theorem pb_e47 : (∀ (st : List Value) (h : pb_H) (Q : Option Value → pb_H → Prop) (x : Nat), pb_R 47 0 [some (.ref x)] [] st h Q ↔ pb_R 47 1 [some (.ref x)] [] (.ref x :: st) h Q) ∧
  (∀ (st : List Value) (h : pb_H) (Q : Option Value → pb_H → Prop), pb_R 47 0 [some .null] [] st h Q ↔ pb_R 47 1 [some .null] [] (.null :: st) h Q) ∧
  (∀ (L : pb_L) (J : pb_J) (st : List Value) (h : pb_H) (Q : Option Value → pb_H → Prop) (a : Nat), pb_R 47 1 L J (.ref a :: st) h Q ↔ pb_o (pb_gf (h.2 a) 1 8) (fun v => pb_R 47 4 L J (v :: st) h Q)) ∧
  (∀ (st : List Value) (h : pb_H) (Q : Option Value → pb_H → Prop) (x : Nat), pb_R 47 4 [some (.ref x)] [] st h Q ↔ pb_R 47 5 [some (.ref x)] [] (.ref x :: st) h Q) ∧
  (∀ (st : List Value) (h : pb_H) (Q : Option Value → pb_H → Prop), pb_R 47 4 [some .null] [] st h Q ↔ pb_R 47 5 [some .null] [] (.null :: st) h Q) ∧
  (∀ (L : pb_L) (J : pb_J) (st : List Value) (h : pb_H) (Q : Option Value → pb_H → Prop) (a : Nat), pb_R 47 5 L J (.ref a :: st) h Q ↔ pb_o (pb_gf (h.2 a) 1 3) (fun v => pb_R 47 8 L J (v :: st) h Q)) ∧
  (∀ (L : pb_L) (J : pb_J) (st : List Value) (h : pb_H) (Q : Option Value → pb_H → Prop) (a : Nat), pb_R 47 8 L J (.ref a :: st) h Q ↔ pb_o (pb_al2 (h.2 a)) (fun n => pb_R 47 9 L J (.int (Int32.ofNat n) :: st) h Q)) ∧
  (∀ (L : pb_L) (J : pb_J) (st : List Value) (h : pb_H) (Q : Option Value → pb_H → Prop) (x y : Int32), pb_R 47 9 L J (.int y :: .int x :: st) h Q ↔ if x < y then pb_R 47 14 L J st h Q else pb_R 47 12 L J st h Q) ∧
  (∀ (L : pb_L) (J : pb_J) (st : List Value) (h : pb_H) (Q : Option Value → pb_H → Prop), pb_R 47 12 L J st h Q ↔ pb_R 47 13 L J (.null :: st) h Q) ∧
  (∀ (L : pb_L) (J : pb_J) (h : pb_H) (Q : Option Value → pb_H → Prop) (x : Nat), pb_R 47 13 L J [.ref x] h Q ↔ Q (some (.ref x)) h) ∧
  (∀ (L : pb_L) (J : pb_J) (h : pb_H) (Q : Option Value → pb_H → Prop), pb_R 47 13 L J [.null] h Q ↔ Q (some .null) h) ∧
  (∀ (st : List Value) (h : pb_H) (Q : Option Value → pb_H → Prop) (x : Nat), pb_R 47 14 [some (.ref x)] [] st h Q ↔ pb_R 47 15 [some (.ref x)] [] (.ref x :: st) h Q) ∧
  (∀ (st : List Value) (h : pb_H) (Q : Option Value → pb_H → Prop), pb_R 47 14 [some .null] [] st h Q ↔ pb_R 47 15 [some .null] [] (.null :: st) h Q) ∧
  (∀ (L : pb_L) (J : pb_J) (st : List Value) (x : Nat) (h : pb_H) (Q : Option Value → pb_H → Prop), pb_R 47 15 L J (.ref x :: st) h Q ↔ pb_R 47 16 L J (.ref x :: .ref x :: st) h Q) ∧
  (∀ (L : pb_L) (J : pb_J) (st : List Value) (h : pb_H) (Q : Option Value → pb_H → Prop) (a : Nat), pb_R 47 16 L J (.ref a :: st) h Q ↔ pb_o (pb_gf (h.2 a) 1 8) (fun v => pb_R 47 19 L J (v :: st) h Q)) ∧
  (∀ (L : pb_L) (J : pb_J) (st : List Value) (h : pb_H) (Q : Option Value → pb_H → Prop), pb_R 47 19 L J st h Q ↔ pb_R 47 20 L J (.int (1 : Int32) :: st) h Q) ∧
  (∀ (L : pb_L) (J : pb_J) (st : List Value) (x y : Int32) (h : pb_H) (Q : Option Value → pb_H → Prop), pb_R 47 20 L J (.int y :: .int x :: st) h Q ↔ pb_R 47 21 L J (.int (x + y) :: st) h Q) ∧
  (∀ (L : pb_L) (J : pb_J) (st : List Value) (h : pb_H) (Q : Option Value → pb_H → Prop) (a : Nat) (x : Int32), pb_R 47 21 L J (.int x :: .ref a :: st) h Q ↔ pb_o (pb_pf (h.2 a) 1 8 (.int x)) (fun c => pb_R 47 24 L J st (pb_set h a c) Q)) ∧
  (∀ (st : List Value) (h : pb_H) (Q : Option Value → pb_H → Prop) (x : Nat), pb_R 47 24 [some (.ref x)] [] st h Q ↔ pb_R 47 25 [some (.ref x)] [] (.ref x :: st) h Q) ∧
  (∀ (st : List Value) (h : pb_H) (Q : Option Value → pb_H → Prop), pb_R 47 24 [some .null] [] st h Q ↔ pb_R 47 25 [some .null] [] (.null :: st) h Q) ∧
  (∀ (L : pb_L) (J : pb_J) (st : List Value) (h : pb_H) (Q : Option Value → pb_H → Prop) (a : Nat), pb_R 47 25 L J (.ref a :: st) h Q ↔ pb_o (pb_gf (h.2 a) 1 3) (fun v => pb_R 47 28 L J (v :: st) h Q)) ∧
  (∀ (st : List Value) (h : pb_H) (Q : Option Value → pb_H → Prop) (x : Nat), pb_R 47 28 [some (.ref x)] [] st h Q ↔ pb_R 47 29 [some (.ref x)] [] (.ref x :: st) h Q) ∧
  (∀ (st : List Value) (h : pb_H) (Q : Option Value → pb_H → Prop), pb_R 47 28 [some .null] [] st h Q ↔ pb_R 47 29 [some .null] [] (.null :: st) h Q) ∧
  (∀ (L : pb_L) (J : pb_J) (st : List Value) (h : pb_H) (Q : Option Value → pb_H → Prop) (a : Nat), pb_R 47 29 L J (.ref a :: st) h Q ↔ pb_o (pb_gf (h.2 a) 1 8) (fun v => pb_R 47 32 L J (v :: st) h Q)) ∧
  (∀ (L : pb_L) (J : pb_J) (st : List Value) (h : pb_H) (Q : Option Value → pb_H → Prop), pb_R 47 32 L J st h Q ↔ pb_R 47 33 L J (.int (1 : Int32) :: st) h Q) ∧
  (∀ (L : pb_L) (J : pb_J) (st : List Value) (x y : Int32) (h : pb_H) (Q : Option Value → pb_H → Prop), pb_R 47 33 L J (.int y :: .int x :: st) h Q ↔ pb_R 47 34 L J (.int (x - y) :: st) h Q) ∧
  (∀ (L : pb_L) (J : pb_J) (st : List Value) (h : pb_H) (Q : Option Value → pb_H → Prop) (a : Nat) (i : Int32), pb_R 47 34 L J (.int i :: .ref a :: st) h Q ↔ pb_o (pb_aa (h.2 a) i) (fun v => pb_R 47 35 L J (va_rf v :: st) h Q)) ∧
  (∀ (L : pb_L) (J : pb_J) (h : pb_H) (Q : Option Value → pb_H → Prop) (x : Nat), pb_R 47 35 L J [.ref x] h Q ↔ Q (some (.ref x)) h) ∧
  (∀ (L : pb_L) (J : pb_J) (h : pb_H) (Q : Option Value → pb_H → Prop), pb_R 47 35 L J [.null] h Q ↔ Q (some .null) h) := ⟨
  fun st h Q x => pf_S pb_u_47 rfl rfl,
  fun st h Q => pf_S pb_u_47 rfl rfl,
  fun L J st h Q a => pf_gf pb_u_47 rfl rfl,
  fun st h Q x => pf_S pb_u_47 rfl rfl,
  fun st h Q => pf_S pb_u_47 rfl rfl,
  fun L J st h Q a => pf_gf pb_u_47 rfl rfl,
  fun L J st h Q a => pf_le pb_u_47 rfl rfl,
  fun L J st h Q x y => pf_ic pb_u_47 rfl rfl rfl,
  fun L J st h Q => pf_S pb_u_47 rfl rfl,
  fun L J h Q x => pf_ra (r := some x) pb_u_47 rfl rfl,
  fun L J h Q => pf_ra (r := none) pb_u_47 rfl rfl,
  fun st h Q x => pf_S pb_u_47 rfl rfl,
  fun st h Q => pf_S pb_u_47 rfl rfl,
  fun L J st x h Q => pf_S pb_u_47 rfl rfl,
  fun L J st h Q a => pf_gf pb_u_47 rfl rfl,
  fun L J st h Q => pf_S pb_u_47 rfl rfl,
  fun L J st x y h Q => pf_S pb_u_47 rfl rfl,
  fun L J st h Q a x => pf_pf pb_u_47 rfl rfl,
  fun st h Q x => pf_S pb_u_47 rfl rfl,
  fun st h Q => pf_S pb_u_47 rfl rfl,
  fun L J st h Q a => pf_gf pb_u_47 rfl rfl,
  fun st h Q x => pf_S pb_u_47 rfl rfl,
  fun st h Q => pf_S pb_u_47 rfl rfl,
  fun L J st h Q a => pf_gf pb_u_47 rfl rfl,
  fun L J st h Q => pf_S pb_u_47 rfl rfl,
  fun L J st x y h Q => pf_S pb_u_47 rfl rfl,
  fun L J st h Q a i => pf_aa pb_u_47 rfl rfl,
  fun L J h Q x => pf_ra (r := some x) pb_u_47 rfl rfl,
  fun L J h Q => pf_ra (r := none) pb_u_47 rfl rfl⟩
theorem pb_c47 (x0 : Nat) (h : pb_H) (Q : Option Value → pb_H → Prop) : pb_call 47 [.ref x0] h Q ↔ pb_R 47 0 [some (.ref x0)] [] [] h Q := Iff.rfl
/-! 48: PlaneBench$Line.copyFrom(LPlaneBench$Line;)V -/
theorem pb_u_48 : pb_t 48 = pb_t48 := rfl
theorem pb_ci_48 : pb_ci 48 = 4 := by decide +kernel
set_option maxRecDepth 100000 in
theorem pb_e48 : (∀ (l0 : Option Value) (st : List Value) (h : pb_H) (Q : Option Value → pb_H → Prop) (x : Nat), pb_R 48 0 [l0, some (.ref x)] [] st h Q ↔ pb_R 48 1 [l0, some (.ref x)] [] (.ref x :: st) h Q) ∧
  (∀ (l0 : Option Value) (st : List Value) (h : pb_H) (Q : Option Value → pb_H → Prop), pb_R 48 0 [l0, some .null] [] st h Q ↔ pb_R 48 1 [l0, some .null] [] (.null :: st) h Q) ∧
  (∀ (L : pb_L) (J : pb_J) (st : List Value) (h : pb_H) (Q : Option Value → pb_H → Prop) (a : Nat), pb_R 48 1 L J (.ref a :: st) h Q ↔ pb_o (pb_gf (h.2 a) 4 1) (fun v => pb_R 48 4 L J (v :: st) h Q)) ∧
  (∀ (L : pb_L) (J : pb_J) (st : List Value) (h : pb_H) (Q : Option Value → pb_H → Prop), pb_R 48 4 L J st h Q ↔ pb_R 48 5 L J (.int (0 : Int32) :: st) h Q) ∧
  (∀ (l1 : Option Value) (st : List Value) (h : pb_H) (Q : Option Value → pb_H → Prop) (x : Nat), pb_R 48 5 [some (.ref x), l1] [] st h Q ↔ pb_R 48 6 [some (.ref x), l1] [] (.ref x :: st) h Q) ∧
  (∀ (l1 : Option Value) (st : List Value) (h : pb_H) (Q : Option Value → pb_H → Prop), pb_R 48 5 [some .null, l1] [] st h Q ↔ pb_R 48 6 [some .null, l1] [] (.null :: st) h Q) ∧
  (∀ (L : pb_L) (J : pb_J) (st : List Value) (h : pb_H) (Q : Option Value → pb_H → Prop) (a : Nat), pb_R 48 6 L J (.ref a :: st) h Q ↔ pb_o (pb_gf (h.2 a) 4 1) (fun v => pb_R 48 9 L J (v :: st) h Q)) ∧
  (∀ (L : pb_L) (J : pb_J) (st : List Value) (h : pb_H) (Q : Option Value → pb_H → Prop), pb_R 48 9 L J st h Q ↔ pb_R 48 10 L J (.int (0 : Int32) :: st) h Q) ∧
  (∀ (l1 : Option Value) (st : List Value) (h : pb_H) (Q : Option Value → pb_H → Prop) (x : Nat), pb_R 48 10 [some (.ref x), l1] [] st h Q ↔ pb_R 48 11 [some (.ref x), l1] [] (.ref x :: st) h Q) ∧
  (∀ (l1 : Option Value) (st : List Value) (h : pb_H) (Q : Option Value → pb_H → Prop), pb_R 48 10 [some .null, l1] [] st h Q ↔ pb_R 48 11 [some .null, l1] [] (.null :: st) h Q) ∧
  (∀ (L : pb_L) (J : pb_J) (st : List Value) (h : pb_H) (Q : Option Value → pb_H → Prop) (a : Nat), pb_R 48 11 L J (.ref a :: st) h Q ↔ pb_o (pb_gf (h.2 a) 4 1) (fun v => pb_R 48 14 L J (v :: st) h Q)) ∧
  (∀ (L : pb_L) (J : pb_J) (st : List Value) (h : pb_H) (Q : Option Value → pb_H → Prop) (a : Nat), pb_R 48 14 L J (.ref a :: st) h Q ↔ pb_o (pb_al2 (h.2 a)) (fun n => pb_R 48 15 L J (.int (Int32.ofNat n) :: st) h Q)) ∧
  (∀ (l0 : Option Value) (st : List Value) (h : pb_H) (Q : Option Value → pb_H → Prop) (x : Nat), pb_R 48 15 [l0, some (.ref x)] [] st h Q ↔ pb_R 48 16 [l0, some (.ref x)] [] (.ref x :: st) h Q) ∧
  (∀ (l0 : Option Value) (st : List Value) (h : pb_H) (Q : Option Value → pb_H → Prop), pb_R 48 15 [l0, some .null] [] st h Q ↔ pb_R 48 16 [l0, some .null] [] (.null :: st) h Q) ∧
  (∀ (L : pb_L) (J : pb_J) (st : List Value) (h : pb_H) (Q : Option Value → pb_H → Prop) (a : Nat), pb_R 48 16 L J (.ref a :: st) h Q ↔ pb_o (pb_gf (h.2 a) 4 1) (fun v => pb_R 48 19 L J (v :: st) h Q)) ∧
  (∀ (L : pb_L) (J : pb_J) (st : List Value) (h : pb_H) (Q : Option Value → pb_H → Prop) (a : Nat), pb_R 48 19 L J (.ref a :: st) h Q ↔ pb_o (pb_al2 (h.2 a)) (fun n => pb_R 48 20 L J (.int (Int32.ofNat n) :: st) h Q)) ∧
  (∀ (L : pb_L) (J : pb_J) (h : pb_H) (Q : Option Value → pb_H → Prop) (x0 : Int32) (x1 : Int32) (x2 : Int32) (x3 : Nat) (x4 : Int32) (x5 : Nat), pb_R 48 20 L J [.int x0, .int x1, .int x2, .ref x3, .int x4, .ref x5] h Q ↔ pb_R 48 23 L J [.int (if x0 < x1 then x0 else x1), .int x2, .ref x3, .int x4, .ref x5] h Q) ∧
  (∀ (L : pb_L) (J : pb_J) (h : pb_H) (Q : Option Value → pb_H → Prop) (x0 : Int32) (x1 : Int32) (x2 : Nat) (x3 : Int32) (x4 : Nat), pb_R 48 23 L J [.int x0, .int x1, .ref x2, .int x3, .ref x4] h Q ↔ pb_o (pb_cp (h.2 x4) (h.2 x2) x3 x1 x0) (fun c => pb_R 48 26 L J [] (pb_set h x2 c) Q)) ∧
  (∀ (l1 : Option Value) (st : List Value) (h : pb_H) (Q : Option Value → pb_H → Prop) (x : Nat), pb_R 48 26 [some (.ref x), l1] [] st h Q ↔ pb_R 48 27 [some (.ref x), l1] [] (.ref x :: st) h Q) ∧
  (∀ (l1 : Option Value) (st : List Value) (h : pb_H) (Q : Option Value → pb_H → Prop), pb_R 48 26 [some .null, l1] [] st h Q ↔ pb_R 48 27 [some .null, l1] [] (.null :: st) h Q) ∧
  (∀ (l0 : Option Value) (st : List Value) (h : pb_H) (Q : Option Value → pb_H → Prop) (x : Nat), pb_R 48 27 [l0, some (.ref x)] [] st h Q ↔ pb_R 48 28 [l0, some (.ref x)] [] (.ref x :: st) h Q) ∧
  (∀ (l0 : Option Value) (st : List Value) (h : pb_H) (Q : Option Value → pb_H → Prop), pb_R 48 27 [l0, some .null] [] st h Q ↔ pb_R 48 28 [l0, some .null] [] (.null :: st) h Q) ∧
  (∀ (L : pb_L) (J : pb_J) (st : List Value) (h : pb_H) (Q : Option Value → pb_H → Prop) (a : Nat), pb_R 48 28 L J (.ref a :: st) h Q ↔ pb_o (pb_gf (h.2 a) 4 2) (fun v => pb_R 48 31 L J (v :: st) h Q)) ∧
  (∀ (L : pb_L) (J : pb_J) (st : List Value) (h : pb_H) (Q : Option Value → pb_H → Prop) (a : Nat) (x : Int32), pb_R 48 31 L J (.int x :: .ref a :: st) h Q ↔ pb_o (pb_pf (h.2 a) 4 2 (.int x)) (fun c => pb_R 48 34 L J st (pb_set h a c) Q)) ∧
  (∀ (l1 : Option Value) (st : List Value) (h : pb_H) (Q : Option Value → pb_H → Prop) (x : Nat), pb_R 48 34 [some (.ref x), l1] [] st h Q ↔ pb_R 48 35 [some (.ref x), l1] [] (.ref x :: st) h Q) ∧
  (∀ (l1 : Option Value) (st : List Value) (h : pb_H) (Q : Option Value → pb_H → Prop), pb_R 48 34 [some .null, l1] [] st h Q ↔ pb_R 48 35 [some .null, l1] [] (.null :: st) h Q) ∧
  (∀ (l0 : Option Value) (st : List Value) (h : pb_H) (Q : Option Value → pb_H → Prop) (x : Nat), pb_R 48 35 [l0, some (.ref x)] [] st h Q ↔ pb_R 48 36 [l0, some (.ref x)] [] (.ref x :: st) h Q) ∧
  (∀ (l0 : Option Value) (st : List Value) (h : pb_H) (Q : Option Value → pb_H → Prop), pb_R 48 35 [l0, some .null] [] st h Q ↔ pb_R 48 36 [l0, some .null] [] (.null :: st) h Q) ∧
  (∀ (L : pb_L) (J : pb_J) (st : List Value) (h : pb_H) (Q : Option Value → pb_H → Prop) (a : Nat), pb_R 48 36 L J (.ref a :: st) h Q ↔ pb_o (pb_gf (h.2 a) 4 3) (fun v => pb_R 48 39 L J (v :: st) h Q)) ∧
  (∀ (L : pb_L) (J : pb_J) (st : List Value) (h : pb_H) (Q : Option Value → pb_H → Prop) (a : Nat) (x : Int32), pb_R 48 39 L J (.int x :: .ref a :: st) h Q ↔ pb_o (pb_pf (h.2 a) 4 3 (.int x)) (fun c => pb_R 48 42 L J st (pb_set h a c) Q)) ∧
  (∀ (l1 : Option Value) (st : List Value) (h : pb_H) (Q : Option Value → pb_H → Prop) (x : Nat), pb_R 48 42 [some (.ref x), l1] [] st h Q ↔ pb_R 48 43 [some (.ref x), l1] [] (.ref x :: st) h Q) ∧
  (∀ (l1 : Option Value) (st : List Value) (h : pb_H) (Q : Option Value → pb_H → Prop), pb_R 48 42 [some .null, l1] [] st h Q ↔ pb_R 48 43 [some .null, l1] [] (.null :: st) h Q) ∧
  (∀ (l0 : Option Value) (st : List Value) (h : pb_H) (Q : Option Value → pb_H → Prop) (x : Nat), pb_R 48 43 [l0, some (.ref x)] [] st h Q ↔ pb_R 48 44 [l0, some (.ref x)] [] (.ref x :: st) h Q) ∧
  (∀ (l0 : Option Value) (st : List Value) (h : pb_H) (Q : Option Value → pb_H → Prop), pb_R 48 43 [l0, some .null] [] st h Q ↔ pb_R 48 44 [l0, some .null] [] (.null :: st) h Q) ∧
  (∀ (L : pb_L) (J : pb_J) (st : List Value) (h : pb_H) (Q : Option Value → pb_H → Prop) (a : Nat), pb_R 48 44 L J (.ref a :: st) h Q ↔ pb_o (pb_gf (h.2 a) 4 4) (fun v => pb_R 48 47 L J (v :: st) h Q)) ∧
  (∀ (L : pb_L) (J : pb_J) (st : List Value) (h : pb_H) (Q : Option Value → pb_H → Prop) (a : Nat) (x : Int32), pb_R 48 47 L J (.int x :: .ref a :: st) h Q ↔ pb_o (pb_pf (h.2 a) 4 4 (.int x)) (fun c => pb_R 48 50 L J st (pb_set h a c) Q)) ∧
  (∀ (l1 : Option Value) (st : List Value) (h : pb_H) (Q : Option Value → pb_H → Prop) (x : Nat), pb_R 48 50 [some (.ref x), l1] [] st h Q ↔ pb_R 48 51 [some (.ref x), l1] [] (.ref x :: st) h Q) ∧
  (∀ (l1 : Option Value) (st : List Value) (h : pb_H) (Q : Option Value → pb_H → Prop), pb_R 48 50 [some .null, l1] [] st h Q ↔ pb_R 48 51 [some .null, l1] [] (.null :: st) h Q) ∧
  (∀ (L : pb_L) (J : pb_J) (st : List Value) (h : pb_H) (Q : Option Value → pb_H → Prop), pb_R 48 51 L J st h Q ↔ pb_R 48 52 L J (.int (0 : Int32) :: st) h Q) ∧
  (∀ (L : pb_L) (J : pb_J) (st : List Value) (h : pb_H) (Q : Option Value → pb_H → Prop) (a : Nat) (x : Int32), pb_R 48 52 L J (.int x :: .ref a :: st) h Q ↔ pb_o (pb_pf (h.2 a) 4 6 (.int x)) (fun c => pb_R 48 55 L J st (pb_set h a c) Q)) ∧
  (∀ (L : pb_L) (J : pb_J) (h : pb_H) (Q : Option Value → pb_H → Prop), pb_R 48 55 L J [] h Q ↔ Q none h) := ⟨
  fun l0 st h Q x => pf_S pb_u_48 rfl rfl,
  fun l0 st h Q => pf_S pb_u_48 rfl rfl,
  fun L J st h Q a => pf_gf pb_u_48 rfl rfl,
  fun L J st h Q => pf_S pb_u_48 rfl rfl,
  fun l1 st h Q x => pf_S pb_u_48 rfl rfl,
  fun l1 st h Q => pf_S pb_u_48 rfl rfl,
  fun L J st h Q a => pf_gf pb_u_48 rfl rfl,
  fun L J st h Q => pf_S pb_u_48 rfl rfl,
  fun l1 st h Q x => pf_S pb_u_48 rfl rfl,
  fun l1 st h Q => pf_S pb_u_48 rfl rfl,
  fun L J st h Q a => pf_gf pb_u_48 rfl rfl,
  fun L J st h Q a => pf_le pb_u_48 rfl rfl,
  fun l0 st h Q x => pf_S pb_u_48 rfl rfl,
  fun l0 st h Q => pf_S pb_u_48 rfl rfl,
  fun L J st h Q a => pf_gf pb_u_48 rfl rfl,
  fun L J st h Q a => pf_le pb_u_48 rfl rfl,
  fun L J h Q x0 x1 x2 x3 x4 x5 => pf_S pb_u_48 rfl rfl,
  fun L J h Q x0 x1 x2 x3 x4 => pf_cp pb_u_48 rfl rfl,
  fun l1 st h Q x => pf_S pb_u_48 rfl rfl,
  fun l1 st h Q => pf_S pb_u_48 rfl rfl,
  fun l0 st h Q x => pf_S pb_u_48 rfl rfl,
  fun l0 st h Q => pf_S pb_u_48 rfl rfl,
  fun L J st h Q a => pf_gf pb_u_48 rfl rfl,
  fun L J st h Q a x => pf_pf pb_u_48 rfl rfl,
  fun l1 st h Q x => pf_S pb_u_48 rfl rfl,
  fun l1 st h Q => pf_S pb_u_48 rfl rfl,
  fun l0 st h Q x => pf_S pb_u_48 rfl rfl,
  fun l0 st h Q => pf_S pb_u_48 rfl rfl,
  fun L J st h Q a => pf_gf pb_u_48 rfl rfl,
  fun L J st h Q a x => pf_pf pb_u_48 rfl rfl,
  fun l1 st h Q x => pf_S pb_u_48 rfl rfl,
  fun l1 st h Q => pf_S pb_u_48 rfl rfl,
  fun l0 st h Q x => pf_S pb_u_48 rfl rfl,
  fun l0 st h Q => pf_S pb_u_48 rfl rfl,
  fun L J st h Q a => pf_gf pb_u_48 rfl rfl,
  fun L J st h Q a x => pf_pf pb_u_48 rfl rfl,
  fun l1 st h Q x => pf_S pb_u_48 rfl rfl,
  fun l1 st h Q => pf_S pb_u_48 rfl rfl,
  fun L J st h Q => pf_S pb_u_48 rfl rfl,
  fun L J st h Q a x => pf_pf pb_u_48 rfl rfl,
  fun L J h Q => pf_rv pb_u_48 rfl rfl⟩
theorem pb_c48 (x0 : Nat) (x1 : Nat) (h : pb_H) (Q : Option Value → pb_H → Prop) : pb_call 48 [.ref x0, .ref x1] h Q ↔ pb_R 48 0 [some (.ref x0), some (.ref x1)] [] [] h Q := Iff.rfl
/-! 49: PlaneBench$Checker.takeNumber()Z -/
theorem pb_u_49 : pb_t 49 = pb_t49 := rfl
theorem pb_ci_49 : pb_ci 49 = 1 := by decide +kernel
set_option maxRecDepth 100000 in
theorem pb_e49 : (∀ (l1 l2 l3 : Option Value) (st : List Value) (h : pb_H) (Q : Option Value → pb_H → Prop) (x : Nat), pb_R 49 0 [some (.ref x), l1, l2, l3] [] st h Q ↔ pb_R 49 1 [some (.ref x), l1, l2, l3] [] (.ref x :: st) h Q) ∧
  (∀ (l1 l2 l3 : Option Value) (st : List Value) (h : pb_H) (Q : Option Value → pb_H → Prop), pb_R 49 0 [some .null, l1, l2, l3] [] st h Q ↔ pb_R 49 1 [some .null, l1, l2, l3] [] (.null :: st) h Q) ∧
  (∀ (L : pb_L) (J : pb_J) (st : List Value) (h : pb_H) (Q : Option Value → pb_H → Prop) (a : Nat), pb_R 49 1 L J (.ref a :: st) h Q ↔ pb_o (pb_gf (h.2 a) 1 0) (fun v => pb_R 49 4 L J (v :: st) h Q)) ∧
  (∀ (L : pb_L) (J : pb_J) (st : List Value) (h : pb_H) (Q : Option Value → pb_H → Prop) (a : Nat), pb_R 49 4 L J (.ref a :: st) h Q ↔ pb_o (pb_gf (h.2 a) 8 3) (fun v => pb_R 49 7 L J (v :: st) h Q)) ∧
  (∀ (l0 l1 l2 l3 : Option Value) (st : List Value) (h : pb_H) (Q : Option Value → pb_H → Prop) (x : Int32), pb_R 49 7 [l0, l1, l2, l3] [] (.int x :: st) h Q ↔ pb_R 49 8 [l0, some (.int x), l2, l3] [] st h Q) ∧
  (∀ (l1 l2 l3 : Option Value) (st : List Value) (h : pb_H) (Q : Option Value → pb_H → Prop) (x : Nat), pb_R 49 8 [some (.ref x), l1, l2, l3] [] st h Q ↔ pb_R 49 9 [some (.ref x), l1, l2, l3] [] (.ref x :: st) h Q) ∧
  (∀ (l1 l2 l3 : Option Value) (st : List Value) (h : pb_H) (Q : Option Value → pb_H → Prop), pb_R 49 8 [some .null, l1, l2, l3] [] st h Q ↔ pb_R 49 9 [some .null, l1, l2, l3] [] (.null :: st) h Q) ∧
  (∀ (L : pb_L) (J : pb_J) (st : List Value) (h : pb_H) (Q : Option Value → pb_H → Prop) (a : Nat), pb_R 49 9 L J (.ref a :: st) h Q ↔ pb_o (pb_gf (h.2 a) 1 0) (fun v => pb_R 49 12 L J (v :: st) h Q)) ∧
  (∀ (l1 l2 l3 : Option Value) (st : List Value) (h : pb_H) (Q : Option Value → pb_H → Prop) (x : Nat), pb_R 49 12 [some (.ref x), l1, l2, l3] [] st h Q ↔ pb_R 49 13 [some (.ref x), l1, l2, l3] [] (.ref x :: st) h Q) ∧
  (∀ (l1 l2 l3 : Option Value) (st : List Value) (h : pb_H) (Q : Option Value → pb_H → Prop), pb_R 49 12 [some .null, l1, l2, l3] [] st h Q ↔ pb_R 49 13 [some .null, l1, l2, l3] [] (.null :: st) h Q) ∧
  (∀ (L : pb_L) (J : pb_J) (st : List Value) (h : pb_H) (Q : Option Value → pb_H → Prop) (a : Nat), pb_R 49 13 L J (.ref a :: st) h Q ↔ pb_o (pb_gf (h.2 a) 1 6) (fun v => pb_R 49 16 L J (v :: st) h Q)) ∧
  (∀ (L : pb_L) (J : pb_J) (h : pb_H) (Q : Option Value → pb_H → Prop) (x0 : Nat) (x1 : Nat), pb_R 49 16 L J [.ref x0, .ref x1] h Q ↔ pb_is0 (h.2 x1) 8 = true ∧ pb_call 26 [.ref x1, .ref x0] h (fun v t => pb_R 49 19 L J (v.toList ++ []) t Q)) ∧
  (∀ (l1 l2 l3 : Option Value) (st : List Value) (h : pb_H) (Q : Option Value → pb_H → Prop) (x : Nat), pb_R 49 19 [some (.ref x), l1, l2, l3] [] st h Q ↔ pb_R 49 20 [some (.ref x), l1, l2, l3] [] (.ref x :: st) h Q) ∧
  (∀ (l1 l2 l3 : Option Value) (st : List Value) (h : pb_H) (Q : Option Value → pb_H → Prop), pb_R 49 19 [some .null, l1, l2, l3] [] st h Q ↔ pb_R 49 20 [some .null, l1, l2, l3] [] (.null :: st) h Q) ∧
  (∀ (L : pb_L) (J : pb_J) (st : List Value) (h : pb_H) (Q : Option Value → pb_H → Prop) (a : Nat), pb_R 49 20 L J (.ref a :: st) h Q ↔ pb_o (pb_gf (h.2 a) 1 0) (fun v => pb_R 49 23 L J (v :: st) h Q)) ∧
  (∀ (L : pb_L) (J : pb_J) (h : pb_H) (Q : Option Value → pb_H → Prop) (x0 : Nat), pb_R 49 23 L J [.ref x0] h Q ↔ pb_is0 (h.2 x0) 8 = true ∧ pb_call 23 [.ref x0] h (fun v t => pb_R 49 26 L J (v.toList ++ []) t Q)) ∧
  (∀ (l1 l2 l3 : Option Value) (st : List Value) (h : pb_H) (Q : Option Value → pb_H → Prop) (x : Nat), pb_R 49 26 [some (.ref x), l1, l2, l3] [] st h Q ↔ pb_R 49 27 [some (.ref x), l1, l2, l3] [] (.ref x :: st) h Q) ∧
  (∀ (l1 l2 l3 : Option Value) (st : List Value) (h : pb_H) (Q : Option Value → pb_H → Prop), pb_R 49 26 [some .null, l1, l2, l3] [] st h Q ↔ pb_R 49 27 [some .null, l1, l2, l3] [] (.null :: st) h Q) ∧
  (∀ (L : pb_L) (J : pb_J) (st : List Value) (h : pb_H) (Q : Option Value → pb_H → Prop) (a : Nat), pb_R 49 27 L J (.ref a :: st) h Q ↔ pb_o (pb_gf (h.2 a) 1 0) (fun v => pb_R 49 30 L J (v :: st) h Q)) ∧
  (∀ (L : pb_L) (J : pb_J) (st : List Value) (h : pb_H) (Q : Option Value → pb_H → Prop) (a : Nat), pb_R 49 30 L J (.ref a :: st) h Q ↔ pb_o (pb_gf (h.2 a) 8 2) (fun v => pb_R 49 33 L J (v :: st) h Q)) ∧
  (∀ (L : pb_L) (J : pb_J) (st : List Value) (h : pb_H) (Q : Option Value → pb_H → Prop), pb_R 49 33 L J st h Q ↔ pb_R 49 35 L J (.int (42 : Int32) :: st) h Q) ∧
  (∀ (L : pb_L) (J : pb_J) (st : List Value) (h : pb_H) (Q : Option Value → pb_H → Prop) (x y : Int32), pb_R 49 35 L J (.int y :: .int x :: st) h Q ↔ if x = y then pb_R 49 50 L J st h Q else pb_R 49 38 L J st h Q) ∧
  (∀ (l1 l2 l3 : Option Value) (st : List Value) (h : pb_H) (Q : Option Value → pb_H → Prop) (x : Nat), pb_R 49 38 [some (.ref x), l1, l2, l3] [] st h Q ↔ pb_R 49 39 [some (.ref x), l1, l2, l3] [] (.ref x :: st) h Q) ∧
  (∀ (l1 l2 l3 : Option Value) (st : List Value) (h : pb_H) (Q : Option Value → pb_H → Prop), pb_R 49 38 [some .null, l1, l2, l3] [] st h Q ↔ pb_R 49 39 [some .null, l1, l2, l3] [] (.null :: st) h Q) ∧
  (∀ (L : pb_L) (J : pb_J) (st : List Value) (h : pb_H) (Q : Option Value → pb_H → Prop) (a : Nat), pb_R 49 39 L J (.ref a :: st) h Q ↔ pb_o (pb_gf (h.2 a) 1 0) (fun v => pb_R 49 42 L J (v :: st) h Q)) ∧
  (∀ (L : pb_L) (J : pb_J) (st : List Value) (h : pb_H) (Q : Option Value → pb_H → Prop) (a : Nat), pb_R 49 42 L J (.ref a :: st) h Q ↔ pb_o (pb_gf (h.2 a) 8 2) (fun v => pb_R 49 45 L J (v :: st) h Q)) ∧
  (∀ (L : pb_L) (J : pb_J) (st : List Value) (h : pb_H) (Q : Option Value → pb_H → Prop), pb_R 49 45 L J st h Q ↔ pb_R 49 47 L J (.int (100 : Int32) :: st) h Q) ∧
  (∀ (L : pb_L) (J : pb_J) (st : List Value) (h : pb_H) (Q : Option Value → pb_H → Prop) (x y : Int32), pb_R 49 47 L J (.int y :: .int x :: st) h Q ↔ if ¬ x = y then pb_R 49 56 L J st h Q else pb_R 49 50 L J st h Q) ∧
  (∀ (l1 l2 l3 : Option Value) (st : List Value) (h : pb_H) (Q : Option Value → pb_H → Prop) (x : Nat), pb_R 49 50 [some (.ref x), l1, l2, l3] [] st h Q ↔ pb_R 49 51 [some (.ref x), l1, l2, l3] [] (.ref x :: st) h Q) ∧
  (∀ (l1 l2 l3 : Option Value) (st : List Value) (h : pb_H) (Q : Option Value → pb_H → Prop), pb_R 49 50 [some .null, l1, l2, l3] [] st h Q ↔ pb_R 49 51 [some .null, l1, l2, l3] [] (.null :: st) h Q) ∧
  (∀ (l0 l2 l3 : Option Value) (st : List Value) (h : pb_H) (Q : Option Value → pb_H → Prop) (x : Int32), pb_R 49 51 [l0, some (.int x), l2, l3] [] st h Q ↔ pb_R 49 52 [l0, some (.int x), l2, l3] [] (.int x :: st) h Q) ∧
  (∀ (L : pb_L) (J : pb_J) (h : pb_H) (Q : Option Value → pb_H → Prop) (x0 : Int32) (x1 : Nat), pb_R 49 52 L J [.int x0, .ref x1] h Q ↔ pb_is0 (h.2 x1) 1 = true ∧ pb_call 44 [.ref x1, .int x0] h (fun v t => pb_R 49 55 L J (v.toList ++ []) t Q)) ∧
  (∀ (L : pb_L) (J : pb_J) (h : pb_H) (Q : Option Value → pb_H → Prop) (x : Int32), pb_R 49 55 L J [.int x] h Q ↔ narrow .boolean (.int x) = .int x ∧ Q (some (.int x)) h) ∧
  (∀ (l1 l2 l3 : Option Value) (st : List Value) (h : pb_H) (Q : Option Value → pb_H → Prop) (x : Nat), pb_R 49 56 [some (.ref x), l1, l2, l3] [] st h Q ↔ pb_R 49 57 [some (.ref x), l1, l2, l3] [] (.ref x :: st) h Q) ∧
  (∀ (l1 l2 l3 : Option Value) (st : List Value) (h : pb_H) (Q : Option Value → pb_H → Prop), pb_R 49 56 [some .null, l1, l2, l3] [] st h Q ↔ pb_R 49 57 [some .null, l1, l2, l3] [] (.null :: st) h Q) ∧
  (∀ (L : pb_L) (J : pb_J) (st : List Value) (h : pb_H) (Q : Option Value → pb_H → Prop) (a : Nat), pb_R 49 57 L J (.ref a :: st) h Q ↔ pb_o (pb_gf (h.2 a) 1 2) (fun v => pb_R 49 60 L J (v :: st) h Q)) ∧
  (∀ (l1 l2 l3 : Option Value) (st : List Value) (h : pb_H) (Q : Option Value → pb_H → Prop) (x : Nat), pb_R 49 60 [some (.ref x), l1, l2, l3] [] st h Q ↔ pb_R 49 61 [some (.ref x), l1, l2, l3] [] (.ref x :: st) h Q) ∧
  (∀ (l1 l2 l3 : Option Value) (st : List Value) (h : pb_H) (Q : Option Value → pb_H → Prop), pb_R 49 60 [some .null, l1, l2, l3] [] st h Q ↔ pb_R 49 61 [some .null, l1, l2, l3] [] (.null :: st) h Q) ∧
  (∀ (L : pb_L) (J : pb_J) (st : List Value) (h : pb_H) (Q : Option Value → pb_H → Prop) (a : Nat), pb_R 49 61 L J (.ref a :: st) h Q ↔ pb_o (pb_gf (h.2 a) 1 6) (fun v => pb_R 49 64 L J (v :: st) h Q)) ∧
  (∀ (L : pb_L) (J : pb_J) (h : pb_H) (Q : Option Value → pb_H → Prop) (x0 : Nat) (x1 : Nat), pb_R 49 64 L J [.ref x0, .ref x1] h Q ↔ pb_call 45 [.ref x0] h (fun v t => pb_R 49 67 L J (v.toList ++ [.ref x1]) t Q)) ∧
  (∀ (L : pb_L) (J : pb_J) (h : pb_H) (Q : Option Value → pb_H → Prop) (x0 : Int32) (x1 : Nat), pb_R 49 67 L J [.int x0, .ref x1] h Q ↔ pb_is0 (h.2 x1) 7 = true ∧ pb_call 46 [.ref x1, .int x0] h (fun v t => pb_R 49 70 L J (v.toList ++ []) t Q)) ∧
  (∀ (l0 l1 l2 l3 : Option Value) (st : List Value) (h : pb_H) (Q : Option Value → pb_H → Prop) (x : Nat), pb_R 49 70 [l0, l1, l2, l3] [] (.ref x :: st) h Q ↔ pb_R 49 71 [l0, l1, some (.ref x), l3] [] st h Q) ∧
  (∀ (l0 l1 l2 l3 : Option Value) (st : List Value) (h : pb_H) (Q : Option Value → pb_H → Prop), pb_R 49 70 [l0, l1, l2, l3] [] (.null :: st) h Q ↔ pb_R 49 71 [l0, l1, some .null, l3] [] st h Q) ∧
  (∀ (l0 l1 l3 : Option Value) (st : List Value) (h : pb_H) (Q : Option Value → pb_H → Prop) (x : Nat), pb_R 49 71 [l0, l1, some (.ref x), l3] [] st h Q ↔ pb_R 49 72 [l0, l1, some (.ref x), l3] [] (.ref x :: st) h Q) ∧
  (∀ (l0 l1 l3 : Option Value) (st : List Value) (h : pb_H) (Q : Option Value → pb_H → Prop), pb_R 49 71 [l0, l1, some .null, l3] [] st h Q ↔ pb_R 49 72 [l0, l1, some .null, l3] [] (.null :: st) h Q) ∧
  (∀ (L : pb_L) (J : pb_J) (st : List Value) (h : pb_H) (Q : Option Value → pb_H → Prop), pb_R 49 72 L J (.null :: st) h Q ↔ pb_R 49 75 L J st h Q) ∧
  (∀ (L : pb_L) (J : pb_J) (st : List Value) (h : pb_H) (Q : Option Value → pb_H → Prop) (x : Nat), pb_R 49 72 L J (.ref x :: st) h Q ↔ pb_R 49 85 L J st h Q) ∧
  (∀ (l1 l2 l3 : Option Value) (st : List Value) (h : pb_H) (Q : Option Value → pb_H → Prop) (x : Nat), pb_R 49 75 [some (.ref x), l1, l2, l3] [] st h Q ↔ pb_R 49 76 [some (.ref x), l1, l2, l3] [] (.ref x :: st) h Q) ∧
  (∀ (l1 l2 l3 : Option Value) (st : List Value) (h : pb_H) (Q : Option Value → pb_H → Prop), pb_R 49 75 [some .null, l1, l2, l3] [] st h Q ↔ pb_R 49 76 [some .null, l1, l2, l3] [] (.null :: st) h Q) ∧
  (∀ (L : pb_L) (J : pb_J) (st : List Value) (h : pb_H) (Q : Option Value → pb_H → Prop) (a : Nat), pb_R 49 76 L J (.ref a :: st) h Q ↔ pb_o (pb_gf (h.2 a) 1 0) (fun v => pb_R 49 79 L J (v :: st) h Q)) ∧
  (∀ (L : pb_L) (J : pb_J) (st : List Value) (h : pb_H) (Q : Option Value → pb_H → Prop), pb_R 49 79 L J st h Q ↔ pb_R 49 80 L J (.int (2 : Int32) :: st) h Q) ∧
  (∀ (l0 l2 l3 : Option Value) (st : List Value) (h : pb_H) (Q : Option Value → pb_H → Prop) (x : Int32), pb_R 49 80 [l0, some (.int x), l2, l3] [] st h Q ↔ pb_R 49 81 [l0, some (.int x), l2, l3] [] (.int x :: st) h Q) ∧
  (∀ (L : pb_L) (J : pb_J) (h : pb_H) (Q : Option Value → pb_H → Prop) (x0 : Int32) (x1 : Int32) (x2 : Nat), pb_R 49 81 L J [.int x0, .int x1, .ref x2] h Q ↔ pb_is0 (h.2 x2) 8 = true ∧ pb_call 27 [.ref x2, .int x1, .int x0] h (fun v t => pb_R 49 84 L J (v.toList ++ []) t Q)) ∧
  (∀ (L : pb_L) (J : pb_J) (h : pb_H) (Q : Option Value → pb_H → Prop) (x : Int32), pb_R 49 84 L J [.int x] h Q ↔ narrow .boolean (.int x) = .int x ∧ Q (some (.int x)) h) ∧
  (∀ (l1 l2 l3 : Option Value) (st : List Value) (h : pb_H) (Q : Option Value → pb_H → Prop) (x : Nat), pb_R 49 85 [some (.ref x), l1, l2, l3] [] st h Q ↔ pb_R 49 86 [some (.ref x), l1, l2, l3] [] (.ref x :: st) h Q) ∧
  (∀ (l1 l2 l3 : Option Value) (st : List Value) (h : pb_H) (Q : Option Value → pb_H → Prop), pb_R 49 85 [some .null, l1, l2, l3] [] st h Q ↔ pb_R 49 86 [some .null, l1, l2, l3] [] (.null :: st) h Q) ∧
  (∀ (L : pb_L) (J : pb_J) (h : pb_H) (Q : Option Value → pb_H → Prop) (x0 : Nat), pb_R 49 86 L J [.ref x0] h Q ↔ pb_is0 (h.2 x0) 1 = true ∧ pb_call 47 [.ref x0] h (fun v t => pb_R 49 89 L J (v.toList ++ []) t Q)) ∧
  (∀ (l0 l1 l2 l3 : Option Value) (st : List Value) (h : pb_H) (Q : Option Value → pb_H → Prop) (x : Nat), pb_R 49 89 [l0, l1, l2, l3] [] (.ref x :: st) h Q ↔ pb_R 49 90 [l0, l1, l2, some (.ref x)] [] st h Q) ∧
  (∀ (l0 l1 l2 l3 : Option Value) (st : List Value) (h : pb_H) (Q : Option Value → pb_H → Prop), pb_R 49 89 [l0, l1, l2, l3] [] (.null :: st) h Q ↔ pb_R 49 90 [l0, l1, l2, some .null] [] st h Q) ∧
  (∀ (l0 l1 l2 : Option Value) (st : List Value) (h : pb_H) (Q : Option Value → pb_H → Prop) (x : Nat), pb_R 49 90 [l0, l1, l2, some (.ref x)] [] st h Q ↔ pb_R 49 91 [l0, l1, l2, some (.ref x)] [] (.ref x :: st) h Q) ∧
  (∀ (l0 l1 l2 : Option Value) (st : List Value) (h : pb_H) (Q : Option Value → pb_H → Prop), pb_R 49 90 [l0, l1, l2, some .null] [] st h Q ↔ pb_R 49 91 [l0, l1, l2, some .null] [] (.null :: st) h Q) ∧
  (∀ (L : pb_L) (J : pb_J) (st : List Value) (h : pb_H) (Q : Option Value → pb_H → Prop), pb_R 49 91 L J (.null :: st) h Q ↔ pb_R 49 94 L J st h Q) ∧
  (∀ (L : pb_L) (J : pb_J) (st : List Value) (h : pb_H) (Q : Option Value → pb_H → Prop) (x : Nat), pb_R 49 91 L J (.ref x :: st) h Q ↔ pb_R 49 104 L J st h Q) ∧
  (∀ (l1 l2 l3 : Option Value) (st : List Value) (h : pb_H) (Q : Option Value → pb_H → Prop) (x : Nat), pb_R 49 94 [some (.ref x), l1, l2, l3] [] st h Q ↔ pb_R 49 95 [some (.ref x), l1, l2, l3] [] (.ref x :: st) h Q) ∧
  (∀ (l1 l2 l3 : Option Value) (st : List Value) (h : pb_H) (Q : Option Value → pb_H → Prop), pb_R 49 94 [some .null, l1, l2, l3] [] st h Q ↔ pb_R 49 95 [some .null, l1, l2, l3] [] (.null :: st) h Q) ∧
  (∀ (L : pb_L) (J : pb_J) (st : List Value) (h : pb_H) (Q : Option Value → pb_H → Prop) (a : Nat), pb_R 49 95 L J (.ref a :: st) h Q ↔ pb_o (pb_gf (h.2 a) 1 0) (fun v => pb_R 49 98 L J (v :: st) h Q)) ∧
  (∀ (L : pb_L) (J : pb_J) (st : List Value) (h : pb_H) (Q : Option Value → pb_H → Prop), pb_R 49 98 L J st h Q ↔ pb_R 49 99 L J (.int (4 : Int32) :: st) h Q) ∧
  (∀ (l0 l2 l3 : Option Value) (st : List Value) (h : pb_H) (Q : Option Value → pb_H → Prop) (x : Int32), pb_R 49 99 [l0, some (.int x), l2, l3] [] st h Q ↔ pb_R 49 100 [l0, some (.int x), l2, l3] [] (.int x :: st) h Q) ∧
  (∀ (L : pb_L) (J : pb_J) (h : pb_H) (Q : Option Value → pb_H → Prop) (x0 : Int32) (x1 : Int32) (x2 : Nat), pb_R 49 100 L J [.int x0, .int x1, .ref x2] h Q ↔ pb_is0 (h.2 x2) 8 = true ∧ pb_call 27 [.ref x2, .int x1, .int x0] h (fun v t => pb_R 49 103 L J (v.toList ++ []) t Q)) ∧
  (∀ (L : pb_L) (J : pb_J) (h : pb_H) (Q : Option Value → pb_H → Prop) (x : Int32), pb_R 49 103 L J [.int x] h Q ↔ narrow .boolean (.int x) = .int x ∧ Q (some (.int x)) h) ∧
  (∀ (l0 l1 l2 : Option Value) (st : List Value) (h : pb_H) (Q : Option Value → pb_H → Prop) (x : Nat), pb_R 49 104 [l0, l1, l2, some (.ref x)] [] st h Q ↔ pb_R 49 105 [l0, l1, l2, some (.ref x)] [] (.ref x :: st) h Q) ∧
  (∀ (l0 l1 l2 : Option Value) (st : List Value) (h : pb_H) (Q : Option Value → pb_H → Prop), pb_R 49 104 [l0, l1, l2, some .null] [] st h Q ↔ pb_R 49 105 [l0, l1, l2, some .null] [] (.null :: st) h Q) ∧
  (∀ (l0 l1 l3 : Option Value) (st : List Value) (h : pb_H) (Q : Option Value → pb_H → Prop) (x : Nat), pb_R 49 105 [l0, l1, some (.ref x), l3] [] st h Q ↔ pb_R 49 106 [l0, l1, some (.ref x), l3] [] (.ref x :: st) h Q) ∧
  (∀ (l0 l1 l3 : Option Value) (st : List Value) (h : pb_H) (Q : Option Value → pb_H → Prop), pb_R 49 105 [l0, l1, some .null, l3] [] st h Q ↔ pb_R 49 106 [l0, l1, some .null, l3] [] (.null :: st) h Q) ∧
  (∀ (L : pb_L) (J : pb_J) (h : pb_H) (Q : Option Value → pb_H → Prop) (x0 : Nat) (x1 : Nat), pb_R 49 106 L J [.ref x0, .ref x1] h Q ↔ pb_is0 (h.2 x1) 4 = true ∧ pb_call 48 [.ref x1, .ref x0] h (fun v t => pb_R 49 109 L J (v.toList ++ []) t Q)) ∧
  (∀ (L : pb_L) (J : pb_J) (st : List Value) (h : pb_H) (Q : Option Value → pb_H → Prop), pb_R 49 109 L J st h Q ↔ pb_R 49 110 L J (.int (1 : Int32) :: st) h Q) ∧
  (∀ (L : pb_L) (J : pb_J) (h : pb_H) (Q : Option Value → pb_H → Prop) (x : Int32), pb_R 49 110 L J [.int x] h Q ↔ narrow .boolean (.int x) = .int x ∧ Q (some (.int x)) h) := ⟨
  fun l1 l2 l3 st h Q x => pf_S pb_u_49 rfl rfl,
  fun l1 l2 l3 st h Q => pf_S pb_u_49 rfl rfl,
  fun L J st h Q a => pf_gf pb_u_49 rfl rfl,
  fun L J st h Q a => pf_gf pb_u_49 rfl rfl,
  fun l0 l1 l2 l3 st h Q x => pf_S pb_u_49 rfl rfl,
  fun l1 l2 l3 st h Q x => pf_S pb_u_49 rfl rfl,
  fun l1 l2 l3 st h Q => pf_S pb_u_49 rfl rfl,
  fun L J st h Q a => pf_gf pb_u_49 rfl rfl,
  fun l1 l2 l3 st h Q x => pf_S pb_u_49 rfl rfl,
  fun l1 l2 l3 st h Q => pf_S pb_u_49 rfl rfl,
  fun L J st h Q a => pf_gf pb_u_49 rfl rfl,
  fun L J h Q x0 x1 => pf_kv pb_u_49 rfl pb_ci_26 rfl ⟨Nat.le_of_ble_eq_true rfl, Nat.le_of_ble_eq_true rfl, Nat.le_of_ble_eq_true rfl, Nat.le_of_ble_eq_true rfl, rfl⟩ rfl rfl,
  fun l1 l2 l3 st h Q x => pf_S pb_u_49 rfl rfl,
  fun l1 l2 l3 st h Q => pf_S pb_u_49 rfl rfl,
  fun L J st h Q a => pf_gf pb_u_49 rfl rfl,
  fun L J h Q x0 => pf_kv pb_u_49 rfl pb_ci_23 rfl ⟨Nat.le_of_ble_eq_true rfl, Nat.le_of_ble_eq_true rfl, Nat.le_of_ble_eq_true rfl, Nat.le_of_ble_eq_true rfl, rfl⟩ rfl rfl,
  fun l1 l2 l3 st h Q x => pf_S pb_u_49 rfl rfl,
  fun l1 l2 l3 st h Q => pf_S pb_u_49 rfl rfl,
  fun L J st h Q a => pf_gf pb_u_49 rfl rfl,
  fun L J st h Q a => pf_gf pb_u_49 rfl rfl,
  fun L J st h Q => pf_S pb_u_49 rfl rfl,
  fun L J st h Q x y => pf_ic pb_u_49 rfl rfl rfl,
  fun l1 l2 l3 st h Q x => pf_S pb_u_49 rfl rfl,
  fun l1 l2 l3 st h Q => pf_S pb_u_49 rfl rfl,
  fun L J st h Q a => pf_gf pb_u_49 rfl rfl,
  fun L J st h Q a => pf_gf pb_u_49 rfl rfl,
  fun L J st h Q => pf_S pb_u_49 rfl rfl,
  fun L J st h Q x y => pf_ic pb_u_49 rfl rfl pf_ne,
  fun l1 l2 l3 st h Q x => pf_S pb_u_49 rfl rfl,
  fun l1 l2 l3 st h Q => pf_S pb_u_49 rfl rfl,
  fun l0 l2 l3 st h Q x => pf_S pb_u_49 rfl rfl,
  fun L J h Q x0 x1 => pf_kv pb_u_49 rfl pb_ci_44 rfl ⟨Nat.le_of_ble_eq_true rfl, Nat.le_of_ble_eq_true rfl, Nat.le_of_ble_eq_true rfl, Nat.le_of_ble_eq_true rfl, rfl⟩ rfl rfl,
  fun L J h Q x => pf_rz pb_u_49 rfl rfl,
  fun l1 l2 l3 st h Q x => pf_S pb_u_49 rfl rfl,
  fun l1 l2 l3 st h Q => pf_S pb_u_49 rfl rfl,
  fun L J st h Q a => pf_gf pb_u_49 rfl rfl,
  fun l1 l2 l3 st h Q x => pf_S pb_u_49 rfl rfl,
  fun l1 l2 l3 st h Q => pf_S pb_u_49 rfl rfl,
  fun L J st h Q a => pf_gf pb_u_49 rfl rfl,
  fun L J h Q x0 x1 => pf_ks pb_u_49 rfl rfl rfl rfl,
  fun L J h Q x0 x1 => pf_kv pb_u_49 rfl pb_ci_46 rfl ⟨Nat.le_of_ble_eq_true rfl, Nat.le_of_ble_eq_true rfl, Nat.le_of_ble_eq_true rfl, Nat.le_of_ble_eq_true rfl, rfl⟩ rfl rfl,
  fun l0 l1 l2 l3 st h Q x => pf_S pb_u_49 rfl rfl,
  fun l0 l1 l2 l3 st h Q => pf_S pb_u_49 rfl rfl,
  fun l0 l1 l3 st h Q x => pf_S pb_u_49 rfl rfl,
  fun l0 l1 l3 st h Q => pf_S pb_u_49 rfl rfl,
  fun L J st h Q => pf_S pb_u_49 rfl rfl,
  fun L J st h Q x => pf_S pb_u_49 rfl rfl,
  fun l1 l2 l3 st h Q x => pf_S pb_u_49 rfl rfl,
  fun l1 l2 l3 st h Q => pf_S pb_u_49 rfl rfl,
  fun L J st h Q a => pf_gf pb_u_49 rfl rfl,
  fun L J st h Q => pf_S pb_u_49 rfl rfl,
  fun l0 l2 l3 st h Q x => pf_S pb_u_49 rfl rfl,
  fun L J h Q x0 x1 x2 => pf_kv pb_u_49 rfl pb_ci_27 rfl ⟨Nat.le_of_ble_eq_true rfl, Nat.le_of_ble_eq_true rfl, Nat.le_of_ble_eq_true rfl, Nat.le_of_ble_eq_true rfl, rfl⟩ rfl rfl,
  fun L J h Q x => pf_rz pb_u_49 rfl rfl,
  fun l1 l2 l3 st h Q x => pf_S pb_u_49 rfl rfl,
  fun l1 l2 l3 st h Q => pf_S pb_u_49 rfl rfl,
  fun L J h Q x0 => pf_kv pb_u_49 rfl pb_ci_47 rfl ⟨Nat.le_of_ble_eq_true rfl, Nat.le_of_ble_eq_true rfl, Nat.le_of_ble_eq_true rfl, Nat.le_of_ble_eq_true rfl, rfl⟩ rfl rfl,
  fun l0 l1 l2 l3 st h Q x => pf_S pb_u_49 rfl rfl,
  fun l0 l1 l2 l3 st h Q => pf_S pb_u_49 rfl rfl,
  fun l0 l1 l2 st h Q x => pf_S pb_u_49 rfl rfl,
  fun l0 l1 l2 st h Q => pf_S pb_u_49 rfl rfl,
  fun L J st h Q => pf_S pb_u_49 rfl rfl,
  fun L J st h Q x => pf_S pb_u_49 rfl rfl,
  fun l1 l2 l3 st h Q x => pf_S pb_u_49 rfl rfl,
  fun l1 l2 l3 st h Q => pf_S pb_u_49 rfl rfl,
  fun L J st h Q a => pf_gf pb_u_49 rfl rfl,
  fun L J st h Q => pf_S pb_u_49 rfl rfl,
  fun l0 l2 l3 st h Q x => pf_S pb_u_49 rfl rfl,
  fun L J h Q x0 x1 x2 => pf_kv pb_u_49 rfl pb_ci_27 rfl ⟨Nat.le_of_ble_eq_true rfl, Nat.le_of_ble_eq_true rfl, Nat.le_of_ble_eq_true rfl, Nat.le_of_ble_eq_true rfl, rfl⟩ rfl rfl,
  fun L J h Q x => pf_rz pb_u_49 rfl rfl,
  fun l0 l1 l2 st h Q x => pf_S pb_u_49 rfl rfl,
  fun l0 l1 l2 st h Q => pf_S pb_u_49 rfl rfl,
  fun l0 l1 l3 st h Q x => pf_S pb_u_49 rfl rfl,
  fun l0 l1 l3 st h Q => pf_S pb_u_49 rfl rfl,
  fun L J h Q x0 x1 => pf_kv pb_u_49 rfl pb_ci_48 rfl ⟨Nat.le_of_ble_eq_true rfl, Nat.le_of_ble_eq_true rfl, Nat.le_of_ble_eq_true rfl, Nat.le_of_ble_eq_true rfl, rfl⟩ rfl rfl,
  fun L J st h Q => pf_S pb_u_49 rfl rfl,
  fun L J h Q x => pf_rz pb_u_49 rfl rfl⟩
theorem pb_c49 (x0 : Nat) (h : pb_H) (Q : Option Value → pb_H → Prop) : pb_call 49 [.ref x0] h Q ↔ pb_R 49 0 [some (.ref x0), none, none, none] [] [] h Q := Iff.rfl
