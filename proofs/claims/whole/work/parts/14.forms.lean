/-! The forms of the equations, one a kind of instruction. -/
section PF
variable {m pc : Nat} {t : List (Nat × pb_X)} {L L' : pb_L} {J J' : pb_J} {st st' : List Value} {h h' : pb_H} {Q : Option Value → pb_H → Prop}
theorem pf_lk {x : pb_X} (hm : pb_t m = t) (hx : t.lookup pc = some x) : pb_look m pc = some x := by unfold pb_look; rw [hm]; exact hx
theorem pf_S {x : pb_X} {pc' : Nat} (hm : pb_t m = t) (hx : t.lookup pc = some x) (hS : pb_S x pc L J st h = some (pc', L', J', st', h')) : pb_R m pc L J st h Q ↔ pb_R m pc' L' J' st' h' Q := pb_R_S (pf_lk hm hx) hS
theorem pf_div {pc' : Nat} {len r1 r2 : Nat} {kv : Int} {x y : Int32} (hm : pb_t m = t) (hx : t.lookup pc = some (.idiv, len, r1, r2, kv)) (hp : pc + len = pc') : pb_R m pc L J (.int y :: .int x :: st) h Q ↔ (¬ y = 0) ∧ pb_R m pc' L J (.int (x / y) :: st) h Q := by
  subst hp
  by_cases hy : y = 0
  · have h1 : ¬ pb_R m pc L J (.int y :: .int x :: st) h Q := pb_R_stuck (pf_lk hm hx) (by simp [pb_S, pb_A, pb_ii, hy, pb_B, pb_C, pb_D]) rfl rfl
    simp [hy]
    rw [hy] at h1
    exact h1
  · rw [pb_R_S (pc' := pc + len) (L' := L) (J' := J) (st' := .int (x / y) :: st) (h' := h) (pf_lk hm hx) (by simp [pb_S, pb_A, pb_ii, hy])]
    simp [hy]
theorem pf_rem {pc' : Nat} {len r1 r2 : Nat} {kv : Int} {x y : Int32} (hm : pb_t m = t) (hx : t.lookup pc = some (.irem, len, r1, r2, kv)) (hp : pc + len = pc') : pb_R m pc L J (.int y :: .int x :: st) h Q ↔ (¬ y = 0) ∧ pb_R m pc' L J (.int (x - x / y * y) :: st) h Q := by
  subst hp
  by_cases hy : y = 0
  · have h1 : ¬ pb_R m pc L J (.int y :: .int x :: st) h Q := pb_R_stuck (pf_lk hm hx) (by simp [pb_S, pb_A, pb_ii, hy, pb_B, pb_C, pb_D]) rfl rfl
    simp [hy]
    rw [hy] at h1
    exact h1
  · rw [pb_R_S (pc' := pc + len) (L' := L) (J' := J) (st' := .int (x - x / y * y) :: st) (h' := h) (pf_lk hm hx) (by simp [pb_S, pb_A, pb_ii, hy])]
    simp [hy]
theorem pf_ldiv {pc' : Nat} {len r1 r2 : Nat} {kv : Int} {x y : Int64} (hm : pb_t m = t) (hx : t.lookup pc = some (.ldiv, len, r1, r2, kv)) (hp : pc + len = pc') : pb_R m pc L J (.long y :: .long x :: st) h Q ↔ (¬ y = 0) ∧ pb_R m pc' L J (.long (x / y) :: st) h Q := by
  subst hp
  by_cases hy : y = 0
  · have h1 : ¬ pb_R m pc L J (.long y :: .long x :: st) h Q := pb_R_stuck (pf_lk hm hx) (by simp [pb_S, pb_A, pb_jj, hy, pb_B, pb_C, pb_D]) rfl rfl
    simp [hy]
    rw [hy] at h1
    exact h1
  · rw [pb_R_S (pc' := pc + len) (L' := L) (J' := J) (st' := .long (x / y) :: st) (h' := h) (pf_lk hm hx) (by simp [pb_S, pb_A, pb_jj, hy])]
    simp [hy]
theorem pf_lrem {pc' : Nat} {len r1 r2 : Nat} {kv : Int} {x y : Int64} (hm : pb_t m = t) (hx : t.lookup pc = some (.lrem, len, r1, r2, kv)) (hp : pc + len = pc') : pb_R m pc L J (.long y :: .long x :: st) h Q ↔ (¬ y = 0) ∧ pb_R m pc' L J (.long (x - x / y * y) :: st) h Q := by
  subst hp
  by_cases hy : y = 0
  · have h1 : ¬ pb_R m pc L J (.long y :: .long x :: st) h Q := pb_R_stuck (pf_lk hm hx) (by simp [pb_S, pb_A, pb_jj, hy, pb_B, pb_C, pb_D]) rfl rfl
    simp [hy]
    rw [hy] at h1
    exact h1
  · rw [pb_R_S (pc' := pc + len) (L' := L) (J' := J) (st' := .long (x - x / y * y) :: st) (h' := h) (pf_lk hm hx) (by simp [pb_S, pb_A, pb_jj, hy])]
    simp [hy]
/-- a branch on two ints; P says when -/
theorem pf_ic {c : ClassFile.Cond} {off : Int} {len r1 r2 tgt : Nat} {kv : Int} {x y : Int32} {P : Prop} [Decidable P] (hm : pb_t m = t) (hx : t.lookup pc = some (.if_icmp c off, len, r1, r2, kv)) (ht : pb_go pc off st = some (tgt, st)) (hP : pb_cc c x y = decide P) : pb_R m pc L J (.int y :: .int x :: st) h Q ↔ if P then pb_R m tgt L J st h Q else pb_R m (pc + 3) L J st h Q := by
  by_cases hp : P
  · rw [if_pos hp]
    exact pb_R_S (pf_lk hm hx) (by simp [pb_S, pb_A, pb_B, pb_C, hP, hp, ht])
  · rw [if_neg hp]
    exact pb_R_S (pf_lk hm hx) (by simp [pb_S, pb_A, pb_B, pb_C, hP, hp])
theorem pf_ii {c : ClassFile.Cond} {off : Int} {len r1 r2 tgt : Nat} {kv : Int} {x : Int32} {P : Prop} [Decidable P] (hm : pb_t m = t) (hx : t.lookup pc = some (.ifCond c off, len, r1, r2, kv)) (ht : pb_go pc off st = some (tgt, st)) (hP : pb_cc c x 0 = decide P) : pb_R m pc L J (.int x :: st) h Q ↔ if P then pb_R m tgt L J st h Q else pb_R m (pc + 3) L J st h Q := by
  by_cases hp : P
  · rw [if_pos hp]
    exact pb_R_S (pf_lk hm hx) (by simp [pb_S, pb_A, pb_B, pb_C, hP, hp, ht])
  · rw [if_neg hp]
    exact pb_R_S (pf_lk hm hx) (by simp [pb_S, pb_A, pb_B, pb_C, hP, hp])
theorem pf_ne {x y : Int32} : pb_cc .ne x y = decide (¬ x = y) := by simp [pb_cc]
theorem pf_gf {pc' : Nat} {i len ci k : Nat} {kv : Int} {a : Nat} (hm : pb_t m = t) (hx : t.lookup pc = some (.getfield i, len, ci, k, kv)) (hp : pc + len = pc') : pb_R m pc L J (.ref a :: st) h Q ↔ pb_o (pb_gf (h.2 a) ci k) (fun v => pb_R m pc' L J (v :: st) h Q) := by
  subst hp
  cases hg : pb_gf (h.2 a) ci k with
  | none => exact iff_of_false (pb_R_stuck (pf_lk hm hx) (by simp [pb_S, pb_A, pb_B, pb_C, pb_D, hg]) rfl rfl) (fun q => q)
  | some v => exact pb_R_S (pf_lk hm hx) (by simp [pb_S, pb_A, pb_B, pb_C, pb_D, hg])
theorem pf_pf {pc' : Nat} {i len ci k : Nat} {kv : Int} {a : Nat} {v : Value} (hm : pb_t m = t) (hx : t.lookup pc = some (.putfield i, len, ci, k, kv)) (hp : pc + len = pc') : pb_R m pc L J (v :: .ref a :: st) h Q ↔ pb_o (pb_pf (h.2 a) ci k v) (fun c => pb_R m pc' L J st (pb_set h a c) Q) := by
  subst hp
  cases hg : pb_pf (h.2 a) ci k v with
  | none => exact iff_of_false (pb_R_stuck (pf_lk hm hx) (by simp [pb_S, pb_A, pb_B, pb_C, pb_D, hg]) rfl rfl) (fun q => q)
  | some c => exact pb_R_S (pf_lk hm hx) (by simp [pb_S, pb_A, pb_B, pb_C, pb_D, hg])
theorem pf_ai {pc' : Nat} {len r1 r2 : Nat} {kv : Int} {a : Nat} {i : Int32} (hm : pb_t m = t) (hx : t.lookup pc = some (.iaload, len, r1, r2, kv)) (hp : pc + len = pc') : pb_R m pc L J (.int i :: .ref a :: st) h Q ↔ pb_o (pb_ai (h.2 a) i) (fun v => pb_R m pc' L J (.int v :: st) h Q) := by
  subst hp
  cases hg : pb_ai (h.2 a) i with
  | none => exact iff_of_false (pb_R_stuck (pf_lk hm hx) (by simp [pb_S, pb_A, pb_B, pb_C, pb_D, hg]) rfl rfl) (fun q => q)
  | some v => exact pb_R_S (pf_lk hm hx) (by simp [pb_S, pb_A, pb_B, pb_C, pb_D, hg])
theorem pf_ab {pc' : Nat} {len r1 r2 : Nat} {kv : Int} {a : Nat} {i : Int32} (hm : pb_t m = t) (hx : t.lookup pc = some (.baload, len, r1, r2, kv)) (hp : pc + len = pc') : pb_R m pc L J (.int i :: .ref a :: st) h Q ↔ pb_o (pb_ab (h.2 a) i) (fun v => pb_R m pc' L J (.int v :: st) h Q) := by
  subst hp
  cases hg : pb_ab (h.2 a) i with
  | none => exact iff_of_false (pb_R_stuck (pf_lk hm hx) (by simp [pb_S, pb_A, pb_B, pb_C, pb_D, hg]) rfl rfl) (fun q => q)
  | some v => exact pb_R_S (pf_lk hm hx) (by simp [pb_S, pb_A, pb_B, pb_C, pb_D, hg])
theorem pf_aa {pc' : Nat} {len r1 r2 : Nat} {kv : Int} {a : Nat} {i : Int32} (hm : pb_t m = t) (hx : t.lookup pc = some (.aaload, len, r1, r2, kv)) (hp : pc + len = pc') : pb_R m pc L J (.int i :: .ref a :: st) h Q ↔ pb_o (pb_aa (h.2 a) i) (fun v => pb_R m pc' L J (va_rf v :: st) h Q) := by
  subst hp
  cases hg : pb_aa (h.2 a) i with
  | none => exact iff_of_false (pb_R_stuck (pf_lk hm hx) (by simp [pb_S, pb_A, pb_B, pb_C, pb_D, hg]) rfl rfl) (fun q => q)
  | some v => exact pb_R_S (pf_lk hm hx) (by simp [pb_S, pb_A, pb_B, pb_C, pb_D, hg])
theorem pf_si {pc' : Nat} {len r1 r2 : Nat} {kv : Int} {a : Nat} {i v : Int32} (hm : pb_t m = t) (hx : t.lookup pc = some (.iastore, len, r1, r2, kv)) (hp : pc + len = pc') : pb_R m pc L J (.int v :: .int i :: .ref a :: st) h Q ↔ pb_o (pb_si (h.2 a) i v) (fun c => pb_R m pc' L J st (pb_set h a c) Q) := by
  subst hp
  cases hg : pb_si (h.2 a) i v with
  | none => exact iff_of_false (pb_R_stuck (pf_lk hm hx) (by simp [pb_S, pb_A, pb_B, pb_C, pb_D, hg]) rfl rfl) (fun q => q)
  | some c => exact pb_R_S (pf_lk hm hx) (by simp [pb_S, pb_A, pb_B, pb_C, pb_D, hg])
theorem pf_sb {pc' : Nat} {len r1 r2 : Nat} {kv : Int} {a : Nat} {i v : Int32} (hm : pb_t m = t) (hx : t.lookup pc = some (.bastore, len, r1, r2, kv)) (hp : pc + len = pc') : pb_R m pc L J (.int v :: .int i :: .ref a :: st) h Q ↔ pb_o (pb_sb (h.2 a) i v) (fun c => pb_R m pc' L J st (pb_set h a c) Q) := by
  subst hp
  cases hg : pb_sb (h.2 a) i v with
  | none => exact iff_of_false (pb_R_stuck (pf_lk hm hx) (by simp [pb_S, pb_A, pb_B, pb_C, pb_D, hg]) rfl rfl) (fun q => q)
  | some c => exact pb_R_S (pf_lk hm hx) (by simp [pb_S, pb_A, pb_B, pb_C, pb_D, hg])
theorem pf_sa {pc' : Nat} {len r1 r2 : Nat} {kv : Int} {a : Nat} {i : Int32} {r : Option Nat} (hm : pb_t m = t) (hx : t.lookup pc = some (.aastore, len, r1, r2, kv)) (hp : pc + len = pc') : pb_R m pc L J (va_rf r :: .int i :: .ref a :: st) h Q ↔ (∀ v, r = some v → pb_is0 (h.2 v) 4 = true) ∧ pb_o (pb_sa (h.2 a) i r) (fun c => pb_R m pc' L J st (pb_set h a c) Q) := by
  subst hp
  cases r with
  | none =>
    simp only [reduceCtorEq, false_implies, implies_true, true_and]
    cases hg : pb_sa (h.2 a) i none with
    | none => exact iff_of_false (pb_R_stuck (pf_lk hm hx) (by simp [pb_S, pb_A, pb_B, pb_C, pb_D, va_rf, hg]) rfl rfl) (fun q => q)
    | some c => exact pb_R_S (pf_lk hm hx) (by simp [pb_S, pb_A, pb_B, pb_C, pb_D, va_rf, hg])
  | some v =>
    by_cases hi : pb_is0 (h.2 v) 4 = true
    · simp only [Option.some.injEq, forall_eq', hi, true_and]
      cases hg : pb_sa (h.2 a) i (some v) with
      | none => exact iff_of_false (pb_R_stuck (pf_lk hm hx) (by simp [pb_S, pb_A, pb_B, pb_C, pb_D, va_rf, hg, hi]) rfl rfl) (fun q => q)
      | some c => exact pb_R_S (pf_lk hm hx) (by simp [pb_S, pb_A, pb_B, pb_C, pb_D, va_rf, hg, hi])
    · refine iff_of_false (pb_R_stuck (pf_lk hm hx) (by simp [pb_S, pb_A, pb_B, pb_C, pb_D, va_rf, hi]) rfl rfl) (fun q => hi (q.1 v rfl))
theorem pf_le {pc' : Nat} {len r1 r2 : Nat} {kv : Int} {a : Nat} (hm : pb_t m = t) (hx : t.lookup pc = some (.arraylength, len, r1, r2, kv)) (hp : pc + len = pc') : pb_R m pc L J (.ref a :: st) h Q ↔ pb_o (pb_al2 (h.2 a)) (fun n => pb_R m pc' L J (.int (Int32.ofNat n) :: st) h Q) := by
  subst hp
  cases hg : pb_al2 (h.2 a) with
  | none => exact iff_of_false (pb_R_stuck (pf_lk hm hx) (by simp [pb_S, pb_A, pb_B, pb_C, pb_D, hg]) rfl rfl) (fun q => q)
  | some v => exact pb_R_S (pf_lk hm hx) (by simp [pb_S, pb_A, pb_B, pb_C, pb_D, hg])
theorem pf_nI {pc' : Nat} {len r1 r2 : Nat} {kv : Int} {n : Int32} (hm : pb_t m = t) (hx : t.lookup pc = some (.newarray .int, len, r1, r2, kv)) (hp : pc + len = pc') : pb_R m pc L J (.int n :: st) h Q ↔ (¬ n < 0 ∧ n.toNatClampNeg ≤ 1000000) ∧ pb_R m pc' L J (.ref h.1 :: st) (pb_new h (.inl (0, n.toNatClampNeg, .inl (fun _ => 0)))) Q := by
  subst hp
  by_cases hn : ¬ n < 0 ∧ n.toNatClampNeg ≤ 1000000
  · rw [and_iff_right hn]
    exact pb_R_S (pf_lk hm hx) (by simp only [pb_S, pb_A, pb_B, pb_C, pb_D]; rw [if_pos ⟨hn.1, hn.2, Or.inl trivial⟩]; rfl)
  · exact iff_of_false (pb_R_stuck (pf_lk hm hx) (by simp only [pb_S, pb_A, pb_B, pb_C, pb_D]; rw [if_neg (fun q => hn ⟨q.1, q.2.1⟩)]) rfl rfl) (fun q => hn q.1)
theorem pf_nB {pc' : Nat} {len r1 r2 : Nat} {kv : Int} {n : Int32} (hm : pb_t m = t) (hx : t.lookup pc = some (.newarray .byte, len, r1, r2, kv)) (hp : pc + len = pc') : pb_R m pc L J (.int n :: st) h Q ↔ (¬ n < 0 ∧ n.toNatClampNeg ≤ 1000000) ∧ pb_R m pc' L J (.ref h.1 :: st) (pb_new h (.inl (1, n.toNatClampNeg, .inl (fun _ => 0)))) Q := by
  subst hp
  by_cases hn : ¬ n < 0 ∧ n.toNatClampNeg ≤ 1000000
  · rw [and_iff_right hn]
    exact pb_R_S (pf_lk hm hx) (by simp only [pb_S, pb_A, pb_B, pb_C, pb_D]; rw [if_pos ⟨hn.1, hn.2, Or.inr trivial⟩]; rfl)
  · exact iff_of_false (pb_R_stuck (pf_lk hm hx) (by simp only [pb_S, pb_A, pb_B, pb_C, pb_D]; rw [if_neg (fun q => hn ⟨q.1, q.2.1⟩)]) rfl rfl) (fun q => hn q.1)
theorem pf_nL {pc' : Nat} {i len r1 r2 : Nat} {kv : Int} {n : Int32} (hm : pb_t m = t) (hx : t.lookup pc = some (.anewarray i, len, r1, r2, kv)) (hp : pc + len = pc') : pb_R m pc L J (.int n :: st) h Q ↔ (¬ n < 0 ∧ n.toNatClampNeg ≤ 1000000) ∧ pb_R m pc' L J (.ref h.1 :: st) (pb_new h (.inl (2, n.toNatClampNeg, .inr (.inr (.inr (.inr (fun _ => none))))))) Q := by
  subst hp
  by_cases hn : ¬ n < 0 ∧ n.toNatClampNeg ≤ 1000000
  · rw [and_iff_right hn]
    exact pb_R_S (pf_lk hm hx) (by simp only [pb_S, pb_A, pb_B, pb_C, pb_D]; rw [if_pos hn])
  · exact iff_of_false (pb_R_stuck (pf_lk hm hx) (by simp only [pb_S, pb_A, pb_B, pb_C, pb_D]; rw [if_neg hn]) rfl rfl) (fun q => hn q.1)
theorem pf_cp {pc' : Nat} {i len r2 : Nat} {kv : Int} {a b : Nat} {sp dp n : Int32} (hm : pb_t m = t) (hx : t.lookup pc = some (.invokestatic i, len, 1001, r2, kv)) (hp : pc + len = pc') : pb_R m pc L J [.int n, .int dp, .ref a, .int sp, .ref b] h Q ↔ pb_o (pb_cp (h.2 b) (h.2 a) sp dp n) (fun c => pb_R m pc' L J [] (pb_set h a c) Q) := by
  subst hp
  cases hg : pb_cp (h.2 b) (h.2 a) sp dp n with
  | none => exact iff_of_false (pb_R_stuck (pf_lk hm hx) (by simp [pb_S, pb_A, pb_B, pb_C, pb_D, pb_cat, hg]) rfl (by simp [pb_K])) (fun q => q)
  | some v => exact pb_R_S (pf_lk hm hx) (by simp [pb_S, pb_A, pb_B, pb_C, pb_D, pb_cat, hg])
theorem pf_rz {len r1 r2 : Nat} {kv : Int} {v : Int32} {ty : FieldType} (hm : pb_t m = t) (hx : t.lookup pc = some (.ireturn, len, r1, r2, kv)) (hr : pb_rt m = some ty) : pb_R m pc L J [.int v] h Q ↔ narrow ty (.int v) = .int v ∧ Q (some (.int v)) h := by
  by_cases hn : narrow ty (.int v) = .int v
  · rw [and_iff_right hn]
    exact pb_R_Rt (pf_lk hm hx) rfl (by rw [hr]; simp [pb_Rt, hn])
  · exact iff_of_false (pb_R_stuck (pf_lk hm hx) rfl (by rw [hr]; simp [pb_Rt, hn]) rfl) (fun q => hn q.1)
theorem pf_ri {len r1 r2 : Nat} {kv : Int} {v : Int32} (hm : pb_t m = t) (hx : t.lookup pc = some (.ireturn, len, r1, r2, kv)) (hr : pb_rt m = some .int) : pb_R m pc L J [.int v] h Q ↔ Q (some (.int v)) h := by
  rw [pf_rz hm hx hr]
  exact and_iff_right rfl
theorem pf_rj {len r1 r2 : Nat} {kv : Int} {v : Int64} (hm : pb_t m = t) (hx : t.lookup pc = some (.lreturn, len, r1, r2, kv)) (hr : pb_rt m = some .long) : pb_R m pc L J [.long v] h Q ↔ Q (some (.long v)) h := pb_R_Rt (pf_lk hm hx) rfl (by rw [hr]; rfl)
theorem pf_ra {len r1 r2 : Nat} {kv : Int} {r : Option Nat} {ty : FieldType} (hm : pb_t m = t) (hx : t.lookup pc = some (.areturn, len, r1, r2, kv)) (hr : pb_rt m = some ty) : pb_R m pc L J [va_rf r] h Q ↔ Q (some (va_rf r)) h := by
  cases r with
  | none => exact pb_R_Rt (pf_lk hm hx) rfl (by rw [hr]; rfl)
  | some a => exact pb_R_Rt (pf_lk hm hx) rfl (by rw [hr]; rfl)
theorem pf_rv {len r1 r2 : Nat} {kv : Int} (hm : pb_t m = t) (hx : t.lookup pc = some (.return_, len, r1, r2, kv)) (hr : pb_rt m = none) : pb_R m pc L J [] h Q ↔ Q none h := pb_R_Rt (pf_lk hm hx) rfl (by rw [hr]; rfl)
theorem pf_ks {pc' : Nat} {i len c r2 : Nat} {kv : Int} {as rest : List Value} (hm : pb_t m = t) (hx : t.lookup pc = some (.invokestatic i, len, c, r2, kv)) (hS : pb_S (.invokestatic i, len, c, r2, kv) pc L J st h = none) (hK : pb_K (.invokestatic i, len, c, r2, kv) st h = some (c, as, rest)) (hp : pc + len = pc') : pb_R m pc L J st h Q ↔ pb_call c as h (fun v t => pb_R m pc' L J (v.toList ++ rest) t Q) := by
  subst hp
  exact pb_R_K (pf_lk hm hx) hS rfl hK
theorem pf_kp {pc' : Nat} {i len c r2 : Nat} {kv : Int} {as rest : List Value} (hm : pb_t m = t) (hx : t.lookup pc = some (.invokespecial i, len, c, r2, kv)) (hS : pb_S (.invokespecial i, len, c, r2, kv) pc L J st h = none) (hK : pb_K (.invokespecial i, len, c, r2, kv) st h = some (c, as, rest)) (hp : pc + len = pc') : pb_R m pc L J st h Q ↔ pb_call c as h (fun v t => pb_R m pc' L J (v.toList ++ rest) t Q) := by
  subst hp
  exact pb_R_K (pf_lk hm hx) hS rfl hK
/-- a call of an object's method: the object must be of the class -/
theorem pf_kv {pc' : Nat} {i len c r2 a ci : Nat} {kv : Int} {as rest : List Value} (hm : pb_t m = t) (hx : t.lookup pc = some (.invokevirtual i, len, c, r2, kv)) (hci : pb_ci c = ci) (h1 : (st.take r2).reverse = .ref a :: as) (h2 : r2 ≤ st.length ∧ pb_cat (st.drop r2) ≤ 8 ∧ c < 1000 ∧ ((pb_el (st.take r2).reverse).length ≤ pb_ml c ∧ (st.take r2).all pb_okv = true)) (h3 : st.drop r2 = rest) (hp : pc + len = pc') :
    pb_R m pc L J st h Q ↔ pb_is0 (h.2 a) ci = true ∧ pb_call c (.ref a :: as) h (fun v t => pb_R m pc' L J (v.toList ++ rest) t Q) := by
  subst hp
  subst hci
  by_cases hi : pb_is0 (h.2 a) (pb_ci c) = true
  · rw [and_iff_right hi]
    have hK : pb_K (.invokevirtual i, len, c, r2, kv) st h = some (c, .ref a :: as, rest) := by
      unfold pb_K
      dsimp only
      rw [h1]
      dsimp only
      rw [h1] at h2
      rw [if_pos ⟨h2.1, h2.2.1, h2.2.2.1, h2.2.2.2, hi⟩, h3]
    exact pb_R_K (pf_lk hm hx) (by simp [pb_S, pb_A, pb_B, pb_C, pb_D]) rfl hK
  · have hK : pb_K (.invokevirtual i, len, c, r2, kv) st h = none := by
      unfold pb_K
      dsimp only
      rw [h1]
      dsimp only
      rw [if_neg (fun q => hi q.2.2.2.2)]
    exact iff_of_false (pb_R_stuck (pf_lk hm hx) (by simp [pb_S, pb_A, pb_B, pb_C, pb_D]) rfl hK) (fun q => hi q.1)
/-- a switch -/
theorem pf_sw {x : pb_X} {pc' : Nat} {P : Prop} (hm : pb_t m = t) (hx : t.lookup pc = some x) (hP : P → pb_S x pc L J st h = some (pc', L, J, st', h)) (p : P) : pb_R m pc L J st h Q ↔ pb_R m pc' L J st' h Q := pb_R_S (pf_lk hm hx) (hP p)
end PF
theorem pb_gf_eq (ci k : Nat) (fs : List Value) : pb_gf (.inr (ci, fs)) ci k = fs[k]? := by simp [pb_gf]
theorem pb_pf_eq {ci k : Nat} {fs : List Value} {v : Value} (h1 : k < fs.length) (h2 : narrow (pb_ty ci k) v = v) (h3 : fits (pb_ty ci k) v = true) : pb_pf (.inr (ci, fs)) ci k v = some (.inr (ci, fs.set k v)) := by simp [pb_pf, h1, h2, h3]
theorem pb_set_get (h : pb_H) (a b : Nat) (c : pb_E) : (pb_set h a c).2 b = if b = a then c else h.2 b := rfl
theorem pb_set_same (h : pb_H) (a : Nat) (c d : pb_E) : pb_set (pb_set h a c) a d = pb_set h a d := by
  unfold pb_set
  congr 1
  funext j
  show (if j = a then d else if j = a then c else h.2 j) = _
  unfold va_up
  split <;> rfl
theorem pb_set_fst (h : pb_H) (a : Nat) (c : pb_E) : (pb_set h a c).1 = h.1 := rfl
theorem pb_new_fst (h : pb_H) (c : pb_E) : (pb_new h c).1 = h.1 + 1 := rfl
theorem pb_new_get (h : pb_H) (b : Nat) (c : pb_E) : (pb_new h c).2 b = if b = h.1 then c else h.2 b := rfl
theorem pb_set_comm (h : pb_H) {a b : Nat} (c d : pb_E) (hab : a ≠ b) : pb_set (pb_set h a c) b d = pb_set (pb_set h b d) a c := by
  unfold pb_set
  congr 1
  funext j
  unfold va_up
  by_cases h1 : j = a
  · subst h1
    simp [hab]
  · by_cases h2 : j = b
    · subst h2
      simp [h1]
    · simp [h1, h2]
theorem pb_set_id (h : pb_H) {a : Nat} {c : pb_E} (hc : h.2 a = c) : pb_set h a c = h := by
  unfold pb_set
  refine Prod.ext rfl ?_
  funext j
  show (if j = a then c else h.2 j) = h.2 j
  split
  · rename_i e; rw [e, hc]
  · rfl
theorem pf_ni {x : Int32} {k : Int} (h : ¬ x = Int32.ofInt k) : ¬ x.toInt = k := fun e => h (by rw [← e]; simp)
theorem pf_ls {m pc : Nat} {t : List (Nat × pb_X)} {L : pb_L} {J : pb_J} {st : List Value} {h : pb_H} {Q : Option Value → pb_H → Prop} {d off : Int} {ps : Array (Int × Int)} {len r1 r2 tgt : Nat} {kv : Int} {x : Int32} (hm : pb_t m = t) (hx : t.lookup pc = some (.lookupswitch d ps, len, r1, r2, kv)) (hso : (ps.toList.zip (ps.toList.drop 1)).all (fun (a, next) => a.1 < next.1) = true) (ho : Op.lookupswitch.offset ps.toList d x.toInt = off) (hg : pb_go pc off st = some (tgt, st)) : pb_R m pc L J (.int x :: st) h Q ↔ pb_R m tgt L J st h Q := by
  refine pb_R_S (pf_lk hm hx) ?_
  unfold pb_S pb_A pb_B pb_C
  dsimp only
  rw [if_pos hso, ho, hg]
