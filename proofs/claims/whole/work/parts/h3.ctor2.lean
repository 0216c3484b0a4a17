/-! The constructors of PlaneBench and of the reference -/
/-- the class's cells after its constructor -/
def YB (h : pb_H) (V : Nat) : Prop := h.2 1 = cpb V ∧ h.2 2 = csh V 0 0 0 ∧ h.2 3 = ci 8 (fun _ => 0) ∧ h.2 4 = co 300 (fun _ => none) ∧ (∃ s, h.2 5 = cx .null s ∧ s 7 = 0 ∧ s 8 = -1) ∧ h.2 6 = cco V 0 ∧ h.2 7 = ci 8 (fun _ => 0) ∧ h.2 8 = ci ((V + 1) * 8) (fun _ => 0) ∧ h.2 9 = cw 4000 10 0 0 ∧ h.2 10 = cb 160 (fun _ => 0) ∧ h.2 11 = cpr V 0 ∧ h.2 12 = co 40 (fun _ => none) ∧ h.2 13 = cck 0 ∧ CKs h V ∧ h.2 47 = csr 0 0 0 0 0 0 ∧ h.2 48 = cw 20000 49 0 0 ∧ h.2 49 = cb 160 (fun _ => 0) ∧ DG h 50 ∧ h.2 54 = ci 8 (fun _ => 0) ∧ h.2 55 = ci 8 (fun _ => 0) ∧ h.2 56 = ci 16 (fun _ => 0) ∧ h.2 57 = ctr V 0 0 0 0 ∧ h.2 58 = ci V (fun _ => 0) ∧ h.2 59 = ci V (fun _ => 0) ∧ h.2 60 = ci V (fun _ => 0) ∧ LG h V 61 ∧ LG h V 63
theorem YB_eq {h h' : pb_H} {V : Nat} (k : ∀ q, q < 65 → h'.2 q = h.2 q) (Y : YB h V) : YB h' V := by
  obtain ⟨a1, a2, a3, a4, ⟨s, a5, a5'⟩, a6, a7, a8, a9, a10, a11, a12, a13, a14, a47, a48, a49, ⟨y1, y2, y3, y4, y5, y6, y7, y8, y9⟩, a54, a55, a56, a57, a58, a59, a60, a61, a63⟩ := Y
  exact ⟨(k 1 (by omega)).trans a1, (k 2 (by omega)).trans a2, (k 3 (by omega)).trans a3, (k 4 (by omega)).trans a4, ⟨s, (k 5 (by omega)).trans a5, a5'⟩, (k 6 (by omega)).trans a6, (k 7 (by omega)).trans a7, (k 8 (by omega)).trans a8, (k 9 (by omega)).trans a9, (k 10 (by omega)).trans a10, (k 11 (by omega)).trans a11, (k 12 (by omega)).trans a12, (k 13 (by omega)).trans a13, CKs_eq (fun x x1 x2 => k x (by omega)) a14, (k 47 (by omega)).trans a47, (k 48 (by omega)).trans a48, (k 49 (by omega)).trans a49, ⟨y1, y2, y3, y4, y5, (k 50 (by omega)).trans y6, (k 51 (by omega)).trans y7, (k 52 (by omega)).trans y8, (k 53 (by omega)).trans y9⟩, (k 54 (by omega)).trans a54, (k 55 (by omega)).trans a55, (k 56 (by omega)).trans a56, (k 57 (by omega)).trans a57, (k 58 (by omega)).trans a58, (k 59 (by omega)).trans a59, (k 60 (by omega)).trans a60, LG_eq (k 61 (by omega)) (k 62 (by omega)) a61, LG_eq (k 63 (by omega)) (k 64 (by omega)) a63⟩
section CTOR2
variable {h : pb_H} {Q : Option Value → pb_H → Prop} {V : Nat}
set_option maxRecDepth 100000 in
theorem Y123 {x : Int32} (hV : V ≤ 16) (hb : h.1 = 1) (hx : (if (1 : Int32) < (if x < 16 then x else 16) then (if x < 16 then x else 16) else 1) = nI V)
    (hQ : ∀ h', h'.1 = 65 → pb_sl h' ≤ pb_sl h + 5000 → h'.2 0 = h.2 0 → YB h' V → Q none h') : pb_call 123 [.ref 1, .int x] (pb_new h (.inr (11, pb_df 11))) Q := by
  have d0 : pb_df 0 = [.int 0, .null, .int 0, .int 0] := rfl
  have d2 : pb_df 2 = [.null, .int 0, .null, .null, .int 0] := rfl
  have d5 : pb_df 5 = [.null, .null, .int 0, .null, .int 0] := rfl
  have d7 : pb_df 7 = [.int 0, .null, .int 0, .int 0, .int 0, .null] := rfl
  have d8 : pb_df 8 = [.null, .int 0, .int 0, .int 0, .int 0, .int 0, .int 0, .int 0, .int 0] := rfl
  have d11 : pb_df 11 = [.int 0, .null, .null, .null, .null, .null, .null] := rfl
  have t8 : (8 : Int32).toNatClampNeg = 8 := rfl
  have t300 : (300 : Int32).toNatClampNeg = 300 := rfl
  have t40 : (40 : Int32).toNatClampNeg = 40 := rfl
  have t160 : (160 : Int32).toNatClampNeg = 160 := rfl
  have n8 : ¬ (8 : Int32) < 0 := by decide
  have n300 : ¬ (300 : Int32) < 0 := by decide
  have n40 : ¬ (40 : Int32) < 0 := by decide
  have n160 : ¬ (160 : Int32) < 0 := by decide
  have e8 : (nI V + 1) * 8 = nI ((V + 1) * 8) := by rw [show (1 : Int32) = nI 1 from rfl, nI_add]; exact pk_mul (V + 1) 8
  have hn1 : ¬ nI ((V + 1) * 8) < 0 := Int32.not_lt.mpr (nI_pos' (by omega))
  have hn2 : (nI ((V + 1) * 8)).toNatClampNeg = (V + 1) * 8 := nI_clamp (by omega)
  have hn3 : (V + 1) * 8 ≤ 1000000 := by omega
  rw [pb_c123]
  simp only [pb_e123, hx, pb_c118, pb_e118, pb_c120, pb_e120, pb_c88, pb_e88, pb_c0, pb_e0, pb_c89, pb_e89, d0, d2, d5, d7, d8, d11, pb_g0, pb_g2, pb_g5, pb_g7, pb_g8, pb_g11, pb_new_get, pb_set_get, pb_new_fst, pb_set_fst, hb, sn_t, sn_n, pb_o_some, Option.toList_none, List.nil_append, true_and, t8, t300, t40, t160, n8, n300, n40, n160, e8, hn1, hn2, hn3, not_false_eq_true, if_true, if_false, Nat.reduceAdd, Nat.reduceLeDiff, Nat.reduceEqDiff]
  refine Y14 hV ?_ ?_ ?_
  · simp only [pb_new_fst, hb]
  · simp only [pb_new_get, pb_new_fst, hb, Nat.reduceAdd, Nat.reduceEqDiff, if_false, if_true]
    rfl
  · intro h' q1 q2 q3 q4 q5
    have k1 : h'.2 1 = .inr (11, [.int (nI V), .ref 9, .ref 2, .ref 5, .ref 11, .null, .null]) := (q3 1 (by omega)).trans (by simp only [pb_new_get, pb_new_fst, hb, Nat.reduceAdd, Nat.reduceEqDiff, if_false, if_true])
    have k5 : h'.2 5 = .inr (8, [.null, .int 0, .int 0, .int 0, .int 0, .int 0, .int 0, .int 0, .int (-1)]) := (q3 5 (by omega)).trans (by simp only [pb_new_get, pb_new_fst, hb, Nat.reduceAdd, Nat.reduceEqDiff, if_false, if_true])
    have k0 : h'.2 0 = h.2 0 := (q3 0 (by omega)).trans (by simp only [pb_new_get, pb_new_fst, hb, Nat.reduceAdd, Nat.reduceEqDiff, if_false, if_true])
    have k2 : h'.2 2 = csh V 0 0 0 := (q3 2 (by omega)).trans (by first | (simp only [pb_new_get, pb_new_fst, hb, Nat.reduceAdd, Nat.reduceEqDiff, if_false, if_true]; done) | (simp only [pb_new_get, pb_new_fst, hb, Nat.reduceAdd, Nat.reduceEqDiff, if_false, if_true]; rfl))
    have k3 : h'.2 3 = ci 8 (fun _ => 0) := (q3 3 (by omega)).trans (by first | (simp only [pb_new_get, pb_new_fst, hb, Nat.reduceAdd, Nat.reduceEqDiff, if_false, if_true]; done) | (simp only [pb_new_get, pb_new_fst, hb, Nat.reduceAdd, Nat.reduceEqDiff, if_false, if_true]; rfl))
    have k4 : h'.2 4 = co 300 (fun _ => none) := (q3 4 (by omega)).trans (by first | (simp only [pb_new_get, pb_new_fst, hb, Nat.reduceAdd, Nat.reduceEqDiff, if_false, if_true]; done) | (simp only [pb_new_get, pb_new_fst, hb, Nat.reduceAdd, Nat.reduceEqDiff, if_false, if_true]; rfl))
    have k6 : h'.2 6 = cco V 0 := (q3 6 (by omega)).trans (by first | (simp only [pb_new_get, pb_new_fst, hb, Nat.reduceAdd, Nat.reduceEqDiff, if_false, if_true]; done) | (simp only [pb_new_get, pb_new_fst, hb, Nat.reduceAdd, Nat.reduceEqDiff, if_false, if_true]; rfl))
    have k7 : h'.2 7 = ci 8 (fun _ => 0) := (q3 7 (by omega)).trans (by first | (simp only [pb_new_get, pb_new_fst, hb, Nat.reduceAdd, Nat.reduceEqDiff, if_false, if_true]; done) | (simp only [pb_new_get, pb_new_fst, hb, Nat.reduceAdd, Nat.reduceEqDiff, if_false, if_true]; rfl))
    have k8 : h'.2 8 = ci ((V + 1) * 8) (fun _ => 0) := (q3 8 (by omega)).trans (by first | (simp only [pb_new_get, pb_new_fst, hb, Nat.reduceAdd, Nat.reduceEqDiff, if_false, if_true]; done) | (simp only [pb_new_get, pb_new_fst, hb, Nat.reduceAdd, Nat.reduceEqDiff, if_false, if_true]; rfl))
    have k9 : h'.2 9 = cw 4000 10 0 0 := (q3 9 (by omega)).trans (by first | (simp only [pb_new_get, pb_new_fst, hb, Nat.reduceAdd, Nat.reduceEqDiff, if_false, if_true]; done) | (simp only [pb_new_get, pb_new_fst, hb, Nat.reduceAdd, Nat.reduceEqDiff, if_false, if_true]; rfl))
    have k10 : h'.2 10 = cb 160 (fun _ => 0) := (q3 10 (by omega)).trans (by first | (simp only [pb_new_get, pb_new_fst, hb, Nat.reduceAdd, Nat.reduceEqDiff, if_false, if_true]; done) | (simp only [pb_new_get, pb_new_fst, hb, Nat.reduceAdd, Nat.reduceEqDiff, if_false, if_true]; rfl))
    have k11 : h'.2 11 = cpr V 0 := (q3 11 (by omega)).trans (by first | (simp only [pb_new_get, pb_new_fst, hb, Nat.reduceAdd, Nat.reduceEqDiff, if_false, if_true]; done) | (simp only [pb_new_get, pb_new_fst, hb, Nat.reduceAdd, Nat.reduceEqDiff, if_false, if_true]; rfl))
    have k12 : h'.2 12 = co 40 (fun _ => none) := (q3 12 (by omega)).trans (by first | (simp only [pb_new_get, pb_new_fst, hb, Nat.reduceAdd, Nat.reduceEqDiff, if_false, if_true]; done) | (simp only [pb_new_get, pb_new_fst, hb, Nat.reduceAdd, Nat.reduceEqDiff, if_false, if_true]; rfl))
    simp only [pb_sl_new, pb_sz, List.length_cons, List.length_nil] at q2
    simp only [Option.toList_none, List.nil_append, pb_e123, k1, pb_g11, pb_o_some, pb_set_fst, q1]
    have g1 : ∀ c, (pb_set h' 1 c).2 1 = c := fun c => by rw [pb_set_get, if_pos rfl]
    have gn : ∀ c q, q ≠ 1 → (pb_set h' 1 c).2 q = h'.2 q := fun c q hq => by rw [pb_set_get, if_neg hq]
    refine Y94 hV q1 ((gn _ 2 (by omega)).trans k2) ?_
    intro h2 r1 r2 r3 r47 r48 r49 r50 r54 r55 r56 r57 r58 r59 r60 r61 r63
    rw [pb_sl_set (by rw [k1]; rfl)] at r2
    have j1 := (r3 1 (by omega)).trans (g1 _)
    have jn : ∀ q, q < 47 → q ≠ 1 → h2.2 q = h'.2 q := fun q hq hq1 => (r3 q hq).trans (gn _ q hq1)
    simp only [Option.toList_none, List.nil_append, pb_e123, j1, pb_g11, pb_o_some]
    have FF : fr (fun q => q = 1) h2 (pb_set h2 1 (cpb V)) := fr_set rfl (by rw [j1]; rfl)
    have fn : ∀ q, q ≠ 1 → (pb_set h2 1 (cpb V)).2 q = h2.2 q := fun q hq => FF.2.2 q hq
    have jj : ∀ q, q < 47 → q ≠ 1 → (pb_set h2 1 (cpb V)).2 q = h'.2 q := fun q hq hq1 => (fn q hq1).trans (jn q hq hq1)
    obtain ⟨y1, y2, y3, y4, y5, y6, y7, y8, y9⟩ := r50
    refine hQ (pb_set h2 1 (cpb V)) (by rw [FF.1, r1]) (by rw [fr_sl FF, r2, q2]; omega) ((jj 0 (by omega) (by omega)).trans k0) ⟨by rw [pb_set_get, if_pos rfl], (jj 2 (by omega) (by omega)).trans k2, (jj 3 (by omega) (by omega)).trans k3, (jj 4 (by omega) (by omega)).trans k4, ⟨fun k => if k = 8 then -1 else 0, (jj 5 (by omega) (by omega)).trans k5, rfl, rfl⟩, (jj 6 (by omega) (by omega)).trans k6, (jj 7 (by omega) (by omega)).trans k7, (jj 8 (by omega) (by omega)).trans k8, (jj 9 (by omega) (by omega)).trans k9, (jj 10 (by omega) (by omega)).trans k10, (jj 11 (by omega) (by omega)).trans k11, (jj 12 (by omega) (by omega)).trans k12, (jj 13 (by omega) (by omega)).trans q4, CKs_eq (fun x x1 x2 => jj x (by omega) (by omega)) q5, (fn 47 (by omega)).trans r47, (fn 48 (by omega)).trans r48, (fn 49 (by omega)).trans r49, ⟨y1, y2, y3, y4, y5, (fn 50 (by omega)).trans y6, (fn 51 (by omega)).trans y7, (fn 52 (by omega)).trans y8, (fn 53 (by omega)).trans y9⟩, (fn 54 (by omega)).trans r54, (fn 55 (by omega)).trans r55, (fn 56 (by omega)).trans r56, (fn 57 (by omega)).trans r57, (fn 58 (by omega)).trans r58, (fn 59 (by omega)).trans r59, (fn 60 (by omega)).trans r60, LG_eq (fn 61 (by omega)) (fn 62 (by omega)) r61, LG_eq (fn 63 (by omega)) (fn 64 (by omega)) r63⟩
/-- the reference's cells after its constructor -/
def YR (h : pb_H) (V : Nat) : Prop := (∃ s, h.2 65 = rm s ∧ s 3 = nI V ∧ s 9 = -1 ∧ ∀ k, k ≠ 3 → k ≠ 9 → s k = 0) ∧ h.2 66 = cN (fun _ => 0) ∧ h.2 67 = ci 6171 (fun _ => 0) ∧ h.2 68 = ci 301 (fun _ => 0) ∧ h.2 69 = cb 4000 (fun _ => 0) ∧ h.2 70 = cA 42 (fun _ => 0) ∧ h.2 71 = cA 21 (fun _ => 0) ∧ h.2 72 = cA 22 (fun _ => 0) ∧ h.2 73 = cA 21 (fun _ => 0) ∧ h.2 74 = ci 17 (fun _ => 0) ∧ (∃ f, h.2 75 = ci 17 f ∧ ∀ v, v < 17 → f v = -1) ∧ h.2 76 = ci 17 (fun _ => 0) ∧ h.2 77 = ci 17 (fun _ => 0) ∧ h.2 78 = ci 17 (fun _ => 0) ∧ h.2 79 = ci 17 (fun _ => 0) ∧ h.2 80 = cb 20000 (fun _ => 0) ∧ h.2 81 = ci 17 (fun _ => 0) ∧ h.2 82 = ci 110 (fun _ => 0)
theorem Y139_176 {s : Nat → Int32} {l1 : Option Value} (h65 : h.2 65 = rm s) (hQ : ∀ f, (∀ v, v < 17 → f v = -1) → Q none (pb_set h 75 (ci 17 f))) : ∀ r i f, i + r = 17 → (∀ v, v < i → f v = -1) → pb_R 139 176 [some (.ref 65), l1, some (.int (nI i))] [] [] (pb_set h 75 (ci 17 f)) Q := by
  have e17 : (17 : Int32) = nI 17 := rfl
  have k65 : ∀ x, (pb_set h 75 x).2 65 = rm s := fun x => by rw [pb_set_get, if_neg (by omega), h65]
  have k75 : ∀ x, (pb_set h 75 x).2 75 = x := fun x => by rw [pb_set_get, if_pos rfl]
  intro r
  induction r with
  | zero =>
    intro i f hi hf
    obtain rfl : i = 17 := by omega
    have c1 : nI 17 ≤ nI 17 := (nI_leI (by omega) (by omega)).mpr (Nat.le_refl _)
    have key := hQ f hf
    rw [pb_q139_176]
    simp only [pb_e139, e17, c1, if_true]
    exact key
  | succ r ih =>
    intro i f hi hf
    have c1 : ¬ nI 17 ≤ nI i := nI_ge (by omega) (by omega)
    have ss := pb_si_eq (n := 17) (j := i) (f := f) (x := -1) (by omega) (by omega)
    have key := ih (i + 1) (upd f i (-1)) (by omega) (fun v hv => by
      show (if v = i then _ else f v) = _
      by_cases e : v = i
      · rw [if_pos e]
      · rw [if_neg e]; exact hf v (by omega))
    rw [pb_q139_176]
    simp only [pb_e139, e17, c1, if_false, k65, pb_gr, pb_o_some, k75, ss, pb_set_same, nI_1]
    exact key
end CTOR2
