/-! The reference's isFalse, isWrong, state -/
theorem ln_nf_if (x : LN) (A : AS) (v : Nat) : (lwr (x.2 v) (A v) → ln_nf x A v = 0) ∧ (¬ lwr (x.2 v) (A v) → ln_nf x A v = (x.2 v).natAbs) := by
  unfold ln_nf
  exact ⟨fun e => if_pos e, fun e => if_neg e⟩
theorem nf_none (x : LN) (v : Nat) : ln_nf x (fun _ => none) v = (x.2 v).natAbs := (ln_nf_if x _ v).2 (by unfold lwr; simp)
theorem nf_le (x : LN) (A : AS) (v : Nat) : ln_nf x A v ≤ (x.2 v).natAbs := by
  unfold ln_nf
  split
  · exact Nat.zero_le _
  · exact Nat.le_refl _
theorem sm_bound {g : Nat → Nat} {K : Nat} : ∀ {m : Nat}, (∀ v, 1 ≤ v → v ≤ m → g v ≤ K) → sm g m ≤ m * K
  | 0, _ => by rw [Nat.zero_mul]; exact Nat.le_refl _
  | m + 1, h => by
    show sm g m + g (m + 1) ≤ _
    rw [Nat.add_mul, Nat.one_mul]
    exact Nat.add_le_add (sm_bound (fun v a b => h v a (by omega))) (h (m + 1) (by omega) (by omega))
theorem sm_fit {x : LN} {V m : Nat} {A : AS} (hf : ln_fit V x) (hV : V ≤ 16) (hm : m + 1 ≤ V) : sm (ln_nf x A) m + (x.2 (m + 1)).natAbs < 65536 ^ 20 := by
  have h1 : sm (ln_nf x A) m ≤ m * B8 := sm_bound (fun v a b => Nat.le_trans (nf_le x A v) (Nat.le_of_lt (hf.2 v a (by omega))))
  have h2 : m * B8 ≤ 16 * B8 := Nat.mul_le_mul_right _ (by omega)
  have h3 := hf.2 (m + 1) (by omega) hm
  have h4 : 16 * B8 + B8 < 65536 ^ 20 := by decide
  exact Nat.lt_of_le_of_lt (Nat.add_le_add (Nat.le_trans h1 h2) (Nat.le_of_lt h3)) h4
section STA
variable {h : pb_H} {Q : Option Value → pb_H → Prop} {s sg : Nat → Int32} {G : Nat → Nat} {V r : Nat} {x : LN}
theorem A320 {h : pb_H} {Q : Option Value → pb_H → Prop} : pb_call 143 [.int 320, .int 1] h Q ↔ Q (some (.int (nI (5441 * 20)))) h := A143 (r := 320) (v := 1)
/-- isFalse -/
theorem A170 (hX : RX h s G sg) (hV : s 3 = nI V) (hV16 : V ≤ 16) (hr : r < 320) (hR : RR V G sg r x) (hf : ln_fit V x)
    (hQ : ∀ h' G', fr rS h h' → RX h' s G' sg → NF (fun k => k = 5441) G sg G' sg → (ln_br V x (fun _ => none) → Q (some (.int 1)) h') ∧ (¬ ln_br V x (fun _ => none) → Q (some (.int 0)) h')) : pb_call 170 [.ref 65, .int (nI r)] h Q := by
  have hl : ∀ n m h' G', m + n = V → fr rS h h' → RX h' s G' sg → NF (fun k => k = 5441) G sg G' sg → rv G' 5441 = sm (ln_nf x (fun _ => none)) m → pb_R 170 15 [some (.ref 65), some (.int (nI r)), some (.int (nI (5441 * 20))), some (.int (nI (m + 1)))] [] [] h' Q := by
    intro n
    induction n with
    | zero =>
      intro m h' G' hm F X N hv
      obtain rfl : m = V := by omega
      have c1 : nI m < nI (m + 1) := nI_lt (by omega) (by omega)
      have h150 := fun Q : Option Value → pb_H → Prop => A150 (Q := Q) X (show 5441 < 6171 by omega) (show r * 17 < 6171 by omega)
      have hd : rv G' (r * 17) = x.1 := by rw [NF_rv N (by omega), hR.1]
      obtain ⟨m1, m2, m3, m4⟩ := cm3_pos (m := sm (ln_nf x (fun _ => none)) m) (n := x.1)
      rw [hv, hd] at h150
      have hq := hQ h' G' F X N
      rw [pb_q170_15]
      by_cases c : ln_br m x (fun _ => none)
      · have k : ¬ 0 ≤ cm3 (sm (ln_nf x (fun _ => none)) m) x.1 := fun e => by have := m4.mp e; unfold ln_br at c; omega
        simp only [pb_e170, X.1, pb_gr, pb_o_some, true_and, hV, c1, if_true, A143z, Option.toList_some, List.singleton_append, h150, k, if_false, nb1]
        exact hq.1 c
      · have k : 0 ≤ cm3 (sm (ln_nf x (fun _ => none)) m) x.1 := m4.mpr (by unfold ln_br at c; omega)
        simp only [pb_e170, X.1, pb_gr, pb_o_some, true_and, hV, c1, if_true, A143z, Option.toList_some, List.singleton_append, h150, k, nb0]
        exact hq.2 c
    | succ n ih =>
      intro m h' G' hm F X N hv
      have c1 : ¬ nI V < nI (m + 1) := nI_nlt (by omega) (by omega)
      have hrm : rv G' (r * 17 + (m + 1)) = (x.2 (m + 1)).natAbs := by rw [NF_rv N (by omega), (hR.2 (m + 1) (by omega) (by omega)).1]
      rw [pb_q170_15]
      simp only [pb_e170, X.1, pb_gr, pb_o_some, true_and, hV, c1, if_false, A143, Option.toList_some, List.singleton_append]
      refine A151 X (by omega) (by omega) (by omega) (by rw [hv, hrm]; exact sm_fit hf hV16 (by omega)) ?_
      intro h3 G3 F3 X3 nb3 hv3
      simp only [Option.toList_none, List.nil_append, pb_e170, nI_1]
      refine ih (m + 1) h3 G3 (by omega) (fr_trans F F3) X3 (NF_trans N (NF_nb (i := 5441) rfl nb3)) ?_
      rw [hv3, hv, hrm, ← nf_none]
      rfl
  rw [pb_c170]
  simp only [pb_e170, A320, Option.toList_some, List.singleton_append, hX.1, pb_gr, true_and]
  refine A144 hX (by omega) ?_
  intro h3 G3 F3 X3 nb3 hv3
  simp only [Option.toList_none, List.nil_append, pb_e170]
  exact hl V 0 h3 G3 (by omega) F3 X3 (NF_nb (i := 5441) rfl nb3) hv3
theorem A171 {a b : Int32} : pb_call 171 [.int a, .int b] h Q ↔ Q (some (.int (if (a = 1 ∧ b = 0) ∨ (a = -1 ∧ b = 1) then 1 else 0))) h := by
  rw [pb_c171]
  by_cases c1 : a = 1
  · have c1' : ¬ a = -1 := by rw [c1]; decide
    by_cases c2 : b = 0
    · simp only [pb_e171, c1, c2, not_true_eq_false, if_false, if_true, nb1, true_and, and_self, true_or]
    · have k : ¬ (1 : Int32) = -1 := by decide
      simp only [pb_e171, c1, c2, not_true_eq_false, if_false, k, not_false_eq_true, if_true, nb0, true_and, false_and, or_self]
  · by_cases c2 : a = -1
    · by_cases c3 : b = 1
      · have k : ¬ (-1 : Int32) = 1 := by decide
        simp only [pb_e171, c2, c3, k, not_false_eq_true, if_true, not_true_eq_false, if_false, nb1, true_and, and_self, or_true]
      · have k : ¬ (-1 : Int32) = 1 := by decide
        simp only [pb_e171, c2, c3, k, not_false_eq_true, if_true, not_true_eq_false, if_false, nb0, true_and, false_and, or_self]
    · simp only [pb_e171, c1, c2, not_false_eq_true, if_true, nb0, true_and, false_and, or_self, if_false]
/-- values as ints -/
def avI : Option Bool → Int32
  | none => -1
  | some false => 0
  | some true => 1
def AV (V : Nat) (f : Nat → Int32) (A : AS) : Prop := ∀ v, 1 ≤ v → v ≤ V → f v = avI (A v)
theorem wrong_lwr {z : Int} {a : Option Bool} : ((sgI z = 1 ∧ avI a = 0) ∨ (sgI z = -1 ∧ avI a = 1)) ↔ lwr z a := by
  have k1 : ∀ a : Option Bool, avI a = 0 ↔ a = some false := fun a => by rcases a with _ | _ | _ <;> decide
  have k2 : ∀ a : Option Bool, avI a = 1 ↔ a = some true := fun a => by rcases a with _ | _ | _ <;> decide
  rw [k1, k2]
  unfold lwr
  rcases Int.lt_trichotomy z 0 with c | c | c
  · rw [sgI_neg c]
    have : ¬ (-1 : Int32) = 1 := by decide
    constructor
    · rintro (q | q)
      · exact absurd q.1 this
      · exact Or.inr ⟨c, q.2⟩
    · rintro (q | q)
      · omega
      · exact Or.inr ⟨rfl, q.2⟩
  · rw [c, sgI_0]
    constructor
    · rintro (q | q)
      · exact absurd q.1 (by decide)
      · exact absurd q.1 (by decide)
    · rintro (q | q)
      · omega
      · omega
  · rw [sgI_pos c]
    constructor
    · rintro (q | q)
      · exact Or.inl ⟨c, q.2⟩
      · exact absurd q.1 (by decide)
    · rintro (q | q)
      · exact Or.inl ⟨rfl, q.2⟩
      · omega
theorem av_none {a : Option Bool} : avI a = -1 ↔ a = none := by rcases a with _ | _ | _ <;> decide
/-- what state answers -/
def LSt (V : Nat) (x : LN) (A : AS) (z : Int32) : Prop := (ln_br V x A ∧ z = -1) ∨ (¬ ln_br V x A ∧ (∃ v, 1 ≤ v ∧ v ≤ V ∧ ln_fc V x A v ∧ (∀ u, 1 ≤ u → u < v → ¬ ln_fc V x A u) ∧ z = nI v)) ∨ (¬ ln_br V x A ∧ (∀ u, 1 ≤ u → u ≤ V → ¬ ln_fc V x A u) ∧ z = 0)
/-- state -/
theorem A172 {c : Nat} {f : Nat → Int32} {A : AS} (hX : RX h s G sg) (hV : s 3 = nI V) (hV16 : V ≤ 16) (hr : r < 320) (hR : RR V G sg r x) (hf : ln_fit V x) (hc : h.2 c = ci 17 f) (hcS : ¬ rS c) (hA : AV V f A)
    (hQ : ∀ h' G' z, fr rS h h' → RX h' s G' sg → NF (fun k => k = 5441) G sg G' sg → LSt V x A z → Q (some (.int z)) h') : pb_call 172 [.ref 65, .int (nI r), .ref c] h Q := by
  have e17 : ∀ r, nI r * nI 17 = nI (r * 17) := fun r => pk_mul r 17
  have hl2 : ∀ n m h' G', m + n = V → fr rS h h' → RX h' s G' sg → NF (fun k => k = 5441) G sg G' sg → ¬ ln_br V x A → rv G' 5441 = sm (ln_nf x A) V - x.1 → (∀ u, 1 ≤ u → u ≤ m → ¬ ln_fc V x A u) → pb_R 172 107 [some (.ref 65), some (.int (nI r)), some (.ref c), some (.int (nI (5441 * 20))), some (.int (nI (m + 1)))] [] [] h' Q := by
    intro n
    induction n with
    | zero =>
      intro m h' G' hm F X N nb hv hno
      obtain rfl : m = V := by omega
      have c1 : nI m < nI (m + 1) := nI_lt (by omega) (by omega)
      rw [pb_q172_107]
      simp only [pb_e172, X.1, pb_gr, pb_o_some, true_and, hV, c1, if_true]
      exact hQ h' G' 0 F X N (Or.inr (Or.inr ⟨nb, hno, rfl⟩))
    | succ n ih =>
      intro m h' G' hm F X N nb hv hno
      have c1 : ¬ nI V < nI (m + 1) := nI_nlt (by omega) (by omega)
      have hc' : h'.2 c = ci 17 f := (F.2.2 c hcS).trans hc
      have hg := sg_get (sg := sg) (j := r * 17 + (m + 1)) (by omega)
      have hfv : pb_ai (ci 17 f) (nI (m + 1)) = some (f (m + 1)) := pb_ai_eq (Or.inl rfl) (by omega) (by omega)
      have hsv := hR.2 (m + 1) (by omega) (by omega)
      have hav := hA (m + 1) (by omega) (by omega)
      have hrm : rv G' (r * 17 + (m + 1)) = (x.2 (m + 1)).natAbs := by rw [NF_rv N (by omega), hsv.1]
      have h150 := fun Q : Option Value → pb_H → Prop => A150 (Q := Q) X (show r * 17 + (m + 1) < 6171 by omega) (show 5441 < 6171 by omega)
      rw [hrm, hv] at h150
      obtain ⟨m1, m2, m3, m4⟩ := cm3_pos (m := (x.2 (m + 1)).natAbs) (n := sm (ln_nf x A) V - x.1)
      have hge : x.1 ≤ sm (ln_nf x A) V := by unfold ln_br at nb; omega
      have hnext : ¬ ln_fc V x A (m + 1) → ∀ u, 1 ≤ u → u ≤ m + 1 → ¬ ln_fc V x A u := fun hn u u1 u2 => by
        by_cases e : u = m + 1
        · rw [e]; exact hn
        · exact hno u u1 (by omega)
      rw [pb_q172_107]
      by_cases x0 : x.2 (m + 1) = 0
      · have s0 : sg (r * 17 + (m + 1)) = 0 := by rw [hsv.2, x0]; rfl
        simp only [pb_e172, nI17, X.1, X.2.2.2.1, pb_gr, pb_o_some, true_and, hV, c1, if_false, e17, nI_add, hg, s0, if_true, nI_1]
        exact ih (m + 1) h' G' (by omega) F X N nb hv (hnext (fun q => q.2.1 x0))
      · have s0 : ¬ sg (r * 17 + (m + 1)) = 0 := by rw [hsv.2, sgI_eq0]; exact x0
        by_cases a0 : A (m + 1) = none
        · have hfm : f (m + 1) = -1 := by rw [hav, a0]; rfl
          by_cases k : (x.2 (m + 1)).natAbs ≤ sm (ln_nf x A) V - x.1
          · have kk := m2.mpr k
            simp only [pb_e172, nI17, X.1, X.2.2.2.1, pb_gr, pb_o_some, true_and, hV, c1, if_false, e17, nI_add, hg, s0, hc', hfv, hfm, not_true_eq_false, A143, Option.toList_some, List.singleton_append, h150, kk, if_true, nI_1]
            exact ih (m + 1) h' G' (by omega) F X N nb hv (hnext (fun q => by have := q.2.2; omega))
          · have kk : ¬ cm3 (x.2 (m + 1)).natAbs (sm (ln_nf x A) V - x.1) ≤ 0 := fun e => k (m2.mp e)
            simp only [pb_e172, nI17, X.1, X.2.2.2.1, pb_gr, pb_o_some, true_and, hV, c1, if_false, e17, nI_add, hg, s0, hc', hfv, hfm, not_true_eq_false, A143, Option.toList_some, List.singleton_append, h150, kk]
            exact hQ h' G' _ F X N (Or.inr (Or.inl ⟨nb, m + 1, by omega, by omega, ⟨a0, x0, by omega⟩, fun u u1 u2 => hno u u1 (by omega), rfl⟩))
        · have hfm : ¬ f (m + 1) = -1 := by rw [hav, av_none]; exact a0
          simp only [pb_e172, nI17, X.1, X.2.2.2.1, pb_gr, pb_o_some, true_and, hV, c1, if_false, e17, nI_add, hg, s0, hc', hfv, hfm, not_false_eq_true, if_true, nI_1]
          exact ih (m + 1) h' G' (by omega) F X N nb hv (hnext (fun q => a0 q.1))
  have hl : ∀ n m h' G', m + n = V → fr rS h h' → RX h' s G' sg → NF (fun k => k = 5441) G sg G' sg → rv G' 5441 = sm (ln_nf x A) m → pb_R 172 16 [some (.ref 65), some (.int (nI r)), some (.ref c), some (.int (nI (5441 * 20))), some (.int (nI (m + 1)))] [] [] h' Q := by
    intro n
    induction n with
    | zero =>
      intro m h' G' hm F X N hv
      obtain rfl : m = V := by omega
      have c1 : nI m < nI (m + 1) := nI_lt (by omega) (by omega)
      have h150 := fun Q : Option Value → pb_H → Prop => A150 (Q := Q) X (show 5441 < 6171 by omega) (show r * 17 < 6171 by omega)
      have hd : rv G' (r * 17) = x.1 := by rw [NF_rv N (by omega), hR.1]
      obtain ⟨m1, m2, m3, m4⟩ := cm3_pos (m := sm (ln_nf x A) m) (n := x.1)
      rw [hv, hd] at h150
      rw [pb_q172_16]
      by_cases c : ln_br m x A
      · have k : ¬ 0 ≤ cm3 (sm (ln_nf x A) m) x.1 := fun e => by have := m4.mp e; unfold ln_br at c; omega
        simp only [pb_e172, X.1, pb_gr, pb_o_some, true_and, hV, c1, if_true, A143z, Option.toList_some, List.singleton_append, h150, k, if_false]
        exact hQ h' G' (-1) F X N (Or.inl ⟨c, rfl⟩)
      · have hge : x.1 ≤ sm (ln_nf x A) m := by unfold ln_br at c; omega
        have k : 0 ≤ cm3 (sm (ln_nf x A) m) x.1 := m4.mpr hge
        simp only [pb_e172, X.1, pb_gr, pb_o_some, true_and, hV, c1, if_true, A143z, Option.toList_some, List.singleton_append, h150, k]
        refine A152 X (by omega) (by omega) (by omega) (by rw [hv, hd]; exact hge) ?_
        intro h3 G3 F3 X3 nb3 hv3
        simp only [Option.toList_none, List.nil_append, pb_e172]
        exact hl2 m 0 h3 G3 (by omega) (fr_trans F F3) X3 (NF_trans N (NF_nb (i := 5441) rfl nb3)) c (by rw [hv3, hv, hd]) (fun u u1 u2 => by omega)
    | succ n ih =>
      intro m h' G' hm F X N hv
      have c1 : ¬ nI V < nI (m + 1) := nI_nlt (by omega) (by omega)
      have hc' : h'.2 c = ci 17 f := (F.2.2 c hcS).trans hc
      have hg := sg_get (sg := sg) (j := r * 17 + (m + 1)) (by omega)
      have hfv : pb_ai (ci 17 f) (nI (m + 1)) = some (f (m + 1)) := pb_ai_eq (Or.inl rfl) (by omega) (by omega)
      have hsv := hR.2 (m + 1) (by omega) (by omega)
      have hav := hA (m + 1) (by omega) (by omega)
      have hrm : rv G' (r * 17 + (m + 1)) = (x.2 (m + 1)).natAbs := by rw [NF_rv N (by omega), hsv.1]
      have hsum : sm (ln_nf x A) (m + 1) = sm (ln_nf x A) m + ln_nf x A (m + 1) := rfl
      obtain ⟨nf1, nf2⟩ := ln_nf_if x A (m + 1)
      rw [pb_q172_16]
      by_cases x0 : x.2 (m + 1) = 0
      · have s0 : sg (r * 17 + (m + 1)) = 0 := by rw [hsv.2, x0]; rfl
        have hz : ln_nf x A (m + 1) = 0 := Nat.le_zero.mp (by have := nf_le x A (m + 1); rw [x0] at this; exact this)
        simp only [pb_e172, nI17, X.1, X.2.2.2.1, pb_gr, pb_o_some, true_and, hV, c1, if_false, e17, nI_add, hg, s0, if_true, nI_1]
        exact ih (m + 1) h' G' (by omega) F X N (by rw [hv, hsum, hz, Nat.add_zero])
      · have s0 : ¬ sg (r * 17 + (m + 1)) = 0 := by rw [hsv.2, sgI_eq0]; exact x0
        have hw : ((sg (r * 17 + (m + 1)) = 1 ∧ f (m + 1) = 0) ∨ (sg (r * 17 + (m + 1)) = -1 ∧ f (m + 1) = 1)) ↔ lwr (x.2 (m + 1)) (A (m + 1)) := by rw [hsv.2, hav]; exact wrong_lwr
        by_cases w : lwr (x.2 (m + 1)) (A (m + 1))
        · have e10 : ¬ (1 : Int32) = 0 := by decide
          simp only [pb_e172, nI17, X.1, X.2.2.2.1, pb_gr, pb_o_some, true_and, hV, c1, if_false, e17, nI_add, hg, s0, hc', hfv, A171, hw, w, if_true, Option.toList_some, List.singleton_append, e10, not_false_eq_true, nI_1]
          exact ih (m + 1) h' G' (by omega) F X N (by rw [hv, hsum, nf1 w, Nat.add_zero])
        · simp only [pb_e172, nI17, X.1, X.2.2.2.1, pb_gr, pb_o_some, true_and, hV, c1, if_false, e17, nI_add, hg, s0, hc', hfv, A171, hw, w, Option.toList_some, List.singleton_append, not_true_eq_false, A143]
          refine A151 X (by omega) (by omega) (by omega) (by rw [hv, hrm]; exact sm_fit hf hV16 (by omega)) ?_
          intro h3 G3 F3 X3 nb3 hv3
          simp only [Option.toList_none, List.nil_append, pb_e172, nI_1]
          exact ih (m + 1) h3 G3 (by omega) (fr_trans F F3) X3 (NF_trans N (NF_nb (i := 5441) rfl nb3)) (by rw [hv3, hv, hrm, hsum, nf2 w])
  rw [pb_c172]
  simp only [pb_e172, A320, Option.toList_some, List.singleton_append, hX.1, pb_gr, true_and]
  refine A144 hX (by omega) ?_
  intro h3 G3 F3 X3 nb3 hv3
  simp only [Option.toList_none, List.nil_append, pb_e172]
  exact hl V 0 h3 G3 (by omega) F3 X3 (NF_nb (i := 5441) rfl nb3) hv3
end STA
