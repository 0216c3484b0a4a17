/-! K stays BROKEN; READY -/
theorem sm_up {f g : Nat → Nat} {k u : Nat} : ∀ {m : Nat}, (∀ w, 1 ≤ w → w ≤ m → w ≠ u → g w ≤ f w) → g u ≤ f u + k → sm g m ≤ sm f m + k
  | 0, _, _ => Nat.zero_le _
  | m + 1, h1, h2 => by
    show sm g m + g (m + 1) ≤ sm f m + f (m + 1) + k
    by_cases e : u = m + 1
    · subst e
      have : sm g m ≤ sm f m := sm_le (fun v v1 v2 => h1 v v1 (by omega) (by omega))
      omega
    · have := sm_up (m := m) (fun w w1 w2 w3 => h1 w w1 (by omega) w3) h2
      have := h1 (m + 1) (by omega) (by omega) (fun q => e q.symm)
      omega
section RS2
variable {V : Nat} {R K M x : LN} {A : AS} {v a : Nat}
theorem tm_nf (ha : a ≠ 0) (u : Nat) : ln_nf (ln_tm x a) A u = ln_nf x A u * a := by
  have e : (ln_tm x a).2 u = x.2 u * a := rfl
  obtain ⟨s1, s2⟩ := sgn_tm (a := x.2 u) ha
  have hl : lwr ((ln_tm x a).2 u) (A u) ↔ lwr (x.2 u) (A u) := by
    unfold lwr
    rw [e, s1, s2]
  by_cases w : lwr (x.2 u) (A u)
  · rw [(ln_nf_if x A u).1 w, (ln_nf_if _ A u).1 (hl.mpr w), Nat.zero_mul]
  · rw [(ln_nf_if x A u).2 w, (ln_nf_if _ A u).2 (fun q => w (hl.mp q)), e, Int.natAbs_mul, Int.natAbs_natCast]
theorem tmx_sl (ha : a ≠ 0) (h : sm (ln_nf x A) V ≤ x.1) : sm (ln_nf (tmx x a) A) V ≤ (tmx x a).1 ∧ ((x.2 v).natAbs = 1 → ((tmx x a).2 v).natAbs = a) ∧ sgI ((tmx x a).2 v) = sgI (x.2 v) := by
  unfold tmx
  by_cases q : a = 1
  · rw [if_pos q, q]
    exact ⟨h, fun e => e, rfl⟩
  · rw [if_neg q]
    refine ⟨?_, fun e => ?_, sgI_tm ha⟩
    · rw [sm_congr (g := fun u => ln_nf x A u * a) (fun u _ _ => tm_nf ha u), sm_mulf]
      exact Nat.mul_le_mul_right a h
    · show Int.natAbs (x.2 v * a) = a
      rw [Int.natAbs_mul, e, Int.natAbs_natCast, Nat.one_mul]
theorem sum_nf (u : Nat) : ln_nf (ln_sum V K M) A u + ln_mt (K.2 u) (M.2 u) ≤ ln_nf K A u + ln_nf M A u := by
  have es : (ln_sum V K M).2 u = K.2 u + M.2 u := rfl
  have hS := nf_le (ln_sum V K M) A u
  rw [es] at hS
  obtain ⟨k1, k2⟩ := ln_nf_if K A u
  obtain ⟨m1, m2⟩ := ln_nf_if M A u
  obtain ⟨s1, s2⟩ := ln_nf_if (ln_sum V K M) A u
  rw [es] at s1 s2
  unfold ln_mt lwr at *
  generalize K.2 u = p at *
  generalize M.2 u = q at *
  generalize ln_nf K A u = nk at *
  generalize ln_nf M A u = nm at *
  generalize ln_nf (ln_sum V K M) A u = ns at *
  cases hA : A u with
  | none =>
    rw [hA] at k1 k2 m1 m2 s1 s2
    have e1 : nk = p.natAbs := k2 (fun w => by rcases w with w | w <;> cases w.2)
    have e2 : nm = q.natAbs := m2 (fun w => by rcases w with w | w <;> cases w.2)
    clear k1 k2 m1 m2 s1 s2
    split <;> omega
  | some t =>
    rw [hA] at k1 k2 m1 m2 s1 s2
    cases t
    · have kk : (0 < p → nk = 0) ∧ (¬ 0 < p → nk = p.natAbs) := ⟨fun w => k1 (Or.inl ⟨w, rfl⟩), fun w => k2 (fun x => by
        rcases x with x | x
        · exact w x.1
        · cases x.2)⟩
      have mm : (0 < q → nm = 0) ∧ (¬ 0 < q → nm = q.natAbs) := ⟨fun w => m1 (Or.inl ⟨w, rfl⟩), fun w => m2 (fun x => by
        rcases x with x | x
        · exact w x.1
        · cases x.2)⟩
      have ss : (0 < p + q → ns = 0) ∧ (¬ 0 < p + q → ns = (p + q).natAbs) := ⟨fun w => s1 (Or.inl ⟨w, rfl⟩), fun w => s2 (fun x => by
        rcases x with x | x
        · exact w x.1
        · cases x.2)⟩
      clear k1 k2 m1 m2 s1 s2 hS
      by_cases hp : 0 < p
      · have a1 := kk.1 hp
        by_cases hq : 0 < q
        · have a2 := mm.1 hq
          have a3 := ss.1 (by omega)
          clear kk mm ss
          rw [if_neg (by omega)]
          omega
        · have a2 := mm.2 hq
          by_cases hs : 0 < p + q
          · have a3 := ss.1 hs
            clear kk mm ss
            split <;> omega
          · have a3 := ss.2 hs
            clear kk mm ss
            split <;> omega
      · have a1 := kk.2 hp
        by_cases hq : 0 < q
        · have a2 := mm.1 hq
          by_cases hs : 0 < p + q
          · have a3 := ss.1 hs
            clear kk mm ss
            split <;> omega
          · have a3 := ss.2 hs
            clear kk mm ss
            split <;> omega
        · have a2 := mm.2 hq
          have a3 := ss.2 (by omega)
          clear kk mm ss
          rw [if_neg (by omega)]
          omega
    · have kk : (p < 0 → nk = 0) ∧ (¬ p < 0 → nk = p.natAbs) := ⟨fun w => k1 (Or.inr ⟨w, rfl⟩), fun w => k2 (fun x => by
        rcases x with x | x
        · cases x.2
        · exact w x.1)⟩
      have mm : (q < 0 → nm = 0) ∧ (¬ q < 0 → nm = q.natAbs) := ⟨fun w => m1 (Or.inr ⟨w, rfl⟩), fun w => m2 (fun x => by
        rcases x with x | x
        · cases x.2
        · exact w x.1)⟩
      have ss : (p + q < 0 → ns = 0) ∧ (¬ p + q < 0 → ns = (p + q).natAbs) := ⟨fun w => s1 (Or.inr ⟨w, rfl⟩), fun w => s2 (fun x => by
        rcases x with x | x
        · cases x.2
        · exact w x.1)⟩
      clear k1 k2 m1 m2 s1 s2 hS
      by_cases hp : p < 0
      · have a1 := kk.1 hp
        by_cases hq : q < 0
        · have a2 := mm.1 hq
          have a3 := ss.1 (by omega)
          clear kk mm ss
          rw [if_neg (by omega)]
          omega
        · have a2 := mm.2 hq
          by_cases hs : p + q < 0
          · have a3 := ss.1 hs
            clear kk mm ss
            split <;> omega
          · have a3 := ss.2 hs
            clear kk mm ss
            split <;> omega
      · have a1 := kk.2 hp
        by_cases hq : q < 0
        · have a2 := mm.1 hq
          by_cases hs : p + q < 0
          · have a3 := ss.1 hs
            clear kk mm ss
            split <;> omega
          · have a3 := ss.2 hs
            clear kk mm ss
            split <;> omega
        · have a2 := mm.2 hq
          have a3 := ss.2 (by omega)
          clear kk mm ss
          rw [if_neg (by omega)]
          omega
theorem dg_ge (K M : LN) : ∀ m, K.1 + M.1 ≤ ln_dg K M m + sm (fun u => ln_mt (K.2 u) (M.2 u)) m
  | 0 => Nat.le_refl _
  | m + 1 => by
    have := dg_ge K M m
    show K.1 + M.1 ≤ (ln_dg K M m - ln_mt (K.2 (m + 1)) (M.2 (m + 1))) + (sm (fun u => ln_mt (K.2 u) (M.2 u)) m + ln_mt (K.2 (m + 1)) (M.2 (m + 1)))
    omega
/-- the SUM is BROKEN ahead of the LITERAL -/
theorem res_br {t : Bool} (hv1 : 1 ≤ v) (hv2 : v ≤ V) (hAv : A v = none) (hb : ln_br V K (fun u => if u = v then some t else A u)) (hop : (t = true ∧ K.2 v < 0) ∨ (t = false ∧ 0 < K.2 v)) (hf : ln_fc V R A v) (hR : 0 < R.2 v ↔ t = true) :
    ln_br V (ln_cut (ln_sum V K (tmx (rsn V R A v) (K.2 v).natAbs))) A := by
  have a0 : (K.2 v).natAbs ≠ 0 := by omega
  obtain ⟨r1, r2, r3⟩ := rsn_sl (R := R) (A := A) hv1 hv2 hf
  obtain ⟨m1, m2, m3⟩ := tmx_sl (V := V) (A := A) (v := v) a0 r1
  have m2' := m2 r2
  rw [r3] at m3
  generalize hM : tmx (rsn V R A v) (K.2 v).natAbs = M at m1 m2' m3 ⊢
  have hRn := hf.2.1
  have hMop : (0 < K.2 v ∧ M.2 v < 0) ∨ (K.2 v < 0 ∧ 0 < M.2 v) := by
    rcases hop with ⟨q1, q2⟩ | ⟨q1, q2⟩
    · right
      have hp := hR.mpr q1
      rw [sgI_pos hp] at m3
      refine ⟨q2, ?_⟩
      rcases Int.lt_trichotomy (M.2 v) 0 with c | c | c
      · rw [sgI_neg c] at m3; exact absurd m3 (by decide)
      · rw [c] at m3; exact absurd m3 (by decide)
      · exact c
    · left
      have hn : R.2 v < 0 := by
        have : ¬ 0 < R.2 v := fun w => by
          have := hR.mp w
          rw [q1] at this
          cases this
        omega
      rw [sgI_neg hn] at m3
      refine ⟨q2, ?_⟩
      rcases Int.lt_trichotomy (M.2 v) 0 with c | c | c
      · exact c
      · rw [c] at m3; exact absurd m3 (by decide)
      · rw [sgI_pos c] at m3; exact absurd m3 (by decide)
  -- K without the LITERAL
  have hK : sm (ln_nf K A) V ≤ sm (ln_nf K (fun u => if u = v then some t else A u)) V + (K.2 v).natAbs := by
    refine sm_up (u := v) (fun w _ _ w3 => ?_) ?_
    · have e : (fun u => if u = v then some t else A u) w = A w := if_neg w3
      by_cases c : lwr (K.2 w) (A w)
      · rw [(ln_nf_if K A w).1 c]; exact Nat.zero_le _
      · rw [(ln_nf_if K A w).2 c, (ln_nf_if K (fun u => if u = v then some t else A u) w).2 (by rw [if_neg w3]; exact c)]
        exact Nat.le_refl _
    · have := nf_le K A v
      omega
  have nk : ln_nf K A v = (K.2 v).natAbs := (ln_nf_if K A v).2 (fun w => by
    unfold lwr at w
    rw [hAv] at w
    rcases w with w | w <;> cases w.2)
  have nm : ln_nf M A v = (M.2 v).natAbs := (ln_nf_if M A v).2 (fun w => by
    unfold lwr at w
    rw [hAv] at w
    rcases w with w | w <;> cases w.2)
  have hsum := sm_one (f := fun u => ln_nf (ln_sum V K M) A u + ln_mt (K.2 u) (M.2 u)) (g := fun u => ln_nf K A u + ln_nf M A u) (k := (K.2 v).natAbs) (u := v) (m := V) hv1 hv2 (fun u _ _ => sum_nf u) (by
    show ln_nf (ln_sum V K M) A v + ln_mt (K.2 v) (M.2 v) + (K.2 v).natAbs ≤ ln_nf K A v + ln_nf M A v
    have h0 : ln_nf (ln_sum V K M) A v = 0 := nf_z (by show K.2 v + M.2 v = 0; omega)
    have hmt : ln_mt (K.2 v) (M.2 v) = (K.2 v).natAbs := by
      unfold ln_mt
      rw [if_pos hMop, m2', Nat.min_self]
    rw [h0, hmt, nk, nm, m2']
    omega)
  rw [sm_addf, sm_addf] at hsum
  have hdg := dg_ge K M V
  have hcut : sm (ln_nf (ln_cut (ln_sum V K M)) A) V ≤ sm (ln_nf (ln_sum V K M) A) V := sm_le (fun u _ _ => cut_nf _ u)
  unfold ln_br at hb ⊢
  show sm (ln_nf (ln_cut (ln_sum V K M)) A) V < ln_dg K M V
  omega
end RS2
noncomputable def nqb (V : Nat) (x : LN) (A : AS) : Bool := @decide (¬ quiet V x A) (Classical.propDecidable _)
theorem nqb_1 {V : Nat} {x : LN} {A : AS} (h : ¬ quiet V x A) : nqb V x A = true := @decide_eq_true _ (Classical.propDecidable _) h
theorem nqb_0 {V : Nat} {x : LN} {A : AS} (h : quiet V x A) : ¬ nqb V x A = true := fun w => @of_decide_eq_true _ (Classical.propDecidable _) w h
theorem nqb_of {V : Nat} {x : LN} {A : AS} (w : nqb V x A = true) : ¬ quiet V x A := @of_decide_eq_true _ (Classical.propDecidable _) w
/-- the least LEVEL from j on at which K is BROKEN or FORCES something -/
noncomputable def rdy (V : Nat) (K : LN) (T : Nat → Int) (Lv : Nat → Nat) (ts : Nat) : Nat → Nat → Nat
  | 0, j => j
  | f + 1, j => if nqb V K (asg T (szl Lv j ts)) = true then j else rdy V K T Lv ts f (j + 1)
theorem rdy_le (V : Nat) (K : LN) (T : Nat → Int) (Lv : Nat → Nat) (ts : Nat) : ∀ f j, j ≤ rdy V K T Lv ts f j ∧ rdy V K T Lv ts f j ≤ j + f
  | 0, j => ⟨Nat.le_refl _, Nat.le_refl _⟩
  | f + 1, j => by
    have := rdy_le V K T Lv ts f (j + 1)
    show j ≤ (if _ then j else _) ∧ (if _ then j else _) ≤ j + (f + 1)
    split
    · exact ⟨Nat.le_refl _, by omega⟩
    · exact ⟨by omega, by omega⟩
/-- not READY: quiet at all of them -/
theorem rdy_no {V : Nat} {K : LN} {T : Nat → Int} {Lv : Nat → Nat} {ts : Nat} : ∀ {f j : Nat}, ¬ rdy V K T Lv ts f j < j + f → ∀ i, j ≤ i → i < j + f → quiet V K (asg T (szl Lv i ts))
  | 0, j, _, i, i1, i2 => by omega
  | f + 1, j, h, i, i1, i2 => by
    have h' : ¬ (if nqb V K (asg T (szl Lv j ts)) = true then j else rdy V K T Lv ts f (j + 1)) < j + (f + 1) := h
    by_cases c : nqb V K (asg T (szl Lv j ts)) = true
    · rw [if_pos c] at h'; omega
    · rw [if_neg c] at h'
      by_cases e : i = j
      · subst e
        apply Classical.byContradiction
        intro q
        exact c (nqb_1 q)
      · exact rdy_no (f := f) (j := j + 1) (by omega) i (by omega) (by omega)
noncomputable def rsv (V : Nat) (X : Nat → LN) (T : Nat → Int) (Lv Rs : Nat → Nat) (lv ts : Nat) : Nat → LN → List Nat → Option (LN × List Nat)
  | 0, K, P => some (K, P)
  | i + 1, K, P => if rdy V K T Lv ts lv 0 < lv then some (K, P) else match lkR V X T Rs K P i with
    | none => none
    | some r => rsv V X T Lv Rs lv ts i r.1 r.2
section TVS
variable {V m : Nat} {X : Nat → LN} {T : Nat → Int} {Lv Rs : Nat → Nat} {lv ts i : Nat} {K : LN} {P : List Nat}
theorem asg_step (i : Nat) : asg T (i + 1) = fun u => if u = (T i).natAbs then some (decide (0 < T i)) else asg T i u := rfl
/-- at a CHOICE: READY -/
theorem choice_nq (hT : TV V m X T Lv Rs lv ts) (hi : i < ts) (hr : Rs i = 0) (hb : ln_br V K (asg T (i + 1))) : 1 ≤ Lv i ∧ Lv i - 1 < lv ∧ ¬ quiet V K (asg T (szl Lv (Lv i - 1) ts)) := by
  obtain ⟨t1, t2, t3, t4, t5, t6, t7⟩ := hT
  obtain ⟨q1, q2⟩ := (t6 i hi).2.1 hr
  have hl := t4 i hi
  have hv := t2 i hi
  have es : szl Lv (Lv i - 1) ts = i := szl_eq (by omega) (fun k k1 k2 => by have := t5 i k k1 k2; omega) (fun k k1 => by have := q2 k k1; omega)
  refine ⟨q1, by omega, ?_⟩
  rw [es]
  intro hq
  have hn : asg T i (T i).natAbs = none := asg_none (fun j hj => t3 j i hj hi)
  apply hq.2 (T i).natAbs hv.1 hv.2
  have hle : sm (ln_nf K (asg T i)) V ≤ sm (ln_nf K (asg T (i + 1))) V + (K.2 (T i).natAbs).natAbs := by
    refine sm_up (u := (T i).natAbs) (fun w _ _ w3 => ?_) ?_
    · have e : asg T (i + 1) w = asg T i w := by rw [asg_step]; exact if_neg w3
      by_cases c : lwr (K.2 w) (asg T i w)
      · rw [(ln_nf_if K _ w).1 c]; exact Nat.zero_le _
      · rw [(ln_nf_if K _ w).2 c, (ln_nf_if K (asg T (i + 1)) w).2 (by rw [e]; exact c)]
        exact Nat.le_refl _
    · have := nf_le K (asg T i) (T i).natAbs
      omega
  unfold ln_br at hb
  refine ⟨hn, fun z => ?_, by omega⟩
  rw [z] at hle
  apply hq.1
  unfold ln_br
  have : sm (ln_nf K (asg T i)) V ≤ sm (ln_nf K (asg T (i + 1))) V + 0 := hle
  omega
/-- K stays BROKEN -/
theorem lkR_br {r : LN × List Nat} (hT : TV V m X T Lv Rs lv ts) (hi : i < ts) (hr : Rs i ≠ 0) (hb : ln_br V K (asg T (i + 1))) (h : lkR V X T Rs K P i = some r) : ln_br V r.1 (asg T i) := by
  obtain ⟨t1, t2, t3, t4, t5, t6, t7⟩ := hT
  have hv := t2 i hi
  have hn : asg T i (T i).natAbs = none := asg_none (fun j hj => t3 j i hj hi)
  obtain ⟨f1, f2⟩ := (t6 i hi).2.2 hr
  unfold lkR at h
  by_cases c : K.2 (T i).natAbs * T i < 0 ∧ Rs i ≠ 0
  · rw [if_pos c] at h
    have hop : (decide (0 < T i) = true ∧ K.2 (T i).natAbs < 0) ∨ (decide (0 < T i) = false ∧ 0 < K.2 (T i).natAbs) := by
      rcases Int.lt_trichotomy (T i) 0 with q | q | q
      · right
        refine ⟨decide_eq_false (by omega), ?_⟩
        exact Int.pos_of_mul_neg_left c.1 q
      · have := hv.1; omega
      · left
        refine ⟨decide_eq_true q, ?_⟩
        exact Int.neg_of_mul_neg_left c.1 q
    have main := res_br (K := K) (R := X (Rs i)) (A := asg T i) (t := decide (0 < T i)) hv.1 hv.2 hn hb hop f1 (by rw [f2, decide_eq_true_iff])
    split at h
    · split at h
      · injection h with h
        rw [← h]
        exact main
      · cases h
    · cases h
  · rw [if_neg c] at h
    injection h with h
    rw [← h]
    show ln_br V K (asg T i)
    have hop : ¬ K.2 (T i).natAbs * T i < 0 := fun w => c ⟨w, hr⟩
    have hle : sm (ln_nf K (asg T i)) V ≤ sm (ln_nf K (asg T (i + 1))) V := by
      refine sm_le (fun w w1 w2 => ?_)
      by_cases e : w = (T i).natAbs
      · subst e
        have ea : asg T (i + 1) (T i).natAbs = some (decide (0 < T i)) := by rw [asg_step]; exact if_pos rfl
        have nw : ¬ lwr (K.2 (T i).natAbs) (asg T (i + 1) (T i).natAbs) := fun x => by
          unfold lwr at x
          rw [ea] at x
          rcases x with ⟨x1, x2⟩ | ⟨x1, x2⟩
          · injection x2 with x2
            have : ¬ 0 < T i := of_decide_eq_false x2
            exact hop (Int.mul_neg_of_pos_of_neg x1 (by have := hv.1; omega))
          · injection x2 with x2
            have : 0 < T i := of_decide_eq_true x2
            exact hop (Int.mul_neg_of_neg_of_pos x1 this)
        rw [(ln_nf_if K (asg T (i + 1)) _).2 nw]
        exact nf_le K _ _
      · have ee : asg T (i + 1) w = asg T i w := by rw [asg_step]; exact if_neg e
        by_cases cc : lwr (K.2 w) (asg T i w)
        · rw [(ln_nf_if K _ w).1 cc]; exact Nat.zero_le _
        · rw [(ln_nf_if K _ w).2 cc, (ln_nf_if K (asg T (i + 1)) w).2 (by rw [ee]; exact cc)]
          exact Nat.le_refl _
    exact Nat.lt_of_le_of_lt hle hb
/-- BROKEN by nothing at all: READY, at a LEVEL above 0 -/
theorem br0_nq (hT : TV V m X T Lv Rs lv ts) (hb : ln_br V K (asg T 0)) (j : Nat) : ¬ quiet V K (asg T (szl Lv j ts)) := fun hq => by
  obtain ⟨t1, t2, t3, t4, t5, t6, t7⟩ := hT
  have hle := szl_le (Lv := Lv) j ts
  exact hq.1 (br_sub hb (asg_sub (Nat.zero_le _) (fun a b h1 h2 => t3 a b h1 (by omega))))
end TVS
