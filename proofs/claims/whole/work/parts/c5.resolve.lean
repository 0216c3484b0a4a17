/-! The TRAIL; what a LINE is brought to; K stays BROKEN -/
def asg (T : Nat → Int) : Nat → AS
  | 0 => fun _ => none
  | i + 1 => fun v => if v = (T i).natAbs then some (decide (0 < T i)) else asg T i v
def szl (Lv : Nat → Nat) (j : Nat) : Nat → Nat
  | 0 => 0
  | n + 1 => if j < Lv n then szl Lv j n else n + 1
/-- what holds of a TRAIL -/
def TV (V m : Nat) (X : Nat → LN) (T : Nat → Int) (Lv Rs : Nat → Nat) (lv ts : Nat) : Prop :=
  ts ≤ V ∧ (∀ i, i < ts → 1 ≤ (T i).natAbs ∧ (T i).natAbs ≤ V) ∧ (∀ i j, i < j → j < ts → (T i).natAbs ≠ (T j).natAbs) ∧ (∀ i, i < ts → Lv i ≤ lv) ∧ (∀ i j, i ≤ j → j < ts → Lv i ≤ Lv j) ∧ (∀ i, i < ts → Rs i ≤ m ∧ (Rs i = 0 → 1 ≤ Lv i ∧ ∀ j, j < i → Lv j < Lv i) ∧ (Rs i ≠ 0 → ln_fc V (X (Rs i)) (asg T i) (T i).natAbs ∧ (0 < (X (Rs i)).2 (T i).natAbs ↔ 0 < T i))) ∧ (∀ l, 1 ≤ l → l ≤ lv → ∃ i, i < ts ∧ Lv i = l ∧ Rs i = 0)
section ASG
variable {T : Nat → Int} {Lv : Nat → Nat} {V : Nat}
theorem asg_none {v : Nat} : ∀ {i : Nat}, (∀ j, j < i → (T j).natAbs ≠ v) → asg T i v = none
  | 0, _ => rfl
  | i + 1, h => by
    show (if v = (T i).natAbs then _ else _) = _
    rw [if_neg (fun e => h i (by omega) e.symm)]
    exact asg_none (fun j hj => h j (by omega))
theorem asg_at {i n : Nat} (hi : i < n) (hd : ∀ a b, a < b → b < n → (T a).natAbs ≠ (T b).natAbs) : asg T n (T i).natAbs = some (decide (0 < T i)) := by
  induction n with
  | zero => omega
  | succ n ih =>
    show (if (T i).natAbs = (T n).natAbs then _ else _) = _
    by_cases e : i = n
    · subst e; rw [if_pos rfl]
    · rw [if_neg (hd i n (by omega) (by omega))]
      exact ih (by omega) (fun a b h1 h2 => hd a b h1 (by omega))
theorem asg_some {v : Nat} : ∀ {i : Nat}, asg T i v ≠ none → ∃ j, j < i ∧ (T j).natAbs = v
  | 0, h => absurd rfl h
  | i + 1, h => by
    have h' : (if v = (T i).natAbs then some (decide (0 < T i)) else asg T i v) ≠ none := h
    by_cases e : v = (T i).natAbs
    · exact ⟨i, by omega, e.symm⟩
    · rw [if_neg e] at h'
      obtain ⟨j, j1, j2⟩ := asg_some h'
      exact ⟨j, by omega, j2⟩
/-- a longer TRAIL has what a shorter one has -/
theorem asg_sub {i n : Nat} (hin : i ≤ n) (hd : ∀ a b, a < b → b < n → (T a).natAbs ≠ (T b).natAbs) : subA V (asg T i) (asg T n) := fun v _ _ ne => by
  obtain ⟨j, j1, j2⟩ := asg_some ne
  subst j2
  rw [asg_at (by omega) hd, asg_at j1 (fun a b h1 h2 => hd a b h1 (by omega))]
theorem szl_le (j : Nat) : ∀ n, szl Lv j n ≤ n
  | 0 => Nat.le_refl _
  | n + 1 => by
    show (if j < Lv n then szl Lv j n else n + 1) ≤ _
    split
    · have := szl_le j n; omega
    · exact Nat.le_refl _
/-- those up to j are the first ones -/
theorem szl_eq {j i : Nat} : ∀ {n : Nat}, i ≤ n → (∀ k, i ≤ k → k < n → j < Lv k) → (∀ k, k < i → Lv k ≤ j) → szl Lv j n = i
  | 0, h1, _, _ => by
    show 0 = i
    omega
  | n + 1, h1, h2, h3 => by
    show (if j < Lv n then szl Lv j n else n + 1) = i
    by_cases e : i = n + 1
    · subst e
      rw [if_neg (by have := h3 n (by omega); omega)]
    · rw [if_pos (h2 n (by omega) (by omega))]
      exact szl_eq (by omega) (fun k k1 k2 => h2 k k1 (by omega)) h3
theorem szl_in {j k : Nat} : ∀ {n : Nat}, (∀ a b, a ≤ b → b < n → Lv a ≤ Lv b) → k < n → (k < szl Lv j n ↔ Lv k ≤ j)
  | 0, _, hk => by omega
  | n + 1, hm, hk => by
    show (k < if j < Lv n then szl Lv j n else n + 1) ↔ _
    by_cases c : j < Lv n
    · rw [if_pos c]
      by_cases e : k = n
      · subst e
        have := szl_le (Lv := Lv) j k
        omega
      · exact szl_in (fun a b h1 h2 => hm a b h1 (by omega)) (by omega)
    · rw [if_neg c]
      have := hm k n (by omega) (by omega)
      omega
end ASG
theorem br_sub {V : Nat} {x : LN} {A B : AS} (h : ln_br V x A) (hs : subA V A B) : ln_br V x B := Nat.lt_of_le_of_lt (sm_le (fun v v1 v2 => nf_sub hs v1 v2)) h
theorem sm_addf (f g : Nat → Nat) : ∀ m, sm (fun u => f u + g u) m = sm f m + sm g m
  | 0 => rfl
  | m + 1 => by
    show sm (fun u => f u + g u) m + (f (m + 1) + g (m + 1)) = sm f m + f (m + 1) + (sm g m + g (m + 1))
    rw [sm_addf f g m]; omega
theorem sm_mulf (f : Nat → Nat) (c : Nat) : ∀ m, sm (fun u => f u * c) m = sm f m * c
  | 0 => (Nat.zero_mul c).symm
  | m + 1 => by
    show sm (fun u => f u * c) m + f (m + 1) * c = (sm f m + f (m + 1)) * c
    rw [sm_mulf f c m, Nat.add_mul]
/-- what may go: not false, no multiple -/
def wcond (R : LN) (A : AS) (v c u : Nat) : Prop := u ≠ v ∧ R.2 u ≠ 0 ∧ ¬ lwr (R.2 u) (A u) ∧ (R.2 u).natAbs % c ≠ 0
noncomputable def wcb (R : LN) (A : AS) (v c u : Nat) : Bool := @decide (wcond R A v c u) (Classical.propDecidable _)
theorem wcb_1 {R : LN} {A : AS} {v c u : Nat} (h : wcond R A v c u) : wcb R A v c u = true := @decide_eq_true _ (Classical.propDecidable _) h
theorem wcb_0 {R : LN} {A : AS} {v c u : Nat} (h : ¬ wcond R A v c u) : ¬ wcb R A v c u = true := fun w => h (@of_decide_eq_true _ (Classical.propDecidable _) w)
theorem wcb_of {R : LN} {A : AS} {v c u : Nat} (w : wcb R A v c u = true) : wcond R A v c u := @of_decide_eq_true _ (Classical.propDecidable _) w
noncomputable def wk (R : LN) (A : AS) (v c : Nat) : Nat → LN
  | 0 => R
  | u + 1 => if wcb R A v c (u + 1) = true then ln_wo (wk R A v c u) (u + 1) else wk R A v c u
noncomputable def wkt (R : LN) (A : AS) (v c : Nat) : Nat → List Nat
  | 0 => []
  | u + 1 => wkt R A v c u ++ (if wcb R A v c (u + 1) = true then [32, 120] ++ dec (u + 1) ++ [32, 119] else [])
/-- the reason, brought to where its LITERAL has 1 -/
noncomputable def rsn (V : Nat) (R : LN) (A : AS) (v : Nat) : LN := ln_cut (if (R.2 v).natAbs = 1 then wk R A v (R.2 v).natAbs V else ln_dv (wk R A v (R.2 v).natAbs V) (R.2 v).natAbs)
noncomputable def rst_t (V k : Nat) (R : LN) (A : AS) (v : Nat) : List Nat := [32] ++ dec k ++ wkt R A v (R.2 v).natAbs V ++ (if (R.2 v).natAbs = 1 then [] else [32] ++ dec (R.2 v).natAbs ++ [32, 100]) ++ [32, 115]
def tmx (R : LN) (a : Nat) : LN := if a = 1 then R else ln_tm R a
noncomputable def lkR (V : Nat) (X : Nat → LN) (T : Nat → Int) (Rs : Nat → Nat) (K : LN) (P : List Nat) (i : Nat) : Option (LN × List Nat) :=
  if K.2 (T i).natAbs * T i < 0 ∧ Rs i ≠ 0 then
    if (K.2 (T i).natAbs).natAbs = 1 ∨ fitb V (ln_tm (rsn V (X (Rs i)) (asg T i) (T i).natAbs) (K.2 (T i).natAbs).natAbs) = true then
      if fitb V (ln_sum V K (tmx (rsn V (X (Rs i)) (asg T i) (T i).natAbs) (K.2 (T i).natAbs).natAbs)) = true then
        some (ln_cut (ln_sum V K (tmx (rsn V (X (Rs i)) (asg T i) (T i).natAbs) (K.2 (T i).natAbs).natAbs)), P ++ rst_t V (Rs i) (X (Rs i)) (asg T i) (T i).natAbs ++ (if (K.2 (T i).natAbs).natAbs = 1 then [] else [32] ++ dec (K.2 (T i).natAbs).natAbs ++ [32, 42]) ++ [32, 43, 32, 115])
      else none
    else none
  else some (K, P)
section RES
variable {V : Nat} {R K M : LN} {A : AS} {v c : Nat}
theorem wk_2 (R : LN) (A : AS) (v c : Nat) : ∀ m u, (wk R A v c m).2 u = if 1 ≤ u ∧ u ≤ m ∧ wcb R A v c u = true then 0 else R.2 u
  | 0, u => by
    show R.2 u = _
    rw [if_neg (by omega)]
  | m + 1, u => by
    have ih := wk_2 R A v c m u
    show (if wcb R A v c (m + 1) = true then ln_wo (wk R A v c m) (m + 1) else wk R A v c m).2 u = _
    by_cases w : wcb R A v c (m + 1) = true
    · rw [if_pos w]
      show (if u = m + 1 then 0 else (wk R A v c m).2 u) = _
      by_cases e : u = m + 1
      · subst e
        rw [if_pos rfl, if_pos ⟨by omega, by omega, w⟩]
      · rw [if_neg e, ih]
        by_cases q : 1 ≤ u ∧ u ≤ m ∧ wcb R A v c u = true
        · rw [if_pos q, if_pos ⟨q.1, by omega, q.2.2⟩]
        · rw [if_neg q, if_neg (fun x => q ⟨x.1, by omega, x.2.2⟩)]
    · rw [if_neg w, ih]
      by_cases q : 1 ≤ u ∧ u ≤ m ∧ wcb R A v c u = true
      · rw [if_pos q, if_pos ⟨q.1, by omega, q.2.2⟩]
      · rw [if_neg q, if_neg (fun x => by
          by_cases e : u = m + 1
          · subst e; exact w x.2.2
          · exact q ⟨x.1, by omega, x.2.2⟩)]
theorem nf_eq {x y : LN} {u : Nat} (h : x.2 u = y.2 u) : ln_nf x A u = ln_nf y A u := by
  by_cases w : lwr (x.2 u) (A u)
  · rw [(ln_nf_if x A u).1 w, (ln_nf_if y A u).1 (by rw [← h]; exact w)]
  · rw [(ln_nf_if x A u).2 w, (ln_nf_if y A u).2 (by rw [← h]; exact w), h]
theorem nf_z {x : LN} {u : Nat} (h : x.2 u = 0) : ln_nf x A u = 0 := by
  have := nf_le x A u
  rw [h] at this
  exact Nat.le_zero.mp this
/-- weakening what is not false loses nothing -/
theorem wk_sl : ∀ m, m ≤ V → sm (ln_nf (wk R A v c m) A) V + R.1 ≤ sm (ln_nf R A) V + (wk R A v c m).1
  | 0, _ => Nat.le_refl _
  | m + 1, hm => by
    have ih := wk_sl m (by omega)
    show sm (ln_nf (if wcb R A v c (m + 1) = true then ln_wo (wk R A v c m) (m + 1) else wk R A v c m) A) V + R.1 ≤ sm (ln_nf R A) V + (if wcb R A v c (m + 1) = true then ln_wo (wk R A v c m) (m + 1) else wk R A v c m).1
    by_cases w : wcb R A v c (m + 1) = true
    · rw [if_pos w]
      obtain ⟨w1, w2, w3, w4⟩ := wcb_of w
      have e2 : (wk R A v c m).2 (m + 1) = R.2 (m + 1) := by rw [wk_2, if_neg (by omega)]
      have en : ln_nf (wk R A v c m) A (m + 1) = (R.2 (m + 1)).natAbs := by rw [nf_eq (y := R) e2, (ln_nf_if R A (m + 1)).2 w3]
      have h1 := sm_one (f := ln_nf (ln_wo (wk R A v c m) (m + 1)) A) (g := ln_nf (wk R A v c m) A) (k := (R.2 (m + 1)).natAbs) (u := m + 1) (m := V) (by omega) hm (fun u u1 u2 => by
        by_cases e : u = m + 1
        · subst e
          rw [nf_z (by show (if m + 1 = m + 1 then (0 : Int) else _) = 0; rw [if_pos rfl])]
          exact Nat.zero_le _
        · rw [nf_eq (y := wk R A v c m) (by show (if u = m + 1 then (0 : Int) else (wk R A v c m).2 u) = _; rw [if_neg e])]
          exact Nat.le_refl _) (by
        rw [nf_z (by show (if m + 1 = m + 1 then (0 : Int) else _) = 0; rw [if_pos rfl]), en]
        omega)
      show sm (ln_nf (ln_wo (wk R A v c m) (m + 1)) A) V + R.1 ≤ sm (ln_nf R A) V + ((wk R A v c m).1 - ((wk R A v c m).2 (m + 1)).natAbs)
      rw [e2]
      omega
    · rw [if_neg w]
      exact ih
theorem dv_sign {z : Int} {c : Nat} (hc : c ≠ 0) {a : Option Bool} : lwr (z.sign * (cdv z.natAbs c : Int)) a ↔ lwr z a := by
  have h := sgI_dv (z := z) hc
  have e := h.1
  unfold lwr
  have k : ∀ {x y : Int}, sgI x = sgI y → ((0 < x ↔ 0 < y) ∧ (x < 0 ↔ y < 0)) := by
    intro x y q
    rcases Int.lt_trichotomy x 0 with a | a | a <;> rcases Int.lt_trichotomy y 0 with b | b | b
    · exact ⟨by omega, by omega⟩
    · rw [sgI_neg a, b] at q; exact absurd q (by decide)
    · rw [sgI_neg a, sgI_pos b] at q; exact absurd q (by decide)
    · rw [sgI_neg b, a] at q; exact absurd q (by decide)
    · exact ⟨by omega, by omega⟩
    · rw [sgI_pos b, a] at q; exact absurd q (by decide)
    · rw [sgI_pos a, sgI_neg b] at q; exact absurd q (by decide)
    · rw [sgI_pos a, b] at q; exact absurd q (by decide)
    · exact ⟨by omega, by omega⟩
  obtain ⟨k1, k2⟩ := k e
  rw [k1, k2]
theorem cdv_mul {a c : Nat} (hc : c ≠ 0) (h : a % c = 0) : cdv a c * c = a := by
  unfold cdv
  rw [if_pos h, Nat.add_zero, Nat.mul_comm]
  have := Nat.div_add_mod a c
  omega
theorem cdv_ge (a c : Nat) (hc : c ≠ 0) : a ≤ cdv a c * c := by
  unfold cdv
  have h := Nat.div_add_mod a c
  have hl := Nat.mod_lt a (Nat.pos_of_ne_zero hc)
  split
  · rw [Nat.add_zero, Nat.mul_comm]; omega
  · rw [Nat.add_mul, Nat.one_mul, Nat.mul_comm (a / c)]
    omega
/-- behind division: at most the DEGREE is not false -/
theorem dv_sl (hv1 : 1 ≤ v) (hv2 : v ≤ V) (hc : c = (R.2 v).natAbs) (hf : ln_fc V R A v) : sm (ln_nf (ln_dv (wk R A v c V) c) A) V ≤ (ln_dv (wk R A v c V) c).1 ∧ 1 ≤ (ln_dv (wk R A v c V) c).1 := by
  obtain ⟨f1, f2, f3⟩ := hf
  have c0 : c ≠ 0 := by omega
  have h1 := wk_sl (R := R) (A := A) (v := v) (c := c) V (Nat.le_refl V)
  have hsum : sm (fun u => ln_nf (ln_dv (wk R A v c V) c) A u * c) V = sm (ln_nf (wk R A v c V) A) V := sm_congr (fun u u1 u2 => by
    show ln_nf (ln_dv (wk R A v c V) c) A u * c = ln_nf (wk R A v c V) A u
    have ed : (ln_dv (wk R A v c V) c).2 u = ((wk R A v c V).2 u).sign * (cdv ((wk R A v c V).2 u).natAbs c : Int) := rfl
    by_cases w : lwr ((wk R A v c V).2 u) (A u)
    · rw [(ln_nf_if _ A u).1 w, (ln_nf_if (ln_dv (wk R A v c V) c) A u).1 (by rw [ed]; exact (dv_sign c0).mpr w), Nat.zero_mul]
    · rw [(ln_nf_if _ A u).2 w, (ln_nf_if (ln_dv (wk R A v c V) c) A u).2 (fun x => w ((dv_sign c0).mp (by rw [ed] at x; exact x))), ed, (sgI_dv c0).2]
      apply cdv_mul c0
      rw [wk_2] at w ⊢
      by_cases q : 1 ≤ u ∧ u ≤ V ∧ wcb R A v c u = true
      · rw [if_pos q]; exact Nat.zero_mod c
      · rw [if_neg q] at w ⊢
        by_cases e : u = v
        · subst e
          rw [← hc]; exact Nat.mod_self c
        · by_cases z : R.2 u = 0
          · rw [z]; exact Nat.zero_mod c
          · apply Classical.byContradiction
            intro nm
            exact q ⟨u1, u2, wcb_1 ⟨e, z, w, nm⟩⟩)
  rw [sm_mulf] at hsum
  have hd : (wk R A v c V).1 ≤ (ln_dv (wk R A v c V) c).1 * c := cdv_ge _ _ c0
  have hle : sm (ln_nf (ln_dv (wk R A v c V) c) A) V ≤ (ln_dv (wk R A v c V) c).1 := by
    generalize sm (ln_nf (ln_dv (wk R A v c V) c) A) V = S at *
    generalize (ln_dv (wk R A v c V) c).1 = D at *
    apply Classical.byContradiction
    intro hno
    have h5 : (D + 1) * c ≤ S * c := Nat.mul_le_mul_right c (by omega)
    rw [Nat.add_mul, Nat.one_mul] at h5
    omega
  refine ⟨hle, ?_⟩
  have nv : ln_nf (ln_dv (wk R A v c V) c) A v = 1 := by
    have ed : (ln_dv (wk R A v c V) c).2 v = ((wk R A v c V).2 v).sign * (cdv ((wk R A v c V).2 v).natAbs c : Int) := rfl
    rw [(ln_nf_if _ A v).2 (fun w => by
      unfold lwr at w
      rw [f1] at w
      rcases w with w | w
      · cases w.2
      · cases w.2), ed, (sgI_dv c0).2, wk_2, if_neg (fun w => (wcb_of w.2.2).1 rfl), ← hc]
    have := cdv_mul c0 (Nat.mod_self c)
    have hc1 : cdv c c = 1 := by
      unfold cdv
      rw [if_pos (Nat.mod_self c), Nat.div_self (Nat.pos_of_ne_zero c0)]
    exact hc1
  have := sm_one (f := fun _ => 0) (g := ln_nf (ln_dv (wk R A v c V) c) A) (k := 1) (u := v) (m := V) hv1 hv2 (fun _ _ _ => Nat.zero_le _) (by rw [nv]; exact Nat.le_refl _)
  omega
theorem dv_1 (x : LN) : ln_dv x 1 = x := by
  have e : ∀ a, cdv a 1 = a := fun a => by
    unfold cdv
    rw [Nat.mod_one, if_pos rfl, Nat.div_one, Nat.add_zero]
  unfold ln_dv
  rw [e]
  show (x.1, fun u => (x.2 u).sign * ((cdv (x.2 u).natAbs 1 : Nat) : Int)) = x
  have : (fun u => (x.2 u).sign * ((cdv (x.2 u).natAbs 1 : Nat) : Int)) = x.2 := by
    funext u
    rw [e]
    exact Int.sign_mul_natAbs (x.2 u)
  rw [this]
theorem cut_sgI (x : LN) (u : Nat) (h : 1 ≤ x.1) : sgI ((ln_cut x).2 u) = sgI (x.2 u) ∧ ((ln_cut x).2 u).natAbs = min (x.2 u).natAbs x.1 := by
  show sgI ((x.2 u).sign * (min (x.2 u).natAbs x.1 : Nat)) = _ ∧ Int.natAbs ((x.2 u).sign * (min (x.2 u).natAbs x.1 : Nat)) = _
  rcases Int.lt_trichotomy (x.2 u) 0 with c | c | c
  · rw [Int.sign_eq_neg_one_of_neg c, sgI_neg c]
    have : 1 ≤ min (x.2 u).natAbs x.1 := by omega
    exact ⟨sgI_neg (by omega), by omega⟩
  · rw [c]; simp [sgI]
  · rw [Int.sign_eq_one_of_pos c, sgI_pos c]
    have : 1 ≤ min (x.2 u).natAbs x.1 := by omega
    exact ⟨sgI_pos (by omega), by omega⟩
/-- a CUT makes no LITERAL greater -/
theorem cut_nf (x : LN) (u : Nat) : ln_nf (ln_cut x) A u ≤ ln_nf x A u := by
  by_cases w : lwr (x.2 u) (A u)
  · have hw : lwr ((ln_cut x).2 u) (A u) ∨ (ln_cut x).2 u = 0 := by
      by_cases h : 1 ≤ x.1
      · have e := (cut_sgI x u h).1
        left
        rcases w with ⟨w1, w2⟩ | ⟨w1, w2⟩
        · rw [sgI_pos w1] at e
          refine Or.inl ⟨?_, w2⟩
          rcases Int.lt_trichotomy ((ln_cut x).2 u) 0 with c | c | c
          · rw [sgI_neg c] at e; exact absurd e (by decide)
          · rw [c] at e; exact absurd e (by decide)
          · exact c
        · rw [sgI_neg w1] at e
          refine Or.inr ⟨?_, w2⟩
          rcases Int.lt_trichotomy ((ln_cut x).2 u) 0 with c | c | c
          · exact c
          · rw [c] at e; exact absurd e (by decide)
          · rw [sgI_pos c] at e; exact absurd e (by decide)
      · right
        show (x.2 u).sign * (min (x.2 u).natAbs x.1 : Nat) = 0
        rw [show x.1 = 0 by omega, Nat.min_zero]
        simp
    rcases hw with q | q
    · rw [(ln_nf_if _ A u).1 q]; exact Nat.zero_le _
    · rw [nf_z q]; exact Nat.zero_le _
  · rw [(ln_nf_if x A u).2 w]
    exact Nat.le_trans (nf_le _ A u) (cut_abs x u)
/-- the reason as it is: 1 of its LITERAL, nothing to lose -/
theorem rsn_sl (hv1 : 1 ≤ v) (hv2 : v ≤ V) (hf : ln_fc V R A v) : sm (ln_nf (rsn V R A v) A) V ≤ (rsn V R A v).1 ∧ ((rsn V R A v).2 v).natAbs = 1 ∧ sgI ((rsn V R A v).2 v) = sgI (R.2 v) := by
  have c0 : (R.2 v).natAbs ≠ 0 := by have := hf.2.1; omega
  have e : rsn V R A v = ln_cut (ln_dv (wk R A v (R.2 v).natAbs V) (R.2 v).natAbs) := by
    unfold rsn
    by_cases q : (R.2 v).natAbs = 1
    · rw [if_pos q, q, dv_1]
    · rw [if_neg q]
  obtain ⟨h1, h2⟩ := dv_sl (R := R) (A := A) hv1 hv2 rfl hf
  rw [e]
  obtain ⟨k1, k2⟩ := cut_sgI (ln_dv (wk R A v (R.2 v).natAbs V) (R.2 v).natAbs) v h2
  have ewv : (wk R A v (R.2 v).natAbs V).2 v = R.2 v := by rw [wk_2, if_neg (fun w => (wcb_of w.2.2).1 rfl)]
  have ed : (ln_dv (wk R A v (R.2 v).natAbs V) (R.2 v).natAbs).2 v = (R.2 v).sign * (cdv (R.2 v).natAbs (R.2 v).natAbs : Int) := by
    show ((wk R A v (R.2 v).natAbs V).2 v).sign * (cdv ((wk R A v (R.2 v).natAbs V).2 v).natAbs (R.2 v).natAbs : Int) = _
    rw [ewv]
  have hc1 : cdv (R.2 v).natAbs (R.2 v).natAbs = 1 := by
    unfold cdv
    rw [if_pos (Nat.mod_self _), Nat.div_self (Nat.pos_of_ne_zero c0)]
  refine ⟨Nat.le_trans (sm_le (fun u _ _ => cut_nf _ u)) h1, ?_, ?_⟩
  · rw [k2, ed, (sgI_dv c0).2, hc1]
    omega
  · rw [k1, ed, (sgI_dv c0).1]
end RES
