/-! One step of the SEARCH, as a function -/
abbrev SS : Type := (Nat × Nat × Nat × Nat × Nat) × (Nat × (Nat → Int) × (Nat → Nat) × (Nat → Nat) × (Nat → Bool)) × List Nat × (Nat × (Nat → LN) × (Nat → Nat))
noncomputable def brb (V : Nat) (x : LN) (A : AS) : Bool := @decide (ln_br V x A) (Classical.propDecidable _)
theorem brb_1 {V : Nat} {x : LN} {A : AS} (h : ln_br V x A) : brb V x A = true := @decide_eq_true _ (Classical.propDecidable _) h
theorem brb_0 {V : Nat} {x : LN} {A : AS} (h : ¬ ln_br V x A) : ¬ brb V x A = true := fun w => h (@of_decide_eq_true _ (Classical.propDecidable _) w)
noncomputable def fcb (V : Nat) (x : LN) (A : AS) (v : Nat) : Bool := @decide (ln_fc V x A v) (Classical.propDecidable _)
theorem fcb_1 {V : Nat} {x : LN} {A : AS} {v : Nat} (h : ln_fc V x A v) : fcb V x A v = true := @decide_eq_true _ (Classical.propDecidable _) h
theorem fcb_0 {V : Nat} {x : LN} {A : AS} {v : Nat} (h : ¬ ln_fc V x A v) : ¬ fcb V x A v = true := fun w => h (@of_decide_eq_true _ (Classical.propDecidable _) w)
/-- the first LINE that is not quiet -/
noncomputable def fnq (V : Nat) (X : Nat → LN) (A : AS) : Nat → Nat → Option Nat
  | 0, _ => none
  | f + 1, k => if nqb V (X k) A = true then some k else fnq V X A f (k + 1)
/-- the least VARIABLE that it FORCES -/
noncomputable def lfv (V : Nat) (x : LN) (A : AS) : Nat → Nat → Nat
  | 0, v => v
  | f + 1, v => if fcb V x A v = true then v else lfv V x A f (v + 1)
/-- the least VARIABLE without a value -/
def lun (A : AS) : Nat → Nat → Nat
  | 0, v => v
  | f + 1, v => if (A v).isSome = true then lun A f (v + 1) else v
theorem lfv_at {V : Nat} {x : LN} {A : AS} {u : Nat} : ∀ {f v : Nat}, v ≤ u → u < v + f → ln_fc V x A u → (∀ w, v ≤ w → w < u → ¬ ln_fc V x A w) → lfv V x A f v = u := by
  intro f
  induction f with
  | zero => intro v a b _ _; omega
  | succ f ih =>
    intro v a b hu hw
    show (if fcb V x A v = true then v else lfv V x A f (v + 1)) = u
    by_cases e : v = u
    · subst e; rw [if_pos (fcb_1 hu)]
    · rw [if_neg (fcb_0 (hw v (Nat.le_refl _) (by omega)))]
      exact ih (by omega) (by omega) hu (fun w w1 w2 => hw w (by omega) w2)
theorem lun_at {A : AS} {u : Nat} : ∀ {f v : Nat}, v ≤ u → u < v + f → A u = none → (∀ w, v ≤ w → w < u → A w ≠ none) → lun A f v = u := by
  intro f
  induction f with
  | zero => intro v a b _ _; omega
  | succ f ih =>
    intro v a b hu hw
    show (if (A v).isSome = true then lun A f (v + 1) else v) = u
    by_cases e : v = u
    · subst e; rw [hu]; rfl
    · have : (A v).isSome = true := by
        cases q : A v with
        | none => exact absurd q (hw v (Nat.le_refl _) (by omega))
        | some b => rfl
      rw [if_pos this]
      exact ih (by omega) (by omega) hu (fun w w1 w2 => hw w (by omega) w2)
theorem fnq_at {V : Nat} {X : Nat → LN} {A : AS} {u : Nat} : ∀ {f v : Nat}, v ≤ u → u < v + f → ¬ quiet V (X u) A → (∀ w, v ≤ w → w < u → quiet V (X w) A) → fnq V X A f v = some u := by
  intro f
  induction f with
  | zero => intro v a b _ _; omega
  | succ f ih =>
    intro v a b hu hw
    show (if nqb V (X v) A = true then some v else fnq V X A f (v + 1)) = some u
    by_cases e : v = u
    · subst e; rw [if_pos (nqb_1 hu)]
    · rw [if_neg (nqb_0 (hw v (Nat.le_refl _) (by omega)))]
      exact ih (by omega) (by omega) hu (fun w w1 w2 => hw w (by omega) w2)
theorem fnq_no {V : Nat} {X : Nat → LN} {A : AS} : ∀ {f v : Nat}, (∀ w, v ≤ w → w < v + f → quiet V (X w) A) → fnq V X A f v = none := by
  intro f
  induction f with
  | zero => intro v _; rfl
  | succ f ih =>
    intro v hw
    show (if nqb V (X v) A = true then some v else fnq V X A f (v + 1)) = none
    rw [if_neg (nqb_0 (hw v (Nat.le_refl _) (by omega)))]
    exact ih (fun w w1 w2 => hw w (by omega) (by omega))
/-- a LITERAL more on the TRAIL -/
def psh (t : Nat × (Nat → Int) × (Nat → Nat) × (Nat → Nat) × (Nat → Bool)) (z : Int) (l k : Nat) : Nat × (Nat → Int) × (Nat → Nat) × (Nat → Nat) × (Nat → Bool) :=
  (t.1 + 1, iput t.2.1 t.1 z, un t.2.2.1 t.1 l, un t.2.2.2.1 t.1 k, fun v => if v = z.natAbs then decide (0 < z) else t.2.2.2.2 v)
/-- what is learnt from LINE k -/
noncomputable def lrn (V k : Nat) (s : SS) : SS :=
  match rsv V s.2.2.2.2.1 s.2.1.2.1 s.2.1.2.2.1 s.2.1.2.2.2.1 s.1.2.1 s.2.1.1 s.2.1.1 (s.2.2.2.2.1 k) (s.2.2.1 ++ [112, 32] ++ dec k) with
  | none => ((4, s.1.2.1, s.1.2.2.1, s.1.2.2.2.1, s.1.2.2.2.2 + 1), s.2)
  | some r =>
    if s.2.2.2.1 < 300 ∧ (r.2 ++ edt s.2.2.2.1 s.1.2.1).length ≤ 20000 then
      if s.1.2.1 = 0 then ((3, s.1.2.1, s.1.2.2.1, s.1.2.2.2.1 + 1, s.1.2.2.2.2 + 1), s.2.1, r.2 ++ edt s.2.2.2.1 s.1.2.1, s.2.2.2.1 + 1, lput s.2.2.2.2.1 (s.2.2.2.1 + 1) r.1, un s.2.2.2.2.2 (s.2.2.2.1 + 1) 4)
      else ((s.1.1, rdy V r.1 s.2.1.2.1 s.2.1.2.2.1 s.2.1.1 s.1.2.1 0, s.1.2.2.1, s.1.2.2.2.1 + 1, s.1.2.2.2.2 + 1), (szl s.2.1.2.2.1 (rdy V r.1 s.2.1.2.1 s.2.1.2.2.1 s.2.1.1 s.1.2.1 0) s.2.1.1, s.2.1.2), r.2 ++ edt s.2.2.2.1 s.1.2.1, s.2.2.2.1 + 1, lput s.2.2.2.2.1 (s.2.2.2.1 + 1) r.1, un s.2.2.2.2.2 (s.2.2.2.1 + 1) 4)
    else ((4, s.1.2.1, s.1.2.2.1, s.1.2.2.2.1, s.1.2.2.2.2 + 1), s.2)
/-- the LITERAL of v in x -/
def ltz (x : LN) (v : Nat) : Int := if 0 < x.2 v then (v : Int) else -(v : Int)
noncomputable def actS (V : Nat) (s : SS) : SS :=
  match fnq V s.2.2.2.2.1 (asg s.2.1.2.1 s.2.1.1) s.2.2.2.1 1 with
  | some k => if brb V (s.2.2.2.2.1 k) (asg s.2.1.2.1 s.2.1.1) = true then lrn V k s else ((s.1.1, s.1.2.1, s.1.2.2.1, s.1.2.2.2.1, s.1.2.2.2.2 + 1), psh s.2.1 (ltz (s.2.2.2.2.1 k) (lfv V (s.2.2.2.2.1 k) (asg s.2.1.2.1 s.2.1.1) V 1)) s.1.2.1 k, s.2.2)
  | none => if s.2.1.1 < V then ((s.1.1, s.1.2.1 + 1, s.1.2.2.1 + 1, s.1.2.2.2.1, s.1.2.2.2.2 + 1), psh s.2.1 (if s.2.1.2.2.2.2 (lun (asg s.2.1.2.1 s.2.1.1) V 1) = true then (lun (asg s.2.1.2.1 s.2.1.1) V 1 : Int) else -(lun (asg s.2.1.2.1 s.2.1.1) V 1 : Int)) (s.1.2.1 + 1) 0, s.2.2) else ((2, s.1.2.1, s.1.2.2.1, s.1.2.2.2.1, s.1.2.2.2.2 + 1), s.2)
section TVP
variable {V m m' : Nat} {X X' : Nat → LN} {T : Nat → Int} {Lv Rs : Nat → Nat} {lv ts k : Nat} {z : Int}
theorem iput_lt {i n : Nat} (h : i < n) : iput T n z i = T i := by unfold iput; rw [if_neg (by omega)]
theorem iput_at : iput T ts z ts = z := by unfold iput; rw [if_pos rfl]
theorem un_lt {f : Nat → Nat} {i n l : Nat} (h : i < n) : un f n l i = f i := by unfold un; rw [if_neg (by omega)]
theorem un_at {f : Nat → Nat} {n l : Nat} : un f n l n = l := by unfold un; rw [if_pos rfl]
theorem asg_iput : ∀ n, n ≤ ts → asg (iput T ts z) n = asg T n := by
  intro n
  induction n with
  | zero => intro _; rfl
  | succ n ih =>
    intro hn
    funext u
    show (if u = (iput T ts z n).natAbs then some (decide (0 < iput T ts z n)) else asg (iput T ts z) n u) = (if u = (T n).natAbs then some (decide (0 < T n)) else asg T n u)
    rw [iput_lt (by omega), ih (by omega)]
theorem TV_X (hT : TV V m X T Lv Rs lv ts) (hm : m ≤ m') (hX : ∀ k, 1 ≤ k → k ≤ m → X' k = X k) : TV V m' X' T Lv Rs lv ts := by
  obtain ⟨t1, t2, t3, t4, t5, t6, t7⟩ := hT
  refine ⟨t1, t2, t3, t4, t5, fun i hi => ?_, t7⟩
  obtain ⟨a, b, c⟩ := t6 i hi
  refine ⟨by omega, b, fun e => ?_⟩
  rw [hX (Rs i) (by omega) a]
  exact c e
theorem TV_0 : TV V m X T Lv Rs 0 0 := ⟨Nat.zero_le _, fun i hi => by omega, fun i j _ hj => by omega, fun i hi => by omega, fun i j _ hj => by omega, fun i hi => by omega, fun l l1 l2 => by omega⟩
theorem TV_cut {r : Nat} (hT : TV V m X T Lv Rs lv ts) (hr : r ≤ lv) : TV V m X T Lv Rs r (szl Lv r ts) := by
  obtain ⟨t1, t2, t3, t4, t5, t6, t7⟩ := hT
  have hle := szl_le (Lv := Lv) r ts
  have hin : ∀ i, i < ts → (i < szl Lv r ts ↔ Lv i ≤ r) := fun i hi => szl_in t5 hi
  refine ⟨by omega, fun i hi => t2 i (by omega), fun i j a b => t3 i j a (by omega), fun i hi => (hin i (by omega)).mp hi, fun i j a b => t5 i j a (by omega), fun i hi => t6 i (by omega), fun l l1 l2 => ?_⟩
  obtain ⟨i, a, b, c⟩ := t7 l l1 (by omega)
  exact ⟨i, (hin i a).mpr (by omega), b, c⟩
theorem TV_new (hT : TV V m X T Lv Rs lv ts) {l : Nat} (hts : ts < V) (z1 : 1 ≤ z.natAbs) (z2 : z.natAbs ≤ V) (hn : asg T ts z.natAbs = none) (hl : lv ≤ l) (hk : k ≤ m) (h0 : k = 0 → l = lv + 1) (h1 : k ≠ 0 → l = lv ∧ ln_fc V (X k) (asg T ts) z.natAbs ∧ (0 < (X k).2 z.natAbs ↔ 0 < z)) : TV V m X (iput T ts z) (un Lv ts l) (un Rs ts k) l (ts + 1) := by
  obtain ⟨t1, t2, t3, t4, t5, t6, t7⟩ := hT
  refine ⟨by omega, fun i hi => ?_, fun i j a b => ?_, fun i hi => ?_, fun i j a b => ?_, fun i hi => ?_, fun l' l1 l2 => ?_⟩
  · by_cases e : i = ts
    · subst e; rw [iput_at]; exact ⟨z1, z2⟩
    · rw [iput_lt (by omega)]; exact t2 i (by omega)
  · rw [iput_lt (show i < ts by omega)]
    by_cases e : j = ts
    · subst e
      rw [iput_at]
      intro w
      have := asg_at (T := T) a t3
      rw [w, hn] at this
      cases this
    · rw [iput_lt (by omega)]; exact t3 i j a (by omega)
  · by_cases e : i = ts
    · subst e; rw [un_at]; exact Nat.le_refl _
    · rw [un_lt (by omega)]; have := t4 i (by omega); omega
  · by_cases e : j = ts
    · subst e
      rw [un_at]
      by_cases e2 : i = j
      · subst e2; rw [un_at]; exact Nat.le_refl _
      · rw [un_lt (by omega)]; have := t4 i (by omega); omega
    · rw [un_lt (show i < ts by omega), un_lt (show j < ts by omega)]; exact t5 i j a (by omega)
  · by_cases e : i = ts
    · subst e
      rw [un_at, un_at, iput_at, asg_iput i (Nat.le_refl _)]
      refine ⟨hk, fun w => ?_, fun w => (h1 w).2⟩
      have := h0 w
      refine ⟨by omega, fun j hj => ?_⟩
      rw [un_lt hj]
      have := t4 j hj
      omega
    · have hi' : i < ts := by omega
      rw [un_lt hi', un_lt hi', iput_lt hi', asg_iput i (by omega)]
      obtain ⟨a, b, c⟩ := t6 i hi'
      refine ⟨a, fun w => ⟨(b w).1, fun j hj => ?_⟩, c⟩
      rw [un_lt (show j < ts by omega)]
      exact (b w).2 j hj
  · by_cases e : l' ≤ lv
    · obtain ⟨i, a, b, c⟩ := t7 l' l1 e
      exact ⟨i, by omega, by rw [un_lt a]; exact b, by rw [un_lt a]; exact c⟩
    · by_cases ek : k = 0
      · have := h0 ek
        exact ⟨ts, by omega, by rw [un_at]; omega, by rw [un_at]; exact ek⟩
      · have := (h1 ek).1
        omega
end TVP
