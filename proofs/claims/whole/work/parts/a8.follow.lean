/-! What follows by FORCING -/
def quiet (V : Nat) (x : LN) (A : AS) : Prop := ¬ ln_br V x A ∧ ∀ v, 1 ≤ v → v ≤ V → ¬ ln_fc V x A v
/-- the LINE itself has number 0: its OPPOSITE -/
def lnx (V : Nat) (X : Nat → LN) (y : LN) (k : Nat) : LN := if k = 0 then ln_op V y else X k
def clo (V m : Nat) (X : Nat → LN) (y : LN) (A : AS) : Prop := ∀ k, k ≤ m → quiet V (lnx V X y k) A
def flw (V m : Nat) (X : Nat → LN) (y : LN) : Prop := ¬ ∃ A, clo V m X y A
def subA (V : Nat) (A B : AS) : Prop := ∀ v, 1 ≤ v → v ≤ V → A v ≠ none → B v = A v
theorem subA_refl (V : Nat) (A : AS) : subA V A A := fun _ _ _ _ => rfl
section FLW
variable {V : Nat} {x : LN} {A B : AS}
theorem nf_sub (hs : subA V A B) {v : Nat} (v1 : 1 ≤ v) (v2 : v ≤ V) : ln_nf x B v ≤ ln_nf x A v := by
  by_cases c : lwr (x.2 v) (A v)
  · have ne : A v ≠ none := fun e => by
      rw [e] at c
      rcases c with c | c
      · cases c.2
      · cases c.2
    have e := hs v v1 v2 ne
    rw [(ln_nf_if x B v).1 (by rw [e]; exact c)]
    exact Nat.zero_le _
  · rw [(ln_nf_if x A v).2 c]
    exact nf_le x B v
/-- a closed ASSIGNMENT has all that is FORCED -/
theorem fc_in (hq : quiet V x B) (hs : subA V A B) : ¬ ln_br V x A ∧ ∀ v, 1 ≤ v → v ≤ V → ln_fc V x A v → B v = some (decide (0 < x.2 v)) := by
  have hle : sm (ln_nf x B) V ≤ sm (ln_nf x A) V := sm_le (fun v v1 v2 => nf_sub hs v1 v2)
  refine ⟨fun w => hq.1 (Nat.lt_of_le_of_lt hle w), fun v v1 v2 w => ?_⟩
  obtain ⟨w1, w2, w3⟩ := w
  cases hB : B v with
  | none => exact absurd ⟨hB, w2, Nat.lt_of_le_of_lt hle w3⟩ (hq.2 v v1 v2)
  | some t =>
    by_cases c : lwr (x.2 v) (B v)
    · exfalso
      have n1 : ln_nf x B v = 0 := (ln_nf_if x B v).1 c
      have n2 : ln_nf x A v = (x.2 v).natAbs := (ln_nf_if x A v).2 (fun w => by
        rw [w1] at w
        rcases w with w | w
        · cases w.2
        · cases w.2)
      have := sm_one (f := ln_nf x B) (g := ln_nf x A) (k := (x.2 v).natAbs) (u := v) (m := V) v1 v2 (fun u u1 u2 => nf_sub hs u1 u2) (by rw [n1, n2]; omega)
      apply hq.1
      unfold ln_br
      omega
    · rw [hB] at c
      by_cases p : 0 < x.2 v
      · rw [decide_eq_true p]
        cases t
        · exact absurd (Or.inl ⟨p, rfl⟩) c
        · rfl
      · rw [decide_eq_false p]
        cases t
        · rfl
        · exact absurd (Or.inr ⟨by omega, rfl⟩) c
/-- how many have no value -/
def cnt (A : AS) (V : Nat) : Nat := sm (fun v => if A v = none then 1 else 0) V
theorem cnt_le (A : AS) (V : Nat) : cnt A V ≤ V := by
  have := sm_bound (g := fun v => if A v = none then 1 else 0) (K := 1) (m := V) (fun v _ _ => by
    show (if A v = none then 1 else 0) ≤ 1
    split <;> omega)
  unfold cnt
  omega
theorem cnt_lt (hs : subA V A B) {v : Nat} (v1 : 1 ≤ v) (v2 : v ≤ V) (h1 : A v = none) (h2 : B v ≠ none) : cnt B V + 1 ≤ cnt A V := by
  refine sm_one (u := v) v1 v2 (fun u u1 u2 => ?_) ?_
  · show (if B u = none then 1 else 0) ≤ (if A u = none then 1 else 0)
    by_cases c : A u = none
    · rw [if_pos c]
      split <;> omega
    · have e := hs u u1 u2 c
      rw [if_neg (by rw [e]; exact c)]
      exact Nat.zero_le _
  · show (if B v = none then 1 else 0) + 1 ≤ (if A v = none then 1 else 0)
    rw [if_neg h2, if_pos h1]
    exact Nat.le_refl _
/-- values with what is FORCED -/
def fcA (x : LN) (A : AS) (z : Int32) : AS := fun v => if bt z v = true then some (decide (0 < x.2 v)) else A v
theorem fcA_sub {z : Int32} (hz : ∀ v, 1 ≤ v → (bt z v = true ↔ v ≤ V ∧ ln_fc V x A v)) : subA V A (fcA x A z) := fun v v1 v2 ne => by
  unfold fcA
  rw [if_neg (fun w => ne ((hz v v1).mp w).2.1)]
theorem fcA_in {z : Int32} (hz : ∀ v, 1 ≤ v → (bt z v = true ↔ v ≤ V ∧ ln_fc V x A v)) (hq : quiet V x B) (hs : subA V A B) : subA V (fcA x A z) B := fun v v1 v2 ne => by
  unfold fcA at ne ⊢
  by_cases c : bt z v = true
  · rw [if_pos c]
    exact (fc_in hq hs).2 v v1 v2 ((hz v v1).mp c).2
  · rw [if_neg c] at ne ⊢
    exact hs v v1 v2 ne
theorem fcA_AB {z t fl p n : Int32} (hz : ∀ v, 1 ≤ v → (bt z v = true ↔ v ≤ V ∧ ln_fc V x A v)) (hA : AB V A t fl) (hp : ∀ v, 1 ≤ v → (bt p v = true ↔ v ≤ V ∧ 0 < x.2 v)) (hn : ∀ v, 1 ≤ v → (bt n v = true ↔ v ≤ V ∧ x.2 v < 0)) : AB V (fcA x A z) (t ||| z &&& p) (fl ||| z &&& n) := fun v v1 v2 => by
  obtain ⟨a1, a2⟩ := hA v v1 v2
  have b1 : bt (t ||| z &&& p) v = (bt t v || (bt z v && bt p v)) := by rw [bt_or2, bt_and2]
  have b2 : bt (fl ||| z &&& n) v = (bt fl v || (bt z v && bt n v)) := by rw [bt_or2, bt_and2]
  rw [b1, b2]
  unfold fcA
  by_cases c : bt z v = true
  · have f := ((hz v v1).mp c).2
    rw [if_pos c, c]
    have t1 : bt t v = false := by
      cases e : bt t v
      · rfl
      · have := a1.mp e
        rw [f.1] at this
        cases this
    have t2 : bt fl v = false := by
      cases e : bt fl v
      · rfl
      · have := a2.mp e
        rw [f.1] at this
        cases this
    rw [t1, t2]
    have q1 := hp v v1
    have q2 := hn v v1
    have ne := f.2.1
    by_cases s : 0 < x.2 v
    · rw [decide_eq_true s, q1.mpr ⟨v2, s⟩]
      have : bt n v = false := by
        cases e : bt n v
        · rfl
        · have := (q2.mp e).2; omega
      rw [this]
      decide
    · rw [decide_eq_false s, q2.mpr ⟨v2, by omega⟩]
      have : bt p v = false := by
        cases e : bt p v
        · rfl
        · exact absurd (q1.mp e).2 s
      rw [this]
      decide
  · rw [if_neg c]
    have c' : bt z v = false := by
      cases e : bt z v
      · rfl
      · exact absurd e c
    rw [c', Bool.false_and, Bool.or_false, Bool.false_and, Bool.or_false]
    exact ⟨a1, a2⟩
end FLW
