/-! What is learnt is READY -/
theorem rsv_rdy {V m ts lv : Nat} {X : Nat → LN} {T : Nat → Int} {Lv Rs : Nat → Nat} (hT : TV V m X T Lv Rs lv ts) : ∀ n K P r, n ≤ ts → ln_br V K (asg T n) → rsv V X T Lv Rs lv ts n K P = some r → lv = 0 ∨ rdy V r.1 T Lv ts lv 0 < lv := by
  intro n
  induction n with
  | zero =>
    intro K P r hn hb h
    change some (K, P) = some r at h
    injection h with h
    subst h
    by_cases rd : rdy V K T Lv ts lv 0 < lv
    · exact Or.inr rd
    · left
      apply Classical.byContradiction
      intro w
      exact br0_nq hT hb 0 (rdy_no (f := lv) (j := 0) (by omega) 0 (by omega) (by omega))
  | succ n ih =>
    intro K P r hn hb h
    unfold rsv at h
    by_cases rd : rdy V K T Lv ts lv 0 < lv
    · rw [if_pos rd] at h
      injection h with h
      subst h
      exact Or.inr rd
    · rw [if_neg rd] at h
      have hRs : Rs n ≠ 0 := fun e => by
        obtain ⟨q1, q2, q3⟩ := choice_nq hT (by omega) e hb
        exact q3 (rdy_no (f := lv) (j := 0) (by omega) (Lv n - 1) (by omega) (by omega))
      cases e : lkR V X T Rs K P n with
      | none => rw [e] at h; cases h
      | some q =>
        rw [e] at h
        exact ih q.1 q.2 r (by omega) (lkR_br hT (by omega) hRs hb e) h
