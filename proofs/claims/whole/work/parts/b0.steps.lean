/-! STEPS: what they say -/
noncomputable def flwb (V m : Nat) (X : Nat → LN) (y : LN) : Bool := @decide (flw V m X y) (Classical.propDecidable _)
theorem flwb_1 {V m : Nat} {X : Nat → LN} {y : LN} (h : flw V m X y) : flwb V m X y = true := @decide_eq_true _ (Classical.propDecidable _) h
theorem flwb_0 {V m : Nat} {X : Nat → LN} {y : LN} (h : ¬ flw V m X y) : ¬ flwb V m X y = true := fun w => h (@of_decide_eq_true _ (Classical.propDecidable _) w)
/-- a u at st -/
noncomputable def sU (b : Nat → Nat) (n V m : Nat) (X : Nat → LN) (st : Nat) : Sum FL (Nat × LN) :=
  match sCnd b n V false (nxt b n st) with
  | .inl e => .inl e
  | .inr p => if m < 300 then (if flwb V m X (ln_of V p.2.2) = true then .inr (p.1, ln_of V p.2.2) else .inl (6, p.1)) else .inl (5, p.1)
/-- a c at st -/
noncomputable def sC (b : Nat → Nat) (n V m : Nat) (X : Nat → LN) (st : Nat) : Sum FL Nat :=
  if tkk b n (nxt b n st) = 48 then
    if 1 ≤ tkn b n (nxt b n st) ∧ tkn b n (nxt b n st) ≤ m then
      if tkk b n (nxt b n (nxt b n st)) = 59 then (if isF V (X (tkn b n (nxt b n st))) = 1 then .inr (nxt b n (nxt b n st)) else .inl (6, nxt b n (nxt b n st)))
      else .inl (1, nxt b n (nxt b n st))
    else .inl (2, nxt b n st)
  else .inl (1, nxt b n st)
abbrev SR : Type := Nat × Nat × (Nat → LN) × (Nat → Nat)
noncomputable def sStp (b : Nat → Nat) (n V st m : Nat) (X : Nat → LN) (og : Nat → Nat) : Sum FL SR :=
  if tkk b n st = 112 then (match sP b n V m X st with
    | .inl e => .inl e
    | .inr p => .inr (p.1, m + 1, lput X (m + 1) p.2, un og (m + 1) 2))
  else if tkk b n st = 117 then (match sU b n V m X st with
    | .inl e => .inl e
    | .inr p => .inr (p.1, m + 1, lput X (m + 1) p.2, un og (m + 1) 3))
  else if tkk b n st = 99 then (match sC b n V m X st with
    | .inl e => .inl e
    | .inr q => .inr (q, m, X, og))
  else .inl (1, st)
/-- all STEPS: how many were done, the FAULT, the LINES -/
noncomputable def sChk (b : Nat → Nat) (n V : Nat) : Nat → Nat → Nat → Nat → (Nat → LN) → (Nat → Nat) → Nat × Option FL × Nat × (Nat → LN) × (Nat → Nat)
  | 0, _, d, m, X, og => (d, none, m, X, og)
  | f + 1, st, d, m, X, og => if tkk b n st = 0 then (d, none, m, X, og) else match sStp b n V st m X og with
    | .inl e => (d, some e, m, X, og)
    | .inr r => sChk b n V f (nxt b n r.1) (d + 1) r.2.1 r.2.2.1 r.2.2.2
section STP
variable {V n m hg st : Nat} {b : Nat → Nat} {X S : Nat → LN} {og : Nat → Nat}
theorem iAll_le : ∀ {f st hg : Nat} {S : Nat → LN} {r : IT}, st ≤ n → n + 1 ≤ f + st → iAll b n V m X f st hg S = .inr r → st ≤ r.1 ∧ r.1 ≤ n ∧ tkk b n r.1 = 59
  | 0, st, hg, S, r, h1, h2, h3 => by omega
  | f + 1, st, hg, S, r, h1, h2, h3 => by
    by_cases c : tkk b n st = 59
    · have e : iAll b n V m X (f + 1) st hg S = .inr (st, hg, S) := by
        show (if _ then _ else _) = _
        rw [if_pos c]
      rw [e] at h3
      injection h3 with h3
      subst h3
      exact ⟨Nat.le_refl _, h1, c⟩
    · obtain ⟨s0, s1⟩ := iAll_step (b := b) (n := n) (V := V) (m := m) (X := X) (st := st) (hg := hg) (S := S) (f := f) c
      cases hO : iOne b n V m X st hg S with
      | inl e => rw [s0 e hO] at h3; cases h3
      | inr q =>
        rw [s1 q hO] at h3
        obtain ⟨q1, q2⟩ := iOne_le (st' := q.1) (hg' := q.2.1) (S' := q.2.2) h1 hO
        have := iAll_le (f := f) (st := q.1) q2 (by omega) h3
        omega
theorem sStp_le {r : SR} (hs : st ≤ n) (h : sStp b n V st m X og = .inr r) : st < r.1 ∧ r.1 ≤ n ∧ tkk b n r.1 = 59 ∧ nxt b n r.1 ≤ n ∧ r.1 < nxt b n r.1 := by
  have main : st < r.1 ∧ r.1 ≤ n ∧ tkk b n r.1 = 59 := by
    unfold sStp at h
    by_cases c1 : tkk b n st = 112
    · rw [if_pos c1] at h
      obtain ⟨q1, q2⟩ := nxt_le (b := b) hs (by omega : tkk b n st ≠ 1)
      have q3 := q2 (tkk_lt (b := b) (by omega))
      unfold sP at h
      cases hI : iAll b n V m X (n + 1) (nxt b n st) 0 X00 with
      | inl e => rw [hI] at h; cases h
      | inr u =>
        have := iAll_le (b := b) q1 (by omega) hI
        rw [hI] at h
        simp only at h
        split at h
        · cases h
        · rename_i p hp
          injection h with h
          subst h
          split at hp
          · split at hp
            · injection hp with hp
              subst hp
              simp only
              omega
            · cases hp
          · cases hp
    · rw [if_neg c1] at h
      by_cases c2 : tkk b n st = 117
      · rw [if_pos c2] at h
        obtain ⟨q1, q2⟩ := nxt_le (b := b) hs (by omega : tkk b n st ≠ 1)
        have q3 := q2 (tkk_lt (b := b) (by omega))
        unfold sU at h
        cases hI : sCnd b n V false (nxt b n st) with
        | inl e => rw [hI] at h; cases h
        | inr u =>
          have := sCnd_le (st1 := u.1) (k := u.2.1) (t := u.2.2) q1 hI
          rw [hI] at h
          simp only at h
          split at h
          · cases h
          · rename_i p hp
            injection h with h
            subst h
            split at hp
            · split at hp
              · injection hp with hp
                subst hp
                simp only
                omega
              · cases hp
            · cases hp
      · rw [if_neg c2] at h
        by_cases c3 : tkk b n st = 99
        · rw [if_pos c3] at h
          obtain ⟨q1, q2⟩ := nxt_le (b := b) hs (by omega : tkk b n st ≠ 1)
          have q3 := q2 (tkk_lt (b := b) (by omega))
          unfold sC at h
          by_cases d1 : tkk b n (nxt b n st) = 48
          · rw [if_pos d1] at h
            obtain ⟨q4, q5⟩ := nxt_le (b := b) q1 (by omega : tkk b n (nxt b n st) ≠ 1)
            have q6 := q5 (tkk_lt (b := b) (by omega))
            split at h
            · cases h
            · rename_i q hq
              injection h with h
              subst h
              split at hq
              · split at hq
                · rename_i d3
                  split at hq
                  · injection hq with hq
                    subst hq
                    simp only
                    omega
                  · cases hq
                · cases hq
              · cases hq
          · rw [if_neg d1] at h
            cases h
        · rw [if_neg c3] at h
          cases h
  obtain ⟨a1, a2, a3⟩ := main
  obtain ⟨q1, q2⟩ := nxt_le (b := b) a2 (by omega : tkk b n r.1 ≠ 1)
  have q3 := q2 (tkk_lt (b := b) (by omega))
  exact ⟨a1, a2, a3, q1, q3⟩
theorem of_sm {t : Nat → Int} (hV : V ≤ 16) (hB : Bd t 4500) : ∀ j, j ≤ V → 1 + sm (fun v => ((ln_of V t).2 v).natAbs) j < 4294967296 ^ 8 := fun j hj => by
  have h1 := sm_bound (g := fun v => ((ln_of V t).2 v).natAbs) (K := 4500 * 10 ^ 60) (m := j) (fun v _ _ => hB v)
  have h2 : j * (4500 * 10 ^ 60) ≤ 16 * (4500 * 10 ^ 60) := Nat.mul_le_mul_right _ (by omega)
  have h3 : 1 + 16 * (4500 * 10 ^ 60) < 4294967296 ^ 8 := by decide
  omega
end STP
