/-! The reference: small facts for act -/
theorem LSt_br {V : Nat} {x : LN} {A : AS} {z : Int32} (hV : V ≤ 16) (h : LSt V x A z) : z = -1 ↔ ln_br V x A := by
  rcases h with ⟨a, b⟩ | ⟨a, v, v1, v2, v3, v4, v5⟩ | ⟨a, b, d⟩
  · exact ⟨fun _ => a, fun _ => b⟩
  · constructor
    · intro e
      rw [v5] at e
      have := nI_pos' (n := v) (by omega)
      rw [e] at this
      exact absurd this (by decide)
    · intro w; exact absurd w a
  · constructor
    · intro e
      rw [d] at e
      exact absurd e (by decide)
    · intro w; exact absurd w a
theorem LSt_fc {V : Nat} {x : LN} {A : AS} {z : Int32} (h : LSt V x A z) (hb : ¬ ln_br V x A) (h0 : ¬ z = 0) : ∃ v, 1 ≤ v ∧ v ≤ V ∧ ln_fc V x A v ∧ (∀ u, 1 ≤ u → u < v → ¬ ln_fc V x A u) ∧ z = nI v := by
  rcases h with ⟨a, b⟩ | ⟨a, v, v1, v2, v3, v4, v5⟩ | ⟨a, b, d⟩
  · exact absurd a hb
  · exact ⟨v, v1, v2, v3, v4, v5⟩
  · exact absurd d h0
