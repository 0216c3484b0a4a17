/-! The reference's learn: its cells, when it is FULL -/
/-- other ACTS -/
def acS (z : SS) (a : Nat) : SS := ((z.1.1, z.1.2.1, z.1.2.2.1, z.1.2.2.2.1, a), z.2)
section RL3
variable {h h' : pb_H} {Q : Option Value → pb_H → Prop} {V : Nat} {s s' sg sg' t : Nat → Int32} {G G' : Nat → Nat} {L' : List Nat} {z : SS}
theorem RQs_LQ (hR : RQs h s V z) (W : LQ h s G sg t h' s' G' sg' L') (hp : ∃ M, L' = z.2.2.1 ++ M) : RQs h' s' V z := by
  obtain ⟨⟨a1, a2, a3, a4, a5, a6, a7⟩, b, ⟨pr, c1, c2⟩, ⟨f, d1, d2⟩, ⟨g, e1, e2⟩, ⟨f1, f2, f3, g1, g2, g3, g4⟩, ⟨tt, i1⟩, dd, j1⟩ := hR
  obtain ⟨w1, w2, w3, w4, ⟨v1, v2, pr', v3, v4, v5⟩, w6, d, w7⟩ := W
  obtain ⟨M, e⟩ := hp
  have k : ∀ q, 75 ≤ q → q ≤ 79 → h'.2 q = h.2 q := fun q q1 q2 => w1.2.2 q (by omega)
  have ks : ∀ k, 22 ≤ k → k ≤ 34 → s' k = s k := fun k k1 k2 => w3 k (by omega)
  refine ⟨⟨(ks 22 (by omega) (by omega)).trans a1, (ks 23 (by omega) (by omega)).trans a2, (ks 24 (by omega) (by omega)).trans a3, (ks 25 (by omega) (by omega)).trans a4, (ks 26 (by omega) (by omega)).trans a5, (ks 27 (by omega) (by omega)).trans a6, (ks 34 (by omega) (by omega)).trans a7⟩, b, ⟨pr', v3, v4, fun i hi => ?_⟩, ⟨f, (k 75 (by omega) (by omega)).trans d1, d2⟩, ⟨g, (k 76 (by omega) (by omega)).trans e1, e2⟩, ⟨f1, f2, f3, (k 77 (by omega) (by omega)).trans g1, (k 78 (by omega) (by omega)).trans g2, (k 79 (by omega) (by omega)).trans g3, g4⟩, ⟨t, w6⟩, d, w7⟩
  rw [v5 i (by rw [e, List.length_append]; omega) (by omega), e, gd_l hi]
/-- another STATE -/
theorem RQs_22 {x : Nat} (hX : RX h s G sg) (hR : RQs h s V z) : RQs (pb_set h 65 (rm (upd s 22 (nI x)))) (upd s 22 (nI x)) V ((x, z.1.2), z.2) := by
  obtain ⟨⟨a1, a2, a3, a4, a5, a6, a7⟩, b, ⟨pr, c1, c2⟩, ⟨f, d1, d2⟩, ⟨g, e1, e2⟩, ⟨f1, f2, f3, g1, g2, g3, g4⟩, ⟨tt, i1⟩, dd, j1⟩ := hR
  have k : ∀ q, 75 ≤ q → (pb_set h 65 (rm (upd s 22 (nI x)))).2 q = h.2 q := fun q hq => by rw [pb_set_get, if_neg (by omega)]
  exact ⟨⟨rfl, a2, a3, a4, a5, a6, a7⟩, b, ⟨pr, (k 80 (by omega)).trans c1, c2⟩, ⟨f, (k 75 (by omega)).trans d1, d2⟩, ⟨g, (k 76 (by omega)).trans e1, e2⟩, ⟨f1, f2, f3, (k 77 (by omega)).trans g1, (k 78 (by omega)).trans g2, (k 79 (by omega)).trans g3, g4⟩, ⟨tt, (k 81 (by omega)).trans i1⟩, dd, (k 82 (by omega)).trans j1⟩
/-- FULL -/
theorem U216_182 {l1 l2 l3 l4 l5 : Option Value} (hX : RX h s G sg) (hR : RQs h s V z)
    (hQ : ∀ h', fr rS h h' → RX h' (upd s 22 4) G sg → RQs h' (upd s 22 4) V ((4, z.1.2), z.2) → Q none h') : pb_R 216 182 [some (.ref 65), l1, l2, l3, l4, l5] [] [] h Q := by
  have key := hQ _ (RX_obj hX (s' := upd s 22 4)).2 (RX_obj hX (s' := upd s 22 4)).1 (RQs_22 (x := 4) hX hR)
  simp only [pb_e216, hX.1, pb_gr, pb_o_some]
  exact key
end RL3
