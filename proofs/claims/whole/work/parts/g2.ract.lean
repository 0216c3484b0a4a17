/-! The reference's act: a CHOICE or the end -/
section RAC
variable {h : pb_H} {Q : Option Value → pb_H → Prop} {V n st lv ch le ac ts m : Nat} {b : Nat → Nat} {T : Nat → Int} {Lv Rs : Nat → Nat} {l0 : Nat → Bool} {P : List Nat} {X : Nat → LN} {og : Nat → Nat} {s sg ogI : Nat → Int32} {G : Nat → Nat}
theorem vlz_ltz {x : LN} {v : Nat} : ltz x v = vlz (decide (0 < x.2 v)) v := by
  unfold ltz vlz
  by_cases c : 0 < x.2 v
  · rw [if_pos c, if_pos (decide_eq_true c)]
  · rw [if_neg c, if_neg (by rw [decide_eq_false c]; decide)]
/-- counts of a CHOICE -/
theorem RQs_ch (hX : RX h s G sg) (hR : RQs h s V ((st, lv, ch, le, ac), (ts, T, Lv, Rs, l0), P, m, X, og)) : RQs (pb_set h 65 (rm (upd (upd s 23 (nI (lv + 1))) 25 (nI (ch + 1))))) (upd (upd s 23 (nI (lv + 1))) 25 (nI (ch + 1))) V ((st, lv + 1, ch + 1, le, ac), (ts, T, Lv, Rs, l0), P, m, X, og) := by
  obtain ⟨⟨a1, a2, a3, a4, a5, a6, a7⟩, b, ⟨pr, c1, c2⟩, ⟨f, d1, d2⟩, ⟨g, e1, e2⟩, ⟨f1, f2, f3, g1, g2, g3, g4⟩, ⟨tt, i1⟩, dd, j1⟩ := hR
  have k : ∀ q, 75 ≤ q → (pb_set h 65 (rm (upd (upd s 23 (nI (lv + 1))) 25 (nI (ch + 1))))).2 q = h.2 q := fun q hq => by rw [pb_set_get, if_neg (by omega)]
  exact ⟨⟨a1, rfl, a3, rfl, a5, a6, a7⟩, b, ⟨pr, (k 80 (by omega)).trans c1, c2⟩, ⟨f, (k 75 (by omega)).trans d1, d2⟩, ⟨g, (k 76 (by omega)).trans e1, e2⟩, ⟨f1, f2, f3, (k 77 (by omega)).trans g1, (k 78 (by omega)).trans g2, (k 79 (by omega)).trans g3, g4⟩, ⟨tt, (k 81 (by omega)).trans i1⟩, dd, (k 82 (by omega)).trans j1⟩
end RAC
