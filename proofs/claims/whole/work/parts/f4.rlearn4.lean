/-! The reference's learn: with a new LINE -/
section RL4
variable {h : pb_H} {Q : Option Value → pb_H → Prop} {V n st lv ch le ac ts m : Nat} {b : Nat → Nat} {T : Nat → Int} {Lv Rs : Nat → Nat} {l0 : Nat → Bool} {P L : List Nat} {X : Nat → LN} {og : Nat → Nat} {s sg ogI : Nat → Int32} {G : Nat → Nat}
abbrev lnF : Nat → Prop := fun q => rS q ∨ q = 68 ∨ (75 ≤ q ∧ q ≤ 82)
/-- new counts: learnt, and the text -/
theorem RQs_le (hX : RX h s G sg) (hR : RQs h s V ((st, lv, ch, le, ac), (ts, T, Lv, Rs, l0), P, m, X, og)) (hW : RW h s L) (hl : L.length ≤ 20000) {m' : Nat} {X' : Nat → LN} {og' : Nat → Nat} : RQs (pb_set h 65 (rm (upd (upd s 26 (nI (le + 1))) 34 (nI L.length)))) (upd (upd s 26 (nI (le + 1))) 34 (nI L.length)) V ((st, lv, ch, le + 1, ac), (ts, T, Lv, Rs, l0), L, m', X', og') := by
  obtain ⟨⟨a1, a2, a3, a4, a5, a6, a7⟩, b, _, ⟨f, d1, d2⟩, ⟨g, e1, e2⟩, ⟨f1, f2, f3, g1, g2, g3, g4⟩, ⟨tt, i1⟩, dd, j1⟩ := hR
  obtain ⟨w1, w2, pr, w3, w4, w5⟩ := hW
  have k : ∀ q, 75 ≤ q → (pb_set h 65 (rm (upd (upd s 26 (nI (le + 1))) 34 (nI L.length)))).2 q = h.2 q := fun q hq => by rw [pb_set_get, if_neg (by omega)]
  exact ⟨⟨a1, a2, a3, a4, rfl, a6, rfl⟩, hl, ⟨pr, (k 80 (by omega)).trans w3, w4, fun i hi => w5 i hi (by have : i < L.length := hi; omega)⟩, ⟨f, (k 75 (by omega)).trans d1, d2⟩, ⟨g, (k 76 (by omega)).trans e1, e2⟩, ⟨f1, f2, f3, (k 77 (by omega)).trans g1, (k 78 (by omega)).trans g2, (k 79 (by omega)).trans g3, g4⟩, ⟨tt, (k 81 (by omega)).trans i1⟩, dd, (k 82 (by omega)).trans j1⟩
end RL4
