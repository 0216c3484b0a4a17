/-! The reference: gives, proof -/
/-- a VARIABLE with its value as a LITERAL -/
def vlz (t : Bool) (v : Nat) : Int := if t = true then (v : Int) else -(v : Int)
theorem vlz_abs {t : Bool} {v : Nat} : (vlz t v).natAbs = v := by
  unfold vlz
  cases t
  · rw [if_neg (by decide), Int.natAbs_neg]; rfl
  · rw [if_pos rfl]; rfl
theorem vlz_pos {t : Bool} {v : Nat} (v1 : 1 ≤ v) : decide (0 < vlz t v) = t := by
  unfold vlz
  cases t
  · rw [if_neg (by decide)]; exact decide_eq_false (by omega)
  · rw [if_pos rfl]; exact decide_eq_true (by omega)
set_option maxRecDepth 100000 in
theorem vl_dec : ∀ v : Nat, v < 17 → nI v = Int32.ofInt (v : Int) ∧ - nI v = Int32.ofInt (-(v : Int)) ∧ 0 - nI v = Int32.ofInt (-(v : Int)) := by decide
section RGV
variable {h : pb_H} {Q : Option Value → pb_H → Prop} {V st lv ch le ac ts m : Nat} {T : Nat → Int} {Lv Rs : Nat → Nat} {l0 : Nat → Bool} {P : List Nat} {X : Nat → LN} {og : Nat → Nat} {s sg : Nat → Int32} {G : Nat → Nat}
abbrev gvS : Nat → Prop := fun q => q = 65 ∨ (75 ≤ q ∧ q ≤ 79)
/-- gives -/
theorem U217 {v k : Nat} {t : Bool} (hV : V ≤ 16) (v1 : 1 ≤ v) (v2 : v ≤ V) (hts : ts ≤ 16) (hX : RX h s G sg) (hR : RQs h s V ((st, lv, ch, le, ac), (ts, T, Lv, Rs, l0), P, m, X, og))
    (hQ : ∀ h' s', fr gvS h h' → RX h' s' G sg → RQs h' s' V ((st, lv, ch, le, ac), psh (ts, T, Lv, Rs, l0) (vlz t v) lv k, P, m, X, og) → kp (fun k => k = 24) s s' → Q none h') : pb_call 217 [.ref 65, .int (nI v), .int (if t = true then 1 else 0), .int (nI k)] h Q := by
  obtain ⟨⟨a1, a2, a3, a4, a5, a6, a7⟩, b, ⟨pr, c1, c2, c3⟩, ⟨f, d1, d2⟩, ⟨g, e1, e2⟩, ⟨f1, f2, f3, g1, g2, g3, g4⟩, ⟨tt, i1⟩, dd, j1⟩ := hR
  have a2 : s 23 = nI lv := a2
  have a3 : s 24 = nI ts := a3
  obtain ⟨x1, x2, x3, x4, ⟨W1, y1⟩, ⟨W2, y2⟩, ⟨W3, y3⟩, W4, y4⟩ := hX
  obtain ⟨w1, w2, w3⟩ := vl_dec v (by omega)
  have s1 := fun x => pb_si_eq (n := 17) (j := v) (f := f) (x := x) (by omega) (by omega)
  have s2 := fun x => pb_si_eq (n := 17) (j := v) (f := g) (x := x) (by omega) (by omega)
  have s3 := fun x => pb_si_eq (n := 17) (j := ts) (f := f1) (x := x) (by omega) (by omega)
  have s4 := fun x => pb_si_eq (n := 17) (j := ts) (f := f2) (x := x) (by omega) (by omega)
  have s5 := fun x => pb_si_eq (n := 17) (j := ts) (f := f3) (x := x) (by omega) (by omega)
  generalize hxx : (if t = true then (1 : Int32) else 0) = xx
  generalize hzz : (if t = true then nI v else - nI v) = zz
  have hz : zz = lI (vlz t v) := by
    rw [← hzz]
    unfold lI vlz
    cases t
    · exact w2
    · exact w1
  generalize hh1 : pb_set h 75 (ci 17 (upd f v xx)) = h1
  have p65 : h1.2 65 = rm s := by rw [← hh1, pb_set_get, if_neg (by omega), x1]
  have p76 : h1.2 76 = ci 17 g := by rw [← hh1, pb_set_get, if_neg (by omega), e1]
  have F1 : fr gvS h h1 := by rw [← hh1]; exact fr_set (by omega) (by rw [d1]; rfl)
  generalize hh2 : pb_set h1 76 (ci 17 (upd g v xx)) = h2
  have q65 : h2.2 65 = rm s := by rw [← hh2, pb_set_get, if_neg (by omega), p65]
  have q77 : h2.2 77 = ci 17 f1 := by rw [← hh2, pb_set_get, if_neg (by omega), ← hh1, pb_set_get, if_neg (by omega), g1]
  have F2 : fr gvS h1 h2 := by rw [← hh2]; exact fr_set (by omega) (by rw [p76]; rfl)
  generalize hh3 : pb_set h2 77 (ci 17 (upd f1 ts zz)) = h3
  have r65 : h3.2 65 = rm s := by rw [← hh3, pb_set_get, if_neg (by omega), q65]
  have r78 : h3.2 78 = ci 17 f2 := by rw [← hh3, pb_set_get, if_neg (by omega), ← hh2, pb_set_get, if_neg (by omega), ← hh1, pb_set_get, if_neg (by omega), g2]
  have F3 : fr gvS h2 h3 := by rw [← hh3]; exact fr_set (by omega) (by rw [q77]; rfl)
  generalize hh4 : pb_set h3 78 (ci 17 (upd f2 ts (nI lv))) = h4
  have t65 : h4.2 65 = rm s := by rw [← hh4, pb_set_get, if_neg (by omega), r65]
  have t79 : h4.2 79 = ci 17 f3 := by rw [← hh4, pb_set_get, if_neg (by omega), ← hh3, pb_set_get, if_neg (by omega), ← hh2, pb_set_get, if_neg (by omega), ← hh1, pb_set_get, if_neg (by omega), g3]
  have F4 : fr gvS h3 h4 := by rw [← hh4]; exact fr_set (by omega) (by rw [r78]; rfl)
  generalize hh5 : pb_set h4 79 (ci 17 (upd f3 ts (nI k))) = h5
  have u65 : h5.2 65 = rm s := by rw [← hh5, pb_set_get, if_neg (by omega), t65]
  have F5 : fr gvS h4 h5 := by rw [← hh5]; exact fr_set (by omega) (by rw [t79]; rfl)
  have F6 : fr gvS h5 (pb_set h5 65 (rm (upd s 24 (nI (ts + 1))))) := fr_set (by omega) (by rw [u65]; rfl)
  have FF := fr_trans F1 (fr_trans F2 (fr_trans F3 (fr_trans F4 (fr_trans F5 F6))))
  have key : Q none (pb_set h5 65 (rm (upd s 24 (nI (ts + 1))))) := by
    have kk : ∀ q, ¬ gvS q → (pb_set h5 65 (rm (upd s 24 (nI (ts + 1))))).2 q = h.2 q := fun q hq => FF.2.2 q hq
    refine hQ _ (upd s 24 (nI (ts + 1))) FF ⟨by rw [pb_set_get, if_pos rfl], (kk 66 (by omega)).trans x2, x3, (kk 67 (by omega)).trans x4, ⟨W1, (kk 70 (by omega)).trans y1.1, y1.2⟩, ⟨W2, (kk 71 (by omega)).trans y2.1, y2.2⟩, ⟨W3, (kk 72 (by omega)).trans y3.1, y3.2⟩, W4, (kk 73 (by omega)).trans y4.1, y4.2⟩ ⟨⟨a1, a2, rfl, a4, a5, a6, a7⟩, b, ⟨pr, (kk 80 (by omega)).trans c1, c2, c3⟩, ⟨upd f v xx, ?_, fun u u1 u2 => ?_⟩, ⟨upd g v xx, ?_, fun u u1 u2 => ?_⟩, ⟨upd f1 ts zz, upd f2 ts (nI lv), upd f3 ts (nI k), ?_, ?_, ?_, fun i hi => ?_⟩, ⟨tt, (kk 81 (by omega)).trans i1⟩, dd, (kk 82 (by omega)).trans j1⟩ (fun j hj => by unfold upd; rw [if_neg hj])
    · rw [pb_set_get, if_neg (by omega), ← hh5, pb_set_get, if_neg (by omega), ← hh4, pb_set_get, if_neg (by omega), ← hh3, pb_set_get, if_neg (by omega), ← hh2, pb_set_get, if_neg (by omega), ← hh1, pb_set_get, if_pos rfl]
    · show (if u = v then xx else f u) = avI (if u = (iput T ts (vlz t v) ts).natAbs then some (decide (0 < iput T ts (vlz t v) ts)) else asg (iput T ts (vlz t v)) ts u)
      rw [iput_at, asg_iput ts (Nat.le_refl _), vlz_abs, vlz_pos v1]
      by_cases e : u = v
      · rw [if_pos e, if_pos e, ← hxx]
        cases t <;> rfl
      · rw [if_neg e, if_neg e]; exact d2 u u1 u2
    · rw [pb_set_get, if_neg (by omega), ← hh5, pb_set_get, if_neg (by omega), ← hh4, pb_set_get, if_neg (by omega), ← hh3, pb_set_get, if_neg (by omega), ← hh2, pb_set_get, if_pos rfl]
    · show (if u = v then xx else g u) = if (if u = (vlz t v).natAbs then decide (0 < vlz t v) else l0 u) = true then 1 else 0
      rw [vlz_abs, vlz_pos v1]
      by_cases e : u = v
      · rw [if_pos e, if_pos e, ← hxx]
      · rw [if_neg e, if_neg e]; exact e2 u u1 u2
    · rw [pb_set_get, if_neg (by omega), ← hh5, pb_set_get, if_neg (by omega), ← hh4, pb_set_get, if_neg (by omega), ← hh3, pb_set_get, if_pos rfl]
    · rw [pb_set_get, if_neg (by omega), ← hh5, pb_set_get, if_neg (by omega), ← hh4, pb_set_get, if_pos rfl]
    · rw [pb_set_get, if_neg (by omega), ← hh5, pb_set_get, if_pos rfl]
    · have hi : i < ts + 1 := hi
      show (if i = ts then zz else f1 i) = lI (iput T ts (vlz t v) i) ∧ (if i = ts then nI lv else f2 i) = nI (un Lv ts lv i) ∧ (if i = ts then nI k else f3 i) = nI (un Rs ts k i)
      by_cases e : i = ts
      · subst e
        rw [if_pos rfl, if_pos rfl, if_pos rfl, iput_at, un_at, un_at]
        exact ⟨hz, rfl, rfl⟩
      · rw [if_neg e, if_neg e, if_neg e, iput_lt (by omega), un_lt (by omega), un_lt (by omega)]
        exact g4 i (by show i < ts; omega)
  have w3' : 0 - nI v = - nI v := by rw [w3, w2]
  rw [pb_c217]
  cases t
  · have exx : xx = 0 := hxx.symm
    have ezz : zz = - nI v := hzz.symm
    have n01 : ¬ (0 : Int32) = 1 := by decide
    subst exx ezz
    simp only [pb_e217, x1, pb_gr, pb_o_some, d1, s1, hh1, p65, p76, s2, hh2, q65, q77, a3, a2, n01, not_false_eq_true, if_true, w3', s3, hh3, r65, r78, s4, hh4, t65, t79, s5, hh5, u65, nI_1]
    exact key
  · have exx : xx = 1 := hxx.symm
    have ezz : zz = nI v := hzz.symm
    subst exx ezz
    simp only [pb_e217, x1, pb_gr, pb_o_some, d1, s1, hh1, p65, p76, s2, hh2, q65, q77, a3, a2, not_true_eq_false, if_false, s3, hh3, r65, r78, s4, hh4, t65, t79, s5, hh5, u65, nI_1]
    exact key
end RGV
