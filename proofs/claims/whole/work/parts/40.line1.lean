/-! Line: takeOffDegree, without, setLiteral, the constructor. -/
/-- a number off the DEGREE, which has over as a ninth word -/
def tod (f g : Nat → Int32) (at_ W o : Nat) : (Nat → Int32) × Nat := if o < (wsb f g 0 at_ W).2 then (wss (wsb f g 0 at_ W).1 0 0 8, 0) else ((wsb f g 0 at_ W).1, o - (wsb f g 0 at_ W).2)
/-- Line.takeOffDegree -/
theorem m53 {h : pb_H} {Q : Option Value → pb_H → Prop} {a w c N M at_ W o : Nat} {V p n wi so ca cf co : Int32} {f g : Nat → Int32} (ha : h.2 a = cl V w p n wi so ca cf co) (hw : h.2 w = ci N f) (hc : h.2 c = ci M g) (hd : c = w → 8 ≤ at_) (hW : W ≤ 8) (hN8 : 8 ≤ N) (hat : at_ + W ≤ M) (ho : o ≤ 1) (hN : N < 1000000) (hM : M < 1000000) :
    pb_call 53 [.ref a, .ref c, .int (nI at_), .int (nI o), .int (nI W)] h Q ↔ Q (some (.int (nI (tod f g at_ W o).2))) (pb_set h w (ci N (tod f g at_ W o).1)) := by
  have haw : a ≠ w := fun e => by rw [← e, ha] at hw; cases hw
  have hm := fun Q : Option Value → pb_H → Prop => m51 (h := h) (Q := Q) (i := 0) (W := W) hw hc (fun e => Or.inr (by have := hd e; omega)) (by omega) hat (by omega) (by omega)
  have hm' : ∀ Q : Option Value → pb_H → Prop, pb_call 51 [.ref w, .int 0, .ref c, .int (nI at_), .int (nI W)] h Q ↔ Q (some (.int (nI (wsb f g 0 at_ W).2))) (pb_set h w (ci N (wsb f g 0 at_ W).1)) := hm
  have hb := wsb_b f g 0 at_ W
  have hw2 : (pb_set h w (ci N (wsb f g 0 at_ W).1)).2 w = ci N (wsb f g 0 at_ W).1 := by rw [pb_set_get, if_pos rfl]
  have hs : ∀ Q : Option Value → pb_H → Prop, pb_call 52 [.ref w, .int 0, .int 0] (pb_set h w (ci N (wsb f g 0 at_ W).1)) Q ↔ Q none (pb_set h w (ci N (wss (wsb f g 0 at_ W).1 0 0 8))) := by
    intro Q
    have := m52 (h := pb_set h w (ci N (wsb f g 0 at_ W).1)) (Q := Q) (i := 0) (x := 0) hw2 (by omega) (by omega)
    rw [pb_set_same] at this
    exact this
  rw [pb_c53]
  unfold tod
  by_cases c1 : o < (wsb f g 0 at_ W).2
  · have e1 : ¬ 0 ≤ nI o - nI (wsb f g 0 at_ W).2 := Int32.not_le.mpr (pk_sneg (by omega) c1)
    simp only [pb_e53, ha, pb_g4, pb_o_some, hm', Option.toList_some, List.singleton_append, if_neg e1, pb_set_get, haw, if_false, hs, Option.toList_none, List.nil_append, if_pos c1]
    exact Iff.rfl
  · have e1 : nI o - nI (wsb f g 0 at_ W).2 = nI (o - (wsb f g 0 at_ W).2) := pk_sub (by omega)
    have e2 : 0 ≤ nI (o - (wsb f g 0 at_ W).2) := nI_pos' (by omega)
    simp only [pb_e53, ha, pb_g4, pb_o_some, hm', Option.toList_some, List.singleton_append, e1, if_pos e2, if_neg c1]
/-- WITHOUT a VARIABLE: the words -/
def wio (f : Nat → Int32) (v wi : Nat) : Nat → Int32 := wss (tod f f (v * 8) wi 0).1 (v * 8) 0 8
/-- Line.without -/
theorem m55 {h : pb_H} {Q : Option Value → pb_H → Prop} {a w N v wi : Nat} {V p n so ca cf co : Int32} {f : Nat → Int32} (ha : h.2 a = cl V w p n (nI wi) so ca cf co) (hw : h.2 w = ci N f) (h1 : 1 ≤ v) (h2 : v ≤ 16) (hv : v * 8 + 8 ≤ N) (hwi : wi ≤ 8) (hN : N < 1000000) :
    pb_call 55 [.ref a, .int (nI v)] h Q ↔ Q none (if bt p v = true ∨ bt n v = true then pb_set (pb_set h w (ci N (wio f v wi))) a (cl V w (ssp p v 0) (ssn n v 0) (nI (stl (wio f v wi) N wi)) so 0 cf co) else h) := by
  have haw : a ≠ w := fun e => by rw [← e, ha] at hw; cases hw
  have hwa : w ≠ a := Ne.symm haw
  have e8 : nI v * 8 = nI (v * 8) := pk_mul v 8
  have hz : (0 : Int32) = nI 0 := rfl
  rw [pb_c55]
  by_cases c : bt p v = true ∨ bt n v = true
  · rw [if_pos c]
    have hm53 : ∀ Q : Option Value → pb_H → Prop, pb_call 53 [.ref a, .ref w, .int (nI (v * 8)), .int 0, .int (nI wi)] h Q ↔ Q (some (.int (nI (tod f f (v * 8) wi 0).2))) (pb_set h w (ci N (tod f f (v * 8) wi 0).1)) := fun Q => m53 (o := 0) ha hw hw (fun _ => by omega) hwi (by omega) (by omega) (by omega) hN hN
    have hA : ∀ z, (pb_set h w (ci N z)).2 a = cl V w p n (nI wi) so ca cf co := by
      intro z
      rw [pb_set_get, if_neg haw, ha]
    have hW : ∀ z, (pb_set h w (ci N z)).2 w = ci N z := by
      intro z
      rw [pb_set_get, if_pos rfl]
    have hm52 : ∀ (z : Nat → Int32) (Q : Option Value → pb_H → Prop), pb_call 52 [.ref w, .int (nI (v * 8)), .int 0] (pb_set h w (ci N z)) Q ↔ Q none (pb_set h w (ci N (wss z (v * 8) 0 8))) := by
      intro z Q
      have := m52 (h := pb_set h w (ci N z)) (Q := Q) (i := v * 8) (x := 0) (hW z) hv (by omega)
      rw [pb_set_same] at this
      exact this
    have hm39 := fun Q : Option Value → pb_H → Prop => m39 (h := pb_set (pb_set h w (ci N (wio f v wi))) a (cl V w (ssp p v 0) (ssn n v 0) (nI wi) so ca cf co)) (Q := Q) (a := a) (w := w) (N := N) (b := wi) (f := wio f v wi) (by rw [pb_set_get, if_pos rfl]) (by rw [pb_set_get, if_neg hwa, hW]) hN (by omega)
    have hne : ¬ (1 : Int32) = 0 := by decide
    unfold wio at hm39 ⊢
    simp only [pb_e55, ha, pb_g4, pb_o_some, true_and, m32 ha h1 h2, if_pos c, Option.toList_some, List.singleton_append, hne, if_false, e8, hm53, hA, hm52, Option.toList_none, List.nil_append, m54 (hA _), pb_set_get, eq_self, if_true, hm39, pb_set_same]
  · rw [if_neg c]
    simp only [pb_e55, ha, pb_g4, pb_o_some, true_and, m32 ha h1 h2, if_neg c, Option.toList_some, List.singleton_append, eq_self, if_true]
