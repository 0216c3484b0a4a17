/-! Line.findRest, findAbove, look -/
theorem bm_test {x : Int32} {v : Nat} (h1 : 1 ≤ v) (h2 : v ≤ 16) : (x &&& 1 <<< ((nI v - 1) &&& 31) = 0) ↔ ¬ bt x v = true := by
  rw [show (x &&& 1 <<< ((nI v - 1) &&& 31) = 0) ↔ bt x v = false from bm_and h1 h2]
  simp
theorem m69_in {h : pb_H} {Q : Option Value → pb_H → Prop} {a w r N V wi k : Nat} {p n so ca cf co b : Int32} {f : Nat → Int32} {z : Int} (hV : V ≤ 16) (hN : (V + 1) * 8 ≤ N) (hN2 : N < 2 ^ 31) (hk : k < 8) (ha : h.2 a = cl (nI V) w p n (nI wi) so ca cf co) (hw : h.2 w = ci N f) :
    ∀ j m, m + j = V → (pb_R 69 32 [some (.ref a), some (.int b), some (.ref r), none, none, some (.int (nI k)), some (.int (nI (m + 1)))] [none, none, none, some (lJ (z + rcl f b k m)), none, none, none] [] h Q ↔ pb_R 69 79 [some (.ref a), some (.int b), some (.ref r), none, none, some (.int (nI k)), some (.int (nI (V + 1)))] [none, none, none, some (lJ (z + rcl f b k V)), none, none, none] [] h Q) := by
  intro j
  induction j with
  | zero =>
    intro m hm
    have em : m = V := by omega
    subst em
    have c1 : nI m < nI (m + 1) := nI_lt (by omega) (by omega)
    rw [pb_q69_32]
    simp only [pb_e69, ha, pb_g4, pb_o_some, true_and, c1, if_true]
  | succ j ih =>
    intro m hm
    have c1 : ¬ nI V < nI (m + 1) := nI_nlt (by omega) (by omega)
    have e8 : nI (m + 1) * 8 = nI ((m + 1) * 8) := pk_mul (m + 1) 8
    have eb := bm_test (x := b) (v := m + 1) (by omega) (by omega)
    have hA : pb_ai (ci N f) (nI ((m + 1) * 8 + k)) = some (f ((m + 1) * 8 + k)) := pb_ai_eq (Or.inl rfl) (by omega) hN2
    rw [← ih (m + 1) (by omega), pb_q69_32]
    by_cases c : bt b (m + 1) = true
    · have er : rcl f b k (m + 1) = rcl f b k m + wu (f ((m + 1) * 8 + k)) := by
        show rcl f b k m + (if bt b (m + 1) = true then wu (f ((m + 1) * 8 + k)) else 0) = _
        rw [if_pos c]
      have el : lJ (z + rcl f b k m) + lN (wu (f ((m + 1) * 8 + k))) = lJ (z + rcl f b k (m + 1)) := by
        rw [lN_lJ, lJ_add, er]
        congr 1
        omega
      simp only [pb_e69, ha, hw, pb_g4, pb_o_some, true_and, c1, if_false, eb, c, not_true_eq_false, e8, nI_add, hA, low_and, el, nI_1]
    · have er : rcl f b k (m + 1) = rcl f b k m := by
        show rcl f b k m + (if bt b (m + 1) = true then wu (f ((m + 1) * 8 + k)) else 0) = _
        rw [if_neg c]; rfl
      simp only [pb_e69, ha, hw, pb_g4, pb_o_some, true_and, c1, if_false, eb, c, Bool.false_eq_true, not_false_eq_true, if_true, nI_1, er]
theorem m69_loop {h : pb_H} {Q : Option Value → pb_H → Prop} {a w r N nr V wi : Nat} {p n so ca cf co b : Int32} {f q : Nat → Int32} (hV : V ≤ 16) (hN : (V + 1) * 8 ≤ N) (hN2 : N < 2 ^ 31) (hra : r ≠ a) (hrw : r ≠ w) (hw8 : wi ≤ 8) (hnr : 8 ≤ nr) (hnr2 : nr < 2 ^ 31) (ha : h.2 a = cl (nI V) w p n (nI wi) so ca cf co) (hw : h.2 w = ci N f) :
    ∀ j k l6, k + j = wi → (pb_R 69 5 [some (.ref a), some (.int b), some (.ref r), none, none, some (.int (nI k)), l6] [none, none, none, some (lJ (rst f b V q k).2), none, none, none] [] (pb_set h r (ci nr (rst f b V q k).1)) Q ↔ Q (some (.long (lJ (rst f b V q wi).2))) (pb_set h r (ci nr (rst f b V q wi).1))) := by
  have ra : ∀ c, (pb_set h r c).2 a = cl (nI V) w p n (nI wi) so ca cf co := fun c => by rw [pb_set_get, if_neg (Ne.symm hra), ha]
  have rw' : ∀ c, (pb_set h r c).2 w = ci N f := fun c => by rw [pb_set_get, if_neg (Ne.symm hrw), hw]
  intro j
  induction j with
  | zero =>
    intro k l6 hk
    have ek : k = wi := by omega
    subst ek
    have c1 : nI k ≤ nI k := Int32.le_refl _
    rw [pb_q69_5]
    simp only [pb_e69, ra, pb_g4, pb_o_some, true_and, c1, if_true]
  | succ j ih =>
    intro k l6 hk
    have c1 : ¬ nI wi ≤ nI k := nI_ge (by omega) (by omega)
    have hA : pb_ai (ci N f) (nI k) = some (f k) := pb_ai_eq (Or.inl rfl) (by omega) hN2
    have el : lJ (rst f b V q k).2 - lN (wu (f k)) = lJ ((rst f b V q k).2 - wu (f k) + rcl f b k 0) := by
      rw [lN_lJ, lJ_sub]
      congr 1
      show _ = _ - _ + ((0 : Nat) : Int)
      omega
    have hS : ∀ x, pb_si (ci nr (rst f b V q k).1) (nI k) x = some (ci nr (upd (rst f b V q k).1 k x)) := fun x => pb_si_eq (by omega) hnr2
    obtain ⟨b1, b2⟩ := rst_b f b hV q k
    have b3 := wu_lt (f k)
    have b4 := rcl_le f b k V
    have b5 : V * 4294967295 ≤ 16 * 4294967295 := Nat.mul_le_mul_right _ hV
    have es := lJ_shr32 (z := (rst f b V q k).2 - wu (f k) + rcl f b k V) (by omega) (by omega)
    have hin := m69_in (h := pb_set h r (ci nr (rst f b V q k).1)) (Q := Q) (a := a) (r := r) (wi := wi) (b := b) (k := k) (z := (rst f b V q k).2 - wu (f k)) hV hN hN2 (by omega) (ra _) (rw' _) V 0 (by omega)
    rw [pb_q69_5]
    simp only [pb_e69, ra, rw', pb_g4, pb_o_some, true_and, c1, if_false, hA, low_and, el]
    rw [show (1 : Int32) = nI (0 + 1) from rfl, hin]
    have hg : (pb_set h r (ci nr (rst f b V q k).1)).2 r = ci nr (rst f b V q k).1 := by rw [pb_set_get, if_pos rfl]
    simp only [pb_e69, hg, lJ_i32, hS, pb_o_some, true_and, es, pb_set_same]
    rw [nI_1]
    exact ih (k + 1) _ (by omega)
/-- Line.findRest -/
theorem m69 {h : pb_H} {Q : Option Value → pb_H → Prop} {a w r N nr V wi : Nat} {p n so ca cf co b : Int32} {f q : Nat → Int32} (hV : V ≤ 16) (hN : (V + 1) * 8 ≤ N) (hN2 : N < 2 ^ 31) (hrw : r ≠ w) (hw8 : wi ≤ 8) (hnr : 8 ≤ nr) (hnr2 : nr < 2 ^ 31) (ha : h.2 a = cl (nI V) w p n (nI wi) so ca cf co) (hw : h.2 w = ci N f) (hr : h.2 r = ci nr q) :
    pb_call 69 [.ref a, .int b, .ref r] h Q ↔ Q (some (.long (lJ (rst f b V q wi).2))) (pb_set h r (ci nr (rst f b V q wi).1)) := by
  have hra : r ≠ a := fun e => by rw [e, ha] at hr; cases hr
  have h0 := fun l6 => m69_loop (h := h) (Q := Q) (b := b) (q := q) hV hN hN2 hra hrw hw8 hnr hnr2 ha hw wi 0 l6 (by omega)
  have e0 : pb_set h r (ci nr (rst f b V q 0).1) = h := pb_set_id h hr
  rw [e0] at h0
  rw [pb_c69]
  simp only [pb_e69]
  exact h0 none
/-- the bits of those above -/
def abv (f q : Nat → Int32) (b : Int32) (W : Nat) : Nat → Int32
  | 0 => 0
  | m + 1 => if bt b (m + 1) = true ∧ wcp f q ((m + 1) * 8) 0 W = 1 then abv f q b W m ||| bm (m + 1) else abv f q b W m
theorem abv_bt (f q : Nat → Int32) (b : Int32) (W : Nat) : ∀ m, m ≤ 16 → ∀ u, 1 ≤ u → (bt (abv f q b W m) u = true ↔ u ≤ m ∧ bt b u = true ∧ wcp f q (u * 8) 0 W = 1)
  | 0, _, u, h => by
    have : bt 0 u = false := by unfold bt; simp
    show bt 0 u = true ↔ _
    rw [this]
    constructor
    · intro e; cases e
    · intro e; omega
  | m + 1, hm, u, h => by
    have ih := abv_bt f q b W m (by omega) u h
    show bt (if _ then _ else _) u = true ↔ _
    by_cases c : bt b (m + 1) = true ∧ wcp f q ((m + 1) * 8) 0 W = 1
    · rw [if_pos c, bt_or' (by omega) (by omega) h]
      by_cases e : u = m + 1
      · subst e; simp [c]
      · simp only [e, decide_false, Bool.or_false, ih]
        constructor
        · rintro ⟨q1, q2⟩; exact ⟨by omega, q2⟩
        · rintro ⟨q1, q2⟩; exact ⟨by omega, q2⟩
    · rw [if_neg c, ih]
      constructor
      · rintro ⟨q1, q2⟩; exact ⟨by omega, q2⟩
      · rintro ⟨q1, q2⟩
        by_cases e : u = m + 1
        · subst e; exact absurd q2 c
        · exact ⟨by omega, q2⟩
theorem wcp_3 (f g : Nat → Int32) (i j W : Nat) : wcp f g i j W = -1 ∨ wcp f g i j W = 0 ∨ wcp f g i j W = 1 := by
  rw [wcp_eq]
  split
  · exact Or.inl rfl
  · split
    · exact Or.inr (Or.inl rfl)
    · exact Or.inr (Or.inr rfl)
theorem m70_loop {h : pb_H} {Q : Option Value → pb_H → Prop} {a w r N nr V wi : Nat} {p n so ca cf co b : Int32} {f q : Nat → Int32} (hV : V ≤ 16) (hN : (V + 1) * 8 ≤ N) (hN2 : N < 2 ^ 31) (hw8 : wi ≤ 8) (hnr : 8 ≤ nr) (hnr2 : nr < 2 ^ 31) (ha : h.2 a = cl (nI V) w p n (nI wi) so ca cf co) (hw : h.2 w = ci N f) (hr : h.2 r = ci nr q) :
    ∀ j m l5, m + j = V → (pb_R 70 5 [some (.ref a), some (.int b), some (.ref r), some (.int (abv f q b wi m)), some (.int (nI (m + 1))), l5] [] [] h Q ↔ Q (some (.int (abv f q b wi V))) h) := by
  intro j
  induction j with
  | zero =>
    intro m l5 hm
    have em : m = V := by omega
    subst em
    have c1 : nI m < nI (m + 1) := nI_lt (by omega) (by omega)
    rw [pb_q70_5]
    simp only [pb_e70, ha, pb_g4, pb_o_some, true_and, c1, if_true]
  | succ j ih =>
    intro m l5 hm
    have c1 : ¬ nI V < nI (m + 1) := nI_nlt (by omega) (by omega)
    have e8 : nI (m + 1) * 8 = nI ((m + 1) * 8) := pk_mul (m + 1) 8
    have eb := bm_test (x := b) (v := m + 1) (by omega) (by omega)
    have hm61 : ∀ Q : Option Value → pb_H → Prop, pb_call 61 [.ref w, .int (nI ((m + 1) * 8)), .ref r, .int 0, .int (nI wi)] h Q ↔ Q (some (.int (wcp f q ((m + 1) * 8) 0 wi))) h := fun Q => m61 (j := 0) hw hr (by omega) (by omega) hN2 hnr2
    rw [pb_q70_5]
    by_cases c : bt b (m + 1) = true
    · by_cases c2 : wcp f q ((m + 1) * 8) 0 wi = 1
      · have ea : abv f q b wi (m + 1) = abv f q b wi m ||| 1 <<< ((nI (m + 1) - 1) &&& 31) := by
          show (if _ then _ else _) = _
          rw [if_pos ⟨c, c2⟩]; rfl
        have k1 : ¬ (1 : Int32) ≤ 0 := by decide
        have := ih (m + 1) (some (.int (1 <<< ((nI (m + 1) - 1) &&& 31)))) (by omega)
        rw [ea] at this
        simp only [pb_e70, ha, pb_g4, pb_o_some, true_and, c1, if_false, eb, c, not_true_eq_false, e8, hm61, Option.toList_some, List.singleton_append, c2, k1, nI_1]
        exact this
      · have ea : abv f q b wi (m + 1) = abv f q b wi m := by
          show (if _ then _ else _) = _
          rw [if_neg (fun e => c2 e.2)]
        have k1 : wcp f q ((m + 1) * 8) 0 wi ≤ 0 := by
          rcases wcp_3 f q ((m + 1) * 8) 0 wi with e | e | e
          · rw [e]; decide
          · rw [e]; decide
          · exact absurd e c2
        have := ih (m + 1) (some (.int (1 <<< ((nI (m + 1) - 1) &&& 31)))) (by omega)
        rw [ea] at this
        simp only [pb_e70, ha, pb_g4, pb_o_some, true_and, c1, if_false, eb, c, not_true_eq_false, e8, hm61, Option.toList_some, List.singleton_append, k1, if_true, nI_1]
        exact this
    · have ea : abv f q b wi (m + 1) = abv f q b wi m := by
        show (if _ then _ else _) = _
        rw [if_neg (fun e => c e.1)]
      have := ih (m + 1) (some (.int (1 <<< ((nI (m + 1) - 1) &&& 31)))) (by omega)
      rw [ea] at this
      simp only [pb_e70, ha, pb_g4, pb_o_some, true_and, c1, if_false, eb, c, Bool.false_eq_true, not_false_eq_true, if_true, nI_1]
      exact this
/-- Line.findAbove -/
theorem m70 {h : pb_H} {Q : Option Value → pb_H → Prop} {a w r N nr V wi : Nat} {p n so ca cf co b : Int32} {f q : Nat → Int32} (hV : V ≤ 16) (hN : (V + 1) * 8 ≤ N) (hN2 : N < 2 ^ 31) (hw8 : wi ≤ 8) (hnr : 8 ≤ nr) (hnr2 : nr < 2 ^ 31) (ha : h.2 a = cl (nI V) w p n (nI wi) so ca cf co) (hw : h.2 w = ci N f) (hr : h.2 r = ci nr q) :
    pb_call 70 [.ref a, .int b, .ref r] h Q ↔ Q (some (.int (abv f q b wi V))) h := by
  have h0 := fun l5 => m70_loop (h := h) (Q := Q) (b := b) hV hN hN2 hw8 hnr hnr2 ha hw hr V 0 l5 (by omega)
  rw [pb_c70]
  simp only [pb_e70]
  exact h0 none
