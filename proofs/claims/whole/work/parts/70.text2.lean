/-! TextReader: byteAt, isBlank, isPrinted, isDigit, isSignOrWord, afterBlanks, takeDigits, takeLiteral, next -/
/-- the reader stands open over n bytes -/
def TX (h : pb_H) (c N n : Nat) (b : Nat → Nat) (s : Nat → Int32) : Prop := h.2 5 = cx (.ref c) s ∧ h.2 c = cb N b ∧ n ≤ N ∧ N ≤ 4000 ∧ s 1 = nI n ∧ ∀ k, b k < 256
def bA (b : Nat → Nat) (n i : Nat) : Int32 := if i < n then nI (b i) else -1
section TXT
variable {h : pb_H} {Q : Option Value → pb_H → Prop} {c N n : Nat} {b : Nat → Nat} {s : Nat → Int32}
theorem TX_set (hT : TX h c N n b s) {s' : Nat → Int32} (h1 : s' 1 = s 1) : TX (pb_set h 5 (cx (.ref c) s')) c N n b s' := by
  obtain ⟨a1, a2, a3, a4, a5, a6⟩ := hT
  have hc : c ≠ 5 := fun e => by rw [e, a1] at a2; cases a2
  exact ⟨by rw [pb_set_get, if_pos rfl], by rw [pb_set_get, if_neg hc, a2], a3, a4, by rw [h1, a5], a6⟩
theorem m15 {i : Nat} (hT : TX h c N n b s) (hi : i < 2 ^ 31) : pb_call 15 [.ref 5, .int (nI i)] h Q ↔ Q (some (.int (bA b n i))) h := by
  obtain ⟨a1, a2, a3, a4, a5, a6⟩ := hT
  have c0 : ¬ nI i < 0 := nI_pos hi
  have k := nI_ltI (a := i) (b := n) hi (by omega)
  rw [pb_c15]
  unfold bA
  by_cases d : i < n
  · have hg := cb_get (N := N) (b := b) (j := i) (by omega) (by omega)
    have h2 := sB_255 (b i) (a6 i)
    simp only [pb_e15, a1, pb_gx, pb_o_some, true_and, c0, if_false, a5, k, d, if_true, a2, hg, h2]
  · simp only [pb_e15, a1, pb_gx, pb_o_some, true_and, c0, if_false, a5, k, d]
theorem m16 {x : Int32} : pb_call 16 [.int x] h Q ↔ Q (some (.int (if x = 32 ∨ x = 10 ∨ x = 9 then 1 else 0))) h := by
  rw [pb_c16]
  by_cases c1 : x = 32
  · simp only [pb_e16, c1, if_true, nb1, true_and, true_or]
  · by_cases c2 : x = 10
    · have k : ¬ (10 : Int32) = 32 := by decide
      simp only [pb_e16, c2, k, if_false, if_true, nb1, true_and, true_or, or_true]
    · by_cases c3 : x = 9
      · have k : ¬ (9 : Int32) = 32 := by decide
        have k2 : ¬ (9 : Int32) = 10 := by decide
        simp only [pb_e16, c3, k, k2, if_false, not_true_eq_false, nb1, true_and, or_true, if_true]
      · simp only [pb_e16, c1, c2, c3, if_false, not_false_eq_true, if_true, nb0, true_and, or_self]
theorem m17 {x : Int32} : pb_call 17 [.int x] h Q ↔ Q (some (.int (if 32 ≤ x ∧ x ≤ 126 then 1 else 0))) h := by
  rw [pb_c17]
  by_cases c1 : x < 32
  · have k : ¬ 32 ≤ x := Int32.not_le.mpr c1
    simp only [pb_e17, c1, if_true, nb0, true_and, k, false_and, if_false]
  · have k : 32 ≤ x := Int32.not_lt.mp c1
    by_cases c2 : 126 < x
    · have k2 : ¬ x ≤ 126 := Int32.not_le.mpr c2
      simp only [pb_e17, c1, if_false, c2, if_true, nb0, true_and, k, k2]
    · have k2 : x ≤ 126 := Int32.not_lt.mp c2
      simp only [pb_e17, c1, if_false, c2, if_true, nb1, true_and, k, k2, and_self]
theorem m19 {x : Int32} : pb_call 19 [.int x] h Q ↔ Q (some (.int (if 48 ≤ x ∧ x ≤ 57 then 1 else 0))) h := by
  rw [pb_c19]
  by_cases c1 : x < 48
  · have k : ¬ 48 ≤ x := Int32.not_le.mpr c1
    simp only [pb_e19, c1, if_true, nb0, true_and, k, false_and, if_false]
  · have k : 48 ≤ x := Int32.not_lt.mp c1
    by_cases c2 : 57 < x
    · have k2 : ¬ x ≤ 57 := Int32.not_le.mpr c2
      simp only [pb_e19, c1, if_false, c2, if_true, nb0, true_and, k, k2]
    · have k2 : x ≤ 57 := Int32.not_lt.mp c2
      simp only [pb_e19, c1, if_false, c2, if_true, nb1, true_and, k, k2, and_self]
theorem bA_eq {i m : Nat} (hb : ∀ k, b k < 256) (hm : m < 256) : bA b n i = nI m ↔ sb b n i = m := by
  unfold bA sb
  by_cases d : i < n
  · rw [if_pos d, if_pos d, nI_eq (by have := hb i; omega) (by omega)]
  · rw [if_neg d, if_neg d]
    constructor
    · intro e
      have : nI m < 0 := by rw [← e]; decide
      exact absurd this (nI_pos (by omega))
    · intro e; omega
theorem bA_ge {i m : Nat} (hb : ∀ k, b k < 256) (hm : m < 256) : nI m ≤ bA b n i ↔ (m ≤ sb b n i ∧ sb b n i ≠ 256) := by
  unfold bA sb
  by_cases d : i < n
  · rw [if_pos d, if_pos d, nI_leI (by omega) (by have := hb i; omega)]
    have := hb i
    omega
  · rw [if_neg d, if_neg d]
    constructor
    · intro e
      have h1 : nI m ≤ -1 := e
      have h2 : (-1 : Int32) < 0 := by decide
      exact absurd (Int32.lt_of_le_of_lt h1 h2) (nI_pos (by omega))
    · intro e; omega
theorem bA_le {i m : Nat} (hb : ∀ k, b k < 256) (hm : m < 256) : bA b n i ≤ nI m ↔ (sb b n i ≤ m ∨ sb b n i = 256) := by
  unfold bA sb
  by_cases d : i < n
  · rw [if_pos d, if_pos d, nI_leI (by have := hb i; omega) (by omega)]
    have := hb i
    omega
  · rw [if_neg d, if_neg d]
    have h1 : (-1 : Int32) ≤ 0 := by decide
    exact ⟨fun _ => Or.inr rfl, fun _ => Int32.le_trans h1 (nI_pos' (by omega))⟩
theorem bA_dg {i : Nat} (hb : ∀ k, b k < 256) : (48 ≤ bA b n i ∧ bA b n i ≤ 57) ↔ dgt (sb b n i) := by
  have h1 : 48 ≤ bA b n i ↔ _ := bA_ge (m := 48) hb (by omega)
  have h2 : bA b n i ≤ 57 ↔ _ := bA_le (m := 57) hb (by omega)
  rw [h1, h2]
  omega
theorem sb_in {i : Nat} (hi : i < n) : sb b n i = b i := if_pos hi
theorem L18_loop (hT : TX h c N n b s) : ∀ f i nt l4, i + f = n → (pb_R 18 4 [some (.ref 5), some (.int l4), some (.int (if nt = true then 1 else 0)), some (.int (nI i)), none] [] [] h Q ↔ Q (some (.int (nI (skp b f i nt)))) h) ∧ ∀ y, (pb_R 18 4 [some (.ref 5), some (.int l4), some (.int (if nt = true then 1 else 0)), some (.int (nI i)), some (.int y)] [] [] h Q ↔ Q (some (.int (nI (skp b f i nt)))) h) := by
  have hT' := hT
  obtain ⟨a1, a2, a3, a4, a5, a6⟩ := hT
  intro f
  have key : ∀ f i nt l4 l, i + f = n → (pb_R 18 4 [some (.ref 5), some (.int l4), some (.int (if nt = true then 1 else 0)), some (.int (nI i)), l] [] [] h Q ↔ Q (some (.int (nI (skp b f i nt)))) h) := by
    intro f
    induction f with
    | zero =>
      intro i nt l4 l hi
      obtain rfl : i = n := by omega
      rw [pb_q18_4]
      simp only [pb_e18, a1, pb_gx, pb_o_some, true_and, a5, Int32.le_refl, if_true]
      exact Iff.rfl
    | succ f ih =>
      intro i nt l4 l hi
      have c1 : ¬ nI n ≤ nI i := nI_ge (by omega) (by omega)
      have h15 := fun Q : Option Value → pb_H → Prop => m15 (Q := Q) hT' (show i < 2 ^ 31 by omega)
      have hs : sb b n i = b i := sb_in (by omega)
      have e35 : bA b n i = 35 ↔ b i = 35 := by rw [← hs]; exact bA_eq (m := 35) a6 (by omega)
      have e10 : bA b n i = 10 ↔ b i = 10 := by rw [← hs]; exact bA_eq (m := 10) a6 (by omega)
      have e32 : bA b n i = 32 ↔ b i = 32 := by rw [← hs]; exact bA_eq (m := 32) a6 (by omega)
      have e9 : bA b n i = 9 ↔ b i = 9 := by rw [← hs]; exact bA_eq (m := 9) a6 (by omega)
      have ep : (32 ≤ bA b n i ∧ bA b n i ≤ 126) ↔ prt (b i) := by
        rw [show 32 ≤ bA b n i ↔ _ from bA_ge (m := 32) a6 (by omega), show bA b n i ≤ 126 ↔ _ from bA_le (m := 126) a6 (by omega), hs]
        have := a6 i
        omega
      rw [pb_q18_4]
      have i10 : ¬ (1 : Int32) = 0 := by decide
      by_cases c35 : b i = 35
      · have hsk : skp b (f + 1) i nt = skp b f (i + 1) true := by show (if _ then _ else _) = _; rw [if_pos c35]
        have := ih (i + 1) true l4 (some (.int (bA b n i))) (by omega)
        rw [if_pos rfl] at this
        simp only [pb_e18, a1, pb_gx, pb_o_some, true_and, a5, c1, if_false, h15, Option.toList_some, List.singleton_append, e35, c35, not_true_eq_false, nI_1, hsk]
        exact this
      · by_cases cb : blk (b i)
        · have hsk : skp b (f + 1) i nt = skp b f (i + 1) (nt && decide (b i ≠ 10)) := by show (if _ then _ else _) = _; rw [if_neg c35, if_pos (Or.inl cb)]
          have h16 : ∀ Q : Option Value → pb_H → Prop, pb_call 16 [.int (bA b n i)] h Q ↔ Q (some (.int 1)) h := fun Q => by rw [m16, if_pos (by rw [e32, e10, e9]; exact cb)]
          have k35 : ¬ bA b n i = 35 := fun e => c35 (e35.mp e)
          by_cases c10 : b i = 10
          · have hnt : (nt && decide (b i ≠ 10)) = false := by simp [c10]
            rw [hnt] at hsk
            have := ih (i + 1) false l4 (some (.int (bA b n i))) (by omega)
            rw [if_neg (by decide)] at this
            have k10 := e10.mpr c10
            simp only [pb_e18, a1, pb_gx, pb_o_some, true_and, a5, c1, if_false, h15, Option.toList_some, List.singleton_append, k35, not_false_eq_true, if_true, h16, i10]
            have k' : ¬ (10 : Int32) = 35 := by decide
            simp only [k10, not_true_eq_false, if_false, nI_1, hsk] at this ⊢
            exact this
          · have hnt : (nt && decide (b i ≠ 10)) = nt := by simp [c10]
            rw [hnt] at hsk
            have := ih (i + 1) nt l4 (some (.int (bA b n i))) (by omega)
            have k10 : ¬ bA b n i = 10 := fun e => c10 (e10.mp e)
            simp only [pb_e18, a1, pb_gx, pb_o_some, true_and, a5, c1, if_false, h15, Option.toList_some, List.singleton_append, k35, not_false_eq_true, if_true, h16, i10, k10, nI_1, hsk]
            exact this
        · have h16 : ∀ Q : Option Value → pb_H → Prop, pb_call 16 [.int (bA b n i)] h Q ↔ Q (some (.int 0)) h := fun Q => by rw [m16, if_neg (by rw [e32, e10, e9]; exact cb)]
          have k35 : ¬ bA b n i = 35 := fun e => c35 (e35.mp e)
          have c10 : ¬ b i = 10 := fun e => cb (Or.inr (Or.inl e))
          have k10 : ¬ bA b n i = 10 := fun e => c10 (e10.mp e)
          by_cases cn : nt = true
          · subst cn
            by_cases cp : prt (b i)
            · have hsk : skp b (f + 1) i true = skp b f (i + 1) true := by
                show (if _ then _ else _) = _
                rw [if_neg c35, if_pos (Or.inr ⟨rfl, cp⟩)]
                simp [c10]
              have h17 : ∀ Q : Option Value → pb_H → Prop, pb_call 17 [.int (bA b n i)] h Q ↔ Q (some (.int 1)) h := fun Q => by rw [m17, if_pos (ep.mpr cp)]
              have := ih (i + 1) true l4 (some (.int (bA b n i))) (by omega)
              rw [if_pos rfl] at this
              simp only [pb_e18, a1, pb_gx, pb_o_some, true_and, a5, c1, if_false, h15, Option.toList_some, List.singleton_append, k35, not_false_eq_true, if_true, h16, i10, not_true_eq_false, h17, k10, nI_1, hsk]
              exact this
            · have hsk : skp b (f + 1) i true = i := by
                show (if _ then _ else _) = _
                rw [if_neg c35, if_neg (by rintro (q | q); exact cb q; exact cp q.2)]
              have h17 : ∀ Q : Option Value → pb_H → Prop, pb_call 17 [.int (bA b n i)] h Q ↔ Q (some (.int 0)) h := fun Q => by rw [m17, if_neg (fun e => cp (ep.mp e))]
              simp only [pb_e18, a1, pb_gx, pb_o_some, true_and, a5, c1, if_false, h15, Option.toList_some, List.singleton_append, k35, not_false_eq_true, if_true, h16, i10, not_true_eq_false, h17, hsk]
          · have hf : nt = false := by cases nt; rfl; exact absurd rfl cn
            subst hf
            have hsk : skp b (f + 1) i false = i := by
              show (if _ then _ else _) = _
              rw [if_neg c35, if_neg (by rintro (q | q); exact cb q; exact absurd q.1 (by decide))]
            simp only [pb_e18, a1, pb_gx, pb_o_some, true_and, a5, c1, if_false, h15, Option.toList_some, List.singleton_append, k35, not_false_eq_true, if_true, h16, not_true_eq_false, Bool.false_eq_true, hsk]
  intro i nt l4 hi
  exact ⟨key f i nt l4 none hi, fun y => key f i nt l4 _ hi⟩
theorem m18 {i : Nat} (hT : TX h c N n b s) (hi : i ≤ n) : pb_call 18 [.ref 5, .int (nI i)] h Q ↔ Q (some (.int (nI (skp b (n - i) i false)))) h := by
  have := (L18_loop (Q := Q) hT (n - i) i false (nI i) (by omega)).1
  rw [if_neg (by decide)] at this
  rw [pb_c18]
  simp only [pb_e18]
  exact this
end TXT
