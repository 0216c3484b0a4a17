/-! The reference's TOKENS: seen, isDigit, isByte, literal, next -/
theorem sB_lo {x : Nat} (h : x < 128) : sB x = nI x := if_pos h
theorem sB_hi {x : Nat} (h1 : 128 ≤ x) (h2 : x < 256) : sB x < 0 := by
  unfold sB
  rw [if_neg (by omega)]
  exact pk_sneg (by omega) h2
theorem sB_eq {x m : Nat} (hx : x < 256) (hm : m < 128) : sB x = nI m ↔ x = m := by
  by_cases c : x < 128
  · rw [sB_lo c, nI_eq (by omega) (by omega)]
  · constructor
    · intro e
      have := sB_hi (x := x) (by omega) hx
      rw [e] at this
      exact absurd this (nI_pos (by omega))
    · intro e; omega
theorem sB_ge {x m : Nat} (hx : x < 256) (hm : m < 128) : nI m ≤ sB x ↔ m ≤ x ∧ x < 128 := by
  by_cases c : x < 128
  · rw [sB_lo c, nI_leI (by omega) (by omega)]; omega
  · constructor
    · intro e
      have := sB_hi (x := x) (by omega) hx
      exact absurd (Int32.lt_of_le_of_lt e this) (nI_pos (by omega))
    · intro e; omega
theorem sB_le {x m : Nat} (hx : x < 256) (hm : m < 128) : sB x ≤ nI m ↔ x ≤ m ∨ 128 ≤ x := by
  by_cases c : x < 128
  · rw [sB_lo c, nI_leI (by omega) (by omega)]; omega
  · have := sB_hi (x := x) (by omega) hx
    exact ⟨fun _ => by omega, fun _ => Int32.le_of_lt (Int32.lt_of_lt_of_le this (nI_pos' (by omega)))⟩
theorem sB_lt {x m : Nat} (hx : x < 256) (hm : m < 128) : (sB x < nI m ↔ x < m ∨ 128 ≤ x) ∧ (nI m < sB x ↔ m < x ∧ x < 128) := by
  constructor
  · rw [← Int32.not_le, sB_ge hx hm]; omega
  · rw [← Int32.not_le, sB_le hx hm]; omega
/-- the reference over n bytes -/
def RT (h : pb_H) (n : Nat) (b : Nat → Nat) (s : Nat → Int32) : Prop := h.2 65 = rm s ∧ h.2 69 = cb 4000 b ∧ s 7 = nI n ∧ n ≤ 4000 ∧ ∀ k, b k < 256
def rb (b : Nat → Nat) (n i : Nat) : Int32 := if i < n then sB (b i) else 0
section RTX
variable {h : pb_H} {Q : Option Value → pb_H → Prop} {n : Nat} {b : Nat → Nat} {s : Nat → Int32}
theorem RT_set (hT : RT h n b s) {s' : Nat → Int32} (h7 : s' 7 = s 7) : RT (pb_set h 65 (rm s')) n b s' := by
  obtain ⟨a1, a2, a3, a4, a5⟩ := hT
  exact ⟨by rw [pb_set_get, if_pos rfl], by rw [pb_set_get, if_neg (by omega), a2], by rw [h7, a3], a4, a5⟩
theorem R173 {i : Nat} (hT : RT h n b s) (hi : i < 2 ^ 31) : pb_call 173 [.ref 65, .int (nI i)] h Q ↔ Q (some (.int (rb b n i))) h := by
  obtain ⟨a1, a2, a3, a4, a5⟩ := hT
  have k := nI_leI (a := n) (b := i) (by omega) hi
  rw [pb_c173]
  unfold rb
  by_cases d : i < n
  · have hg := cb_get (N := 4000) (b := b) (j := i) (by omega) (by omega)
    have d' : ¬ n ≤ i := by omega
    simp only [pb_e173, a1, pb_gr, pb_o_some, true_and, a3, k, d', if_false, a2, hg, d, if_true]
  · have d' : n ≤ i := by omega
    simp only [pb_e173, a1, pb_gr, pb_o_some, true_and, a3, k, d', if_true, d, if_false]
theorem rb_eq {i m : Nat} (hb : ∀ k, b k < 256) (h0 : 0 < m) (hm : m < 128) : rb b n i = nI m ↔ sb b n i = m := by
  unfold rb sb
  by_cases d : i < n
  · rw [if_pos d, if_pos d, sB_eq (hb i) hm]
  · rw [if_neg d, if_neg d]
    constructor
    · intro e
      have : nI m = 0 := e.symm
      exact absurd this (nI_ne0 h0 (by omega))
    · intro e; omega
theorem rb_dg {i : Nat} (hb : ∀ k, b k < 256) : (rb b n i < 48 ↔ ¬ 48 ≤ sb b n i ∨ 128 ≤ sb b n i) ∧ (57 < rb b n i ↔ 57 < sb b n i ∧ sb b n i < 128) := by
  unfold rb sb
  by_cases d : i < n
  · rw [if_pos d, if_pos d]
    have h1 : sB (b i) < 48 ↔ _ := (sB_lt (m := 48) (hb i) (by omega)).1
    have h2 : 57 < sB (b i) ↔ _ := (sB_lt (m := 57) (hb i) (by omega)).2
    rw [h1, h2]
    omega
  · rw [if_neg d, if_neg d]
    exact ⟨⟨fun _ => Or.inr (by omega), fun _ => by decide⟩, ⟨fun e => absurd e (by decide), fun e => by omega⟩⟩
theorem R174 {i : Nat} (hT : RT h n b s) (hi : i < 2 ^ 31) : pb_call 174 [.ref 65, .int (nI i)] h Q ↔ Q (some (.int (if dgt (sb b n i) then 1 else 0))) h := by
  have h173 := fun Q : Option Value → pb_H → Prop => R173 (Q := Q) hT hi
  obtain ⟨r1, r2⟩ := rb_dg (n := n) (i := i) hT.2.2.2.2
  rw [pb_c174]
  by_cases c1 : rb b n i < 48
  · have k : ¬ dgt (sb b n i) := by have := r1.mp c1; omega
    rw [if_neg k]
    simp only [pb_e174, hT.1, pb_gr, true_and, h173, Option.toList_some, List.singleton_append, c1, if_true, nb0]
  · by_cases c2 : 57 < rb b n i
    · have k : ¬ dgt (sb b n i) := by have := r2.mp c2; omega
      rw [if_neg k]
      simp only [pb_e174, hT.1, pb_gr, true_and, h173, Option.toList_some, List.singleton_append, c1, if_false, c2, if_true, nb0]
    · have k : dgt (sb b n i) := by
        have h1 : ¬ (¬ 48 ≤ sb b n i ∨ 128 ≤ sb b n i) := fun e => c1 (r1.mpr e)
        have h2 : ¬ (57 < sb b n i ∧ sb b n i < 128) := fun e => c2 (r2.mpr e)
        omega
      rw [if_pos k]
      simp only [pb_e174, hT.1, pb_gr, true_and, h173, Option.toList_some, List.singleton_append, c1, if_false, c2, nb1]
theorem R175 {x : Nat} (hx : x < 256) : pb_call 175 [.int (sB x)] h Q ↔ Q (some (.int (if x = 9 ∨ x = 10 ∨ prt x then 1 else 0))) h := by
  have e9 : sB x = 9 ↔ x = 9 := sB_eq (m := 9) hx (by omega)
  have e10 : sB x = 10 ↔ x = 10 := sB_eq (m := 10) hx (by omega)
  have l32 : sB x < 32 ↔ x < 32 ∨ 128 ≤ x := (sB_lt (m := 32) hx (by omega)).1
  have g126 : 126 < sB x ↔ 126 < x ∧ x < 128 := (sB_lt (m := 126) hx (by omega)).2
  rw [pb_c175]
  by_cases c9 : x = 9
  · rw [if_pos (Or.inl c9)]
    have k := e9.mpr c9
    simp only [pb_e175, k, if_true, nb1, true_and]
  · have k9 : ¬ sB x = 9 := fun e => c9 (e9.mp e)
    by_cases c10 : x = 10
    · rw [if_pos (Or.inr (Or.inl c10))]
      have k := e10.mpr c10
      have k' : ¬ (10 : Int32) = 9 := by decide
      simp only [pb_e175, k, k', if_false, if_true, nb1, true_and]
    · have k10 : ¬ sB x = 10 := fun e => c10 (e10.mp e)
      by_cases c1 : sB x < 32
      · have k : ¬ (x = 9 ∨ x = 10 ∨ prt x) := by have := l32.mp c1; omega
        rw [if_neg k]
        simp only [pb_e175, k9, k10, if_false, c1, if_true, nb0, true_and]
      · by_cases c2 : 126 < sB x
        · have k : ¬ (x = 9 ∨ x = 10 ∨ prt x) := by have := g126.mp c2; omega
          rw [if_neg k]
          simp only [pb_e175, k9, k10, if_false, c1, c2, if_true, nb0, true_and]
        · have k : x = 9 ∨ x = 10 ∨ prt x := by
            have h1 : ¬ (x < 32 ∨ 128 ≤ x) := fun e => c1 (l32.mpr e)
            have h2 : ¬ (126 < x ∧ x < 128) := fun e => c2 (g126.mpr e)
            omega
          rw [if_pos k]
          simp only [pb_e175, k9, k10, if_false, c1, c2, nb1, true_and]
theorem h175_1 {x : Nat} {h : pb_H} (hx : x < 256) (k : x = 9 ∨ x = 10 ∨ prt x) : ∀ Q : Option Value → pb_H → Prop, pb_call 175 [.int (sB x)] h Q ↔ Q (some (.int 1)) h := fun Q => by rw [R175 hx, if_pos k]
theorem h175_0 {x : Nat} {h : pb_H} (hx : x < 256) (k : ¬ (x = 9 ∨ x = 10 ∨ prt x)) : ∀ Q : Option Value → pb_H → Prop, pb_call 175 [.int (sB x)] h Q ↔ Q (some (.int 0)) h := fun Q => by rw [R175 hx, if_neg k]
/-- the way over blanks and notes -/
theorem R177_7 {e : Nat} (hT : RT h n b s) (hE : ∀ l2 : Int32, pb_R 177 113 [some (.ref 65), some (.int (nI e)), some (.int l2), none, none, none] [] [] h Q) : ∀ f i nt, i + f = n → skp b f i nt = e → pb_R 177 7 [some (.ref 65), some (.int (nI i)), some (.int (if nt = true then 1 else 0)), none, none, none] [] [] h Q := by
  have a1 := hT.1
  have a2 := hT.2.1
  have a3 := hT.2.2.1
  have a4 := hT.2.2.2.1
  have a5 := hT.2.2.2.2
  intro f
  induction f with
  | zero =>
    intro i nt hi hk
    obtain rfl : i = n := by omega
    have hk' : i = e := hk
    have := hE (if nt = true then 1 else 0)
    rw [← hk'] at this
    simp only [pb_e177, a1, pb_gr, pb_o_some, true_and] at this
    rw [pb_q177_7]
    simp only [pb_e177, a1, pb_gr, pb_o_some, true_and, a3, Int32.le_refl, if_true]
    exact this
  | succ f ih =>
    intro i nt hi hk
    have c1 : ¬ nI n ≤ nI i := nI_ge (by omega) (by omega)
    have hg := cb_get (N := 4000) (b := b) (j := i) (by omega) (by omega)
    have hb := a5 i
    have e35 : sB (b i) = 35 ↔ b i = 35 := sB_eq (m := 35) hb (by omega)
    have e10 : sB (b i) = 10 ↔ b i = 10 := sB_eq (m := 10) hb (by omega)
    have e32 : sB (b i) = 32 ↔ b i = 32 := sB_eq (m := 32) hb (by omega)
    have e9 : sB (b i) = 9 ↔ b i = 9 := sB_eq (m := 9) hb (by omega)
    have i10 : ¬ (1 : Int32) = 0 := by decide
    have stop : skp b (f + 1) i nt = i → pb_R 177 113 [some (.ref 65), some (.int (nI i)), some (.int (if nt = true then 1 else 0)), none, none, none] [] [] h Q := fun q => by
      have hh := hE (if nt = true then 1 else 0)
      rw [← hk, q] at hh
      exact hh
    by_cases c35 : b i = 35
    · have hsk : skp b (f + 1) i nt = skp b f (i + 1) true := by show (if _ then _ else _) = _; rw [if_pos c35]
      rw [hsk] at hk
      have := ih (i + 1) true (by omega) hk
      rw [if_pos rfl] at this
      have h175 := h175_1 (h := h) hb (by omega)
      have k35 := e35.mpr c35
      rw [k35] at h175 hg
      have k' : ¬ (35 : Int32) = 9 := by decide
      have k2 : ¬ (35 : Int32) = 10 := by decide
      have k3 : ¬ (35 : Int32) = 32 := by decide
      rw [pb_q177_7]
      cases nt
      · simp only [pb_e177, a1, pb_gr, pb_o_some, true_and, a3, c1, if_false, a2, hg, h175, Option.toList_some, List.singleton_append, i10, Bool.false_eq_true, not_true_eq_false, k', k2, k3, if_true, nI_1]
        exact this
      · simp only [pb_e177, a1, pb_gr, pb_o_some, true_and, a3, c1, if_false, a2, hg, h175, Option.toList_some, List.singleton_append, i10, not_false_eq_true, if_true, nI_1]
        exact this
    · have k35 : ¬ sB (b i) = 35 := fun e => c35 (e35.mp e)
      by_cases cb : blk (b i)
      · have hsk : skp b (f + 1) i nt = skp b f (i + 1) (nt && decide (b i ≠ 10)) := by show (if _ then _ else _) = _; rw [if_neg c35, if_pos (Or.inl cb)]
        rw [hsk] at hk
        have h175 := h175_1 (h := h) hb (by omega)
        have hih := ih (i + 1) (nt && decide (b i ≠ 10)) (by omega) hk
        rw [pb_q177_7]
        rcases cb with q | q | q
        · have k32 := e32.mpr q
          have hnt : (nt && decide (b i ≠ 10)) = nt := by simp [q]
          rw [hnt] at hih
          rw [k32] at h175 hg k35
          have k1 : ¬ (32 : Int32) = 9 := by decide
          have k2 : ¬ (32 : Int32) = 10 := by decide
          cases nt
          · simp only [Bool.false_eq_true, if_false] at hih
            simp only [pb_e177, a1, pb_gr, pb_o_some, true_and, a3, c1, if_false, a2, hg, h175, Option.toList_some, List.singleton_append, i10, Bool.false_eq_true, not_true_eq_false, k1, k2, if_true, k35, nI_1]
            exact hih
          · simp only [if_true] at hih
            simp only [pb_e177, a1, pb_gr, pb_o_some, true_and, a3, c1, if_false, a2, hg, h175, Option.toList_some, List.singleton_append, i10, not_false_eq_true, if_true, k35, k2, nI_1]
            exact hih
        · have k10 := e10.mpr q
          have hnt : (nt && decide (b i ≠ 10)) = false := by simp [q]
          rw [hnt, if_neg (by decide)] at hih
          rw [k10] at h175 hg k35
          have k1 : ¬ (10 : Int32) = 9 := by decide
          cases nt
          · simp only [pb_e177, a1, pb_gr, pb_o_some, true_and, a3, c1, if_false, a2, hg, h175, Option.toList_some, List.singleton_append, i10, Bool.false_eq_true, not_true_eq_false, k1, if_true, k35, nI_1]
            exact hih
          · simp only [pb_e177, a1, pb_gr, pb_o_some, true_and, a3, c1, if_false, a2, hg, h175, Option.toList_some, List.singleton_append, i10, not_false_eq_true, if_true, k35, nI_1]
            exact hih
        · have k9 := e9.mpr q
          have hnt : (nt && decide (b i ≠ 10)) = nt := by simp [q]
          rw [hnt] at hih
          rw [k9] at h175 hg k35
          have k2 : ¬ (9 : Int32) = 10 := by decide
          cases nt
          · simp only [Bool.false_eq_true, if_false] at hih
            simp only [pb_e177, a1, pb_gr, pb_o_some, true_and, a3, c1, if_false, a2, hg, h175, Option.toList_some, List.singleton_append, i10, Bool.false_eq_true, not_true_eq_false, if_true, k35, nI_1]
            exact hih
          · simp only [if_true] at hih
            simp only [pb_e177, a1, pb_gr, pb_o_some, true_and, a3, c1, if_false, a2, hg, h175, Option.toList_some, List.singleton_append, i10, not_false_eq_true, if_true, k35, k2, nI_1]
            exact hih
      · have k10 : ¬ sB (b i) = 10 := fun e => cb (Or.inr (Or.inl (e10.mp e)))
        have k32 : ¬ sB (b i) = 32 := fun e => cb (Or.inl (e32.mp e))
        have k9 : ¬ sB (b i) = 9 := fun e => cb (Or.inr (Or.inr (e9.mp e)))
        by_cases cp : prt (b i)
        · have h175 := h175_1 (h := h) hb (Or.inr (Or.inr cp))
          cases nt
          · have hsk : skp b (f + 1) i false = i := by
              show (if _ then _ else _) = _
              rw [if_neg c35, if_neg (by rintro (q | q); exact cb q; exact absurd q.1 (by decide))]
            have := stop hsk
            simp only [pb_e177, a1, pb_gr, pb_o_some, true_and, Bool.false_eq_true, if_false] at this
            rw [pb_q177_7]
            simp only [pb_e177, a1, pb_gr, pb_o_some, true_and, a3, c1, if_false, a2, hg, h175, Option.toList_some, List.singleton_append, i10, Bool.false_eq_true, not_true_eq_false, k9, k10, k32, k35, not_false_eq_true, if_true]
            exact this
          · have hsk : skp b (f + 1) i true = skp b f (i + 1) true := by
              show (if _ then _ else _) = _
              have c10 : ¬ b i = 10 := fun e => cb (Or.inr (Or.inl e))
              rw [if_neg c35, if_pos (Or.inr ⟨rfl, cp⟩)]
              simp [c10]
            rw [hsk] at hk
            have hih := ih (i + 1) true (by omega) hk
            rw [if_pos rfl] at hih
            rw [pb_q177_7]
            simp only [pb_e177, a1, pb_gr, pb_o_some, true_and, a3, c1, if_false, a2, hg, h175, Option.toList_some, List.singleton_append, i10, not_false_eq_true, if_true, k35, k10, nI_1]
            exact hih
        · have h175 := h175_0 (h := h) hb (by omega)
          have hsk : skp b (f + 1) i nt = i := by
            show (if _ then _ else _) = _
            rw [if_neg c35, if_neg (by rintro (q | q); exact cb q; exact cp q.2)]
          have := stop hsk
          simp only [pb_e177, a1, pb_gr, pb_o_some, true_and] at this
          rw [pb_q177_7]
          simp only [pb_e177, a1, pb_gr, pb_o_some, true_and, a3, c1, if_false, a2, hg, h175, Option.toList_some, List.singleton_append, if_true]
          exact this
end RTX
