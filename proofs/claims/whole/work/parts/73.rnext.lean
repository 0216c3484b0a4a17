/-! The reference's next -/
def nd (b : Nat → Nat) (n d : Nat) : Nat := if dgt (sb b n d) then (if dgt (sb b n (d + 1)) then 2 else 1) else 0
def kR (k : Nat) : Nat := if k = 0 then 0 else if k = 48 then 1 else if k = 120 then 2 else if k = 1 then 4 else 3
section RNX
variable {h : pb_H} {Q : Option Value → pb_H → Prop} {n : Nat} {b : Nat → Nat} {s : Nat → Int32}
theorem h174_1 {i : Nat} (hT : RT h n b s) (hi : i < 2 ^ 31) (k : dgt (sb b n i)) : ∀ Q : Option Value → pb_H → Prop, pb_call 174 [.ref 65, .int (nI i)] h Q ↔ Q (some (.int 1)) h := fun Q => by rw [R174 hT hi, if_pos k]
theorem h174_0 {i : Nat} (hT : RT h n b s) (hi : i < 2 ^ 31) (k : ¬ dgt (sb b n i)) : ∀ Q : Option Value → pb_H → Prop, pb_call 174 [.ref 65, .int (nI i)] h Q ↔ Q (some (.int 0)) h := fun Q => by rw [R174 hT hi, if_neg k]
theorem R176_22 {x k : Nat} (hT : RT h n b s) (hx : x < 2 ^ 20) : pb_R 176 22 [some (.ref 65), some (.int (nI k)), some (.int (nI x)), some (.int (nI (x + 1)))] [] [] h Q ↔ Q none (pb_set h 65 (rm (upd (upd s 15 (if sb b n x = 120 ∧ dgt (sb b n (x + 1)) then 2 else 4)) 17 (nI (x + 1 + nd b n (x + 1)))))) := by
  have a5 := hT.2.2.2.2
  have i10 : ¬ (1 : Int32) = 0 := by decide
  have e3 : nI x + 3 = nI (x + 3) := nI_add x 3
  have e1 : nI x + 1 = nI (x + 1) := nI_1 x
  have c1 : ¬ nI (x + 3) ≤ nI (x + 1) := nI_ge (by omega) (by omega)
  have c2 : ¬ nI (x + 3) ≤ nI (x + 1 + 1) := nI_ge (by omega) (by omega)
  have c3 : nI (x + 3) ≤ nI (x + 1 + 1 + 1) := nI_le (by omega) (by omega)
  have g1 : ¬ nI (x + 1 + 1) ≤ nI (x + 1) := nI_ge (by omega) (by omega)
  have g2 : ¬ nI (x + 1 + 2) ≤ nI (x + 1) := nI_ge (by omega) (by omega)
  have h173 := fun Q : Option Value → pb_H → Prop => R173 (Q := Q) hT (show x < 2 ^ 31 by omega)
  have e120 : rb b n x = 120 ↔ sb b n x = 120 := rb_eq (m := 120) a5 (by omega) (by omega)
  have hg : ∀ c, (pb_set h 65 c).2 65 = c := fun c => by rw [pb_set_get, if_pos rfl]
  have hend : ∀ e, ¬ nI e ≤ nI (x + 1) → dgt (sb b n (x + 1)) → (pb_R 176 43 [some (.ref 65), some (.int (nI k)), some (.int (nI x)), some (.int (nI e))] [] [] h Q ↔ Q none (pb_set h 65 (rm (upd (upd s 15 (if sb b n x = 120 ∧ dgt (sb b n (x + 1)) then 2 else 4)) 17 (nI e))))) := by
    intro e he hd
    by_cases c : sb b n x = 120
    · have k := e120.mpr c
      rw [if_pos ⟨c, hd⟩]
      simp only [pb_e176, hT.1, pb_gr, pb_o_some, true_and, h173, Option.toList_some, List.singleton_append, k, not_true_eq_false, if_false, e1, he, hg, pb_set_same]
    · have k : ¬ rb b n x = 120 := fun q => c (e120.mp q)
      rw [if_neg (fun q => c q.1)]
      simp only [pb_e176, hT.1, pb_gr, pb_o_some, true_and, h173, Option.toList_some, List.singleton_append, k, not_false_eq_true, if_true, hg, pb_set_same]
  by_cases d1 : dgt (sb b n (x + 1))
  · have h1 := h174_1 hT (show x + 1 < 2 ^ 31 by omega) d1
    by_cases d2 : dgt (sb b n (x + 1 + 1))
    · have h2 := h174_1 hT (show x + 1 + 1 < 2 ^ 31 by omega) d2
      have hn : nd b n (x + 1) = 2 := by unfold nd; rw [if_pos d1, if_pos d2]
      have s1 : pb_R 176 22 [some (.ref 65), some (.int (nI k)), some (.int (nI x)), some (.int (nI (x + 1)))] [] [] h Q ↔ pb_R 176 22 [some (.ref 65), some (.int (nI k)), some (.int (nI x)), some (.int (nI (x + 1 + 1)))] [] [] h Q := by
        rw [pb_q176_22]
        simp only [pb_e176, hT.1, pb_gr, true_and, h1, Option.toList_some, List.singleton_append, i10, if_false, e3, c1, nI_1]
      have s2 : pb_R 176 22 [some (.ref 65), some (.int (nI k)), some (.int (nI x)), some (.int (nI (x + 1 + 1)))] [] [] h Q ↔ pb_R 176 22 [some (.ref 65), some (.int (nI k)), some (.int (nI x)), some (.int (nI (x + 1 + 1 + 1)))] [] [] h Q := by
        rw [pb_q176_22]
        simp only [pb_e176, hT.1, pb_gr, true_and, h2, Option.toList_some, List.singleton_append, i10, if_false, e3, c2, nI_1]
      have s3 : pb_R 176 22 [some (.ref 65), some (.int (nI k)), some (.int (nI x)), some (.int (nI (x + 1 + 1 + 1)))] [] [] h Q ↔ pb_R 176 43 [some (.ref 65), some (.int (nI k)), some (.int (nI x)), some (.int (nI (x + 1 + 2)))] [] [] h Q := by
        rw [pb_q176_22]
        by_cases d3 : dgt (sb b n (x + 1 + 1 + 1))
        · have h3 := h174_1 hT (show x + 1 + 1 + 1 < 2 ^ 31 by omega) d3
          simp only [pb_e176, hT.1, pb_gr, true_and, h3, Option.toList_some, List.singleton_append, i10, if_false, e3, c3, if_true]
        · have h3 := h174_0 hT (show x + 1 + 1 + 1 < 2 ^ 31 by omega) d3
          simp only [pb_e176, hT.1, pb_gr, true_and, h3, Option.toList_some, List.singleton_append, if_true]
      rw [s1, s2, s3, hn]
      exact hend (x + 1 + 2) g2 d1
    · have h2 := h174_0 hT (show x + 1 + 1 < 2 ^ 31 by omega) d2
      have hn : nd b n (x + 1) = 1 := by unfold nd; rw [if_pos d1, if_neg d2]
      have s1 : pb_R 176 22 [some (.ref 65), some (.int (nI k)), some (.int (nI x)), some (.int (nI (x + 1)))] [] [] h Q ↔ pb_R 176 22 [some (.ref 65), some (.int (nI k)), some (.int (nI x)), some (.int (nI (x + 1 + 1)))] [] [] h Q := by
        rw [pb_q176_22]
        simp only [pb_e176, hT.1, pb_gr, true_and, h1, Option.toList_some, List.singleton_append, i10, if_false, e3, c1, nI_1]
      have s2 : pb_R 176 22 [some (.ref 65), some (.int (nI k)), some (.int (nI x)), some (.int (nI (x + 1 + 1)))] [] [] h Q ↔ pb_R 176 43 [some (.ref 65), some (.int (nI k)), some (.int (nI x)), some (.int (nI (x + 1 + 1)))] [] [] h Q := by
        rw [pb_q176_22]
        simp only [pb_e176, hT.1, pb_gr, true_and, h2, Option.toList_some, List.singleton_append, if_true]
      rw [s1, s2, hn]
      exact hend (x + 1 + 1) g1 d1
  · have h1 := h174_0 hT (show x + 1 < 2 ^ 31 by omega) d1
    have hn : nd b n (x + 1) = 0 := by unfold nd; rw [if_neg d1]
    have le : nI (x + 1) ≤ nI (x + 1) := Int32.le_refl _
    rw [hn, Nat.add_zero, if_neg (fun q => d1 q.2), pb_q176_22]
    by_cases c : sb b n x = 120
    · have k := e120.mpr c
      simp only [pb_e176, hT.1, pb_gr, pb_o_some, true_and, h1, Option.toList_some, List.singleton_append, if_true, h173, k, not_true_eq_false, if_false, e1, le, hg, pb_set_same]
    · have k : ¬ rb b n x = 120 := fun q => c (e120.mp q)
      simp only [pb_e176, hT.1, pb_gr, pb_o_some, true_and, h1, Option.toList_some, List.singleton_append, if_true, h173, k, not_false_eq_true, hg, pb_set_same]
theorem R176 {k : Nat} (hT : RT h n b s) (hk : k < n) : pb_call 176 [.ref 65, .int (nI k)] h Q ↔ Q none (pb_set h 65 (rm (upd (upd s 15 (if sb b n (if b k = 126 then k + 1 else k) = 120 ∧ dgt (sb b n ((if b k = 126 then k + 1 else k) + 1)) then 2 else 4)) 17 (nI ((if b k = 126 then k + 1 else k) + 1 + nd b n ((if b k = 126 then k + 1 else k) + 1)))))) := by
  have a4 := hT.2.2.2.1
  have h173 := fun Q : Option Value → pb_H → Prop => R173 (Q := Q) hT (show k < 2 ^ 31 by omega)
  have e126 : rb b n k = 126 ↔ b k = 126 := by
    rw [show rb b n k = 126 ↔ _ from rb_eq (m := 126) hT.2.2.2.2 (by omega) (by omega), sb_in hk]
  rw [pb_c176]
  by_cases c : b k = 126
  · have q := e126.mpr c
    rw [if_pos c, ← R176_22 (Q := Q) (k := k) hT (show k + 1 < 2 ^ 20 by omega)]
    simp only [pb_e176, hT.1, pb_gr, pb_o_some, true_and, h173, Option.toList_some, List.singleton_append, q, not_true_eq_false, if_false, nI_1]
  · have q : ¬ rb b n k = 126 := fun e => c (e126.mp e)
    rw [if_neg c, ← R176_22 (Q := Q) (k := k) hT (show k < 2 ^ 20 by omega)]
    simp only [pb_e176, hT.1, pb_gr, pb_o_some, true_and, h173, Option.toList_some, List.singleton_append, q, not_false_eq_true, if_true, nI_1]
/-- what next leaves -/
def NXR (b : Nat → Nat) (n e : Nat) (s s' : Nat → Int32) : Prop := (∀ k, k ≠ 15 → k ≠ 16 → k ≠ 17 → k ≠ 18 → s' k = s k) ∧ s' 16 = nI (skp b (n - e) e false) ∧ s' 15 = nI (kR (tkk b n (skp b (n - e) e false))) ∧ (skp b (n - e) e false < n → s' 18 = sB (b (skp b (n - e) e false))) ∧ (tkk b n (skp b (n - e) e false) ≠ 1 → s' 17 = nI (tke b n (skp b (n - e) e false)))
theorem R177_161 {st : Nat} {l2 l3 : Value} (hT : RT h n b s) : ∀ f i, i + f = n → (pb_R 177 161 [some (.ref 65), some (.int (nI st)), some l2, some l3, some (.int (nI i)), none] [] [] h Q ↔ pb_R 177 176 [some (.ref 65), some (.int (nI st)), some l2, some l3, some (.int (nI (den b f i))), none] [] [] h Q) := by
  have a4 := hT.2.2.2.1
  have i10 : ¬ (1 : Int32) = 0 := by decide
  intro f
  induction f with
  | zero =>
    intro i hi
    obtain rfl : i = n := by omega
    have d : ¬ dgt (sb b i i) := by unfold sb; rw [if_neg (by omega)]; omega
    have h1 := h174_0 hT (show i < 2 ^ 31 by omega) d
    rw [pb_q177_161]
    simp only [pb_e177, hT.1, pb_gr, pb_o_some, true_and, h1, Option.toList_some, List.singleton_append, if_true]
    exact Iff.rfl
  | succ f ih =>
    intro i hi
    have hs : sb b n i = b i := sb_in (by omega)
    by_cases d : dgt (b i)
    · have h1 := h174_1 hT (show i < 2 ^ 31 by omega) (by rw [hs]; exact d)
      have hde : den b (f + 1) i = den b f (i + 1) := by show (if _ then _ else _) = _; rw [if_pos d]
      rw [hde, ← ih (i + 1) (by omega), pb_q177_161]
      simp only [pb_e177, hT.1, pb_gr, pb_o_some, true_and, h1, Option.toList_some, List.singleton_append, i10, if_false, nI_1]
    · have h1 := h174_0 hT (show i < 2 ^ 31 by omega) (by rw [hs]; exact d)
      have hde : den b (f + 1) i = i := by show (if _ then _ else _) = _; rw [if_neg d]
      rw [hde, pb_q177_161]
      simp only [pb_e177, hT.1, pb_gr, pb_o_some, true_and, h1, Option.toList_some, List.singleton_append, if_true]
theorem kR_byte {x : Nat} (h : x = 62 ∨ x = 60 ∨ sow x) : kR x = 3 := by
  unfold kR
  rw [if_neg (by omega), if_neg (by omega), if_neg (by omega), if_neg (by omega)]
/-- PlaneBenchModel.next -/
theorem R177 {e : Nat} (hT : RT h n b s) (he : s 17 = nI e) (hen : e ≤ n) (hQ : ∀ s', NXR b n e s s' → Q none (pb_set h 65 (rm s'))) : pb_call 177 [.ref 65] h Q := by
  have a1 := hT.1
  have a2 := hT.2.1
  have a3 := hT.2.2.1
  have a4 := hT.2.2.2.1
  have a5 := hT.2.2.2.2
  have hg : ∀ c, (pb_set h 65 c).2 65 = c := fun c => by rw [pb_set_get, if_pos rfl]
  have i10 : ¬ (1 : Int32) = 0 := by decide
  have hle := skp_le b (n - e) e false
  unfold NXR at hQ
  have hl := R177_7 (Q := Q) (e := skp b (n - e) e false) hT
  have hgo := fun hE => hl hE (n - e) e false (by omega) rfl
  rw [if_neg (by decide)] at hgo
  rw [pb_c177]
  simp only [pb_e177, a1, pb_gr, pb_o_some, true_and, he]
  apply hgo
  clear hgo hl
  generalize skp b (n - e) e false = st at hle hQ
  intro l2
  have hT1 : ∀ s', s' 7 = s 7 → RT (pb_set h 65 (rm s')) n b s' := fun s' h7 => RT_set hT h7
  have u7 : ∀ (s : Nat → Int32) x, upd s 16 x 7 = s 7 := fun s x => upd_ne _ _ (by omega)
  have u7b : ∀ (s : Nat → Int32) x, upd s 18 x 7 = s 7 := fun s x => upd_ne _ _ (by omega)
  have h173 := fun Q : Option Value → pb_H → Prop => R173 (Q := Q) (hT1 (upd s 16 (nI st)) (u7 _ _)) (show st < 2 ^ 31 by omega)
  have hT2 := hT1 (upd (upd s 16 (nI st)) 18 (rb b n st)) (by rw [u7b, u7])
  have hs2 : upd (upd s 16 (nI st)) 18 (rb b n st) 7 = nI n := by rw [u7b, u7, a3]
  have klt := nI_ltI (a := st) (b := n) (by omega) (by omega)
  have fin : ∀ s', (∀ k, k ≠ 15 → k ≠ 16 → k ≠ 17 → k ≠ 18 → s' k = s k) → s' 16 = nI st → s' 15 = nI (kR (tkk b n st)) → (st < n → s' 18 = sB (b st)) → (tkk b n st ≠ 1 → s' 17 = nI (tke b n st)) → Q none (pb_set h 65 (rm s')) := fun s' k1 k2 k3 k4 k5 => hQ s' ⟨k1, k2, k3, k4, k5⟩
  have go : pb_R 177 113 [some (.ref 65), some (.int (nI st)), some (.int l2), none, none, none] [] [] h Q ↔ if st < n then pb_R 177 153 [some (.ref 65), some (.int (nI st)), some (.int l2), some (.int (rb b n st)), some (.int (nI (st + 1))), none] [] [] (pb_set h 65 (rm (upd (upd s 16 (nI st)) 18 (rb b n st)))) Q else pb_R 177 142 [some (.ref 65), some (.int (nI st)), some (.int l2), some (.int (rb b n st)), some (.int (nI (st + 1))), none] [] [] (pb_set h 65 (rm (upd (upd s 16 (nI st)) 18 (rb b n st)))) Q := by
    by_cases c : st < n
    · rw [if_pos c]
      simp only [pb_e177, a1, pb_gr, pb_o_some, true_and, hg, h173, Option.toList_some, List.singleton_append, pb_set_same, nI_1, hs2, klt, c, if_true]
    · rw [if_neg c]
      simp only [pb_e177, a1, pb_gr, pb_o_some, true_and, hg, h173, Option.toList_some, List.singleton_append, pb_set_same, nI_1, hs2, klt, c, if_false]
  rw [go]
  generalize hs2' : upd (upd s 16 (nI st)) 18 (rb b n st) = s2 at *
  have t0 : ∀ k, k ≠ 15 → k ≠ 16 → k ≠ 17 → k ≠ 18 → s2 k = s k := fun k k1 k2 k3 k4 => by rw [← hs2', upd_ne _ _ k4, upd_ne _ _ k2]
  have t16 : s2 16 = nI st := by rw [← hs2', upd_ne _ _ (by omega), upd_same]
  have t18 : s2 18 = rb b n st := by rw [← hs2', upd_same]
  by_cases c0 : st < n
  · rw [if_pos c0]
    have hs : sb b n st = b st := sb_in c0
    have hrb : rb b n st = sB (b st) := by unfold rb; rw [if_pos c0]
    have c0' : ¬ n ≤ st := by omega
    have hb := a5 st
    rw [hrb] at t18 ⊢
    have hmk : ∀ z w, st < n → upd (upd s2 15 z) 17 w 18 = sB (b st) := fun z w _ => by rw [upd_ne _ _ (by omega), upd_ne _ _ (by omega), t18]
    have hend : ∀ z w, z = nI (kR (tkk b n st)) → (tkk b n st ≠ 1 → w = nI (tke b n st)) → Q none (pb_set h 65 (rm (upd (upd s2 15 z) 17 w))) := fun z w hz hw => fin _ (fun k k1 k2 k3 k4 => by rw [upd_ne _ _ k3, upd_ne _ _ k1]; exact t0 k k1 k2 k3 k4) (by rw [upd_ne _ _ (by omega), upd_ne _ _ (by omega), t16]) (by rw [upd_ne _ _ (by omega), upd_same, hz]) (hmk z w) (fun q => by rw [upd_same]; exact hw q)
    by_cases cd : dgt (b st)
    · have h1 := h174_1 hT2 (show st < 2 ^ 31 by omega) (by rw [hs]; exact cd)
      have hlp := R177_161 (Q := Q) (st := st) (l2 := .int l2) (l3 := .int (sB (b st))) hT2 (n - (st + 1)) (st + 1) (by omega)
      have kk : tkk b n st = if den b (n - (st + 1)) (st + 1) - st ≤ 60 then 48 else 1 := by unfold tkk; rw [if_neg c0', if_pos cd]
      have ke : tke b n st = den b (n - (st + 1)) (st + 1) := by unfold tke; rw [if_neg c0', if_pos cd]
      have hdl := den_le b (n - (st + 1)) (st + 1)
      have s1 : pb_R 177 153 [some (.ref 65), some (.int (nI st)), some (.int l2), some (.int (sB (b st))), some (.int (nI (st + 1))), none] [] [] (pb_set h 65 (rm s2)) Q ↔ pb_R 177 161 [some (.ref 65), some (.int (nI st)), some (.int l2), some (.int (sB (b st))), some (.int (nI (st + 1))), none] [] [] (pb_set h 65 (rm s2)) Q := by
        simp only [pb_e177, hg, pb_gr, pb_o_some, true_and, h1, Option.toList_some, List.singleton_append, i10, if_false]
      rw [s1, hlp]
      rw [ke] at hend
      generalize den b (n - (st + 1)) (st + 1) = de at *
      have hsub : nI de - nI st = nI (de - st) := pk_sub (by omega)
      by_cases q : de - st ≤ 60
      · rw [if_pos q] at kk
        have k : nI (de - st) ≤ 60 := nI_le (b := 60) q (by omega)
        simp only [pb_e177, hg, pb_gr, pb_o_some, true_and, hsub, k, if_true, pb_set_same]
        exact hend _ _ (by rw [kk]; rfl) (fun _ => rfl)
      · rw [if_neg q] at kk
        have k : ¬ nI (de - st) ≤ 60 := nI_ge (a := 60) (by omega) (by omega)
        simp only [pb_e177, hg, pb_gr, pb_o_some, true_and, hsub, k, if_false, pb_set_same]
        exact hend _ _ (by rw [kk]; rfl) (fun q => absurd kk q)
    · have h1 := h174_0 hT2 (show st < 2 ^ 31 by omega) (by rw [hs]; exact cd)
      have e120 : sB (b st) = 120 ↔ b st = 120 := sB_eq (m := 120) hb (by omega)
      have e126 : sB (b st) = 126 ↔ b st = 126 := sB_eq (m := 126) hb (by omega)
      have e62 : sB (b st) = 62 ↔ b st = 62 := sB_eq (m := 62) hb (by omega)
      have e60 : sB (b st) = 60 ↔ b st = 60 := sB_eq (m := 60) hb (by omega)
      have s1 : pb_R 177 153 [some (.ref 65), some (.int (nI st)), some (.int l2), some (.int (sB (b st))), some (.int (nI (st + 1))), none] [] [] (pb_set h 65 (rm s2)) Q ↔ pb_R 177 197 [some (.ref 65), some (.int (nI st)), some (.int l2), some (.int (sB (b st))), some (.int (nI (st + 1))), none] [] [] (pb_set h 65 (rm s2)) Q := by
        simp only [pb_e177, hg, pb_gr, pb_o_some, true_and, h1, Option.toList_some, List.singleton_append, if_true]
      rw [s1]
      by_cases cl : b st = 120 ∨ b st = 126
      · have h176 := fun Q : Option Value → pb_H → Prop => R176 (Q := Q) hT2 c0
        have s2' : pb_R 177 197 [some (.ref 65), some (.int (nI st)), some (.int l2), some (.int (sB (b st))), some (.int (nI (st + 1))), none] [] [] (pb_set h 65 (rm s2)) Q ↔ pb_R 177 209 [some (.ref 65), some (.int (nI st)), some (.int l2), some (.int (sB (b st))), some (.int (nI (st + 1))), none] [] [] (pb_set h 65 (rm s2)) Q := by
          rcases cl with q | q
          · have k := e120.mpr q
            simp only [pb_e177, k, if_true]
          · have k := e126.mpr q
            have k' : ¬ (126 : Int32) = 120 := by decide
            simp only [pb_e177, k, k', if_false, not_true_eq_false]
        rw [s2']
        simp only [pb_e177, hg, pb_gr, pb_o_some, true_and, h176, pb_set_same, Option.toList_none, List.nil_append]
        rcases cl with q | q
        · have q' : ¬ b st = 126 := by omega
          simp only [q', if_false]
          have kk : tkk b n st = if dgt (sb b n (st + 1)) then 120 else 1 := by unfold tkk; rw [if_neg c0', if_neg cd, if_pos q]
          have ke : tke b n st = if dgt (sb b n (st + 1)) then (if dgt (sb b n (st + 2)) then st + 3 else st + 2) else st + 1 := by unfold tke; rw [if_neg c0', if_neg cd, if_pos q]
          by_cases g1 : dgt (sb b n (st + 1))
          · rw [if_pos ⟨by rw [hs]; exact q, g1⟩]
            rw [if_pos g1] at kk ke
            refine hend _ _ (by rw [kk]; rfl) (fun _ => ?_)
            rw [ke]
            unfold nd
            rw [if_pos g1]
            split <;> rfl
          · rw [if_neg (fun w => g1 w.2)]
            rw [if_neg g1] at kk
            exact hend _ _ (by rw [kk]; rfl) (fun w => absurd kk w)
        · simp only [q, if_true]
          have q' : ¬ b st = 120 := by omega
          by_cases ct : sb b n (st + 1) = 120
          · have kk : tkk b n st = if dgt (sb b n (st + 2)) then 120 else 1 := by unfold tkk; rw [if_neg c0', if_neg cd, if_neg q', if_pos ⟨q, ct⟩]
            have ke : tke b n st = if dgt (sb b n (st + 2)) then (if dgt (sb b n (st + 3)) then st + 4 else st + 3) else st + 1 := by unfold tke; rw [if_neg c0', if_neg cd, if_neg q', if_pos ⟨q, ct⟩]
            by_cases g1 : dgt (sb b n (st + 2))
            · rw [if_pos ⟨ct, g1⟩]
              rw [if_pos g1] at kk ke
              refine hend _ _ (by rw [kk]; rfl) (fun _ => ?_)
              rw [ke]
              unfold nd
              rw [if_pos (show dgt (sb b n (st + 1 + 1)) from g1)]
              split <;> rfl
            · rw [if_neg (fun w => g1 w.2)]
              rw [if_neg g1] at kk
              exact hend _ _ (by rw [kk]; rfl) (fun w => absurd kk w)
          · have kk : tkk b n st = 1 := by unfold tkk; rw [if_neg c0', if_neg cd, if_neg q', if_neg (fun w => ct w.2), if_neg (by omega), if_neg (by unfold sow; omega)]
            rw [if_neg (fun w => ct w.1)]
            exact hend _ _ (by rw [kk]; rfl) (fun w => absurd kk w)
      · have k120 : ¬ sB (b st) = 120 := fun w => cl (Or.inl (e120.mp w))
        have k126 : ¬ sB (b st) = 126 := fun w => cl (Or.inr (e126.mp w))
        have q120 : ¬ b st = 120 := fun w => cl (Or.inl w)
        have q126 : ¬ (b st = 126 ∧ sb b n (st + 1) = 120) := fun w => cl (Or.inr w.1)
        have s2' : pb_R 177 197 [some (.ref 65), some (.int (nI st)), some (.int l2), some (.int (sB (b st))), some (.int (nI (st + 1))), none] [] [] (pb_set h 65 (rm s2)) Q ↔ pb_R 177 215 [some (.ref 65), some (.int (nI st)), some (.int l2), some (.int (sB (b st))), some (.int (nI (st + 1))), none] [] [] (pb_set h 65 (rm s2)) Q := by
          simp only [pb_e177, k120, k126, if_false, not_false_eq_true, if_true]
        rw [s2']
        by_cases cr : b st = 62 ∨ b st = 60
        · have ke : tke b n st = st + 2 := by unfold tke; rw [if_neg c0', if_neg cd, if_neg q120, if_neg q126, if_pos cr]
          have h173' := fun Q : Option Value → pb_H → Prop => R173 (Q := Q) hT2 (show st + 1 < 2 ^ 31 by omega)
          have e61 : rb b n (st + 1) = 61 ↔ sb b n (st + 1) = 61 := rb_eq (m := 61) a5 (by omega) (by omega)
          have s3 : pb_R 177 215 [some (.ref 65), some (.int (nI st)), some (.int l2), some (.int (sB (b st))), some (.int (nI (st + 1))), none] [] [] (pb_set h 65 (rm s2)) Q ↔ pb_R 177 227 [some (.ref 65), some (.int (nI st)), some (.int l2), some (.int (sB (b st))), some (.int (nI (st + 1))), none] [] [] (pb_set h 65 (rm s2)) Q := by
            rcases cr with q | q
            · have k := e62.mpr q
              simp only [pb_e177, k, if_true]
            · have k := e60.mpr q
              have k' : ¬ (60 : Int32) = 62 := by decide
              simp only [pb_e177, k, k', if_false, not_true_eq_false]
          rw [s3]
          by_cases ce : sb b n (st + 1) = 61
          · have kk : tkk b n st = b st := by unfold tkk; rw [if_neg c0', if_neg cd, if_neg q120, if_neg q126, if_pos cr, if_pos ce]
            have k := e61.mpr ce
            simp only [pb_e177, hg, pb_gr, pb_o_some, true_and, h173', Option.toList_some, List.singleton_append, k, not_true_eq_false, if_false, pb_set_same, nI_1]
            refine hend _ _ (by rw [kk, kR_byte (by omega)]; rfl) (fun _ => by rw [ke])
          · have kk : tkk b n st = 1 := by unfold tkk; rw [if_neg c0', if_neg cd, if_neg q120, if_neg q126, if_pos cr, if_neg ce]
            have k : ¬ rb b n (st + 1) = 61 := fun w => ce (e61.mp w)
            simp only [pb_e177, hg, pb_gr, pb_o_some, true_and, h173', Option.toList_some, List.singleton_append, k, not_false_eq_true, if_true, pb_set_same, nI_1]
            exact hend _ _ (by rw [kk]; rfl) (fun w => absurd kk w)
        · have k62 : ¬ sB (b st) = 62 := fun w => cr (Or.inl (e62.mp w))
          have k60 : ¬ sB (b st) = 60 := fun w => cr (Or.inr (e60.mp w))
          have ke : tke b n st = st + 1 := by unfold tke; rw [if_neg c0', if_neg cd, if_neg q120, if_neg q126, if_neg cr]
          have f : ∀ m : Nat, m < 128 → (sB (b st) = nI m ↔ b st = m) := fun m hm => sB_eq hb hm
          have f43 : sB (b st) = 43 ↔ b st = 43 := f 43 (by omega)
          have f45 : sB (b st) = 45 ↔ b st = 45 := f 45 (by omega)
          have f42 : sB (b st) = 42 ↔ b st = 42 := f 42 (by omega)
          have f59 : sB (b st) = 59 ↔ b st = 59 := f 59 (by omega)
          have f61 : sB (b st) = 61 ↔ b st = 61 := f 61 (by omega)
          have f112 : sB (b st) = 112 ↔ b st = 112 := f 112 (by omega)
          have f117 : sB (b st) = 117 ↔ b st = 117 := f 117 (by omega)
          have f99 : sB (b st) = 99 ↔ b st = 99 := f 99 (by omega)
          have f100 : sB (b st) = 100 ↔ b st = 100 := f 100 (by omega)
          have f115 : sB (b st) = 115 ↔ b st = 115 := f 115 (by omega)
          have f119 : sB (b st) = 119 ↔ b st = 119 := f 119 (by omega)
          have hyes : pb_R 177 319 [some (.ref 65), some (.int (nI st)), some (.int l2), some (.int (sB (b st))), some (.int (nI (st + 1))), none] [] [] (pb_set h 65 (rm s2)) Q ↔ Q none (pb_set h 65 (rm (upd (upd s2 15 3) 17 (nI (st + 1))))) := by
            simp only [pb_e177, hg, pb_gr, pb_o_some, true_and, i10, if_false, pb_set_same]
          have hno : pb_R 177 323 [some (.ref 65), some (.int (nI st)), some (.int l2), some (.int (sB (b st))), some (.int (nI (st + 1))), none] [] [] (pb_set h 65 (rm s2)) Q ↔ Q none (pb_set h 65 (rm (upd (upd s2 15 4) 17 (nI (st + 1))))) := by
            simp only [pb_e177, hg, pb_gr, pb_o_some, true_and, if_true, pb_set_same]
          have s3 : pb_R 177 215 [some (.ref 65), some (.int (nI st)), some (.int l2), some (.int (sB (b st))), some (.int (nI (st + 1))), none] [] [] (pb_set h 65 (rm s2)) Q ↔ Q none (pb_set h 65 (rm (upd (upd s2 15 (if sow (b st) then 3 else 4)) 17 (nI (st + 1))))) := by
            simp only [pb_e177, hg, pb_gr, pb_o_some, true_and, i10, if_false, pb_set_same, if_true, k62, k60, not_false_eq_true, f43, f45, f42, f59, f61, f112, f117, f99, f100, f115, f119]
            by_cases cs : sow (b st)
            · rw [if_pos cs]
              rcases cs with q | q | q | q | q | q | q | q | q | q | q <;> simp [q]
            · rw [if_neg cs]
              unfold sow at cs
              simp only [not_or] at cs
              obtain ⟨d1, d2, d3, d4, d5, d6, d7, d8, d9, d10, d11⟩ := cs
              simp only [d1, d2, d3, d4, d5, d6, d7, d8, d9, d10, d11, if_false, not_false_eq_true, if_true]
          rw [s3]
          by_cases cs : sow (b st)
          · have kk : tkk b n st = b st := by unfold tkk; rw [if_neg c0', if_neg cd, if_neg q120, if_neg q126, if_neg cr, if_pos cs]
            rw [if_pos cs]
            exact hend _ _ (by rw [kk, kR_byte (Or.inr (Or.inr cs))]; rfl) (fun _ => by rw [ke])
          · have kk : tkk b n st = 1 := by unfold tkk; rw [if_neg c0', if_neg cd, if_neg q120, if_neg q126, if_neg cr, if_neg cs]
            rw [if_neg cs]
            exact hend _ _ (by rw [kk]; rfl) (fun w => absurd kk w)
  · rw [if_neg c0]
    have kk : tkk b n st = 0 := by unfold tkk; rw [if_pos (by omega)]
    have ke : tke b n st = st := by unfold tke; rw [if_pos (by omega)]
    simp only [pb_e177, hg, pb_gr, pb_o_some, true_and, pb_set_same]
    exact fin _ (fun k k1 k2 k3 k4 => by rw [upd_ne _ _ k3, upd_ne _ _ k1]; exact t0 k k1 k2 k3 k4) (by rw [upd_ne _ _ (by omega), upd_ne _ _ (by omega), t16]) (by rw [upd_ne _ _ (by omega), upd_same, kk]; rfl) (fun q => absurd q c0) (fun _ => by rw [upd_same, ke])
end RNX
