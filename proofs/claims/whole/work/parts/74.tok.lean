/-! TOKENS on both sides: where the reader stands -/
/-- the next TOKEN's begin -/
def nxt (b : Nat → Nat) (n st : Nat) : Nat := skp b (n - tke b n st) (tke b n st) false
def st0 (b : Nat → Nat) (n : Nat) : Nat := skp b (n - 0) 0 false
theorem sb_lt {b : Nat → Nat} {n i m : Nat} (h : sb b n i = m) (hm : m < 256) : i < n := by
  unfold sb at h
  by_cases c : i < n
  · exact c
  · rw [if_neg c] at h; omega
theorem tke_le {b : Nat → Nat} {n st : Nat} (hs : st ≤ n) (hk : tkk b n st ≠ 1) : tke b n st ≤ n ∧ (st < n → st < tke b n st) := by
  unfold tke tkk at *
  by_cases c0 : n ≤ st
  · rw [if_pos c0]; omega
  · rw [if_neg c0] at hk ⊢
    by_cases cd : dgt (b st)
    · rw [if_pos cd]
      have := den_le b (n - (st + 1)) (st + 1)
      omega
    · rw [if_neg cd] at hk ⊢
      by_cases c1 : b st = 120
      · rw [if_pos c1] at hk ⊢
        by_cases g1 : dgt (sb b n (st + 1))
        · rw [if_pos g1]
          have h1 := (bA_dgt g1).1
          by_cases g2 : dgt (sb b n (st + 2))
          · rw [if_pos g2]
            have h2 := (bA_dgt g2).1
            omega
          · rw [if_neg g2]; omega
        · rw [if_neg g1] at hk; omega
      · rw [if_neg c1] at hk ⊢
        by_cases c2 : b st = 126 ∧ sb b n (st + 1) = 120
        · rw [if_pos c2] at hk ⊢
          by_cases g1 : dgt (sb b n (st + 2))
          · rw [if_pos g1]
            have h1 := (bA_dgt g1).1
            by_cases g2 : dgt (sb b n (st + 3))
            · rw [if_pos g2]
              have h2 := (bA_dgt g2).1
              omega
            · rw [if_neg g2]; omega
          · rw [if_neg g1] at hk; omega
        · rw [if_neg c2] at hk ⊢
          by_cases c3 : b st = 62 ∨ b st = 60
          · rw [if_pos c3] at hk ⊢
            by_cases c4 : sb b n (st + 1) = 61
            · have := sb_lt c4 (by omega)
              omega
            · rw [if_neg c4] at hk; omega
          · rw [if_neg c3]; omega
theorem nxt_le {b : Nat → Nat} {n st : Nat} (hs : st ≤ n) (hk : tkk b n st ≠ 1) : nxt b n st ≤ n ∧ (st < n → st < nxt b n st) := by
  obtain ⟨h1, h2⟩ := tke_le hs hk
  have h3 := skp_le b (n - tke b n st) (tke b n st) false
  have h4 := skp_ge b (n - tke b n st) (tke b n st) false
  unfold nxt
  omega
theorem st0_le (b : Nat → Nat) (n : Nat) : st0 b n ≤ n := by
  have := skp_le b (n - 0) 0 false
  unfold st0
  omega
theorem tkk_lt {b : Nat → Nat} {n st : Nat} (hk : tkk b n st ≠ 0) : st < n := by
  unfold tkk at hk
  by_cases c0 : n ≤ st
  · rw [if_pos c0] at hk; omega
  · omega
/-- the class's reader stands at st -/
def TS (b : Nat → Nat) (n st : Nat) (s : Nat → Int32) : Prop := s 3 = nI st ∧ s 2 = nI (tkk b n st) ∧ s 4 = nI (tke b n st) ∧ (tkk b n st = 120 → s 5 = nI (tkw b n st) ∧ s 6 = if b st = 120 then 1 else -1) ∧ st ≤ n
/-- the reference stands at st -/
def RSt (b : Nat → Nat) (n st : Nat) (s : Nat → Int32) : Prop := s 16 = nI st ∧ s 15 = nI (kR (tkk b n st)) ∧ (st < n → s 18 = sB (b st)) ∧ (tkk b n st ≠ 1 → s 17 = nI (tke b n st)) ∧ st ≤ n
section TOK
variable {h : pb_H} {Q : Option Value → pb_H → Prop} {c N n st : Nat} {b : Nat → Nat} {s : Nat → Int32}
theorem T23 (hT : TX h c N n b s) (hS : TS b n st s) (hk : tkk b n st ≠ 1) (hQ : ∀ s', TX (pb_set h 5 (cx (.ref c) s')) c N n b s' → TS b n (nxt b n st) s' → s' 7 = s 7 → s' 8 = s 8 → Q none (pb_set h 5 (cx (.ref c) s'))) : pb_call 23 [.ref 5] h Q := by
  have hle := tke_le hS.2.2.2.2 hk
  refine L23 hT hS.2.2.1 hle.1 (fun s' hN => ?_)
  obtain ⟨n1, n7, n8, n3, n2, n4, n5⟩ := hN
  exact hQ s' (TX_set hT n1) ⟨n3, n2, n4, n5, (nxt_le hS.2.2.2.2 hk).1⟩ n7 n8
theorem U177 (hT : RT h n b s) (hS : RSt b n st s) (hk : tkk b n st ≠ 1) (hQ : ∀ s', RT (pb_set h 65 (rm s')) n b s' → RSt b n (nxt b n st) s' → (∀ k, k ≠ 15 → k ≠ 16 → k ≠ 17 → k ≠ 18 → s' k = s k) → Q none (pb_set h 65 (rm s'))) : pb_call 177 [.ref 65] h Q := by
  have hle := tke_le hS.2.2.2.2 hk
  refine R177 hT (hS.2.2.2.1 hk) hle.1 (fun s' hN => ?_)
  obtain ⟨n0, n16, n15, n18, n17⟩ := hN
  exact hQ s' (RT_set hT (n0 7 (by omega) (by omega) (by omega) (by omega))) ⟨n16, n15, n18, n17, (nxt_le hS.2.2.2.2 hk).1⟩ n0
/-- refuse, refuseHere, expect, knowsVariable -/
theorem m27 {f p : Int32} {cc : Value} (h5 : h.2 5 = cx cc s) : pb_call 27 [.ref 5, .int f, .int p] h Q ↔ Q (some (.int 0)) (pb_set h 5 (cx cc (upd (upd s 7 f) 8 p))) := by
  have hg : ∀ c, (pb_set h 5 c).2 5 = c := fun c => by rw [pb_set_get, if_pos rfl]
  rw [pb_c27]
  simp only [pb_e27, h5, pb_gx, pb_o_some, true_and, hg, pb_set_same, nb0]
theorem m29 {f : Int32} {cc : Value} (h5 : h.2 5 = cx cc s) : pb_call 29 [.ref 5, .int f] h Q ↔ Q (some (.int 0)) (pb_set h 5 (cx cc (upd (upd s 7 f) 8 (s 3)))) := by
  have h27 := fun (p : Int32) (Q : Option Value → pb_H → Prop) => m27 (Q := Q) (f := f) (p := p) h5
  rw [pb_c29]
  simp only [pb_e29, h5, pb_gx, pb_o_some, true_and, h27, Option.toList_some, List.singleton_append, nb0]
theorem m76 {k : Int32} {cc : Value} (h5 : h.2 5 = cx cc s) : pb_call 76 [.ref 5, .int k] h Q ↔ if s 2 = k then Q (some (.int 1)) h else Q (some (.int 0)) (pb_set h 5 (cx cc (upd (upd s 7 1) 8 (s 3)))) := by
  have h29 := fun (Q : Option Value → pb_H → Prop) => m29 (Q := Q) (f := 1) h5
  rw [pb_c76]
  by_cases e : s 2 = k
  · rw [if_pos e]
    simp only [pb_e76, h5, pb_gx, pb_o_some, true_and, e, if_true, nb1]
  · rw [if_neg e]
    simp only [pb_e76, h5, pb_gx, pb_o_some, true_and, e, if_false, h29, Option.toList_some, List.singleton_append, if_true, nb0]
theorem m50 {v V : Nat} {cc : Value} (h5 : h.2 5 = cx cc s) (hv : s 5 = nI v) (hv2 : v < 2 ^ 31) (hV : V < 2 ^ 31) : pb_call 50 [.ref 5, .int (nI V)] h Q ↔ Q (some (.int (if 1 ≤ v ∧ v ≤ V then 1 else 0))) h := by
  have k1 : nI v < 1 ↔ v < 1 := nI_ltI (b := 1) hv2 (by omega)
  have k2 := nI_ltI (a := V) (b := v) hV hv2
  rw [pb_c50]
  by_cases c1 : v < 1
  · rw [if_neg (by omega)]
    simp only [pb_e50, h5, pb_gx, pb_o_some, true_and, hv, k1, c1, if_true, nb0]
  · by_cases c2 : V < v
    · rw [if_neg (by omega)]
      simp only [pb_e50, h5, pb_gx, pb_o_some, true_and, hv, k1, c1, if_false, k2, c2, if_true, nb0]
    · rw [if_pos (by omega)]
      simp only [pb_e50, h5, pb_gx, pb_o_some, true_and, hv, k1, c1, if_false, k2, c2, nb1]
/-- the reference's isMark, fault -/
theorem R178 {k : Nat} (h65 : h.2 65 = rm s) (hS : RSt b n st s) (hk : k = 62 ∨ k = 60 ∨ sow k) (hb : ∀ k, b k < 256) : pb_call 178 [.ref 65, .int (nI k)] h Q ↔ Q (some (.int (if tkk b n st = k then 1 else 0))) h := by
  obtain ⟨s16, s15, s18, s17, hle⟩ := hS
  have hkR : ∀ k, kR k < 5 := fun k => by unfold kR; split <;> (try split) <;> (try split) <;> (try split) <;> omega
  have e3 : nI (kR (tkk b n st)) = 3 ↔ kR (tkk b n st) = 3 := nI_eq (b := 3) (by have := hkR (tkk b n st); omega) (by omega)
  have kk3 : kR (tkk b n st) = 3 → st < n ∧ tkk b n st = b st := by
    intro q
    have hlt : st < n := tkk_lt (fun z => by rw [z] at q; exact absurd q (by decide))
    refine ⟨hlt, ?_⟩
    unfold tkk at q ⊢
    rw [if_neg (by omega)] at q ⊢
    by_cases cd : dgt (b st)
    · rw [if_pos cd] at q
      split at q <;> exact absurd q (by decide)
    · rw [if_neg cd] at q ⊢
      by_cases c1 : b st = 120
      · rw [if_pos c1] at q
        split at q <;> exact absurd q (by decide)
      · rw [if_neg c1] at q ⊢
        by_cases c2 : b st = 126 ∧ sb b n (st + 1) = 120
        · rw [if_pos c2] at q
          split at q <;> exact absurd q (by decide)
        · rw [if_neg c2] at q ⊢
          by_cases c3 : b st = 62 ∨ b st = 60
          · rw [if_pos c3] at q ⊢
            by_cases c4 : sb b n (st + 1) = 61
            · rw [if_pos c4]
            · rw [if_neg c4] at q; exact absurd q (by decide)
          · rw [if_neg c3] at q ⊢
            by_cases c5 : sow (b st)
            · rw [if_pos c5]
            · rw [if_neg c5] at q; exact absurd q (by decide)
  rw [pb_c178]
  by_cases c : kR (tkk b n st) = 3
  · obtain ⟨hlt, hbst⟩ := kk3 c
    have hs18 := s18 hlt
    have em : sB (b st) = nI k ↔ b st = k := sB_eq (hb st) (by unfold sow at hk; omega)
    by_cases d : b st = k
    · have d' := em.mpr d
      rw [if_pos (by rw [hbst]; exact d)]
      have e3' := e3.mpr c
      simp only [pb_e178, h65, pb_gr, pb_o_some, true_and, s15, e3', not_true_eq_false, if_false, hs18, d', nb1]
    · have d' : ¬ sB (b st) = nI k := fun q => d (em.mp q)
      rw [if_neg (by rw [hbst]; exact d)]
      have e3' := e3.mpr c
      simp only [pb_e178, h65, pb_gr, pb_o_some, true_and, s15, e3', not_true_eq_false, if_false, hs18, d', not_false_eq_true, if_true, nb0]
  · have hne : ¬ tkk b n st = k := fun q => c (by rw [q]; exact kR_byte hk)
    have c' : ¬ nI (kR (tkk b n st)) = 3 := fun q => c (e3.mp q)
    rw [if_neg hne]
    simp only [pb_e178, h65, pb_gr, pb_o_some, true_and, s15, c', not_false_eq_true, if_true, nb0]
theorem R183 {f p : Int32} (h65 : h.2 65 = rm s) : pb_call 183 [.ref 65, .int f, .int p] h Q ↔ Q (some (.int 0)) (pb_set h 65 (rm (upd (upd s 8 f) 9 p))) := by
  have hg : ∀ c, (pb_set h 65 c).2 65 = c := fun c => by rw [pb_set_get, if_pos rfl]
  rw [pb_c183]
  simp only [pb_e183, h65, pb_gr, pb_o_some, true_and, hg, pb_set_same, nb0]
end TOK
