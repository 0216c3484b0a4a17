/-! Text in a ByteRow -/
def gd (L : List Nat) (i : Nat) : Nat := (L[i]?).getD 0
theorem gd_l {L M : List Nat} {i : Nat} (h : i < L.length) : gd (L ++ M) i = gd L i := by unfold gd; rw [List.getElem?_append_left h]
theorem gd_r {L M : List Nat} {i : Nat} (h : L.length ≤ i) : gd (L ++ M) i = gd M (i - L.length) := by unfold gd; rw [List.getElem?_append_right h]
theorem gd_rev {L : List Nat} {i : Nat} (h : i < L.length) : gd L.reverse i = gd L (L.length - 1 - i) := by unfold gd; rw [List.getElem?_reverse h]
/-- digits, the last one first -/
def rdg : Nat → Nat → List Nat
  | 0, _ => []
  | f + 1, n => (48 + n % 10) :: (if n / 10 = 0 then [] else rdg f (n / 10))
def dec (n : Nat) : List Nat := (rdg 80 n).reverse
theorem rdg_len : ∀ f n, (rdg f n).length ≤ f
  | 0, _ => Nat.le_refl _
  | f + 1, n => by
    show (if n / 10 = 0 then [] else rdg f (n / 10)).length + 1 ≤ f + 1
    split
    · simp
    · have := rdg_len f (n / 10)
      omega
theorem dec_len (n : Nat) : (dec n).length ≤ 80 := by unfold dec; rw [List.length_reverse]; exact rdg_len _ _
/-- a row whose text is L; behind its limit nothing but L0 is sure -/
def BX (h : pb_H) (w lim c N : Nat) (L0 L : List Nat) (sz : Nat) (ov : Int32) (b : Nat → Nat) : Prop := BR h w lim c N sz ov b ∧ L0.length ≤ sz ∧ (∀ i, i < L0.length → b i = gd L0 i) ∧ ((ov = 0 ∧ sz = L.length ∧ ∀ i, i < L.length → b i = gd L i) ∨ (ov = 1 ∧ sz = lim ∧ lim < L.length))
section WRT
variable {h : pb_H} {Q : Option Value → pb_H → Prop} {w lim c N sz : Nat} {ov : Int32} {b : Nat → Nat} {L0 L : List Nat}
theorem W2 {x : Int32} {k : Nat} (hB : BX h w lim c N L0 L sz ov b) (hk : wu x % 256 = k)
    (hQ : ∀ h' c' N' sz' ov' b', BG h h' w lim c N c' N' → BX h' w lim c' N' L0 (L ++ [k]) sz' ov' b' → (ov' = 0 → ov = 0) → sz ≤ sz' → Q none h') : pb_call 2 [.ref w, .int x] h Q := by
  obtain ⟨B, b1, b2, b3⟩ := hB
  have full : ∀ ov1, BR h w lim c N lim ov1 b → L0.length ≤ lim → lim < L.length + 1 → Q none (pb_set h w (cw lim c lim 1)) ∨ True → (sz ≤ lim) → (pb_call 2 [.ref w, .int x] h Q) := by
    intro ov1 B1 l1 l2 _ hsz
    rw [L2_full B1]
    have F : fr (fun q => q = w ∨ q = c) h (pb_set h w (cw lim c lim 1)) := fr_set (Or.inl rfl) (by rw [B1.1]; rfl)
    have hcw : c ≠ w := fun e => by
      have := B1.2.1
      rw [e, B1.1] at this
      exact cb_inr this.symm
    refine hQ _ c N lim 1 b ⟨fg_fr F, Or.inl rfl, by rw [F.1]; omega, by rw [fr_sl F]; omega⟩ ⟨⟨by rw [pb_set_get, if_pos rfl], by rw [pb_set_get, if_neg hcw]; exact B1.2.1, B1.2.2.1, B1.2.2.2.1, B1.2.2.2.2.1, B1.2.2.2.2.2.1, B1.2.2.2.2.2.2.1, B1.2.2.2.2.2.2.2.1, B1.2.2.2.2.2.2.2.2.1, B1.2.2.2.2.2.2.2.2.2⟩, l1, b2, Or.inr ⟨rfl, rfl, by rw [List.length_append]; show lim < L.length + 1; exact l2⟩⟩ (fun e => absurd e (by decide)) hsz
  rcases b3 with ⟨q1, q2, q3⟩ | ⟨q1, q2, q3⟩
  · by_cases cs : sz < lim
    · refine L2' B cs ?_
      intro h' c' N' G B'
      rw [hk] at B'
      refine hQ h' c' N' (sz + 1) ov (un b sz k) G ⟨B', by omega, fun i hi => ?_, Or.inl ⟨q1, ?_, fun i hi => ?_⟩⟩ (fun e => e) (by omega)
      · rw [un_ne _ (by omega)]; exact b2 i hi
      · rw [List.length_append]; show sz + 1 = L.length + 1; omega
      · rw [List.length_append] at hi
        have hi' : i < L.length + 1 := hi
        by_cases e : i = sz
        · subst e
          rw [un_same, gd_r (by omega), show i - L.length = 0 by omega]
          rfl
        · rw [un_ne _ e, gd_l (by omega)]
          exact q3 i (by omega)
    · have hsz : sz = lim := by have := B.2.2.1; have := B.2.2.2.1; omega
      subst hsz
      exact full ov B b1 (by omega) (Or.inr trivial) (Nat.le_refl _)
  · subst q2
    exact full ov B b1 (by omega) (Or.inr trivial) (Nat.le_refl _)
/-- reversed from lo up to hi -/
def rvb (b : Nat → Nat) (lo hi : Nat) : Nat → Nat := fun i => if lo ≤ i ∧ i < hi then b (lo + hi - 1 - i) else b i
theorem rvb_id {lo hi : Nat} (hh : hi ≤ lo + 1) : rvb b lo hi = b := by
  funext i
  unfold rvb
  by_cases c1 : lo ≤ i ∧ i < hi
  · rw [if_pos c1, show lo + hi - 1 - i = i by omega]
  · rw [if_neg c1]
theorem rvb_step {lo hi : Nat} (hh : lo + 1 < hi) : rvb (un (un b lo (b (hi - 1))) (hi - 1) (b lo)) (lo + 1) (hi - 1) = rvb b lo hi := by
  funext i
  unfold rvb
  by_cases c1 : lo + 1 ≤ i ∧ i < hi - 1
  · rw [if_pos c1, if_pos (by omega), un_ne _ (by omega), un_ne _ (by omega), show lo + 1 + (hi - 1) - 1 - i = lo + hi - 1 - i by omega]
  · rw [if_neg c1]
    by_cases e1 : i = lo
    · subst e1
      rw [un_ne _ (by omega), un_same, if_pos (by omega), show i + hi - 1 - i = hi - 1 by omega]
    · by_cases e2 : i = hi - 1
      · subst e2
        rw [un_same, if_pos (by omega), show lo + hi - 1 - (hi - 1) = lo by omega]
      · rw [un_ne _ e2, un_ne _ e1, if_neg (by omega)]
theorem m6_loop {s0 : Int32} (hw : h.2 w = cw lim c sz s0) (hwc : w ≠ c) (hN : N < 2 ^ 31) {l1 : Option Value} : ∀ r lo hi b l4, hi - lo ≤ r → hi ≤ N → lo < 2 ^ 31 → (∀ k, b k < 256) → (pb_R 6 9 [some (.ref w), l1, some (.int (nI lo)), some (.int (nI hi - 1)), l4] [] [] (pb_set h c (cb N b)) Q ↔ Q none (pb_set h c (cb N (rvb b lo hi)))) := by
  intro r
  induction r with
  | zero =>
    intro lo hi b l4 hr h1 h2 hb
    have c1 : nI hi - 1 ≤ nI lo := by
      by_cases e : hi = 0
      · subst e
        exact Int32.le_trans (by decide) (nI_pos' h2)
      · obtain ⟨k, rfl⟩ : ∃ k, hi = k + 1 := ⟨hi - 1, by omega⟩
        rw [nI_pred]
        exact nI_le (by omega) h2
    rw [rvb_id (by omega), pb_q6_9]
    simp only [pb_e6, c1, if_true]
  | succ r ih =>
    intro lo hi b l4 hr h1 h2 hb
    by_cases cs : hi ≤ lo + 1
    · have c1 : nI hi - 1 ≤ nI lo := by
        by_cases e : hi = 0
        · subst e
          exact Int32.le_trans (by decide) (nI_pos' h2)
        · obtain ⟨k, rfl⟩ : ∃ k, hi = k + 1 := ⟨hi - 1, by omega⟩
          rw [nI_pred]
          exact nI_le (by omega) h2
      rw [rvb_id cs, pb_q6_9]
      simp only [pb_e6, c1, if_true]
    · obtain ⟨k, rfl⟩ : ∃ k, hi = k + 1 := ⟨hi - 1, by omega⟩
      have c1 : ¬ nI k ≤ nI lo := nI_ge (by omega) (by omega)
      have gw : ∀ x, (pb_set h c x).2 w = cw lim c sz s0 := fun x => by rw [pb_set_get, if_neg hwc, hw]
      have gc : ∀ x, (pb_set h c x).2 c = x := fun x => by rw [pb_set_get, if_pos rfl]
      have g1 := cb_get (N := N) (j := lo) (b := b) (by omega) hN
      have g2 := cb_get (N := N) (j := k) (b := b) (by omega) hN
      have s1 := cb_set (N := N) (j := lo) (b := b) (x := sB (b k)) (by omega) hN
      rw [sB_wu _ (hb k)] at s1
      have s2 := cb_set (N := N) (j := k) (b := un b lo (b k)) (x := sB (b lo)) (by omega) hN
      rw [sB_wu _ (hb lo)] at s2
      have e1 : nI k + -1 = nI k - 1 := sub1 (nI k)
      have hst := rvb_step (b := b) (lo := lo) (hi := k + 1) (by omega)
      rw [show k + 1 - 1 = k by omega] at hst
      rw [pb_q6_9, nI_pred]
      simp only [pb_e6, c1, if_false, gw, pb_g0, pb_o_some, gc, g1, g2, s1, s2, pb_set_same, nI_1, e1]
      rw [ih (lo + 1) k (un (un b lo (b k)) k (b lo)) _ (by omega) (by omega) (by omega) (fun i => by
        unfold un
        split
        · exact hb lo
        · split
          · exact hb k
          · exact hb i), hst]
/-- ByteRow.reverseFrom -/
theorem m6 {lo : Nat} (hB : BR h w lim c N sz ov b) (hlo : lo ≤ sz) : pb_call 6 [.ref w, .int (nI lo)] h Q ↔ Q none (pb_set h c (cb N (rvb b lo sz))) := by
  obtain ⟨b1, b2, b3, b4, b5, b6, b7, b8, b9, b10⟩ := hB
  have hwc : w ≠ c := fun e => by rw [e, b2] at b1; exact cb_inr b1
  have key := m6_loop (Q := Q) (l1 := some (.int (nI lo))) (s0 := ov) b1 hwc (by omega : N < 2 ^ 31) sz lo sz b none (by omega) (by omega) (by omega) b7
  rw [pb_set_id h b2] at key
  rw [pb_c6]
  simp only [pb_e6, b1, pb_g0, pb_o_some]
  exact key
/-- the digits, turned round -/
theorem W6 {ds : List Nat} {first : Nat} (hB : BX h w lim c N L0 (L ++ ds) sz ov b) (h1 : L0.length ≤ first) (h2 : first ≤ sz) (h3 : ov = 0 → first = L.length)
    (hQ : ∀ h' sz' ov' b', BG h h' w lim c N c N → BX h' w lim c N L0 (L ++ ds.reverse) sz' ov' b' → Q none h') : pb_call 6 [.ref w, .int (nI first)] h Q := by
  obtain ⟨B, q1, q2, q3⟩ := hB
  rw [m6 B h2]
  have F : fr (fun q => q = w ∨ q = c) h (pb_set h c (cb N (rvb b first sz))) := fr_set (Or.inr rfl) (by rw [B.2.1]; rfl)
  have hcw : w ≠ c := fun e => by
    have := B.2.1
    rw [← e, B.1] at this
    exact cb_inr this.symm
  have hlt : ∀ k, rvb b first sz k < 256 := fun k => by
    unfold rvb
    split
    · exact B.2.2.2.2.2.2.1 _
    · exact B.2.2.2.2.2.2.1 _
  have B' : BR (pb_set h c (cb N (rvb b first sz))) w lim c N sz ov (rvb b first sz) := ⟨by rw [pb_set_get, if_neg hcw]; exact B.1, by rw [pb_set_get, if_pos rfl], B.2.2.1, B.2.2.2.1, B.2.2.2.2.1, B.2.2.2.2.2.1, hlt, fun i hi => by
    unfold rvb
    rw [if_neg (by have := B.2.2.1; omega)]
    exact B.2.2.2.2.2.2.2.1 i hi, B.2.2.2.2.2.2.2.2.1, B.2.2.2.2.2.2.2.2.2⟩
  refine hQ _ sz ov (rvb b first sz) ⟨fg_fr F, Or.inl rfl, by rw [F.1]; omega, by rw [fr_sl F]; omega⟩ ⟨B', q1, fun i hi => ?_, ?_⟩
  · unfold rvb
    rw [if_neg (by omega)]
    exact q2 i hi
  · rcases q3 with ⟨a1, a2, a3⟩ | ⟨a1, a2, a3⟩
    · have hf := h3 a1
      rw [List.length_append] at a2 a3
      refine Or.inl ⟨a1, by rw [List.length_append, List.length_reverse]; exact a2, fun i hi => ?_⟩
      rw [List.length_append, List.length_reverse] at hi
      unfold rvb
      by_cases e : i < L.length
      · rw [if_neg (by omega), a3 i hi, gd_l e, gd_l e]
      · rw [if_pos (by omega), a3 _ (by omega), gd_r (by omega), gd_r (by omega), gd_rev (by omega)]
        congr 1
        omega
    · exact Or.inr ⟨a1, a2, by rw [List.length_append, List.length_reverse] at *; exact a3⟩
end WRT
