/-! Line.add: the loop, and what it makes. -/
theorem L64_loop {h : pb_H} {Q : Option Value → pb_H → Prop} {V a b bd wi0 wi2 : Nat} {f0 g : Nat → Int32} {p0 n0 wi so ca cf co p2 n2 w2 so2 ca2 cf2 co2 : Int32} {x y : LN} (hV : V ≤ 16) (hab : b ≠ a) (hba1 : b ≠ a + 1) (hb1a : b + 1 ≠ a) (hb : h.2 b = cl (nI V) (b + 1) p2 n2 w2 so2 ca2 cf2 co2) (hb1 : h.2 (b + 1) = ci ((V + 1) * 8) g) (hx : LF V f0 p0 n0 wi0 x) (hy : LF V g p2 n2 wi2 y) (hbd : bd ≤ 8) (zx : ∀ v, v ≤ V → hz f0 (v * 8) bd) (zy : ∀ v, v ≤ V → hz g (v * 8) bd) (hfit : bd < 8 → ∀ v, 1 ≤ v → v ≤ V → (x.2 v).natAbs + (y.2 v).natAbs < 4294967296 ^ bd)
    (hE : ∀ f p n o room, AI V bd V f0 f p0 n0 p n x y o room → Q (some (.int (if room = 0 then 0 else if ¬ o = 0 then 0 else 1))) (hl h a ((V + 1) * 8) (nI V) f p n (nI (stl f ((V + 1) * 8) bd)) so 0 cf co)) :
    ∀ r m f p n o room l6 l7, m + r = V → AI V bd m f0 f p0 n0 p n x y o room → pb_R 64 40 [some (.ref a), some (.ref b), some (.int (nI bd)), some (.int (nI o)), some (.int (nI room)), some (.int (nI (m + 1))), l6, l7] [] [] (hl h a ((V + 1) * 8) (nI V) f p n wi so ca cf co) Q := by
  have rB : ∀ f' p' n', (hl h a ((V + 1) * 8) (nI V) f' p' n' wi so ca cf co).2 b = cl (nI V) (b + 1) p2 n2 w2 so2 ca2 cf2 co2 := fun f' p' n' => (hl_o hab hba1).trans hb
  have rB1 : ∀ f' p' n', (hl h a ((V + 1) * 8) (nI V) f' p' n' wi so ca cf co).2 (b + 1) = ci ((V + 1) * 8) g := fun f' p' n' => (hl_o hb1a (by omega)).trans hb1
  intro r
  induction r with
  | zero =>
    intro m f p n o room l6 l7 hm hI
    have em : m = V := by omega
    subst em
    rw [pb_q64_40]
    have c : nI m < nI (m + 1) := nI_lt (by omega) (by omega)
    have hm39 : ∀ Q : Option Value → pb_H → Prop, pb_call 39 [.ref a, .int (nI bd)] (hl h a ((m + 1) * 8) (nI m) f p n wi so ca cf co) Q ↔ Q none (hl h a ((m + 1) * 8) (nI m) f p n (nI (stl f ((m + 1) * 8) bd)) so 0 cf co) := fun Q => by rw [m39 hl_a hl_w (by omega) (by omega), hl_sa]
    have er : nI room = 0 ↔ room = 0 := nI_eq (b := 0) (by have := hI.2.2.2.2.2.2.2; omega) (by omega)
    have eo : nI o = 0 ↔ o = 0 := nI_eq (b := 0) (by have := hI.1; omega) (by omega)
    have hf := hE f p n o room hI
    simp only [pb_e64, hl_a, pb_g4, pb_o_some, if_pos c, true_and, hm39, Option.toList_none, List.nil_append, er, eo, nb0, nb1]
    by_cases c1 : room = 0
    · simp only [c1, if_true] at hf ⊢; exact hf
    · by_cases c2 : o = 0
      · simp only [c1, c2, if_false, not_true_eq_false] at hf ⊢; exact hf
      · simp only [c1, c2, if_false, not_false_eq_true, if_true] at hf ⊢; exact hf
  | succ r ih =>
    intro m f p n o room l6 l7 hm hI
    have hI' := hI
    obtain ⟨i1, i2, i3, i4, i5, i6, i7, i8⟩ := hI
    rw [pb_q64_40]
    have c : ¬ nI V < nI (m + 1) := nI_nlt (by omega) (by omega)
    have e8 : nI (m + 1) * 8 = nI ((m + 1) * 8) := pk_mul (m + 1) 8
    have hm60b := fun Q : Option Value → pb_H → Prop => m60 (h := hl h a ((V + 1) * 8) (nI V) f p n wi so ca cf co) (Q := Q) (a := b) (v := m + 1) (rB f p n) (by omega) (by omega)
    have hm60a := fun Q : Option Value → pb_H → Prop => m60 (h := hl h a ((V + 1) * 8) (nI V) f p n wi so ca cf co) (Q := Q) (a := a) (v := m + 1) hl_a (by omega) (by omega)
    have hbit := i3 (m + 1) (by omega)
    have hs : sgn p n (m + 1) = sgn p0 n0 (m + 1) := by unfold sgn; rw [hbit.1, hbit.2]
    have z1 : hz f ((m + 1) * 8) bd := fun j j1 j2 => by rw [i2 _ (by omega)]; exact zx (m + 1) (by omega) j j1 j2
    have z2 : hz g ((m + 1) * 8) bd := zy (m + 1) (by omega)
    have z0 : hz f 0 bd := hz_of hbd i5
    have hinc : nI (m + 1) + 1 = nI (m + 1 + 1) := nI_1 _
    have hcan := fun (hop : (0 < x.2 (m + 1) ∧ y.2 (m + 1) < 0) ∨ (x.2 (m + 1) < 0 ∧ 0 < y.2 (m + 1))) (l6 l7 : Option Value) => L63 (h := hl h a ((V + 1) * 8) (nI V) f p n wi so ca cf co) (Q := fun v t => pb_R 64 93 [some (.ref a), some (.ref b), some (.int (nI bd)), some (.int (nI o)), some (.int (nI room)), some (.int (nI (m + 1))), l6, l7] [] (v.toList ++ []) t Q) (a := a) (b := b) (v := m + 1) (bd := bd) (o := o) hV hab (rB f p n) (rB1 f p n) hl_a hl_w (by omega) (by omega) hbd i1 z0 z1 z2 (fun f' p' n' o' c1 c8 c2 c3 c4 c5 c6 c7 => by
      rw [hl_hl]
      simp only [pb_e64, Option.toList_some, List.singleton_append, hinc]
      exact ih (m + 1) f' p' n' o' room _ _ (by omega) (AI_can hx hy (by omega) hI' hop c1 c8 c2 c3 c4 c5 c6 c7))
    have hadd : ∀ (hop : ¬ ((0 < x.2 (m + 1) ∧ y.2 (m + 1) < 0) ∨ (x.2 (m + 1) < 0 ∧ 0 < y.2 (m + 1)))) (hy0 : y.2 (m + 1) ≠ 0) (l7 : Option Value), pb_R 64 97 [some (.ref a), some (.ref b), some (.int (nI bd)), some (.int (nI o)), some (.int (nI room)), some (.int (nI (m + 1))), some (.int (sgn p2 n2 (m + 1))), some (.int (nI ((m + 1) * 8)))] [] [] (hl h a ((V + 1) * 8) (nI V) f p n wi so ca cf co) Q := by
      intro hop hy0 l7
      have hA := AI_add hx hy hV (by omega) hbd z1 z2 (fun q => hfit q (m + 1) (by omega) (by omega)) hI' hop hy0
      have hm59 : ∀ Q : Option Value → pb_H → Prop, pb_call 59 [.ref (a + 1), .int (nI ((m + 1) * 8)), .ref (b + 1), .int (nI ((m + 1) * 8)), .int (nI bd)] (hl h a ((V + 1) * 8) (nI V) f p n wi so ca cf co) Q ↔ Q (some (.int (nI (wa f g ((m + 1) * 8) ((m + 1) * 8) bd).2))) (hl h a ((V + 1) * 8) (nI V) (wa f g ((m + 1) * 8) ((m + 1) * 8) bd).1 p n wi so ca cf co) := fun Q => by
        rw [m59 hl_w (rB1 f p n) (fun e => by omega) (by omega) (by omega) (by omega) (by omega), hl_sw]
      have hm54 : ∀ f' sg (Q : Option Value → pb_H → Prop), pb_call 54 [.ref a, .int (nI (m + 1)), .int sg] (hl h a ((V + 1) * 8) (nI V) f' p n wi so ca cf co) Q ↔ Q none (hl h a ((V + 1) * 8) (nI V) f' (ssp p (m + 1) sg) (ssn n (m + 1) sg) wi so ca cf co) := fun f' sg Q => by rw [m54 hl_a, hl_sa]
      have ec : nI (wa f g ((m + 1) * 8) ((m + 1) * 8) bd).2 = 0 ↔ (wa f g ((m + 1) * 8) ((m + 1) * 8) bd).2 = 0 := nI_eq (b := 0) (by have := wa_carry f g ((m + 1) * 8) ((m + 1) * 8) bd; omega) (by omega)
      have er : nI room = 0 ↔ room = 0 := nI_eq (b := 0) (by omega) (by omega)
      simp only [pb_e64, hl_a, rB, pb_g4, pb_o_some, hm59, Option.toList_some, Option.toList_none, List.singleton_append, List.nil_append, ec, er, true_and, hm54, hinc]
      by_cases c1 : (wa f g ((m + 1) * 8) ((m + 1) * 8) bd).2 = 0
      · rw [if_pos c1] at hA
        by_cases c2 : room = 0
        · subst c2
          simp only [c1, not_true_eq_false, if_false, if_true]
          exact ih (m + 1) _ _ _ o 0 _ _ (by omega) hA
        · have e2 : room = 1 := by omega
          subst e2
          simp only [c1, not_true_eq_false, if_false, c2]
          exact ih (m + 1) _ _ _ o 1 _ _ (by omega) hA
      · rw [if_neg c1] at hA
        simp only [c1, not_false_eq_true, if_true]
        exact ih (m + 1) _ _ _ o 0 _ _ (by omega) hA
    simp only [pb_e64, hl_a, pb_g4, pb_o_some, if_neg c, rB, true_and, hm60b, Option.toList_some, List.singleton_append, e8]
    have q81 : ∀ (L : pb_L) (J : pb_J) (st : List Value) (h : pb_H) (Q : Option Value → pb_H → Prop) (x y : Int32), pb_R 64 81 L J (.int y :: .int x :: st) h Q ↔ if ¬ x = y then pb_R 64 97 L J st h Q else pb_R 64 84 L J st h Q := by
      intro L J st h Q x y
      simp only [pb_e64]
    have k0 : ¬ (1 : Int32) = 0 := by decide
    have k0' : ¬ (-1 : Int32) = 0 := by decide
    have n1 : -(1 : Int32) = -1 := by decide
    have n2' : -(-1 : Int32) = 1 := by decide
    have k1 : ¬ (1 : Int32) = -1 := by decide
    have k2 : ¬ (0 : Int32) = -1 := by decide
    have k3 : ¬ (-1 : Int32) = 1 := by decide
    have k4 : ¬ (0 : Int32) = 1 := by decide
    rcases sgn_of (p := 0) (n := 0) hy (show 1 ≤ m + 1 by omega) (show m + 1 ≤ V by omega) with ⟨y1, y2, y3, y4⟩ | ⟨y1, y2, y3, y4⟩ | ⟨y1, y2, y3, y4⟩
    · have hadd' := fun hop => hadd hop (by omega) none
      rw [y2] at hadd'
      rcases sgn_of (p := 0) (n := 0) hx (show 1 ≤ m + 1 by omega) (show m + 1 ≤ V by omega) with ⟨x1, x2, x3, x4⟩ | ⟨x1, x2, x3, x4⟩ | ⟨x1, x2, x3, x4⟩
      · simp only [y2, k0, not_false_eq_true, if_true, hm60a, hs, x2, n1, k1, Option.toList_some, List.singleton_append, hl_a, pb_g4, q81]
        exact hadd' (by omega)
      · simp only [y2, k0, not_false_eq_true, if_true, hm60a, hs, x2, n1, not_true_eq_false, if_false, Option.toList_some, List.singleton_append, hl_a, pb_g4, true_and, q81]
        simp only [pb_e64, hl_a, pb_g4, true_and]
        exact hcan (by omega) _ _
      · simp only [y2, k0, not_false_eq_true, if_true, hm60a, hs, x2, n1, k2, Option.toList_some, List.singleton_append, hl_a, pb_g4, q81]
        exact hadd' (by omega)
    · have hadd' := fun hop => hadd hop (by omega) none
      rw [y2] at hadd'
      rcases sgn_of (p := 0) (n := 0) hx (show 1 ≤ m + 1 by omega) (show m + 1 ≤ V by omega) with ⟨x1, x2, x3, x4⟩ | ⟨x1, x2, x3, x4⟩ | ⟨x1, x2, x3, x4⟩
      · simp only [y2, k0', not_false_eq_true, if_true, hm60a, hs, x2, n2', not_true_eq_false, if_false, Option.toList_some, List.singleton_append, hl_a, pb_g4, true_and, q81]
        simp only [pb_e64, hl_a, pb_g4, true_and]
        exact hcan (by omega) _ _
      · simp only [y2, k0', not_false_eq_true, if_true, hm60a, hs, x2, n2', k3, Option.toList_some, List.singleton_append, hl_a, pb_g4, q81]
        exact hadd' (by omega)
      · simp only [y2, k0', not_false_eq_true, if_true, hm60a, hs, x2, n2', k4, Option.toList_some, List.singleton_append, hl_a, pb_g4, q81]
        exact hadd' (by omega)
    · simp only [y2, not_true_eq_false, if_false, hinc]
      exact ih (m + 1) f p n o room _ _ (by omega) (AI_skip hx (by omega) y1 hI')
/-- Line.add -/
theorem L64 {h : pb_H} {Q : Option Value → pb_H → Prop} {V a b : Nat} {so so2 : Int32} {x y : LN} (hV : V ≤ 16) (hab : b ≠ a) (hA : LA h V a so x) (hB : LA h V b so2 y) (hQ : ∀ h', fr (lc a) h h' → ln_fit V (ln_sum V x y) → LA h' V a so (ln_sum V x y) → Q (some (.int 1)) h') (hN : ∀ h', fr (lc a) h h' → ¬ ln_fit V (ln_sum V x y) → LG h' V a → Q (some (.int 0)) h') : pb_call 64 [.ref a, .ref b] h Q := by
  obtain ⟨f, p, n, wi, ca, cf, co, e1, e2, hx, hcm⟩ := hA
  obtain ⟨g, p2, n2, wi2, ca2, cf2, co2, e3, e4, hy, hcm2⟩ := hB
  have hba1 : b ≠ a + 1 := fun e => by rw [← e, e3] at e2; cases e2
  have hb1a : b + 1 ≠ a := fun e => by rw [e, e1] at e4; cases e4
  have w8 := hx.1
  have w82 := hy.1
  obtain ⟨bd, hbdE⟩ : ∃ bd, bd = min 8 (max wi wi2 + 1) := ⟨_, rfl⟩
  have hbd : bd ≤ 8 := by omega
  have l1 : nI wi < nI wi2 ↔ wi < wi2 := nI_ltI (by omega) (by omega)
  have E1 : (if nI wi < nI wi2 then nI wi2 else nI wi) = nI (max wi wi2) := by
    by_cases c : wi < wi2
    · rw [if_pos (l1.mpr c), Nat.max_eq_right (by omega)]
    · rw [if_neg (fun q => c (l1.mp q)), Nat.max_eq_left (by omega)]
  have E2 : nI (max wi wi2) + 1 = nI (max wi wi2 + 1) := nI_1 _
  have E3 : (if nI (max wi wi2 + 1) < 8 then nI (max wi wi2 + 1) else 8) = nI bd := by
    have l2 : nI (max wi wi2 + 1) < 8 ↔ max wi wi2 + 1 < 8 := nI_ltI (b := 8) (by omega) (by omega)
    by_cases c : max wi wi2 + 1 < 8
    · rw [if_pos (l2.mpr c)]; congr 1; omega
    · rw [if_neg (fun q => c (l2.mp q)), show bd = 8 by omega]; rfl
  have zx : ∀ v, v ≤ V → hz f (v * 8) bd := fun v hv j j1 j2 => hx.2.2.2.2.2 v hv j (by omega) j2
  have zy : ∀ v, v ≤ V → hz g (v * 8) bd := fun v hv j j1 j2 => hy.2.2.2.2.2 v hv j (by omega) j2
  have zx0 : hz f 0 bd := by have := zx 0 (by omega); rwa [Nat.zero_mul] at this
  have zy0 : hz g 0 bd := by have := zy 0 (by omega); rwa [Nat.zero_mul] at this
  have hpow : bd < 8 → 4294967296 ^ bd = 4294967296 * 4294967296 ^ (max wi wi2) := fun q => by
    rw [show bd = max wi wi2 + 1 by omega, Nat.pow_succ, Nat.mul_comm]
  have small : ∀ (z : Nat → Int32) (w0 o : Nat), w0 ≤ max wi wi2 → w0 ≤ 8 → hz z o w0 → wv z o 8 < 4294967296 ^ (max wi wi2) := fun z w0 o q1 q2 q3 => Nat.lt_of_lt_of_le (hz_lt q2 q3) (Nat.pow_le_pow_right (by omega) q1)
  have hfit : bd < 8 → ∀ v, 1 ≤ v → v ≤ V → (x.2 v).natAbs + (y.2 v).natAbs < 4294967296 ^ bd := by
    intro q v v1 v2
    rw [hpow q, ← hx.2.2.1 v v1 v2, ← hy.2.2.1 v v1 v2]
    have a1 := small f wi (v * 8) (by omega) w8 (hx.2.2.2.2.2 v v2)
    have a2 := small g wi2 (v * 8) (by omega) w82 (hy.2.2.2.2.2 v v2)
    omega
  have hfit0 : bd < 8 → x.1 + y.1 < 4294967296 ^ bd := by
    intro q
    rw [hpow q, ← hx.2.1, ← hy.2.1]
    have b1 := hx.2.2.2.2.2 0 (by omega)
    have b2 := hy.2.2.2.2.2 0 (by omega)
    rw [Nat.zero_mul] at b1 b2
    have a1 := small f wi 0 (by omega) w8 b1
    have a2 := small g wi2 0 (by omega) w82 b2
    omega
  have hid : hl h a ((V + 1) * 8) (nI V) f p n (nI wi) so ca cf co = h := hl_id e1 e2
  have hm59 : ∀ Q : Option Value → pb_H → Prop, pb_call 59 [.ref (a + 1), .int 0, .ref (b + 1), .int 0, .int (nI bd)] h Q ↔ Q (some (.int (nI (wa f g 0 0 bd).2))) (hl h a ((V + 1) * 8) (nI V) (wa f g 0 0 bd).1 p n (nI wi) so ca cf co) := fun Q => by
    have := m59 (h := h) (Q := Q) (i := 0) (j := 0) (W := bd) e2 e4 (fun e => by omega) (by omega) (by omega) (by omega) (by omega)
    rw [← hl_sw (f := f), hid]
    exact this
  have hw := wa_8 hbd zx0 zy0
  have hdl : ∀ m, ln_dg x y m ≤ x.1 + y.1 := by
    intro m
    induction m with
    | zero => exact Nat.le_refl _
    | succ m ih => exact Nat.le_trans (Nat.sub_le _ _) ih
  have h0 : AI V bd 0 f (wa f g 0 0 bd).1 p n p n x y (wa f g 0 0 bd).2 1 := by
    refine ⟨wa_carry _ _ _ _ _, fun k hk => wa_out _ _ _ _ _ _ (by omega), fun u _ => ⟨rfl, rfl⟩, ?_, ?_, fun _ u h1 h2 => by omega, ⟨fun _ u h1 h2 => by omega, fun _ => rfl⟩, Nat.le_refl _⟩
    · show _ = x.1 + y.1
      rw [hw, hx.2.1, hy.2.1]
    · exact hz_lt hbd (fun k h1 h2 => by rw [wa_out f g 0 0 bd (0 + k) (by omega)]; exact zx0 k h1 h2)
  rw [pb_c64]
  simp only [pb_e64, e1, e3, pb_g4, pb_o_some, E1, E2, E3, hm59, Option.toList_some, List.singleton_append]
  refine L64_loop hV hab hba1 hb1a e3 e4 hx hy hbd zx zy hfit ?_ V 0 _ _ _ _ 1 _ _ (by omega) h0
  intro f' p' n' o room hI
  obtain ⟨i1, i2, i3, i4, i5, i6, i7, i8⟩ := hI
  have hiff : ln_fit V (ln_sum V x y) ↔ room = 1 ∧ o = 0 := by
    constructor
    · intro q
      refine ⟨i7.mpr (fun u u1 u2 => q.2 u u1 u2), ?_⟩
      have q1 : ln_dg x y V < 4294967296 ^ 8 := q.1
      rcases Nat.lt_or_ge o 1 with o0 | o0
      · omega
      · exfalso
        have e1 : o = 1 := by omega
        rw [e1] at i4
        by_cases b8 : bd = 8
        · rw [b8] at i4
          omega
        · have := hfit0 (by omega)
          have := hdl V
          omega
    · rintro ⟨q1, q2⟩
      refine ⟨?_, fun u u1 u2 => i7.mp q1 u u1 u2⟩
      have hl := wv_lt f' 0 8
      show ln_dg x y V < 4294967296 ^ 8
      rw [q2] at i4
      omega
  by_cases c : room = 1 ∧ o = 0
  · rw [if_neg (by omega), if_neg (by omega)]
    obtain ⟨c1, c2⟩ := c
    have hval : ∀ u, 1 ≤ u → u ≤ V → wv f' (u * 8) 8 = (x.2 u + y.2 u).natAbs := fun u u1 u2 => (i6 c1 u u1 u2).1
    have hzw : ∀ u, u ≤ V → hz f' (u * 8) bd := by
      intro u hu
      apply hz_of hbd
      by_cases u0 : u = 0
      · rw [u0, Nat.zero_mul]; exact i5
      · by_cases b8 : bd = 8
        · rw [b8]; exact wv_lt f' _ 8
        · rw [hval u (by omega) hu]
          have := hfit (by omega) u (by omega) hu
          omega
    have hLF : LF V f' p' n' (stl f' ((V + 1) * 8) bd) (ln_sum V x y) := by
      refine ⟨Nat.le_trans (stl_le _ _ _) hbd, ?_, hval, ?_, ?_, stl_hz hbd hzw⟩
      · show _ = ln_dg x y V
        rw [← i4, c2]; omega
      · intro u hu
        by_cases hu2 : u ≤ V
        · rw [(i6 c1 u hu hu2).2.1]; exact ⟨fun q => ⟨hu2, q⟩, fun q => q.2⟩
        · rw [(i3 u (by omega)).1, hx.2.2.2.1 u hu]
          exact ⟨fun q => absurd q.1 hu2, fun q => absurd q.1 hu2⟩
      · intro u hu
        by_cases hu2 : u ≤ V
        · rw [(i6 c1 u hu hu2).2.2]; exact ⟨fun q => ⟨hu2, q⟩, fun q => q.2⟩
        · rw [(i3 u (by omega)).2, hx.2.2.2.2.1 u hu]
          exact ⟨fun q => absurd q.1 hu2, fun q => absurd q.1 hu2⟩
    have := LA_put (so := so) (cf := cf) (co := co) e1 e2 rfl hLF (ca := 0) (Or.inl rfl)
    exact hQ _ this.1 (hiff.mpr ⟨c1, c2⟩) this.2
  · have hv : (if room = 0 then (0 : Int32) else if ¬ o = 0 then 0 else 1) = 0 := by
      by_cases c1 : room = 0
      · rw [if_pos c1]
      · rw [if_neg c1, if_pos (by omega)]
    rw [hv]
    have := LG_put (so := so) (cf := cf) (co := co) (f := f') (p := p') (n := n') (wi := nI (stl f' ((V + 1) * 8) bd)) e1 e2 rfl (ca := 0)
    exact hN _ this.1 (fun q => c (hiff.mp q)) this.2
