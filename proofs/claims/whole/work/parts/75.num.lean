/-! NUMBERS on both sides -/
def nvl (b : Nat → Nat) (st : Nat) : Nat → Nat
  | 0 => 0
  | k + 1 => nvl b st k * 10 + (b (st + k) - 48)
theorem nvl_lt {b : Nat → Nat} {st : Nat} : ∀ {k : Nat}, (∀ i, i < k → dgt (b (st + i))) → nvl b st k < 10 ^ k
  | 0, _ => by show 0 < 1; omega
  | k + 1, h => by
    have h1 := nvl_lt (b := b) (st := st) (k := k) (fun i hi => h i (by omega))
    have h2 := h k (by omega)
    show nvl b st k * 10 + (b (st + k) - 48) < 10 ^ k * 10
    omega
/-- the NUMBER at st -/
def tkn (b : Nat → Nat) (n st : Nat) : Nat := nvl b st (tke b n st - st)
theorem tk48 {b : Nat → Nat} {n st : Nat} (h : tkk b n st = 48) : (∀ i, i < tke b n st - st → dgt (b (st + i))) ∧ tke b n st - st ≤ 60 ∧ tke b n st ≤ n ∧ st < tke b n st := by
  have hlt : st < n := tkk_lt (by rw [h]; omega)
  unfold tkk at h
  unfold tke
  rw [if_neg (by omega)] at h ⊢
  by_cases cd : dgt (b st)
  · rw [if_pos cd] at h ⊢
    have hd := den_le b (n - (st + 1)) (st + 1)
    refine ⟨fun i hi => ?_, ?_, by omega, by omega⟩
    · by_cases e : i = 0
      · subst e; exact cd
      · exact den_dgt b (n - (st + 1)) (st + 1) (st + i) (by omega) (by omega)
    · by_cases q : den b (n - (st + 1)) (st + 1) - st ≤ 60
      · exact q
      · rw [if_neg q] at h; omega
  · exfalso
    rw [if_neg cd] at h
    by_cases c1 : b st = 120
    · rw [if_pos c1] at h
      split at h <;> omega
    · rw [if_neg c1] at h
      by_cases c2 : b st = 126 ∧ sb b n (st + 1) = 120
      · rw [if_pos c2] at h
        split at h <;> omega
      · rw [if_neg c2] at h
        by_cases c3 : b st = 62 ∨ b st = 60
        · rw [if_pos c3] at h
          split at h <;> omega
        · rw [if_neg c3] at h
          by_cases c5 : sow (b st)
          · rw [if_pos c5] at h
            unfold sow at c5
            omega
          · rw [if_neg c5] at h; omega
theorem tkn_lt {b : Nat → Nat} {n st : Nat} (h : tkk b n st = 48) : tkn b n st < 10 ^ 60 := by
  obtain ⟨h1, h2, _, _⟩ := tk48 h
  exact Nat.lt_of_lt_of_le (nvl_lt h1) (Nat.pow_le_pow_right (by omega) h2)
section NUM
variable {h : pb_H} {Q : Option Value → pb_H → Prop} {c N n st : Nat} {b : Nat → Nat} {s : Nat → Int32}
/-- TextReader.readNumber -/
theorem L26 {q nq : Nat} {f : Nat → Int32} (hT : TX h c N n b s) (hS : TS b n st s) (hk : tkk b n st = 48) (hq : h.2 q = ci nq f) (h8 : nq = 8) (hqc : q ≠ c)
    (hQ : ∀ f', wv f' 0 8 = tkn b n st → Q none (pb_set h q (ci 8 f'))) : pb_call 26 [.ref 5, .ref q] h Q := by
  subst h8
  obtain ⟨d1, d2, d3, d4⟩ := tk48 hk
  have hq5 : q ≠ 5 := fun e => by rw [e, hT.1] at hq; cases hq
  have a4 := hT.2.2.2.1
  have a3 := hT.2.2.1
  have hT' : ∀ z, TX (pb_set h q z) c N n b s := fun z => by
    obtain ⟨t1, t2, t3, t4, t5, t6⟩ := hT
    exact ⟨by rw [pb_set_get, if_neg (Ne.symm hq5), t1], by rw [pb_set_get, if_neg (Ne.symm hqc), t2], t3, t4, t5, t6⟩
  have hg : ∀ z, (pb_set h q z).2 q = z := fun z => by rw [pb_set_get, if_pos rfl]
  have hl : ∀ r i f', i + r = tke b n st - st → wv f' 0 8 = nvl b st i → pb_R 26 10 [some (.ref 5), some (.ref q), some (.int (nI (st + i)))] [] [] (pb_set h q (ci 8 f')) Q := by
    intro r
    induction r with
    | zero =>
      intro i f' hi hv
      have e1 : st + i = tke b n st := by omega
      rw [e1, pb_q26_10]
      simp only [pb_e26, (hT' _).1, pb_gx, pb_o_some, true_and, hS.2.2.1, Int32.le_refl, if_true]
      refine hQ f' ?_
      unfold tkn
      rw [hv, show i = tke b n st - st by omega]
    | succ r ih =>
      intro i f' hi hv
      have c1 : ¬ nI (tke b n st) ≤ nI (st + i) := nI_ge (by omega) (by omega)
      have hd := d1 i (by omega)
      have h15 := fun Q : Option Value → pb_H → Prop => m15 (Q := Q) (hT' (ci 8 f')) (show st + i < 2 ^ 31 by omega)
      have hb : bA b n (st + i) = nI (b (st + i)) := by unfold bA; rw [if_pos (by omega)]
      rw [hb] at h15
      have e48 : nI (b (st + i)) - 48 = nI (b (st + i) - 48) := pk_sub (a := b (st + i)) (b := 48) hd.1
      have h25 := fun Q : Option Value → pb_H → Prop => m25 (Q := Q) (h := pb_set h q (ci 8 f')) (d := b (st + i) - 48) (hg _) (by omega) (by omega) (by omega)
      rw [pb_set_same] at h25
      rw [pb_q26_10]
      simp only [pb_e26, (hT' _).1, pb_gx, pb_o_some, true_and, hS.2.2.1, c1, if_false, h15, Option.toList_some, List.singleton_append, e48, h25, Option.toList_none, List.nil_append, nI_1]
      have hval := wg_val f' (b (st + i) - 48) 8
      have hnv : nvl b st (i + 1) < 10 ^ (i + 1) := nvl_lt (fun j hj => d1 j (by omega))
      have hp : 10 ^ (i + 1) ≤ 10 ^ 60 := Nat.pow_le_pow_right (by omega) (by omega)
      have hpp : 10 ^ 60 < 4294967296 ^ 8 := by decide
      have hnv2 : nvl b st (i + 1) = nvl b st i * 10 + (b (st + i) - 48) := rfl
      rw [hv] at hval
      refine ih (i + 1) _ (by omega) ?_
      have hlt2 := wv_lt (wg f' (b (st + i) - 48) 8).1 0 8
      generalize wv (wg f' (b (st + i) - 48) 8).1 0 8 = w at *
      generalize (wg f' (b (st + i) - 48) 8).2 = c2 at *
      generalize 4294967296 ^ 8 = P at *
      rcases Nat.eq_zero_or_pos c2 with z | z
      · rw [z, Nat.zero_mul, Nat.add_zero] at hval
        rw [hnv2]; omega
      · have := Nat.mul_le_mul_right P z
        omega
  have h24 := fun Q : Option Value → pb_H → Prop => m24 (Q := Q) (x := 0) hq (by omega)
  rw [pb_c26]
  simp only [pb_e26, h24, Option.toList_none, List.nil_append, (hT' _).1, pb_gx, pb_o_some, true_and, hS.1]
  exact hl (tke b n st - st) 0 _ (by omega) (wv_of_zero (fun i hi => if_pos (by omega)))
/-- PlaneBenchModel.read -/
theorem A181 {sg : Nat → Int32} {G : Nat → Nat} {i : Nat} (hX : RX h s G sg) (hT : RT h n b s) (hk : tkk b n st = 48) (hi : i < 6171)
    (hQ : ∀ h' G', fr rS h h' → RX h' s G' sg → RT h' n b s → NB i G G' → rv G' i = tkn b n st → Q none h') : pb_call 181 [.ref 65, .int (nI st), .int (nI (tke b n st)), .int (nI (i * 20))] h Q := by
  obtain ⟨d1, d2, d3, d4⟩ := tk48 hk
  have a4 := hT.2.2.2.1
  have hRT : ∀ h' : pb_H, fr rS h h' → ∀ G' sg', RX h' s G' sg' → RT h' n b s := fun h' F G' sg' X => ⟨X.1, (F.2.2 69 (by omega)).trans hT.2.1, hT.2.2⟩
  have hin : ∀ (h1 : pb_H) (G1 : Nat → Nat) (l4 d v0 : Nat) (F1 : fr rS h h1) (X1 : RX h1 s G1 sg) (nb1 : NB i G G1) (hv1 : rv G1 i = v0) (hd : d < 10) (hfit : v0 * 10 + d < 65536 ^ 20) (hE : ∀ h' G', fr rS h h' → RX h' s G' sg → NB i G G' → rv G' i = v0 * 10 + d → ∀ l5 l6 l7, pb_R 181 80 [some (.ref 65), some (.int (nI st)), some (.int (nI (tke b n st))), some (.int (nI (i * 20))), some (.int (nI l4)), l5, l6, l7] [] [] h' Q), ∀ r j G' c l7, j + r = 20 → RB G' → c < 10 → bo (i * 20) j G1 G' → rn G' (i * 20) j + c * 65536 ^ j = rn G1 (i * 20) j * 10 + d → pb_R 181 29 [some (.ref 65), some (.int (nI st)), some (.int (nI (tke b n st))), some (.int (nI (i * 20))), some (.int (nI l4)), some (.int (nI c)), some (.int (nI j)), l7] [] [] (pb_set h1 66 (cN G')) Q := by
    intro h1 G1 l4 d v0 F1 X1 nb1 hv1 hd hfit hE r
    have hs' : ∀ c, (pb_set h1 66 c).2 65 = rm s := fun c => by rw [pb_set_get, if_neg (by omega), X1.1]
    have hg' : ∀ c, (pb_set h1 66 c).2 66 = c := fun c => by rw [pb_set_get, if_pos rfl]
    induction r with
    | zero =>
      intro j G' c l7 hj hB hc hb hv
      obtain rfl : j = 20 := by omega
      obtain ⟨X2, F2⟩ := RX_num X1 hB
      have hfin := hE _ G' (fr_trans F1 F2) X2 (bo_trans nb1 hb) (by
        show rn G' (i * 20) 20 = _
        have hv' : rn G' (i * 20) 20 + c * 65536 ^ 20 = v0 * 10 + d := by rw [hv]; show rv G1 i * 10 + d = _; rw [hv1]
        generalize 65536 ^ 20 = P at *
        rcases Nat.eq_zero_or_pos c with z | z
        · rw [z, Nat.zero_mul, Nat.add_zero] at hv'; exact hv'
        · have := Nat.mul_le_mul_right P z
          omega) (some (.int (nI c))) (some (.int (nI 20))) l7
      simp only [pb_e181] at hfin
      rw [pb_q181_29]
      simp only [pb_e181, nI20, Int32.le_refl, if_true]
      exact hfin
    | succ r ih =>
      intro j G' c l7 hj hB hc hb hv
      have c1 : ¬ nI 20 ≤ nI j := nI_ge (by omega) (by omega)
      have hA := cN_get (G := G') (j := i * 20 + j) (by omega)
      have hS := fun x => cN_set (G := G') (j := i * 20 + j) (x := x) (by omega)
      have b1 := hB (i * 20 + j)
      have e10 : (10 : Int32) * nI (G' (i * 20 + j)) = nI (10 * G' (i * 20 + j)) := pk_mul 10 _
      have k1 := an16 (n := 10 * G' (i * 20 + j) + c) (by omega)
      have k2 := sh16 (n := 10 * G' (i * 20 + j) + c) (by omega)
      have hx : G' (i * 20 + j) = G1 (i * 20 + j) := hb _ (by omega)
      rw [pb_q181_29]
      simp only [pb_e181, nI20, c1, if_false, hs', hg', pb_gr, pb_o_some, true_and, nI_add, hA, e10, k1, k2, hS, pb_set_same, nI_1]
      refine ih (j + 1) _ _ _ (by omega) (RB_un hB (Nat.mod_lt _ (by omega))) (by omega) (fun k hk => by rw [un_ne _ (by omega)]; exact hb k (by omega)) ?_
      have e2 : rn G1 (i * 20) (j + 1) = rn G1 (i * 20) j + G1 (i * 20 + j) * 65536 ^ j := rfl
      rw [rn_un, e2, Nat.pow_succ, hx, Nat.add_mul]
      generalize 65536 ^ j = P at *
      have e4 : (10 * G1 (i * 20 + j) + c) % 65536 * P + (10 * G1 (i * 20 + j) + c) / 65536 * (P * 65536) = G1 (i * 20 + j) * P * 10 + c * P := by
        rw [Nat.mul_comm P 65536, ← Nat.mul_assoc, ← Nat.add_mul, Nat.mul_right_comm, ← Nat.add_mul]
        congr 1
        omega
      omega
  have hl : ∀ r k h' G' l5 l6 l7, k + r = tke b n st - st → fr rS h h' → RX h' s G' sg → NB i G G' → rv G' i = nvl b st k → pb_R 181 8 [some (.ref 65), some (.int (nI st)), some (.int (nI (tke b n st))), some (.int (nI (i * 20))), some (.int (nI (st + k))), l5, l6, l7] [] [] h' Q := by
    intro r
    induction r with
    | zero =>
      intro k h' G' l5 l6 l7 hk' F X nb hv
      have e1 : st + k = tke b n st := by omega
      rw [e1, pb_q181_8]
      simp only [pb_e181, Int32.le_refl, if_true]
      refine hQ h' G' F X (hRT h' F G' sg X) nb ?_
      unfold tkn
      rw [hv, show k = tke b n st - st by omega]
    | succ r ih =>
      intro k h' G' l5 l6 l7 hk' F X nb hv
      have c1 : ¬ nI (tke b n st) ≤ nI (st + k) := nI_ge (by omega) (by omega)
      have hd := d1 k (by omega)
      have h69 : h'.2 69 = cb 4000 b := (F.2.2 69 (by omega)).trans hT.2.1
      have hg := cb_get (N := 4000) (b := b) (j := st + k) (by omega) (by omega)
      have hsb : sB (b (st + k)) = nI (b (st + k)) := sB_lo (by omega)
      rw [hsb] at hg
      have e48 : nI (b (st + k)) - 48 = nI (b (st + k) - 48) := pk_sub (a := b (st + k)) (b := 48) hd.1
      have hnv : nvl b st (k + 1) < 10 ^ (k + 1) := nvl_lt (fun j hj => d1 j (by omega))
      have hp : 10 ^ (k + 1) ≤ 10 ^ 60 := Nat.pow_le_pow_right (by omega) (by omega)
      have hpp : 10 ^ 60 < 65536 ^ 20 := by decide
      have hnv2 : nvl b st (k + 1) = nvl b st k * 10 + (b (st + k) - 48) := rfl
      rw [pb_q181_8]
      simp only [pb_e181, c1, if_false, X.1, pb_gr, pb_o_some, true_and, h69, hg, e48]
      rw [← pb_set_id h' X.2.1]
      refine hin h' G' (st + k) (b (st + k) - 48) (nvl b st k) F X nb hv (by omega) (by rw [← hnv2]; exact Nat.lt_trans hnv (Nat.lt_of_le_of_lt hp hpp)) ?_ 20 0 G' (b (st + k) - 48) _ (by omega) X.2.2.1 (by omega) (fun _ _ => rfl) (by show 0 + _ * 65536 ^ 0 = 0 * 10 + _; rw [Nat.pow_zero]; omega)
      intro h3 G3 F3 X3 nb3 hv3 m5 m6 m7
      simp only [pb_e181, nI_1]
      exact ih (k + 1) h3 G3 _ _ _ (by omega) F3 X3 nb3 (by rw [hv3, hnv2])
  rw [pb_c181]
  simp only [pb_e181, hX.1, pb_gr, true_and]
  refine A144 hX hi ?_
  intro h3 G3 F3 X3 nb3 hv3
  simp only [Option.toList_none, List.nil_append, pb_e181]
  exact hl (tke b n st - st) 0 h3 G3 none none none (by omega) F3 X3 nb3 hv3
/-- PlaneBenchModel.line -/
theorem R182 {m : Nat} (hT : RT h n b s) (hk : tkk b n st = 48) (hm : s 4 = nI m) (hm2 : m ≤ 300) : pb_call 182 [.ref 65, .int (nI st), .int (nI (tke b n st))] h Q ↔ Q (some (.int (nI (if tkn b n st ≤ m then tkn b n st else 0)))) h := by
  obtain ⟨d1, d2, d3, d4⟩ := tk48 hk
  have a4 := hT.2.2.2.1
  have hl : ∀ r k, k + r = tke b n st - st → (pb_R 182 5 [some (.ref 65), some (.int (nI st)), some (.int (nI (tke b n st))), some (.int (nI (min (nvl b st k) 1000))), some (.int (nI (st + k)))] [] [] h Q ↔ Q (some (.int (nI (if tkn b n st ≤ m then tkn b n st else 0)))) h) := by
    intro r
    induction r with
    | zero =>
      intro k hk'
      have e1 : st + k = tke b n st := by omega
      have e2 : nvl b st k = tkn b n st := by unfold tkn; rw [show k = tke b n st - st by omega]
      have e3 := nI_ltI (a := m) (b := min (tkn b n st) 1000) (by omega) (by omega)
      rw [e1, e2, pb_q182_5]
      by_cases c : tkn b n st ≤ m
      · have c' : ¬ m < min (tkn b n st) 1000 := by omega
        rw [if_pos c]
        simp only [pb_e182, Int32.le_refl, if_true, hT.1, pb_gr, pb_o_some, true_and, hm, e3, c', if_false]
        rw [Nat.min_eq_left (by omega)]
      · have c' : m < min (tkn b n st) 1000 := by omega
        rw [if_neg c]
        simp only [pb_e182, Int32.le_refl, if_true, hT.1, pb_gr, pb_o_some, true_and, hm, e3, c']
        exact Iff.rfl
    | succ r ih =>
      intro k hk'
      have c1 : ¬ nI (tke b n st) ≤ nI (st + k) := nI_ge (by omega) (by omega)
      have hd := d1 k (by omega)
      have hg := cb_get (N := 4000) (b := b) (j := st + k) (by omega) (by omega)
      rw [sB_lo (by omega)] at hg
      have e10 : (10 : Int32) * nI (min (nvl b st k) 1000) = nI (10 * min (nvl b st k) 1000) := pk_mul 10 _
      have e48 : nI (10 * min (nvl b st k) 1000 + b (st + k)) - 48 = nI (10 * min (nvl b st k) 1000 + b (st + k) - 48) := pk_sub (a := 10 * min (nvl b st k) 1000 + b (st + k)) (b := 48) (by omega)
      have hnv2 : nvl b st (k + 1) = nvl b st k * 10 + (b (st + k) - 48) := rfl
      rw [← ih (k + 1) (by omega), pb_q182_5]
      by_cases c : 10 * min (nvl b st k) 1000 + b (st + k) - 48 ≤ 1000
      · have c' : nI (10 * min (nvl b st k) 1000 + b (st + k) - 48) ≤ 1000 := nI_le (b := 1000) c (by omega)
        have e5 : 10 * min (nvl b st k) 1000 + b (st + k) - 48 = min (nvl b st (k + 1)) 1000 := by rw [hnv2]; omega
        rw [e5] at c' e48
        simp only [pb_e182, c1, if_false, hT.1, hT.2.1, pb_gr, pb_o_some, true_and, hg, e10, nI_add, e48, c', if_true, nI_1, Nat.add_assoc]
      · have c' : ¬ nI (10 * min (nvl b st k) 1000 + b (st + k) - 48) ≤ 1000 := nI_ge (a := 1000) (by omega) (by omega)
        have e5 : min (nvl b st (k + 1)) 1000 = 1000 := by rw [hnv2]; omega
        rw [e5]
        simp only [pb_e182, c1, if_false, hT.1, hT.2.1, pb_gr, pb_o_some, true_and, hg, e10, nI_add, e48, c', nI_1, Nat.add_assoc]
        exact Iff.rfl
  rw [pb_c182]
  simp only [pb_e182]
  exact hl (tke b n st - st) 0 (by omega)
/-- a LITERAL's TOKEN -/
theorem tk120 {b : Nat → Nat} {n st : Nat} (h : tkk b n st = 120) : st < n ∧ (b st = 120 ∨ b st = 126) ∧ dgt (sb b n (tkd b st)) ∧ tke b n st = tkd b st + nd b n (tkd b st) := by
  have hlt : st < n := tkk_lt (by rw [h]; omega)
  refine ⟨hlt, ?_⟩
  have c0 : ¬ n ≤ st := by omega
  unfold tkk at h
  rw [if_neg c0] at h
  by_cases cd : dgt (b st)
  · rw [if_pos cd] at h
    split at h <;> omega
  · rw [if_neg cd] at h
    by_cases c1 : b st = 120
    · rw [if_pos c1] at h
      have kd : tkd b st = st + 1 := by unfold tkd; rw [if_pos c1]
      have ke : tke b n st = if dgt (sb b n (st + 1)) then (if dgt (sb b n (st + 2)) then st + 3 else st + 2) else st + 1 := by unfold tke; rw [if_neg c0, if_neg cd, if_pos c1]
      by_cases g1 : dgt (sb b n (st + 1))
      · rw [kd, ke]
        refine ⟨Or.inl c1, g1, ?_⟩
        unfold nd
        rw [if_pos g1, if_pos g1]
        by_cases g2 : dgt (sb b n (st + 2))
        · rw [if_pos g2, if_pos (show dgt (sb b n (st + 1 + 1)) from g2)]
        · rw [if_neg g2, if_neg (show ¬ dgt (sb b n (st + 1 + 1)) from g2)]
      · rw [if_neg g1] at h; omega
    · rw [if_neg c1] at h
      have kd : tkd b st = st + 2 := by unfold tkd; rw [if_neg c1]
      by_cases c2 : b st = 126 ∧ sb b n (st + 1) = 120
      · rw [if_pos c2] at h
        have ke : tke b n st = if dgt (sb b n (st + 2)) then (if dgt (sb b n (st + 3)) then st + 4 else st + 3) else st + 1 := by unfold tke; rw [if_neg c0, if_neg cd, if_neg c1, if_pos c2]
        by_cases g1 : dgt (sb b n (st + 2))
        · rw [kd, ke]
          refine ⟨Or.inr c2.1, g1, ?_⟩
          unfold nd
          rw [if_pos g1, if_pos g1]
          by_cases g2 : dgt (sb b n (st + 3))
          · rw [if_pos g2, if_pos (show dgt (sb b n (st + 2 + 1)) from g2)]
          · rw [if_neg g2, if_neg (show ¬ dgt (sb b n (st + 2 + 1)) from g2)]
        · rw [if_neg g1] at h; omega
      · exfalso
        rw [if_neg c2] at h
        by_cases c3 : b st = 62 ∨ b st = 60
        · rw [if_pos c3] at h
          split at h <;> omega
        · rw [if_neg c3] at h
          by_cases c5 : sow (b st)
          · rw [if_pos c5] at h
            unfold sow at c5
            omega
          · rw [if_neg c5] at h; omega
theorem tkw_lt {b : Nat → Nat} {n st : Nat} (h : tkk b n st = 120) : tkw b n st < 100 := by
  obtain ⟨_, _, g1, _⟩ := tk120 h
  obtain ⟨h1, h2⟩ := bA_dgt g1
  rw [h2] at g1
  unfold tkw
  split
  · rename_i g2
    obtain ⟨h3, h4⟩ := bA_dgt g2
    rw [h4] at g2
    omega
  · omega
/-- PlaneBenchModel.variable -/
theorem R179 (hT : RT h n b s) (hS : RSt b n st s) (hk : tkk b n st = 120) : pb_call 179 [.ref 65] h Q ↔ Q (some (.int (if b st = 120 then nI (tkw b n st) else - nI (tkw b n st)))) h := by
  obtain ⟨hlt, hb, g1, he⟩ := tk120 hk
  obtain ⟨l1, f1⟩ := bA_dgt g1
  rw [f1] at g1
  obtain ⟨s16, s15, s18, s17, hle⟩ := hS
  have s18' := s18 hlt
  have s17' := s17 (by rw [hk]; omega)
  have a4 := hT.2.2.2.1
  have e126 : sB (b st) = 126 ↔ b st = 126 := sB_eq (m := 126) (hT.2.2.2.2 st) (by omega)
  have hgd := cb_get (N := 4000) (b := b) (j := tkd b st) (by omega) (by omega)
  rw [sB_lo (by omega)] at hgd
  have m0 : (10 : Int32) * 0 = nI 0 := by decide
  have k48 : nI (0 + b (tkd b st)) - 48 = nI (b (tkd b st) - 48) := by rw [Nat.zero_add]; exact pk_sub (a := b (tkd b st)) (b := 48) g1.1
  have hend : ∀ x l, pb_R 179 58 [some (.ref 65), l, some (.int (nI x)), some (.int (nI (tke b n st)))] [] [] h Q ↔ Q (some (.int (if b st = 120 then nI x else - nI x))) h := by
    intro x l
    rcases hb with q | q
    · have k : ¬ sB (b st) = 126 := fun w => by have := e126.mp w; omega
      rw [if_pos q]
      simp only [pb_e179, hT.1, pb_gr, pb_o_some, true_and, s18', k, not_false_eq_true, if_true]
    · have k := e126.mpr q
      rw [if_neg (by omega)]
      simp only [pb_e179, hT.1, pb_gr, pb_o_some, true_and, s18', k, not_true_eq_false, if_false]
  have hloop : ∀ l, pb_R 179 29 [some (.ref 65), some l, some (.int 0), some (.int (nI (tkd b st)))] [] [] h Q ↔ Q (some (.int (if b st = 120 then nI (tkw b n st) else - nI (tkw b n st)))) h := by
    intro l
    have hdl : dgt (sb b n (tkd b st)) := by rw [f1]; exact g1
    have c1 : ¬ nI (tke b n st) ≤ nI (tkd b st) := by
      refine nI_ge ?_ (by unfold nd at he; split at he <;> (try split at he) <;> omega)
      rw [he]; unfold nd; rw [if_pos hdl]; split <;> omega
    have s1 : pb_R 179 29 [some (.ref 65), some l, some (.int 0), some (.int (nI (tkd b st)))] [] [] h Q ↔ pb_R 179 29 [some (.ref 65), some l, some (.int (nI (b (tkd b st) - 48))), some (.int (nI (tkd b st + 1)))] [] [] h Q := by
      rw [pb_q179_29]
      simp only [pb_e179, hT.1, hT.2.1, pb_gr, pb_o_some, true_and, s17', c1, if_false, hgd, m0, nI_add, k48, nI_1]
    rw [s1]
    by_cases g2 : dgt (sb b n (tkd b st + 1))
    · obtain ⟨l2, f2⟩ := bA_dgt g2
      have g2' := g2
      rw [f2] at g2'
      have hnd : nd b n (tkd b st) = 2 := by unfold nd; rw [if_pos hdl, if_pos g2]
      rw [hnd] at he
      have c2 : ¬ nI (tke b n st) ≤ nI (tkd b st + 1) := nI_ge (by omega) (by omega)
      have hgd2 := cb_get (N := 4000) (b := b) (j := tkd b st + 1) (by omega) (by omega)
      rw [sB_lo (by omega)] at hgd2
      have e10 : (10 : Int32) * nI (b (tkd b st) - 48) = nI ((b (tkd b st) - 48) * 10) := by rw [Nat.mul_comm]; exact pk_mul 10 _
      have k482 : nI ((b (tkd b st) - 48) * 10 + b (tkd b st + 1)) - 48 = nI ((b (tkd b st) - 48) * 10 + (b (tkd b st + 1) - 48)) := by
        rw [show nI ((b (tkd b st) - 48) * 10 + b (tkd b st + 1)) - 48 = nI ((b (tkd b st) - 48) * 10 + b (tkd b st + 1) - 48) from pk_sub (a := (b (tkd b st) - 48) * 10 + b (tkd b st + 1)) (b := 48) (by omega)]
        congr 1
        omega
      have hw : tkw b n st = (b (tkd b st) - 48) * 10 + (b (tkd b st + 1) - 48) := by unfold tkw; rw [if_pos g2]
      have s2 : pb_R 179 29 [some (.ref 65), some l, some (.int (nI (b (tkd b st) - 48))), some (.int (nI (tkd b st + 1)))] [] [] h Q ↔ pb_R 179 29 [some (.ref 65), some l, some (.int (nI (tkw b n st))), some (.int (nI (tke b n st)))] [] [] h Q := by
        rw [pb_q179_29, hw, he]
        rw [he] at c2 s17'
        simp only [pb_e179, hT.1, hT.2.1, pb_gr, pb_o_some, true_and, s17', c2, if_false, hgd2, e10, nI_add, k482, nI_1]
      rw [s2, ← hend (tkw b n st) (some l), pb_q179_29]
      simp only [pb_e179, hT.1, pb_gr, pb_o_some, true_and, s17', Int32.le_refl, if_true]
    · have hnd : nd b n (tkd b st) = 1 := by unfold nd; rw [if_pos hdl, if_neg g2]
      rw [hnd] at he
      have hw : tkw b n st = b (tkd b st) - 48 := by unfold tkw; rw [if_neg g2]
      rw [← he, hw, ← hend (b (tkd b st) - 48) (some l), pb_q179_29]
      simp only [pb_e179, hT.1, pb_gr, pb_o_some, true_and, s17', Int32.le_refl, if_true]
  rw [pb_c179]
  rcases hb with q | q
  · have k : ¬ sB (b st) = 126 := fun w => by have := e126.mp w; omega
    have kd : tkd b st = st + 1 := by unfold tkd; rw [if_pos q]
    have := hloop (.int (nI st))
    rw [kd] at this
    simp only [pb_e179, hT.1, pb_gr, pb_o_some, true_and, s18', k, not_false_eq_true, if_true, s16, nI_1]
    exact this
  · have k := e126.mpr q
    have kd : tkd b st = st + 2 := by unfold tkd; rw [if_neg (by omega)]
    have := hloop (.int (nI (st + 1)))
    rw [kd] at this
    simp only [pb_e179, hT.1, pb_gr, pb_o_some, true_and, s18', k, not_true_eq_false, if_false, s16, nI_1]
    exact this
theorem R180 {v V : Nat} {x : Int32} (h65 : h.2 65 = rm s) (hV : s 3 = nI V) (hx : x = nI v ∨ x = - nI v) (hv : v < 1000) (hV2 : V ≤ 16) : pb_call 180 [.ref 65, .int x] h Q ↔ Q (some (.int (if 1 ≤ v ∧ v ≤ V then 1 else 0))) h := by
  have k1 : nI v < 1 ↔ v < 1 := nI_ltI (b := 1) (by omega) (by omega)
  have k2 := nI_ltI (a := V) (b := v) (by omega) (by omega)
  have hab : (0 ≤ x ∧ x = nI v) ∨ (¬ 0 ≤ x ∧ -x = nI v) := by
    rcases hx with e | e
    · exact Or.inl ⟨by rw [e]; exact nI_pos' (by omega), e⟩
    · by_cases z : v = 0
      · subst z; rw [e]; exact Or.inl ⟨by decide, by decide⟩
      · refine Or.inr ⟨?_, by rw [e, Int32.neg_neg]⟩
        rw [e]
        apply Int32.not_le.mpr
        have : nI 0 - nI v < 0 := pk_sneg (by omega) (by omega)
        rw [nI_0, Int32.zero_sub] at this
        exact this
  have hmid : ∀ y, pb_R 180 11 [some (.ref 65), some (.int y), some (.int (nI v))] [] [] h Q ↔ Q (some (.int (if 1 ≤ v ∧ v ≤ V then 1 else 0))) h := by
    intro y
    by_cases c1 : v < 1
    · rw [if_neg (by omega)]
      simp only [pb_e180, k1, c1, if_true, nb0, true_and]
    · by_cases c2 : V < v
      · rw [if_neg (by omega)]
        simp only [pb_e180, h65, pb_gr, pb_o_some, true_and, hV, k1, c1, if_false, k2, c2, if_true, nb0]
      · rw [if_pos (by omega)]
        simp only [pb_e180, h65, pb_gr, pb_o_some, true_and, hV, k1, c1, if_false, k2, c2, nb1]
  rw [pb_c180, ← hmid x]
  rcases hab with ⟨p1, p2⟩ | ⟨p1, p2⟩
  · rw [p2] at p1 ⊢
    simp only [pb_e180, p1, if_true]
  · simp only [pb_e180, p1, if_false, p2]
end NUM
