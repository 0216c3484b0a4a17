/-! Line.divide: the Divider as a number that is held. -/
/-- a Divider at d, its arrays behind it -/
def DG (h : pb_H) (d : Nat) : Prop := ∃ w s f l q, h.2 d = cv (d + 1) (d + 2) (d + 3) w s ∧ h.2 (d + 1) = ci 8 f ∧ h.2 (d + 2) = ci 9 l ∧ h.2 (d + 3) = ci 8 q
/-- it holds N -/
def DV (h : pb_H) (d N : Nat) : Prop := ∃ g f0 l q, h.2 d = cv (d + 1) (d + 2) (d + 3) (nI (wd g 0 8)) (nI (dsh g)) ∧ h.2 (d + 1) = ci 8 (dvd f0 g) ∧ h.2 (d + 2) = ci 9 l ∧ h.2 (d + 3) = ci 8 q ∧ wv g 0 8 = N ∧ N ≠ 0
theorem DV_DG {h : pb_H} {d N : Nat} (hD : DV h d N) : DG h d := by
  obtain ⟨g, f0, l, q, e1, e2, e3, e4, _⟩ := hD
  exact ⟨_, _, _, _, _, e1, e2, e3, e4⟩
abbrev dc (d : Nat) : Nat → Prop := fun b => d ≤ b ∧ b ≤ d + 3
theorem DV_fr {S : Nat → Prop} {h h' : pb_H} {d N : Nat} (F : fr S h h') (hS : ∀ b, dc d b → ¬ S b) (hD : DV h d N) : DV h' d N := by
  obtain ⟨g, f0, l, q, e1, e2, e3, e4, r⟩ := hD
  exact ⟨g, f0, l, q, (F.2.2 _ (hS _ (by omega))).trans e1, (F.2.2 _ (hS _ (by omega))).trans e2, (F.2.2 _ (hS _ (by omega))).trans e3, (F.2.2 _ (hS _ (by omega))).trans e4, r⟩
theorem DG_fr {S : Nat → Prop} {h h' : pb_H} {d : Nat} (F : fr S h h') (hS : ∀ b, dc d b → ¬ S b) (hD : DG h d) : DG h' d := by
  obtain ⟨w, s, f, l, q, e1, e2, e3, e4⟩ := hD
  exact ⟨w, s, f, l, q, (F.2.2 _ (hS _ (by omega))).trans e1, (F.2.2 _ (hS _ (by omega))).trans e2, (F.2.2 _ (hS _ (by omega))).trans e3, (F.2.2 _ (hS _ (by omega))).trans e4⟩
/-- Divider.take -/
theorem L31 {h : pb_H} {Q : Option Value → pb_H → Prop} {d c nq : Nat} {g : Nat → Int32} (hD : DG h d) (hc : h.2 c = ci nq g) (hcd : c ≠ d + 1) (h8 : 8 ≤ nq) (hn : nq < 2 ^ 31) (hN : wv g 0 8 ≠ 0) (hQ : ∀ h', fr (dc d) h h' → DV h' d (wv g 0 8) → Q none h') : pb_call 31 [.ref d, .ref c] h Q := by
  obtain ⟨w, s, f, l, q, e1, e2, e3, e4⟩ := hD
  rw [m31 hcd e1 hc e2 h8 (by omega) hn (by omega)]
  apply hQ
  · exact fr_trans (fr_set (by omega) (by rw [e1]; rfl)) (fr_set (by omega) (by rw [pb_set_get, if_neg (by omega), e2]; rfl))
  · refine ⟨g, f, l, q, ?_, ?_, ?_, ?_, rfl, hN⟩
    · rw [pb_set_get, if_neg (by omega), pb_set_get, if_pos rfl]
    · rw [pb_set_get, if_pos rfl]; rfl
    · rw [pb_set_get, if_neg (by omega), pb_set_get, if_neg (by omega), e3]
    · rw [pb_set_get, if_neg (by omega), pb_set_get, if_neg (by omega), e4]
/-- Divider.split -/
theorem L36 {h : pb_H} {Q : Option Value → pb_H → Prop} {d a n i N : Nat} {f : Nat → Int32} (hD : DV h d N) (ha : h.2 a = ci n f) (ha2 : a ≠ d + 2) (ha3 : a ≠ d + 3) (hi : i + 8 ≤ n) (hn : n < 2 ^ 31) (hQ : ∀ h' q, fr (fun b => b = d + 2 ∨ b = d + 3) h h' → DV h' d N → h'.2 (d + 3) = ci 8 q → wv q 0 8 = wv f i 8 / N → Q (some (.int (if wv f i 8 % N = 0 then 0 else 1))) h') : pb_call 36 [.ref d, .ref a, .int (nI i)] h Q := by
  obtain ⟨g, f0, l, q, e1, e2, e3, e4, rfl, hN⟩ := hD
  have hG : wd g 0 8 ≠ 0 := fun e => hN (wd_zero.mp e)
  have hw8 := wd_le g 0 8
  obtain ⟨d1, d2⟩ := div_means (f0 := f0) (g := g) (f := f) (l0 := l) (q0 := q) (i := i) hG
  rw [m36 (by omega) (by omega) (by omega) ha2 ha3 e1 ha e2 e3 e4 (dsh_lt g) (by omega) hw8 hw8 hi hn (by omega) (dv_norm hG).2]
  have hb : (if wv (spl (dvd f0 g) (wd g 0 8) (spc f i (wd g 0 8)) (spn l f i (dsh g)) (spz q)).1 0 9 = 0 then (0 : Int32) else 1) = if wv f i 8 % wv g 0 8 = 0 then 0 else 1 := by
    by_cases c : wv f i 8 % wv g 0 8 = 0
    · rw [if_pos c, if_pos (d2.mpr c)]
    · rw [if_neg c, if_neg (fun e => c (d2.mp e))]
  rw [hb]
  generalize spl (dvd f0 g) (wd g 0 8) (spc f i (wd g 0 8)) (spn l f i (dsh g)) (spz q) = R at d1
  refine hQ _ R.2 ?_ ?_ ?_ d1
  · exact fr_trans (fr_set (Or.inr rfl) (by rw [e4]; rfl)) (fr_set (Or.inl rfl) (by rw [pb_set_get, if_neg (by omega), e3]; rfl))
  · refine ⟨g, f0, R.1, R.2, ?_, ?_, ?_, ?_, rfl, hN⟩
    · rw [pb_set_get, if_neg (by omega), pb_set_get, if_neg (by omega), e1]
    · rw [pb_set_get, if_neg (by omega), pb_set_get, if_neg (by omega), e2]
    · rw [pb_set_get, if_pos rfl]
    · rw [pb_set_get, if_neg (by omega), pb_set_get, if_pos rfl]
  · rw [pb_set_get, if_neg (by omega), pb_set_get, if_pos rfl]
theorem cdv_le (a N : Nat) (hN : N ≠ 0) : cdv a N ≤ a := by
  unfold cdv
  have h1 := Nat.div_add_mod a N
  have h2 : a / N ≤ N * (a / N) := Nat.le_mul_of_pos_left _ (by omega)
  split <;> omega
theorem cdv_pos {a N : Nat} (hN : N ≠ 0) : 0 < cdv a N ↔ 0 < a := by
  constructor
  · intro h
    have := cdv_le a N hN
    omega
  · intro h
    unfold cdv
    have h1 := Nat.div_add_mod a N
    split
    · rcases Nat.eq_zero_or_pos (a / N) with q | q
      · rw [q] at h1; omega
      · omega
    · exact Nat.succ_pos _
theorem wpr_8 {f g : Nat → Int32} {i A N : Nat} {b : Int32} (hN : N ≠ 0) (hA : A < 4294967296 ^ 8) (hq : wv g 0 8 = A / N) (hb : b = if A % N = 0 then 0 else 1) : wv (wpr f g i (if b = 0 then 0 else 1) 8).1 i 8 = cdv A N := by
  have h1 := wpr_val f g i (if b = 0 then 0 else 1) 8
  have h2 : (if b = 0 then 0 else 1) + wv g 0 8 = cdv A N := by
    rw [hq, hb]
    unfold cdv
    by_cases c : A % N = 0
    · rw [if_pos c, if_pos rfl, if_pos c]; omega
    · rw [if_neg c, if_neg (by decide), if_neg c]; omega
  have h3 := cdv_le A N hN
  rw [h2] at h1
  generalize 4294967296 ^ 8 = P at h1 hA
  generalize wv (wpr f g i (if b = 0 then 0 else 1) 8).1 i 8 = w at h1 ⊢
  rcases Nat.eq_zero_or_pos (wpr f g i (if b = 0 then 0 else 1) 8).2 with e | e
  · rw [e, Nat.zero_mul, Nat.add_zero] at h1; exact h1
  · have := Nat.mul_le_mul_right P e
    omega
/-- the heap's part of divide's invariant -/
def DI (h h' : pb_H) (V a d N wi m : Nat) (p n so ca cf co : Int32) (x : LN) : Prop := fr (fun b => lc a b ∨ b = d + 2 ∨ b = d + 3) h h' ∧ DV h' d N ∧ ∃ f, h'.2 a = cl (nI V) (a + 1) p n (nI wi) so ca cf co ∧ h'.2 (a + 1) = ci ((V + 1) * 8) f ∧ (∀ u, u ≤ V → wv f (u * 8) 8 = if u < m then cdv (nu x u) N else nu x u)
theorem L40_has {h : pb_H} {Q : Option Value → pb_H → Prop} {V a d m wi : Nat} {l3 : Option Value} {p n so ca cf co : Int32} (hV : V ≤ 16) (hA : h.2 a = cl (nI V) (a + 1) p n (nI wi) so ca cf co) (hm : m ≤ V) :
    pb_R 40 2 [some (.ref a), some (.ref d), some (.int (nI m)), l3] [] [] h Q ↔ if m = 0 ∨ bt p m = true ∨ bt n m = true then pb_R 40 22 [some (.ref a), some (.ref d), some (.int (nI m)), l3] [] [] h Q else pb_R 40 2 [some (.ref a), some (.ref d), some (.int (nI (m + 1))), l3] [] [] h Q := by
  have c1 : ¬ nI V < nI m := nI_nlt (by omega) (by omega)
  have hinc : nI m + 1 = nI (m + 1) := nI_1 _
  have em : nI m = 0 ↔ m = 0 := nI_eq (b := 0) (by omega) (by omega)
  by_cases m0 : m = 0
  · rw [if_pos (Or.inl m0), pb_q40_2]
    subst m0
    rw [nI_0] at c1
    simp only [pb_e40, hA, pb_g4, pb_o_some, true_and, c1, if_false, nI_0, if_true]
  · by_cases hb : bt p m = true ∨ bt n m = true
    · have hm32 : ∀ Q : Option Value → pb_H → Prop, pb_call 32 [.ref a, .int (nI m)] h Q ↔ Q (some (.int 1)) h := fun Q => by rw [m32 hA (show 1 ≤ m by omega) (show m ≤ 16 by omega), if_pos hb]
      rw [if_pos (Or.inr hb), pb_q40_2]
      simp only [pb_e40, hA, pb_g4, pb_o_some, true_and, c1, if_false, em, m0, true_and, hm32, Option.toList_some, List.singleton_append, i32_10, if_false]
    · have hm32 : ∀ Q : Option Value → pb_H → Prop, pb_call 32 [.ref a, .int (nI m)] h Q ↔ Q (some (.int 0)) h := fun Q => by rw [m32 hA (show 1 ≤ m by omega) (show m ≤ 16 by omega), if_neg hb]
      rw [if_neg (by rintro (q | q); exact m0 q; exact hb q), pb_q40_2]
      simp only [pb_e40, hA, pb_g4, pb_o_some, true_and, c1, if_false, em, m0, true_and, hm32, Option.toList_some, List.singleton_append, if_true, hinc]
theorem L40_loop {h : pb_H} {Q : Option Value → pb_H → Prop} {V a d N wi : Nat} {p n so ca cf co : Int32} {x : LN} (hV : V ≤ 16) (had : d + 3 < a) (hp : ∀ v, 1 ≤ v → (bt p v = true ↔ v ≤ V ∧ 0 < x.2 v)) (hn : ∀ v, 1 ≤ v → (bt n v = true ↔ v ≤ V ∧ x.2 v < 0)) (hw8 : wi ≤ 8) (hN : N ≠ 0) 
    (hE : ∀ h' f, DI h h' V a d N wi (V + 1) p n so ca cf co x → h'.2 (a + 1) = ci ((V + 1) * 8) f → Q none (pb_set h' a (cl (nI V) (a + 1) p n (nI (stl f ((V + 1) * 8) wi)) so 0 cf co))) :
    ∀ r m h' l3, m + r = V + 1 → DI h h' V a d N wi m p n so ca cf co x → pb_R 40 2 [some (.ref a), some (.ref d), some (.int (nI m)), l3] [] [] h' Q := by
  intro r
  induction r with
  | zero =>
    intro m h' l3 hm hI
    have em : m = V + 1 := by omega
    subst em
    obtain ⟨F, D, f, ea, ew, hf⟩ := hI
    have c1 : nI V < nI (V + 1) := nI_lt (by omega) (by omega)
    have hm39 := fun Q : Option Value → pb_H → Prop => m39 (h := h') (Q := Q) (b := wi) ea ew (by omega) (by omega)
    rw [pb_q40_2]
    simp only [pb_e40, ea, pb_g4, pb_o_some, true_and, c1, if_true, hm39, Option.toList_none, List.nil_append, true_and]
    exact hE h' f ⟨F, D, f, ea, ew, hf⟩ ew
  | succ r ih =>
    intro m h' l3 hm hI
    have hI' := hI
    obtain ⟨F, D, f, ea, ew, hf⟩ := hI
    have hfm : wv f (m * 8) 8 = nu x m := by rw [hf m (by omega), if_neg (by omega)]
    have hlt := wv_lt f (m * 8) 8
    rw [L40_has hV ea (by omega)]
    by_cases hb : m = 0 ∨ bt p m = true ∨ bt n m = true
    · rw [if_pos hb]
      have e8 : nI m * 8 = nI (m * 8) := pk_mul m 8
      have hinc : nI m + 1 = nI (m + 1) := nI_1 _
      have hd0 : pb_is0 (h'.2 d) 3 = true := by
        obtain ⟨_, _, _, _, k1, _⟩ := D
        rw [k1]; rfl
      simp only [pb_e40, ea, pb_g4, pb_o_some, true_and, e8, hd0]
      refine L36 (i := m * 8) D ew (by omega) (by omega) (by omega) (by omega) ?_
      intro h2 q F2 D2 eq2 hq2
      have ea2 : h2.2 a = _ := (F2.2.2 a (by omega)).trans ea
      have ew2 : h2.2 (a + 1) = _ := (F2.2.2 (a + 1) (by omega)).trans ew
      obtain ⟨g, f0, l, q', k1, k2, k3, k4, k5⟩ := D2
      have hm37 := fun (b : Int32) (Q : Option Value → pb_H → Prop) => m37 (h := h2) (Q := Q) (b := b) (i := m * 8) (n := (V + 1) * 8) (show d + 3 ≠ a + 1 by omega) k1 ew2 eq2 (by omega) (by omega) (by omega) (by omega)
      simp only [Option.toList_some, List.singleton_append, pb_e40, ea2, k1, pb_g3, pb_g4, pb_o_some, true_and, e8, hm37, Option.toList_none, List.nil_append, hinc]
      refine ih (m + 1) _ _ (by omega) ⟨?_, ?_, (wpr f q (m * 8) (if (if wv f (m * 8) 8 % N = 0 then (0 : Int32) else 1) = 0 then 0 else 1) 8).1, ?_, ?_, ?_⟩
      · refine fr_trans F (fr_trans (fr_mono (fun b hb => Or.inr hb) F2) (fr_set (Or.inl (Or.inr rfl)) (by rw [ew2]; rfl)))
      · exact ⟨g, f0, l, q', by rw [pb_set_get, if_neg (by omega), k1], by rw [pb_set_get, if_neg (by omega), k2], by rw [pb_set_get, if_neg (by omega), k3], by rw [pb_set_get, if_neg (by omega), k4], k5⟩
      · rw [pb_set_get, if_neg (by omega), ea2]
      · rw [pb_set_get, if_pos rfl]
      · intro u hu
        by_cases hum : u = m
        · subst hum
          rw [wpr_8 hN hlt hq2 rfl, if_pos (by omega), hfm]
        · rw [show wv (wpr f q (m * 8) (if (if wv f (m * 8) 8 % N = 0 then (0 : Int32) else 1) = 0 then 0 else 1) 8).1 (u * 8) 8 = wv f (u * 8) 8 from wv_congr (fun i hi => wpr_out _ _ _ _ _ _ (by omega)), hf u hu]
          by_cases c : u < m
          · rw [if_pos c, if_pos (by omega)]
          · rw [if_neg c, if_neg (by omega)]
    · rw [if_neg hb]
      have hx0 : nu x m = 0 := by
        unfold nu
        have m0 : ¬ m = 0 := fun e => hb (Or.inl e)
        rw [if_neg m0]
        have b1 : ¬ 0 < x.2 m := fun q => hb (Or.inr (Or.inl ((hp m (by omega)).mpr ⟨by omega, q⟩)))
        have b2 : ¬ x.2 m < 0 := fun q => hb (Or.inr (Or.inr ((hn m (by omega)).mpr ⟨by omega, q⟩)))
        omega
      refine ih (m + 1) h' l3 (by omega) ⟨F, D, f, ea, ew, fun u hu => ?_⟩
      rw [hf u hu]
      by_cases hum : u = m
      · subst hum
        rw [if_neg (by omega), if_pos (by omega), hx0]
        have := cdv_le 0 N hN
        omega
      · by_cases c : u < m
        · rw [if_pos c, if_pos (by omega)]
        · rw [if_neg c, if_neg (by omega)]
theorem nu_0 (x : LN) : nu x 0 = x.1 := rfl
theorem nu_v (x : LN) {v : Nat} (h : 1 ≤ v) : nu x v = (x.2 v).natAbs := if_neg (by omega)
/-- Line.divide -/
theorem L40 {h : pb_H} {Q : Option Value → pb_H → Prop} {V a d N : Nat} {so : Int32} {x : LN} (hV : V ≤ 16) (hL : LA h V a so x) (hD : DV h d N) (had : d + 3 < a) (hQ : ∀ h', fr (fun b => lc a b ∨ b = d + 2 ∨ b = d + 3) h h' → LA h' V a so (ln_dv x N) → DV h' d N → Q none h') : pb_call 40 [.ref a, .ref d] h Q := by
  obtain ⟨f, p, n, wi, ca, cf, co, e1, e2, hx, hcm⟩ := hL
  have hN : N ≠ 0 := by
    obtain ⟨_, _, _, _, _, _, _, _, _, q⟩ := hD
    exact q
  rw [pb_c40]
  simp only [pb_e40]
  have hh := hx
  obtain ⟨w8, hd, hc, hp, hn, hzz⟩ := hh
  refine L40_loop (h := h) hV had hp hn w8 hN ?_ (V + 1) 0 h _ (by omega) ⟨fr_refl _ _, hD, f, e1, e2, fun u hu => by rw [if_neg (by omega)]; exact LF_nu hx u hu⟩
  intro h' g hI eg
  obtain ⟨F, D, f', ea, ew, hf⟩ := hI
  have : g = f' := by rw [ew] at eg; injection eg with q; injection q with _ q; injection q with _ q; injection q with q; exact q.symm
  subst this
  have hval : ∀ u, u ≤ V → wv g (u * 8) 8 = cdv (nu x u) N := fun u hu => by rw [hf u hu, if_pos (by omega)]
  have hz8 : ∀ v, v ≤ V → hz g (v * 8) wi := fun v hv => hz_of w8 (by
    rw [hval v hv]
    have h1 := cdv_le (nu x v) N hN
    have h2 := hz_lt w8 (hzz v hv)
    rw [LF_nu hx v hv] at h2
    omega)
  refine hQ _ (fr_trans F (fr_set (Or.inl (Or.inl rfl)) (by rw [ea]; rfl))) ⟨g, p, n, _, 0, cf, co, by rw [pb_set_get, if_pos rfl], by rw [pb_set_get, if_neg (by omega), ew], ⟨Nat.le_trans (stl_le _ _ _) w8, ?_, ?_, ?_, ?_, stl_hz w8 hz8⟩, Or.inl rfl⟩ ?_
  · have := hval 0 (by omega)
    rwa [Nat.zero_mul] at this
  · intro v h1 h2
    rw [hval v h2, nu_v x h1]
    show _ = Int.natAbs ((x.2 v).sign * (cdv (x.2 v).natAbs N : Int))
    rw [Int.natAbs_mul, Int.natAbs_natCast]
    rcases Int.lt_trichotomy (x.2 v) 0 with c | c | c
    · rw [Int.sign_eq_neg_one_of_neg c]; simp
    · rw [c]; simp [cdv]
    · rw [Int.sign_eq_one_of_pos c]; simp
  · intro v hv
    rw [hp v hv]
    show _ ↔ v ≤ V ∧ 0 < (x.2 v).sign * (cdv (x.2 v).natAbs N : Int)
    rcases Int.lt_trichotomy (x.2 v) 0 with c | c | c
    · rw [Int.sign_eq_neg_one_of_neg c]; omega
    · rw [c]; simp
    · rw [Int.sign_eq_one_of_pos c]
      have := (cdv_pos (a := (x.2 v).natAbs) hN).mpr (by omega)
      omega
  · intro v hv
    rw [hn v hv]
    show _ ↔ v ≤ V ∧ (x.2 v).sign * (cdv (x.2 v).natAbs N : Int) < 0
    rcases Int.lt_trichotomy (x.2 v) 0 with c | c | c
    · rw [Int.sign_eq_neg_one_of_neg c]
      have := (cdv_pos (a := (x.2 v).natAbs) hN).mpr (by omega)
      omega
    · rw [c]; simp
    · rw [Int.sign_eq_one_of_pos c]; omega
  · obtain ⟨k, f0, l, q', k1, k2, k3, k4, k5⟩ := D
    exact ⟨k, f0, l, q', by rw [pb_set_get, if_neg (by omega), k1], by rw [pb_set_get, if_neg (by omega), k2], by rw [pb_set_get, if_neg (by omega), k3], by rw [pb_set_get, if_neg (by omega), k4], k5⟩
