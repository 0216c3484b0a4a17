/-! Line.setSums, setOpposite -/
/-- eight words as a number with sign -/
def TC (f : Nat → Int32) (o : Nat) (z : Int) : Prop := (0 ≤ z ∧ (wv f o 8 : Int) = z) ∨ (z < 0 ∧ (wv f o 8 : Int) = z + (4294967296 ^ 8 : Nat))
theorem TC_congr {f g : Nat → Int32} {o p : Nat} {z : Int} (h : ∀ i, i < 8 → f (o + i) = g (p + i)) (hT : TC g p z) : TC f o z := by
  unfold TC at *
  rw [wv_congr h]
  exact hT
theorem top_neg (f : Nat → Int32) (o : Nat) : f (o + 7) < 0 ↔ 4294967296 ^ 8 ≤ 2 * wv f o 8 := by
  have e : wv f o 8 = wv f o 7 + wu (f (o + 7)) * 4294967296 ^ 7 := rfl
  have h1 := wv_lt f o 7
  rw [e]
  have h2 := wu_lt (f (o + 7))
  have h3 : f (o + 7) < 0 ↔ 2147483648 ≤ wu (f (o + 7)) := by
    generalize f (o + 7) = y
    unfold wu
    rw [Int32.lt_iff_toInt_lt]
    show y.toBitVec.toInt < 0 ↔ _
    rw [BitVec.toInt_eq_toNat_cond]
    split <;> omega
  rw [h3]
  generalize wu (f (o + 7)) = y at *
  generalize wv f o 7 = w at *
  omega
theorem TC_neg {f : Nat → Int32} {o : Nat} {z : Int} (hT : TC f o z) (hz : z.natAbs < 4294967296 ^ 7) : TC (wn f o 8).1 o (-z) := by
  unfold TC at *
  by_cases c : wv f o 8 = 0
  · have h1 := wn_sum f o 8
    have h2 := wv_lt (wn f o 8).1 o 8
    rw [c] at h1 hT
    have h3 : (wn f o 8).2 = 1 := by
      have := wn_carry f o 8
      rcases Nat.lt_or_ge (wn f o 8).2 1 with q | q
      · have : (wn f o 8).2 = 0 := by omega
        rw [this] at h1
        omega
      · omega
    rw [h3] at h1
    omega
  · rw [wn_8 f o c]
    have := wv_lt f o 8
    omega
theorem TC_add {f g : Nat → Int32} {i j : Nat} {y z : Int} (h1 : TC f i y) (h2 : TC g j z) (hy : y.natAbs < 4294967296 ^ 7) (hz : z.natAbs < 4294967296 ^ 7) : TC (wa f g i j 8).1 i (y + z) := by
  unfold TC at *
  have h3 := wa_sum f g i j 8
  have h4 := wv_lt (wa f g i j 8).1 i 8
  generalize (wa f g i j 8).2 = c at *
  generalize wv (wa f g i j 8).1 i 8 = r at *
  generalize wv f i 8 = s at *
  generalize wv g j 8 = t at *
  omega
theorem TC_sub {f g : Nat → Int32} {i j : Nat} {y z : Int} (h1 : TC f i y) (h2 : TC g j z) (hy : y.natAbs < 4294967296 ^ 7) (hz : z.natAbs < 4294967296 ^ 7) : TC (wsb f g i j 8).1 i (y - z) := by
  unfold TC at *
  have h3 := wsb_sum f g i j 8
  have h4 := wv_lt (wsb f g i j 8).1 i 8
  generalize (wsb f g i j 8).2 = c at *
  generalize wv (wsb f g i j 8).1 i 8 = r at *
  generalize wv f i 8 = s at *
  generalize wv g j 8 = t at *
  omega
/-- what the negative ones add to the DEGREE -/
def ngs (s : Nat → Int) : Nat → Nat := sm (fun v => if s v < 0 then (s v).natAbs else 0)
def ln_of (V : Nat) (s : Nat → Int) : LN := ((s 0 + (ngs s V : Int)).toNat, s)
theorem ngs_le {s : Nat → Int} {K : Nat} : ∀ {V : Nat}, (∀ v, 1 ≤ v → v ≤ V → (s v).natAbs ≤ K) → ngs s V ≤ V * K
  | 0, _ => by show 0 ≤ _; omega
  | V + 1, h => by
    have h1 := ngs_le (V := V) (fun v a b => h v a (by omega))
    have h2 := h (V + 1) (by omega) (by omega)
    show ngs s V + (if s (V + 1) < 0 then (s (V + 1)).natAbs else 0) ≤ _
    rw [Nat.add_mul]
    split <;> omega
theorem ngs_16 {s : Nat → Int} {K V : Nat} (hV : V ≤ 16) (h : ∀ v, 1 ≤ v → v ≤ V → (s v).natAbs ≤ K) : ngs s V ≤ 16 * K := Nat.le_trans (ngs_le h) (Nat.mul_le_mul_right _ hV)
/-- all turned -/
def SI (h h' : pb_H) (V a c : Nat) (wi so ca cf co : Int32) (m : Nat) (t : Nat → Int) (tn : Bool) : Prop := fr (lc a) h h' ∧ ∃ f, h'.2 a = cl (nI V) (a + 1) 0 0 wi so ca cf co ∧ h'.2 (a + 1) = ci ((V + 1) * 8) f ∧ ∀ u, u ≤ V → TC f (u * 8) (if tn = true ∧ u < m then - t u else t u)
theorem L81_32 {h : pb_H} {Q : Option Value → pb_H → Prop} {V a c : Nat} {wi so ca cf co : Int32} {t : Nat → Int} {l4 : Option Value} (hV : V ≤ 16) (ht : ∀ u, u ≤ V → (t u).natAbs < 4294967296 ^ 7)
    (hE : ∀ h' l3, SI h h' V a c wi so ca cf co (V + 1) t true → pb_R 81 61 [some (.ref a), some (.ref c), some (.int 1), l3, l4] [] [] h' Q) :
    ∀ r m h', m + r = V + 1 → SI h h' V a c wi so ca cf co m t true → pb_R 81 32 [some (.ref a), some (.ref c), some (.int 1), some (.int (nI m)), l4] [] [] h' Q := by
  intro r
  induction r with
  | zero =>
    intro m h' hm hI
    have em : m = V + 1 := by omega
    subst em
    have hI' := hI
    obtain ⟨F, f, ea, ew, hf⟩ := hI
    have c1 : nI V < nI (V + 1) := nI_lt (by omega) (by omega)
    have hh := hE h' (some (.int (nI (V + 1)))) hI'
    rw [pb_q81_32]
    simp only [pb_e81] at hh
    simp only [pb_e81, ea, pb_g4, pb_o_some, true_and, c1, if_true]
    exact hh
  | succ r ih =>
    intro m h' hm hI
    obtain ⟨F, f, ea, ew, hf⟩ := hI
    have c1 : ¬ nI V < nI m := nI_nlt (by omega) (by omega)
    have e8 : nI m * 8 = nI (m * 8) := pk_mul m 8
    have hm62 := fun Q : Option Value → pb_H → Prop => m62 (h := h') (Q := Q) (i := m * 8) ew (by omega) (by omega)
    rw [pb_q81_32]
    simp only [pb_e81, ea, pb_g4, pb_o_some, true_and, c1, if_false, i32_10, if_false, e8, hm62, Option.toList_none, List.nil_append, nI_1]
    refine ih (m + 1) _ (by omega) ⟨fr_trans F (fr_set (Or.inr rfl) (by rw [ew]; rfl)), _, by rw [pb_set_get, if_neg (by omega), ea], by rw [pb_set_get, if_pos rfl], fun u hu => ?_⟩
    have hu' := hf u hu
    by_cases e : u = m
    · subst e
      rw [if_neg (by omega)] at hu'
      rw [if_pos ⟨rfl, by omega⟩]
      exact TC_neg hu' (ht u hu)
    · refine TC_congr (fun i hi => wn_out _ _ _ _ (by omega)) ?_
      by_cases c : u < m
      · rw [if_pos ⟨rfl, c⟩] at hu'
        rw [if_pos ⟨rfl, by omega⟩]
        exact hu'
      · rw [if_neg (fun q => c q.2)] at hu'
        rw [if_neg (fun q => c (by omega))]
        exact hu'
/-- signs taken off -/
def UI (h h' : pb_H) (V a : Nat) (wi so ca cf co : Int32) (m : Nat) (s : Nat → Int) : Prop := fr (lc a) h h' ∧ ∃ f p n, h'.2 a = cl (nI V) (a + 1) p n wi so ca cf co ∧ h'.2 (a + 1) = ci ((V + 1) * 8) f ∧ TC f 0 (s 0 + (ngs s m : Int)) ∧ (∀ u, m < u → u ≤ V → TC f (u * 8) (s u)) ∧ (∀ u, 1 ≤ u → u ≤ m → wv f (u * 8) 8 = (s u).natAbs) ∧ (∀ u, 1 ≤ u → (bt p u = true ↔ u ≤ m ∧ 0 < s u)) ∧ (∀ u, 1 ≤ u → (bt n u = true ↔ u ≤ m ∧ s u < 0))
theorem L81_63 {h : pb_H} {Q : Option Value → pb_H → Prop} {V a c : Nat} {wi so ca cf co tn : Int32} {s : Nat → Int} (hV : V ≤ 16) (ht : ∀ u, u ≤ V → (s u).natAbs < 10 ^ 64)
    (hE : ∀ h' l3 l4, UI h h' V a wi so ca cf co V s → pb_R 81 151 [some (.ref a), some (.ref c), some (.int tn), l3, l4] [] [] h' Q) :
    ∀ r m h' l4, m + r = V → UI h h' V a wi so ca cf co m s → pb_R 81 63 [some (.ref a), some (.ref c), some (.int tn), some (.int (nI (m + 1))), l4] [] [] h' Q := by
  intro r
  induction r with
  | zero =>
    intro m h' l4 hm hI
    have em : m = V := by omega
    subst em
    have hI' := hI
    obtain ⟨F, f, p, n, ea, ew, hf⟩ := hI
    have c1 : nI m < nI (m + 1) := nI_lt (by omega) (by omega)
    have hh := hE h' (some (.int (nI (m + 1)))) l4 hI'
    rw [pb_q81_63]
    simp only [pb_e81, ea, pb_g4, pb_o_some, true_and] at hh
    simp only [pb_e81, ea, pb_g4, pb_o_some, true_and, c1, if_true]
    exact hh
  | succ r ih =>
    intro m h' l4 hm hI
    obtain ⟨F, f, p, n, ea, ew, h0, hr, hl, hp, hn⟩ := hI
    have c1 : ¬ nI V < nI (m + 1) := nI_nlt (by omega) (by omega)
    have e8 : nI (m + 1) * 8 = nI ((m + 1) * 8) := pk_mul (m + 1) 8
    have e7 : nI ((m + 1) * 8) + 8 - 1 = nI ((m + 1) * 8 + 7) := by rw [show (8 : Int32) = nI 8 from rfl, nI_add]; exact pk_sub (a := (m + 1) * 8 + 8) (b := 1) (by omega)
    have hai : pb_ai (ci ((V + 1) * 8) f) (nI ((m + 1) * 8 + 7)) = some (f ((m + 1) * 8 + 7)) := pb_ai_eq (Or.inl rfl) (by omega) (by omega)
    have htop := top_neg f ((m + 1) * 8)
    have hm1 := hr (m + 1) (by omega) (by omega)
    have hb1 := ht (m + 1) (by omega)
    have hlt := wv_lt f ((m + 1) * 8) 8
    have ngs1 : ngs s (m + 1) = ngs s m + if s (m + 1) < 0 then (s (m + 1)).natAbs else 0 := rfl
    have hngs : ngs s m ≤ 16 * 10 ^ 64 := ngs_16 (by omega) (fun v a b => Nat.le_of_lt (ht v (by omega)))
    have hs0 := ht 0 (by omega)
    rw [pb_q81_63]
    by_cases sg : s (m + 1) < 0
    · have k1 : ¬ 0 ≤ f ((m + 1) * 8 + 7) := by
        apply Int32.not_le.mpr
        rw [htop]
        unfold TC at hm1
        omega
      have hm62 := fun Q : Option Value → pb_H → Prop => m62 (h := h') (Q := Q) (i := (m + 1) * 8) ew (by omega) (by omega)
      have ea2 : ∀ c, (pb_set h' (a + 1) c).2 a = cl (nI V) (a + 1) p n wi so ca cf co := fun c => by rw [pb_set_get, if_neg (by omega), ea]
      have hm59 : ∀ Q : Option Value → pb_H → Prop, pb_call 59 [.ref (a + 1), .int 0, .ref (a + 1), .int (nI ((m + 1) * 8)), .int 8] (pb_set h' (a + 1) (ci ((V + 1) * 8) (wn f ((m + 1) * 8) 8).1)) Q ↔ Q (some (.int (nI (wa (wn f ((m + 1) * 8) 8).1 (wn f ((m + 1) * 8) 8).1 0 ((m + 1) * 8) 8).2))) (pb_set h' (a + 1) (ci ((V + 1) * 8) (wa (wn f ((m + 1) * 8) 8).1 (wn f ((m + 1) * 8) 8).1 0 ((m + 1) * 8) 8).1)) := fun Q => by
        have := m59 (h := pb_set h' (a + 1) (ci ((V + 1) * 8) (wn f ((m + 1) * 8) 8).1)) (Q := Q) (a := a + 1) (b := a + 1) (i := 0) (j := (m + 1) * 8) (W := 8) (n := (V + 1) * 8) (nb := (V + 1) * 8) (f := (wn f ((m + 1) * 8) 8).1) (g := (wn f ((m + 1) * 8) 8).1) (by rw [pb_set_get, if_pos rfl]) (by rw [pb_set_get, if_pos rfl]) (fun _ => by omega) (by omega) (by omega) (by omega) (by omega)
        rw [pb_set_same] at this
        exact this
      have hm54 := fun (c : pb_E) (Q : Option Value → pb_H → Prop) => m54 (h := pb_set h' (a + 1) c) (Q := Q) (v := m + 1) (sg := -1) (ea2 c)
      simp only [pb_e81, ea, ew, pb_g4, pb_o_some, true_and, c1, if_false, e8, e7, hai, k1, hm62, Option.toList_none, List.nil_append, ea2, hm59, Option.toList_some, List.singleton_append, hm54, true_and, nI_1]
      have hT1 := TC_neg hm1 (by omega)
      have hn1 : wv (wn f ((m + 1) * 8) 8).1 ((m + 1) * 8) 8 = (s (m + 1)).natAbs := by
        unfold TC at hT1
        omega
      have hT0 : TC (wn f ((m + 1) * 8) 8).1 0 (s 0 + (ngs s m : Int)) := TC_congr (fun i hi => wn_out _ _ _ _ (by omega)) h0
      have hTa := TC_add hT0 hT1 (by omega) (by omega)
      have hwa : ∀ k, 8 ≤ k → (wa (wn f ((m + 1) * 8) 8).1 (wn f ((m + 1) * 8) 8).1 0 ((m + 1) * 8) 8).1 k = (wn f ((m + 1) * 8) 8).1 k := fun k hk => wa_out _ _ _ _ _ _ (by omega)
      refine ih (m + 1) _ _ (by omega) ⟨fr_trans F (fr_trans (fr_set (Or.inr rfl) (by rw [ew]; rfl)) (fr_set (Or.inl rfl) (by rw [ea2]; rfl))), _, _, _, by rw [pb_set_get, if_pos rfl], by rw [pb_set_get, if_neg (by omega), pb_set_get, if_pos rfl], ?_, ?_, ?_, ?_, ?_⟩
      · rw [ngs1, if_pos sg]
        have : s 0 + ((ngs s m + (s (m + 1)).natAbs : Nat) : Int) = s 0 + (ngs s m : Int) + - s (m + 1) := by omega
        rw [this]
        exact hTa
      · intro u u1 u2
        exact TC_congr (fun i hi => by rw [hwa _ (by omega), wn_out _ _ _ _ (by omega)]) (hr u (by omega) u2)
      · intro u u1 u2
        by_cases e : u = m + 1
        · subst e
          rw [← hn1]
          exact wv_congr (fun i hi => hwa _ (by omega))
        · rw [← hl u u1 (by omega)]
          exact wv_congr (fun i hi => by rw [hwa _ (by omega), wn_out _ _ _ _ (by omega)])
      · intro u hu
        rw [bt_ssp (by omega) (by omega) hu]
        by_cases e : u = m + 1
        · subst e; rw [if_pos rfl]; simp; omega
        · rw [if_neg e, hp u hu]; omega
      · intro u hu
        rw [bt_ssn (by omega) (by omega) hu]
        by_cases e : u = m + 1
        · subst e; rw [if_pos rfl]; simp; omega
        · rw [if_neg e, hn u hu]; omega
    · have k1 : 0 ≤ f ((m + 1) * 8 + 7) := by
        apply Int32.not_lt.mp
        rw [htop]
        unfold TC at hm1
        omega
      have hn1 : wv f ((m + 1) * 8) 8 = (s (m + 1)).natAbs := by
        unfold TC at hm1
        omega
      have hm4 := fun Q : Option Value → pb_H → Prop => m4 (h := h') (Q := Q) (i := (m + 1) * 8) ew (by omega) (by omega)
      have ngs2 : ngs s (m + 1) = ngs s m := by rw [ngs1, if_neg sg]; rfl
      by_cases z0 : s (m + 1) = 0
      · have k2 : nI (wd f ((m + 1) * 8) 8) ≤ 0 := by
          have : wd f ((m + 1) * 8) 8 = 0 := wd_zero.mpr (by rw [hn1, z0]; rfl)
          rw [this]; decide
        simp only [pb_e81, ea, ew, pb_g4, pb_o_some, true_and, c1, if_false, e8, e7, hai, k1, if_true, hm4, Option.toList_some, List.singleton_append, k2, nI_1]
        refine ih (m + 1) _ _ (by omega) ⟨F, f, p, n, ea, ew, by rw [ngs2]; exact h0, fun u u1 u2 => hr u (by omega) u2, fun u u1 u2 => ?_, fun u hu => ?_, fun u hu => ?_⟩
        · by_cases e : u = m + 1
          · subst e; exact hn1
          · exact hl u u1 (by omega)
        · rw [hp u hu]
          by_cases e : u = m + 1
          · subst e; omega
          · omega
        · rw [hn u hu]
          by_cases e : u = m + 1
          · subst e; omega
          · omega
      · have k2 : ¬ nI (wd f ((m + 1) * 8) 8) ≤ 0 := by
          have h1 : wd f ((m + 1) * 8) 8 ≠ 0 := fun e => by have := wd_zero.mp e; omega
          have h2 := wd_le f ((m + 1) * 8) 8
          exact nI_ge (a := 0) (b := wd f ((m + 1) * 8) 8) (by omega) (by omega)
        have hm54 := fun (Q : Option Value → pb_H → Prop) => m54 (h := h') (Q := Q) (v := m + 1) (sg := 1) ea
        simp only [pb_e81, ea, ew, pb_g4, pb_o_some, true_and, c1, if_false, e8, e7, hai, k1, if_true, hm4, Option.toList_some, List.singleton_append, k2, hm54, Option.toList_none, List.nil_append, true_and, nI_1]
        refine ih (m + 1) _ _ (by omega) ⟨fr_trans F (fr_set (Or.inl rfl) (by rw [ea]; rfl)), f, _, _, by rw [pb_set_get, if_pos rfl], by rw [pb_set_get, if_neg (by omega), ew], by rw [ngs2]; exact h0, fun u u1 u2 => hr u (by omega) u2, fun u u1 u2 => ?_, fun u hu => ?_, fun u hu => ?_⟩
        · by_cases e : u = m + 1
          · subst e; exact hn1
          · exact hl u u1 (by omega)
        · rw [bt_ssp (by omega) (by omega) hu]
          by_cases e : u = m + 1
          · subst e; rw [if_pos rfl]; simp; omega
          · rw [if_neg e, hp u hu]; omega
        · rw [bt_ssn (by omega) (by omega) hu]
          by_cases e : u = m + 1
          · subst e; rw [if_pos rfl]; simp; omega
          · rw [if_neg e, hn u hu]; omega
