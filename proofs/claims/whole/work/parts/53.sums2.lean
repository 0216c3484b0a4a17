/-! Line.setSums, setOpposite: whole -/
theorem L81_end {h h' : pb_H} {Q : Option Value → pb_H → Prop} {V a c : Nat} {wi so ca cf co tn : Int32} {s : Nat → Int} {l3 l4 : Option Value} (hV : V ≤ 16) (ht : ∀ u, u ≤ V → (s u).natAbs < 10 ^ 64) (hI : UI h h' V a wi so ca cf co V s) (hQ : ∀ h', fr (lc a) h h' → LA h' V a so (ln_of V s) → Q none h') : pb_R 81 151 [some (.ref a), some (.ref c), some (.int tn), l3, l4] [] [] h' Q := by
  obtain ⟨F, f, p, n, ea, ew, h0, hr, hl, hp, hn⟩ := hI
  have hai : pb_ai (ci ((V + 1) * 8) f) 7 = some (f 7) := pb_ai_eq (j := 7) (Or.inl rfl) (by omega) (by omega)
  have htop := top_neg f 0
  rw [Nat.zero_add] at htop
  have hngs : ngs s V ≤ 16 * 10 ^ 64 := ngs_16 hV (fun v a b => Nat.le_of_lt (ht v b))
  have hs0 := ht 0 (by omega)
  have hfin : ∀ f', (∀ k, 8 ≤ k → f' k = f k) → wv f' 0 8 = (ln_of V s).1 → ∀ H, H.2 a = cl (nI V) (a + 1) p n (nI (stl f' ((V + 1) * 8) 8)) so 0 cf co → H.2 (a + 1) = ci ((V + 1) * 8) f' → LA H V a so (ln_of V s) := by
    intro f' hf0 hf1 H e1 e2
    refine ⟨f', p, n, _, 0, cf, co, e1, e2, LF_settle ⟨by omega, hf1, fun v v1 v2 => ?_, hp, hn, fun v hv j j1 j2 => by omega⟩, Or.inl rfl⟩
    show _ = (s v).natAbs
    rw [← hl v v1 v2]
    exact wv_congr (fun i hi => hf0 _ (by omega))
  by_cases c : f 7 < 0
  · have k1 : ¬ 0 ≤ f 7 := Int32.not_le.mpr c
    have hm52 : ∀ Q : Option Value → pb_H → Prop, pb_call 52 [.ref (a + 1), .int 0, .int 0] h' Q ↔ Q none (pb_set h' (a + 1) (ci ((V + 1) * 8) (wss f 0 0 8))) := fun Q => m52 (i := 0) ew (by omega) (by omega)
    have ea2 : ∀ c, (pb_set h' (a + 1) c).2 a = cl (nI V) (a + 1) p n wi so ca cf co := fun c => by rw [pb_set_get, if_neg (by omega), ea]
    have hm39 : ∀ Q : Option Value → pb_H → Prop, pb_call 39 [.ref a, .int 8] (pb_set h' (a + 1) (ci ((V + 1) * 8) (wss f 0 0 8))) Q ↔ Q none (pb_set (pb_set h' (a + 1) (ci ((V + 1) * 8) (wss f 0 0 8))) a (cl (nI V) (a + 1) p n (nI (stl (wss f 0 0 8) ((V + 1) * 8) 8)) so 0 cf co)) := fun Q => m39 (b := 8) (ea2 _) (by rw [pb_set_get, if_pos rfl]) (by omega) (by omega)
    simp only [pb_e81, ea, ew, pb_g4, pb_o_some, true_and, hai, k1, if_false, hm52, Option.toList_none, List.nil_append, ea2, hm39, true_and]
    refine hQ _ (fr_trans F (fr_trans (fr_set (Or.inr rfl) (by rw [ew]; rfl)) (fr_set (Or.inl rfl) (by rw [ea2]; rfl)))) (hfin (wss f 0 0 8) (fun k hk => wss_out _ _ _ _ _ (by omega)) ?_ _ (by rw [pb_set_get, if_pos rfl]) (by rw [pb_set_get, if_neg (by omega), pb_set_get, if_pos rfl]))
    have h1 : wv (wss f 0 0 (7 + 1)) 0 (7 + 1) = wu 0 := wss_val _ _ _ 7
    have h2 := htop.mp c
    show wv (wss f 0 0 (7 + 1)) 0 (7 + 1) = (s 0 + (ngs s V : Int)).toNat
    rw [h1, wu_zero]
    unfold TC at h0
    omega
  · have k1 : 0 ≤ f 7 := Int32.not_lt.mp c
    have hm39 : ∀ Q : Option Value → pb_H → Prop, pb_call 39 [.ref a, .int 8] h' Q ↔ Q none (pb_set h' a (cl (nI V) (a + 1) p n (nI (stl f ((V + 1) * 8) 8)) so 0 cf co)) := fun Q => m39 (b := 8) ea ew (by omega) (by omega)
    simp only [pb_e81, ea, ew, pb_g4, pb_o_some, true_and, hai, k1, if_true, hm39, Option.toList_none, List.nil_append, true_and]
    refine hQ _ (fr_trans F (fr_set (Or.inl rfl) (by rw [ea]; rfl))) (hfin f (fun _ _ => rfl) ?_ _ (by rw [pb_set_get, if_pos rfl]) (by rw [pb_set_get, if_neg (by omega), ew]))
    show wv f 0 8 = (s 0 + (ngs s V : Int)).toNat
    have h2 : ¬ 4294967296 ^ 8 ≤ 2 * wv f 0 8 := fun e => c (htop.mpr e)
    unfold TC at h0
    omega
/-- Line.setSums -/
theorem L81 {h : pb_H} {Q : Option Value → pb_H → Prop} {V a c : Nat} {g : Nat → Int32} {t : Nat → Int} {tn : Bool} (hV : V ≤ 16) (hG : LG h V a) (hc : h.2 c = ci ((V + 1) * 8) g) (hca : c ≠ a + 1) (hT : ∀ u, u ≤ V → TC g (u * 8) (t u)) (ht : ∀ u, u ≤ V → (t u).natAbs < 10 ^ 64) (hQ : ∀ h' so', fr (lc a) h h' → LA h' V a so' (ln_of V (fun u => if tn = true then - t u else t u)) → Q none h') : pb_call 81 [.ref a, .ref c, .int (if tn = true then 1 else 0)] h Q := by
  obtain ⟨f, p, n, wi, so, ca, cf, co, e1, e2⟩ := hG
  have haw : a ≠ a + 1 := by omega
  have hca' : c ≠ a := fun e => by rw [e, e1] at hc; cases hc
  have hal : ∀ z, pb_al2 (ci ((V + 1) * 8) z) = some ((V + 1) * 8) := fun _ => rfl
  have hmin : (if Int32.ofNat ((V + 1) * 8) < Int32.ofNat ((V + 1) * 8) then Int32.ofNat ((V + 1) * 8) else Int32.ofNat ((V + 1) * 8)) = nI ((V + 1) * 8) := by split <;> rfl
  have hcp : pb_cp (ci ((V + 1) * 8) g) (ci ((V + 1) * 8) f) 0 0 (nI ((V + 1) * 8)) = some (ci ((V + 1) * 8) (va_cpy g f 0 0 ((V + 1) * 8))) := pb_cp_eq (sp := 0) (dp := 0) (by omega) (by omega) (by omega) (by omega)
  have hg : ∀ k, k < (V + 1) * 8 → va_cpy g f 0 0 ((V + 1) * 8) k = g k := by
    intro k hk
    unfold va_cpy
    rw [if_pos ⟨by omega, by omega⟩]
    congr 1
    omega
  have hT' : ∀ u, u ≤ V → TC (va_cpy g f 0 0 ((V + 1) * 8)) (u * 8) (t u) := fun u hu => TC_congr (fun i hi => hg _ (by omega)) (hT u hu)
  have F : fr (lc a) h (pb_set (pb_set h (a + 1) (ci ((V + 1) * 8) (va_cpy g f 0 0 ((V + 1) * 8)))) a (cl (nI V) (a + 1) 0 0 wi so ca cf co)) := fr_trans (fr_set (Or.inr rfl) (by rw [e2]; rfl)) (fr_set (Or.inl rfl) (by rw [pb_set_get, if_neg haw, e1]; rfl))
  have hbits : ∀ u : Nat, 1 ≤ u → (bt 0 u = true ↔ u ≤ 0 ∧ 0 < (fun u => if tn = true then - t u else t u) u) ∧ (bt 0 u = true ↔ u ≤ 0 ∧ (fun u => if tn = true then - t u else t u) u < 0) := fun u hu => by
    rw [bt_zero]
    refine ⟨⟨fun e => (by cases e), fun e => (by omega)⟩, ⟨fun e => (by cases e), fun e => (by omega)⟩⟩
  rw [pb_c81]
  cases tn with
  | true =>
    simp only [pb_e81, e1, e2, hc, pb_g4, pb_o_some, true_and, hal, hmin, hcp, pb_set_get, haw, if_false, eq_self, if_true, pb_set_same]
    refine L81_32 (h := h) (t := t) hV (fun u hu => by have := ht u hu; omega) ?_ (V + 1) 0 _ (by omega) ⟨F, _, by rw [pb_set_get, if_pos rfl], by rw [pb_set_get, if_neg (by omega), pb_set_get, if_pos rfl], fun u hu => by rw [if_neg (by omega)]; exact hT' u hu⟩
    intro h' l3 hI
    obtain ⟨F2, f2, ea, ew, hf⟩ := hI
    simp only [pb_e81]
    refine L81_63 (h := h) (s := fun u => if true = true then - t u else t u) hV (fun u hu => by simp only [if_true]; have := ht u hu; omega) ?_ V 0 h' _ (by omega) ⟨F2, f2, 0, 0, ea, ew, ?_, fun u u1 u2 => ?_, fun u u1 u2 => by omega, fun u hu => (hbits u hu).1, fun u hu => (hbits u hu).2⟩
    · intro h' l3 l4 hI
      exact L81_end hV (fun u hu => by simp only [if_true]; have := ht u hu; omega) hI (fun h' F L => hQ h' so F L)
    · have := hf 0 (by omega)
      rw [if_pos ⟨rfl, by omega⟩, Nat.zero_mul] at this
      show TC f2 0 (-t 0 + ((0 : Nat) : Int))
      rw [show -t 0 + ((0 : Nat) : Int) = -t 0 by omega]
      exact this
    · have := hf u u2
      rw [if_pos ⟨rfl, by omega⟩] at this
      exact this
  | false =>
    simp only [pb_e81, e1, e2, hc, pb_g4, pb_o_some, true_and, hal, hmin, hcp, pb_set_get, haw, if_false, eq_self, if_true, pb_set_same, Bool.false_eq_true]
    rw [pb_q81_32]
    have c1 : ¬ nI V < 0 := Int32.not_lt.mpr (nI_pos' (by omega))
    simp only [pb_e81, pb_set_get, eq_self, if_true, pb_g4, pb_o_some, true_and, c1, if_false]
    refine L81_63 (h := h) (s := fun u => if false = true then - t u else t u) hV (fun u hu => ht u hu) ?_ V 0 _ _ (by omega) ⟨F, _, 0, 0, by rw [pb_set_get, if_pos rfl], by rw [pb_set_get, if_neg (by omega), pb_set_get, if_pos rfl], ?_, fun u u1 u2 => hT' u u2, fun u u1 u2 => by omega, fun u hu => (hbits u hu).1, fun u hu => (hbits u hu).2⟩
    · intro h' l3 l4 hI
      exact L81_end hV (fun u hu => ht u hu) hI (fun h' F L => hQ h' so F L)
    · have := hT' 0 (by omega)
      rw [Nat.zero_mul] at this
      show TC _ 0 (t 0 + ((0 : Nat) : Int))
      rw [show t 0 + ((0 : Nat) : Int) = t 0 by omega]
      exact this
def OI (h h' : pb_H) (V a wi : Nat) (p n so ca cf co : Int32) (m : Nat) (x : LN) : Prop := fr (lc a) h h' ∧ ∃ f, h'.2 a = cl (nI V) (a + 1) p n (nI wi) so ca cf co ∧ h'.2 (a + 1) = ci ((V + 1) * 8) f ∧ wv f 0 8 = 1 + sm (fun v => (x.2 v).natAbs) m ∧ ∀ u, 1 ≤ u → u ≤ V → wv f (u * 8) 8 = (x.2 u).natAbs
theorem L82_end {h h' : pb_H} {Q : Option Value → pb_H → Prop} {V a b wi1 wi2 : Nat} {l2 : Option Value} {p2 n2 so1 ca1 cf1 co1 so ca2 cf2 co2 : Int32} {g : Nat → Int32} {y : LN} (hV : V ≤ 16) (hab : b ≠ a) (hba1 : b ≠ a + 1) (hb1a : b + 1 ≠ a) (e3 : h.2 b = cl (nI V) (b + 1) p2 n2 (nI wi2) so ca2 cf2 co2) (e4 : h.2 (b + 1) = ci ((V + 1) * 8) g) (hy2 : LF V g p2 n2 wi2 y) (hI : OI h h' V a wi1 n2 p2 so1 ca1 cf1 co1 V y) (hQ : ∀ h' so', fr (lc a) h h' → LA h' V a so' (ln_op V y) → Q none h') : pb_R 82 65 [some (.ref a), some (.ref b), l2] [] [] h' Q := by
  have haw : a ≠ a + 1 := by omega
  obtain ⟨F, f, ea, ew, hd, hf⟩ := hI
  have kb : h'.2 b = _ := (F.2.2 b (by rintro (q | q); exact hab q; exact hba1 q)).trans e3
  have kb1 : h'.2 (b + 1) = _ := (F.2.2 (b + 1) (by rintro (q | q); exact hb1a q; omega)).trans e4
  have hm53 : ∀ Q : Option Value → pb_H → Prop, pb_call 53 [.ref a, .ref (b + 1), .int 0, .int 0, .int 8] h' Q ↔ Q (some (.int (nI (tod f g 0 8 0).2))) (pb_set h' (a + 1) (ci ((V + 1) * 8) (tod f g 0 8 0).1)) := fun Q => m53 (at_ := 0) (W := 8) (o := 0) ea ew kb1 (fun e => by omega) (by omega) (by omega) (by omega) (by omega) (by omega) (by omega)
  have ts := tod_sp (f := f) (g := g) (at_ := 0) (W := 8) (o := 0) (by omega) (fun j j1 j2 => by omega) (fun j j1 j2 => by omega)
  have t2 : (tod f g 0 8 0).2 = 0 := Nat.le_zero.mp tod_le
  rw [t2, hd, hy2.2.1, Nat.zero_mul, Nat.add_zero, Nat.add_zero] at ts
  have tout : ∀ k, 8 ≤ k → (tod f g 0 8 0).1 k = f k := fun k hk => tod_out (by omega) hk
  generalize (tod f g 0 8 0).2 = o1 at hm53
  generalize (tod f g 0 8 0).1 = f1 at hm53 ts tout
  have ea2 : ∀ c, (pb_set h' (a + 1) c).2 a = cl (nI V) (a + 1) n2 p2 (nI wi1) so1 ca1 cf1 co1 := fun c => by rw [pb_set_get, if_neg haw, ea]
  have hm39 : ∀ Q : Option Value → pb_H → Prop, pb_call 39 [.ref a, .int 8] (pb_set h' (a + 1) (ci ((V + 1) * 8) f1)) Q ↔ Q none (pb_set (pb_set h' (a + 1) (ci ((V + 1) * 8) f1)) a (cl (nI V) (a + 1) n2 p2 (nI (stl f1 ((V + 1) * 8) 8)) so1 0 cf1 co1)) := fun Q => m39 (b := 8) (ea2 _) (by rw [pb_set_get, if_pos rfl]) (by omega) (by omega)
  simp only [pb_e82, ea, kb, pb_g4, pb_o_some, true_and, hm53, Option.toList_some, List.singleton_append, ea2, hm39, Option.toList_none, List.nil_append]
  have hLF : LF V f1 n2 p2 8 (ln_op V y) := by
    refine ⟨by omega, ts, fun v v1 v2 => ?_, fun v hv => ?_, fun v hv => ?_, fun v hv j j1 j2 => by omega⟩
    · show _ = (- y.2 v).natAbs
      rw [Int.natAbs_neg, ← hf v v1 v2]
      exact wv_congr (fun i hi => tout _ (by omega))
    · rw [hy2.2.2.2.2.1 v hv]
      show _ ↔ v ≤ V ∧ 0 < - y.2 v
      omega
    · rw [hy2.2.2.2.1 v hv]
      show _ ↔ v ≤ V ∧ - y.2 v < 0
      omega
  refine hQ _ so1 (fr_trans F (fr_trans (fr_set (Or.inr rfl) (by rw [ew]; rfl)) (fr_set (Or.inl rfl) (by rw [ea2]; rfl)))) ⟨f1, n2, p2, _, 0, cf1, co1, by rw [pb_set_get, if_pos rfl], by rw [pb_set_get, if_neg (by omega), pb_set_get, if_pos rfl], LF_settle hLF, Or.inl rfl⟩
theorem L82_loop {h : pb_H} {Q : Option Value → pb_H → Prop} {V a b wi1 : Nat} {p2 n2 so1 ca1 cf1 co1 : Int32} {y : LN} (hV : V ≤ 16) (hy : ∀ m, m ≤ V → 1 + sm (fun v => (y.2 v).natAbs) m < 4294967296 ^ 8)
    (hE : ∀ h' l2, OI h h' V a wi1 n2 p2 so1 ca1 cf1 co1 V y → pb_R 82 65 [some (.ref a), some (.ref b), l2] [] [] h' Q) :
    ∀ r m h', m + r = V → OI h h' V a wi1 n2 p2 so1 ca1 cf1 co1 m y → pb_R 82 32 [some (.ref a), some (.ref b), some (.int (nI (m + 1)))] [] [] h' Q := by
  have haw : a ≠ a + 1 := by omega
  intro r
  induction r with
  | zero =>
    intro m h' hm hI
    have em : m = V := by omega
    subst em
    have hh := hE h' (some (.int (nI (m + 1)))) hI
    obtain ⟨F, f, ea, ew, hd, hf⟩ := hI
    have c1 : nI m < nI (m + 1) := nI_lt (by omega) (by omega)
    have : pb_R 82 32 [some (.ref a), some (.ref b), some (.int (nI (m + 1)))] [] [] h' Q ↔ pb_R 82 65 [some (.ref a), some (.ref b), some (.int (nI (m + 1)))] [] [] h' Q := by
      rw [pb_q82_32]
      simp only [pb_e82, ea, pb_g4, pb_o_some, true_and, c1, if_true]
    exact this.mpr hh
  | succ r ih =>
    intro m h' hm hI
    obtain ⟨F, f, ea, ew, hd, hf⟩ := hI
    have c1 : ¬ nI V < nI (m + 1) := nI_nlt (by omega) (by omega)
    have e8 : nI (m + 1) * 8 = nI ((m + 1) * 8) := pk_mul (m + 1) 8
    have hm59 : ∀ Q : Option Value → pb_H → Prop, pb_call 59 [.ref (a + 1), .int 0, .ref (a + 1), .int (nI ((m + 1) * 8)), .int 8] h' Q ↔ Q (some (.int (nI (wa f f 0 ((m + 1) * 8) 8).2))) (pb_set h' (a + 1) (ci ((V + 1) * 8) (wa f f 0 ((m + 1) * 8) 8).1)) := fun Q => m59 (i := 0) (W := 8) ew ew (fun _ => by omega) (by omega) (by omega) (by omega) (by omega)
    have h3 := wa_sum f f 0 ((m + 1) * 8) 8
    have h4 := wv_lt (wa f f 0 ((m + 1) * 8) 8).1 0 8
    have h5 := hy (m + 1) (by omega)
    have hwo : ∀ k, 8 ≤ k → (wa f f 0 ((m + 1) * 8) 8).1 k = f k := fun k hk => wa_out _ _ _ _ _ _ (by omega)
    rw [hd, hf (m + 1) (by omega) (by omega)] at h3
    generalize (wa f f 0 ((m + 1) * 8) 8).1 = f1 at *
    generalize (wa f f 0 ((m + 1) * 8) 8).2 = c2 at *
    rw [pb_q82_32]
    simp only [pb_e82, ea, pb_g4, pb_o_some, true_and, c1, if_false, e8, hm59, Option.toList_some, List.singleton_append, nI_1]
    refine ih (m + 1) _ (by omega) ⟨fr_trans F (fr_set (Or.inr rfl) (by rw [ew]; rfl)), f1, by rw [pb_set_get, if_neg haw, ea], by rw [pb_set_get, if_pos rfl], ?_, ?_⟩
    · have h6 : sm (fun v => (y.2 v).natAbs) (m + 1) = sm (fun v => (y.2 v).natAbs) m + (y.2 (m + 1)).natAbs := rfl
      rw [h6] at h5 ⊢
      generalize 4294967296 ^ 8 = P at *
      generalize wv f1 0 8 = w at *
      rcases Nat.eq_zero_or_pos c2 with q | q
      · rw [q, Nat.zero_mul, Nat.add_zero] at h3
        rw [h3, Nat.add_assoc]
      · have := Nat.mul_le_mul_right P q
        omega
    · intro u u1 u2
      rw [← hf u u1 u2]
      exact wv_congr (fun i hi => hwo _ (by omega))
/-- Line.setOpposite -/
theorem L82 {h : pb_H} {Q : Option Value → pb_H → Prop} {V a b : Nat} {so : Int32} {y : LN} (hV : V ≤ 16) (hab : b ≠ a) (hG : LG h V a) (hL : LA h V b so y) (hy : ∀ m, m ≤ V → 1 + sm (fun v => (y.2 v).natAbs) m < 4294967296 ^ 8) (hQ : ∀ h' so', fr (lc a) h h' → LA h' V a so' (ln_op V y) → Q none h') : pb_call 82 [.ref a, .ref b] h Q := by
  have hG' := hG
  have hLL := hL
  obtain ⟨f0, p0, n0, wi0, so0, ca0, cf0, co0, e1, e2⟩ := hG
  obtain ⟨g, p2, n2, wi2, ca2, cf2, co2, e3, e4, hy2, hcm⟩ := hL
  have hba1 : b ≠ a + 1 := fun e => by rw [e, e2] at e3; cases e3
  have hb1a : b + 1 ≠ a := fun e => by rw [e, e1] at e4; cases e4
  have haw : a ≠ a + 1 := by omega
  rw [pb_c82]
  simp only [pb_e82, e1, pb_g4, true_and]
  refine L48 hV hab hG' hLL ?_
  intro h1 so1 F1 L1
  obtain ⟨f1, p1, n1, wi1, ca1, cf1, co1, k1, k2, hx1, _⟩ := L1
  have k3 : h1.2 b = _ := (F1.2.2 b (by rintro (q | q); exact hab q; exact hba1 q)).trans e3
  have k4 : h1.2 (b + 1) = _ := (F1.2.2 (b + 1) (by rintro (q | q); exact hb1a q; omega)).trans e4
  have r0 : ∀ c, (pb_set h1 a c).2 a = c := fun c => by rw [pb_set_get, if_pos rfl]
  have r1 : ∀ c, (pb_set h1 a c).2 b = cl (nI V) (b + 1) p2 n2 (nI wi2) so ca2 cf2 co2 := fun c => by rw [pb_set_get, if_neg hab, k3]
  have r2 : ∀ c, (pb_set h1 a c).2 (a + 1) = ci ((V + 1) * 8) f1 := fun c => by rw [pb_set_get, if_neg (by omega), k2]
  have r3 : ∀ c, (pb_set h1 a c).2 (b + 1) = ci ((V + 1) * 8) g := fun c => by rw [pb_set_get, if_neg hb1a, k4]
  have hm52 : ∀ (c : pb_E) (Q : Option Value → pb_H → Prop), pb_call 52 [.ref (a + 1), .int 0, .int 1] (pb_set h1 a c) Q ↔ Q none (pb_set (pb_set h1 a c) (a + 1) (ci ((V + 1) * 8) (wss f1 0 1 8))) := fun c Q => m52 (i := 0) (r2 c) (by omega) (by omega)
  simp only [Option.toList_none, List.nil_append, pb_e82, k1, k3, pb_g4, pb_o_some, true_and, r0, r1, pb_set_same, hm52]
  have hw1 : wv (wss f1 0 1 8) 0 8 = 1 + sm (fun v => (y.2 v).natAbs) 0 := by
    have h7 : wv (wss f1 0 1 8) 0 8 = wu 1 := wss_val _ _ _ 7
    rw [h7]
    rfl
  refine L82_loop (wi1 := wi1) (p2 := p2) (n2 := n2) (so1 := so1) (ca1 := ca1) (cf1 := cf1) (co1 := co1) (h := h) (y := y) hV hy (fun h' l2 hI => L82_end hV hab hba1 hb1a e3 e4 hy2 hI hQ) V 0 _ (by omega) ⟨fr_trans F1 (fr_trans (fr_set (Or.inl rfl) (by rw [k1]; rfl)) (fr_set (Or.inr rfl) (by rw [r2]; rfl))), wss f1 0 1 8, by rw [pb_set_get, if_neg haw, r0], by rw [pb_set_get, if_pos rfl], hw1, fun u u1 u2 => ?_⟩
  rw [← hx1.2.2.1 u u1 u2]
  exact wv_congr (fun i hi => wss_out _ _ _ _ _ (by omega))
