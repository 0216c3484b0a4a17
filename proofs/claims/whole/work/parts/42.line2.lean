/-! Line: setLiteral, without, copyFrom, the constructor, as LINES. -/
theorem tod_sp {f g : Nat → Int32} {at_ W o : Nat} (hW : W ≤ 8) (hf : hz f 0 W) (hg : hz g at_ W) : wv (tod f g at_ W o).1 0 8 + (tod f g at_ W o).2 * 4294967296 ^ W = wv f 0 8 + o * 4294967296 ^ W - wv g at_ 8 := by
  have h1 := wsb_8 hW hf hg
  have hb := wsb_b f g 0 at_ W
  have hp : wv (wsb f g 0 at_ W).1 0 8 < 4294967296 ^ W := hz_lt hW (fun k h1 h2 => by rw [wsb_out f g 0 at_ W (0 + k) (by omega)]; exact hf k h1 h2)
  unfold tod
  by_cases c : o < (wsb f g 0 at_ W).2
  · rw [if_pos c]
    have e1 : (wsb f g 0 at_ W).2 = 1 := by omega
    have e2 : o = 0 := by omega
    rw [e1] at h1
    subst e2
    show wv (wss (wsb f g 0 at_ W).1 0 0 (7 + 1)) 0 (7 + 1) + 0 * _ = _
    rw [wss_val, wu_zero]
    omega
  · rw [if_neg c]
    show wv (wsb f g 0 at_ W).1 0 8 + (o - (wsb f g 0 at_ W).2) * _ = _
    rw [Nat.sub_mul]
    have : (wsb f g 0 at_ W).2 * 4294967296 ^ W ≤ o * 4294967296 ^ W := Nat.mul_le_mul_right _ (by omega)
    omega
theorem tod_out {f g : Nat → Int32} {at_ W o : Nat} (hW : W ≤ 8) {k : Nat} (hk : 8 ≤ k) : (tod f g at_ W o).1 k = f k := by
  unfold tod
  split
  · show wss _ 0 0 8 k = _
    rw [wss_out _ _ _ _ _ (by omega), wsb_out _ _ _ _ _ _ (by omega)]
  · exact wsb_out _ _ _ _ _ _ (by omega)
theorem tod_le {f g : Nat → Int32} {at_ W o : Nat} : (tod f g at_ W o).2 ≤ o := by
  unfold tod
  split
  · exact Nat.zero_le _
  · exact Nat.sub_le _ _
theorem sgn_0 {x : Int} : x.natAbs = 0 ↔ x = 0 := Int.natAbs_eq_zero
/-- Line.without -/
theorem L55 {h : pb_H} {Q : Option Value → pb_H → Prop} {V a v : Nat} {so : Int32} {x : LN} (hV : V ≤ 16) (hL : LA h V a so x) (h1 : 1 ≤ v) (h2 : v ≤ V) (hQ : ∀ h', fr (lc a) h h' → LA h' V a so (ln_wo x v) → Q none h') : pb_call 55 [.ref a, .int (nI v)] h Q := by
  obtain ⟨f, p, n, wi, ca, cf, co, e1, e2, ⟨w8, hd, hc, hp, hn, hzz⟩, hcm⟩ := hL
  rw [m55 e1 e2 h1 (by omega) (by omega) w8 (by omega)]
  by_cases c : bt p v = true ∨ bt n v = true
  · rw [if_pos c]
    have hz0 : hz f 0 wi := by have := hzz 0 (by omega); rwa [Nat.zero_mul] at this
    have ts := tod_sp (f := f) (g := f) (at_ := v * 8) (W := wi) (o := 0) w8 hz0 (hzz v h2)
    have t2 : (tod f f (v * 8) wi 0).2 = 0 := Nat.le_zero.mp tod_le
    rw [t2] at ts
    have hval : ∀ u, u ≤ V → wv (wio f v wi) (u * 8) 8 = if u = 0 then x.1 - (x.2 v).natAbs else if u = v then 0 else (x.2 u).natAbs := by
      intro u hu
      by_cases hu0 : u = 0
      · subst hu0
        rw [if_pos rfl, Nat.zero_mul, ← hc v h1 h2, ← hd]
        rw [show wv (wio f v wi) 0 8 = wv (tod f f (v * 8) wi 0).1 0 8 from wv_congr (fun i hi => wss_out _ _ _ _ _ (by omega))]
        omega
      · rw [if_neg hu0]
        by_cases huv : u = v
        · subst huv
          rw [if_pos rfl]
          exact wss_val _ _ _ 7
        · rw [if_neg huv, ← hc u (by omega) hu]
          exact wv_congr (fun i hi => by
            show wss _ _ _ _ _ = _
            rw [wss_out _ _ _ _ _ (by omega), tod_out w8 (by omega)])
    have hzw : ∀ u, u ≤ V → hz (wio f v wi) (u * 8) wi := by
      intro u hu
      apply hz_of w8
      rw [hval u hu]
      have hl : ∀ t, t ≤ V → wv f (t * 8) 8 < 4294967296 ^ wi := fun t ht => hz_lt w8 (hzz t ht)
      by_cases hu0 : u = 0
      · rw [if_pos hu0]
        have := hl 0 (by omega)
        rw [Nat.zero_mul, hd] at this
        omega
      · rw [if_neg hu0]
        by_cases huv : u = v
        · rw [if_pos huv]; exact Nat.pow_pos (by omega)
        · rw [if_neg huv, ← hc u (by omega) hu]; exact hl u hu
    have hLF : LF V (wio f v wi) (ssp p v 0) (ssn n v 0) (stl (wio f v wi) ((V + 1) * 8) wi) (ln_wo x v) := by
      refine ⟨Nat.le_trans (stl_le _ _ _) w8, ?_, ?_, ?_, ?_, stl_hz w8 hzw⟩
      · have := hval 0 (by omega)
        rwa [if_pos rfl, Nat.zero_mul] at this
      · intro u hu1 hu2
        rw [hval u hu2, if_neg (by omega)]
        show _ = Int.natAbs (if u = v then 0 else x.2 u)
        split <;> rfl
      · intro u hu
        rw [bt_ssp h1 (by omega) hu]
        show _ ↔ u ≤ V ∧ 0 < (if u = v then 0 else x.2 u)
        by_cases huv : u = v
        · simp [huv]
        · rw [if_neg huv, if_neg huv]; exact hp u hu
      · intro u hu
        rw [bt_ssn h1 (by omega) hu]
        show _ ↔ u ≤ V ∧ (if u = v then 0 else x.2 u) < 0
        by_cases huv : u = v
        · simp [huv]
        · rw [if_neg huv, if_neg huv]; exact hn u hu
    have := LA_put (so := so) (cf := cf) (co := co) e1 e2 rfl hLF (ca := 0) (Or.inl rfl)
    exact hQ _ this.1 this.2
  · rw [if_neg c]
    have hx : x.2 v = 0 := by
      have a1 := hp v h1
      have a2 := hn v h1
      have b1 : ¬ 0 < x.2 v := fun q => c (Or.inl (a1.mpr ⟨h2, q⟩))
      have b2 : ¬ x.2 v < 0 := fun q => c (Or.inr (a2.mpr ⟨h2, q⟩))
      omega
    have hxe : ln_wo x v = x := by
      refine Prod.ext ?_ (funext fun u => ?_)
      · show x.1 - (x.2 v).natAbs = x.1
        rw [hx]; rfl
      · show (if u = v then 0 else x.2 u) = x.2 u
        split
        · rename_i e; rw [e, hx]
        · rfl
    refine hQ h (fr_refl _ _) ?_
    rw [hxe]
    exact ⟨f, p, n, wi, ca, cf, co, e1, e2, ⟨w8, hd, hc, hp, hn, hzz⟩, hcm⟩
/-- Line.copyFrom -/
theorem L48 {h : pb_H} {Q : Option Value → pb_H → Prop} {V a b : Nat} {so : Int32} {y : LN} (hV : V ≤ 16) (hab : b ≠ a) (hG : LG h V a) (hL : LA h V b so y) (hQ : ∀ h' so', fr (lc a) h h' → LA h' V a so' y → Q none h') : pb_call 48 [.ref a, .ref b] h Q := by
  obtain ⟨f, p, n, wi, so0, ca, cf, co, e1, e2⟩ := hG
  obtain ⟨g, p2, n2, wi2, ca2, cf2, co2, e3, e4, ⟨w8, hd, hc, hp, hn, hzz⟩, hcm⟩ := hL
  rw [m48 hab e1 e3 e2 e4 (by omega)]
  have hg : ∀ k, k < (V + 1) * 8 → va_cpy g f 0 0 ((V + 1) * 8) k = g k := by
    intro k hk
    unfold va_cpy
    rw [if_pos ⟨by omega, by omega⟩]
    congr 1
    omega
  have hval : ∀ u, u ≤ V → wv (va_cpy g f 0 0 ((V + 1) * 8)) (u * 8) 8 = wv g (u * 8) 8 := fun u hu => wv_congr (fun i hi => hg _ (by omega))
  have hLF : LF V (va_cpy g f 0 0 ((V + 1) * 8)) p2 n2 wi2 y := by
    refine ⟨w8, ?_, fun v h1 h2 => by rw [hval v h2, hc v h1 h2], hp, hn, fun v hv j h1 h2 => by rw [hg _ (by omega)]; exact hzz v hv j h1 h2⟩
    have := hval 0 (by omega)
    rw [Nat.zero_mul] at this
    rw [this, hd]
  have := LA_put (so := so0) (cf := cf) (co := co) e1 e2 rfl hLF (ca := 0) (Or.inl rfl)
  exact hQ _ so0 this.1 this.2
/-- Line.setLiteral -/
theorem L57 {h : pb_H} {Q : Option Value → pb_H → Prop} {V a v : Nat} {sg : Int32} {s : Int} (hV : V ≤ 16) (hG : LG h V a) (h1 : 1 ≤ v) (h2 : v ≤ V) (hs : (sg = 1 ∧ s = 1) ∨ (sg = -1 ∧ s = -1)) (hQ : ∀ h' so', fr (lc a) h h' → LA h' V a so' (ln_lit v s) → Q none h') : pb_call 57 [.ref a, .int (nI v), .int sg] h Q := by
  obtain ⟨f, p, n, wi, so0, ca, cf, co, e1, e2⟩ := hG
  have ha : a ≠ a + 1 := by omega
  have ha' : a + 1 ≠ a := by omega
  have e8 : nI v * 8 = nI (v * 8) := pk_mul v 8
  have hm24 := fun Q : Option Value → pb_H → Prop => m24 (h := h) (Q := Q) (x := 0) e2 (by omega)
  have hsi : ∀ z : Nat → Int32, pb_si (ci ((V + 1) * 8) z) (nI (v * 8)) 1 = some (ci ((V + 1) * 8) (upd z (v * 8) 1)) := fun z => pb_si_eq (by omega) (by omega)
  rw [pb_c57]
  simp only [pb_e57, e1, pb_g4, pb_o_some, hm24, Option.toList_none, List.nil_append, pb_set_get, ha, ha', if_false, eq_self, if_true, e8, hsi, pb_set_same]
  have hF := fun z : Nat → Int32 => z
  generalize hf0 : upd (fun z => if z < (V + 1) * 8 then (0 : Int32) else f z) (v * 8) 1 = f0
  have E1 : pb_set (pb_set (pb_set h (a + 1) (ci ((V + 1) * 8) fun z => if z < (V + 1) * 8 then 0 else f z)) a (cl (nI V) (a + 1) 0 0 wi so0 ca cf co)) (a + 1) (ci ((V + 1) * 8) f0) = pb_set (pb_set h (a + 1) (ci ((V + 1) * 8) f0)) a (cl (nI V) (a + 1) 0 0 wi so0 ca cf co) := by
    rw [pb_set3 _ ha]
  rw [E1]
  have hm54 := fun Q : Option Value → pb_H → Prop => m54 (h := pb_set (pb_set h (a + 1) (ci ((V + 1) * 8) f0)) a (cl (nI V) (a + 1) 0 0 wi so0 ca cf co)) (Q := Q) (v := v) (sg := sg) (a := a) (by rw [pb_set_get, if_pos rfl])
  simp only [hm54, pb_e57, Option.toList_none, List.nil_append, pb_set_same]
  have hm39 := fun Q : Option Value → pb_H → Prop => m39 (h := pb_set (pb_set h (a + 1) (ci ((V + 1) * 8) f0)) a (cl (nI V) (a + 1) (ssp 0 v sg) (ssn 0 v sg) wi so0 ca cf co)) (Q := Q) (a := a) (w := a + 1) (N := (V + 1) * 8) (b := 1) (f := f0) (by rw [pb_set_get, if_pos rfl]) (by rw [pb_set_get, if_neg ha', pb_set_get, if_pos rfl]) (by omega) (by omega)
  have hm39' : ∀ Q : Option Value → pb_H → Prop, pb_call 39 [.ref a, .int 1] (pb_set (pb_set h (a + 1) (ci ((V + 1) * 8) f0)) a (cl (nI V) (a + 1) (ssp 0 v sg) (ssn 0 v sg) wi so0 ca cf co)) Q ↔ _ := hm39
  simp only [hm39', pb_e57, Option.toList_none, List.nil_append, pb_set_same]
  have hf1 : ∀ k, k < (V + 1) * 8 → f0 k = if k = v * 8 then 1 else 0 := by
    intro k hk
    rw [← hf0]
    unfold upd
    by_cases e : k = v * 8
    · simp [e]
    · simp only [e, if_false]
      rw [if_pos hk]
  have hval : ∀ u, u ≤ V → wv f0 (u * 8) 8 = if u = v then 1 else 0 := by
    intro u hu
    by_cases e : u = v
    · rw [if_pos e]
      have hh : hz f0 (u * 8) 1 := fun j j1 j2 => by rw [hf1 _ (by omega), if_neg (by omega)]
      rw [hz_val (by omega) hh, wv_one, hf1 _ (by omega), if_pos (by rw [e])]
      rfl
    · rw [if_neg e]
      exact wv_of_zero (fun i hi => by rw [hf1 _ (by omega), if_neg (by omega)])
  have hzw : ∀ u, u ≤ V → hz f0 (u * 8) 1 := by
    intro u hu
    apply hz_of (by omega)
    rw [hval u hu]
    split <;> decide
  have b0 : ∀ u, bt (0 : Int32) u = false := by intro u; unfold bt; simp
  have hLF : LF V f0 (ssp 0 v sg) (ssn 0 v sg) (stl f0 ((V + 1) * 8) 1) (ln_lit v s) := by
    refine ⟨Nat.le_trans (stl_le _ _ _) (by omega), ?_, ?_, ?_, ?_, stl_hz (by omega) hzw⟩
    · have := hval 0 (by omega)
      rwa [if_neg (by omega), Nat.zero_mul] at this
    · intro u hu1 hu2
      rw [hval u hu2]
      show _ = Int.natAbs (if u = v then s else 0)
      rcases hs with ⟨_, rfl⟩ | ⟨_, rfl⟩ <;> split <;> rfl
    · intro u hu
      rw [bt_ssp h1 (by omega) hu, b0]
      show _ ↔ u ≤ V ∧ 0 < (if u = v then s else 0)
      by_cases huv : u = v
      · rcases hs with ⟨rfl, rfl⟩ | ⟨rfl, rfl⟩
        · simp [huv, h2]
        · simp [huv, h2]
      · simp [huv]
    · intro u hu
      rw [bt_ssn h1 (by omega) hu, b0]
      show _ ↔ u ≤ V ∧ (if u = v then s else 0) < 0
      by_cases huv : u = v
      · rcases hs with ⟨rfl, rfl⟩ | ⟨rfl, rfl⟩
        · simp [huv, h2]
        · simp [huv, h2]
      · simp [huv]
  have := LA_put (so := so0) (cf := cf) (co := co) e1 e2 rfl hLF (ca := 0) (Or.inl rfl)
  exact ⟨trivial, by rw [pb_set_get, if_pos rfl]; rfl, hQ _ so0 this.1 this.2⟩
/-- Line's constructor -/
theorem L13 {h : pb_H} {Q : Option Value → pb_H → Prop} {V a : Nat} (hV : V ≤ 16) (he : h.2 a = .inr (4, pb_df 4)) (ha : h.1 = a + 1) (hQ : ∀ h', h'.1 = h.1 + 1 → pb_sl h' = pb_sl h + (V + 1) * 8 → (∀ b, b ≠ a → b ≠ a + 1 → h'.2 b = h.2 b) → LA h' V a 0 (0, fun _ => 0) → Q none h') : pb_call 13 [.ref a, .int (nI V)] h Q := by
  have hdf : (.inr (4, pb_df 4) : pb_E) = .inr (4, [.int 0, .null, .int 0, .int 0, .int 0, .int 0, .int 0, .int 0, .int 0]) := rfl
  rw [hdf] at he
  have e8 : (nI V + 1) * 8 = nI ((V + 1) * 8) := by rw [show (1 : Int32) = nI 1 from rfl, nI_add]; exact pk_mul (V + 1) 8
  have hn1 : ¬ nI ((V + 1) * 8) < 0 := Int32.not_lt.mpr (nI_pos' (by omega))
  have hn2 : (nI ((V + 1) * 8)).toNatClampNeg = (V + 1) * 8 := nI_clamp (by omega)
  have haa : a ≠ a + 1 := by omega
  rw [pb_c13]
  simp only [pb_e13, he, pb_g4, pb_o_some, pb_set_get, eq_self, if_true, e8, hn1, not_false_eq_true, hn2, true_and, pb_set_fst, ha, pb_new_get, haa, if_false]
  refine ⟨by omega, ?_⟩
  apply hQ
  · show h.1 + 1 = _
    rfl
  · rw [pb_sl_set (by rw [pb_new_get, pb_set_get, pb_set_fst, if_neg (by omega), if_pos rfl]; rfl), pb_sl_new, pb_sl_set (by rw [he]; rfl)]
    rfl
  · intro b h1 h2
    rw [pb_set_get, if_neg h1, pb_new_get, pb_set_fst, if_neg (by omega), pb_set_get, if_neg h1]
  · refine ⟨fun _ => 0, 0, 0, 0, 0, 0, 0, by rw [pb_set_get, if_pos rfl]; rfl, ?_, ?_, Or.inl rfl⟩
    · rw [pb_set_get, if_neg (by omega), pb_new_get, pb_set_fst, if_pos (by omega)]
    · refine ⟨by omega, wv_of_zero (fun _ _ => rfl), fun v _ _ => wv_of_zero (fun _ _ => rfl), fun v _ => ?_, fun v _ => ?_, fun _ _ _ _ _ => rfl⟩
      · unfold bt; simp
      · unfold bt; simp
