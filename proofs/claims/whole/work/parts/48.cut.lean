/-! Line.cut -/
def setc (x : LN) (m : Nat) (c : Int) : LN := (x.1, fun u => if u = m then c else x.2 u)
theorem setc_id {x : LN} {m : Nat} {c : Int} (h : x.2 m = c) : setc x m c = x := by
  refine Prod.ext rfl (funext fun u => ?_)
  show (if u = m then c else x.2 u) = x.2 u
  split
  · rename_i e; rw [e, h]
  · rfl
theorem LF_setc {V m wi : Nat} {f f' : Nat → Int32} {p n p' n' : Int32} {x : LN} {c : Int} (hF : LF V f p n wi x) (h1 : 1 ≤ m) (h2 : m ≤ V) (ho : ∀ k, k < m * 8 ∨ m * 8 + 8 ≤ k → f' k = f k) (hv : wv f' (m * 8) 8 = c.natAbs) (hb : ∀ u, 1 ≤ u → u ≠ m → bt p' u = bt p u ∧ bt n' u = bt n u) (hp : bt p' m = true ↔ 0 < c) (hn : bt n' m = true ↔ c < 0) (hz1 : hz f' (m * 8) wi) : LF V f' p' n' wi (setc x m c) := by
  obtain ⟨w8, f0, f1, f2, f3, f4⟩ := hF
  have hs : ∀ u, u ≠ m → wv f' (u * 8) 8 = wv f (u * 8) 8 := fun u hu => wv_congr (fun i hi => ho _ (by omega))
  refine ⟨w8, ?_, ?_, ?_, ?_, ?_⟩
  · have := hs 0 (by omega)
    rw [Nat.zero_mul] at this
    rw [this]; exact f0
  · intro u hu1 hu2
    show _ = Int.natAbs (if u = m then c else x.2 u)
    by_cases e : u = m
    · subst e; rw [if_pos rfl, hv]
    · rw [if_neg e, hs u e, f1 u hu1 hu2]
  · intro u hu
    show _ ↔ u ≤ V ∧ 0 < (if u = m then c else x.2 u)
    by_cases e : u = m
    · subst e; rw [if_pos rfl, hp]; exact ⟨fun q => ⟨h2, q⟩, fun q => q.2⟩
    · rw [if_neg e, (hb u hu e).1]; exact f2 u hu
  · intro u hu
    show _ ↔ u ≤ V ∧ (if u = m then c else x.2 u) < 0
    by_cases e : u = m
    · subst e; rw [if_pos rfl, hn]; exact ⟨fun q => ⟨h2, q⟩, fun q => q.2⟩
    · rw [if_neg e, (hb u hu e).2]; exact f3 u hu
  · intro u hu
    by_cases e : u = m
    · subst e; exact hz1
    · intro j j1 j2
      rw [ho _ (by omega)]
      exact f4 u hu j j1 j2
theorem LF_has {V m wi : Nat} {f : Nat → Int32} {p n : Int32} {x : LN} (hF : LF V f p n wi x) (h1 : 1 ≤ m) (h2 : m ≤ V) : (bt p m = true ∨ bt n m = true) ↔ x.2 m ≠ 0 := by
  rw [hF.2.2.2.1 m h1, hF.2.2.2.2.1 m h1]
  omega
def cutc (x : LN) (u : Nat) : Int := (x.2 u).sign * min (x.2 u).natAbs x.1
def cutm (x : LN) : Nat → LN
  | 0 => x
  | m + 1 => setc (cutm x m) (m + 1) (cutc x (m + 1))
theorem cutm_1 (x : LN) : ∀ m, (cutm x m).1 = x.1
  | 0 => rfl
  | m + 1 => cutm_1 x m
theorem cutm_2 (x : LN) : ∀ m u, 1 ≤ u → (cutm x m).2 u = if u ≤ m then cutc x u else x.2 u
  | 0, u, h => by rw [if_neg (by omega)]; rfl
  | m + 1, u, h => by
    show (if u = m + 1 then cutc x (m + 1) else (cutm x m).2 u) = _
    by_cases e : u = m + 1
    · subst e; rw [if_pos rfl, if_pos (by omega)]
    · rw [if_neg e, cutm_2 x m u h]
      by_cases c : u ≤ m
      · rw [if_pos c, if_pos (by omega)]
      · rw [if_neg c, if_neg (by omega)]
theorem cutc_small {x : LN} {u : Nat} (h : (x.2 u).natAbs ≤ x.1) : cutc x u = x.2 u := by
  unfold cutc
  rcases Int.lt_trichotomy (x.2 u) 0 with c | c | c
  · rw [Int.sign_eq_neg_one_of_neg c]; omega
  · rw [c]; simp
  · rw [Int.sign_eq_one_of_pos c]; omega
theorem cutc_big {x : LN} {u : Nat} (h : x.1 < (x.2 u).natAbs) : (cutc x u).natAbs = x.1 ∧ (0 < cutc x u ↔ x.1 ≠ 0 ∧ 0 < x.2 u) ∧ (cutc x u < 0 ↔ x.1 ≠ 0 ∧ x.2 u < 0) := by
  unfold cutc
  rcases Int.lt_trichotomy (x.2 u) 0 with c | c | c
  · rw [Int.sign_eq_neg_one_of_neg c]; omega
  · rw [c] at h; simp at h
  · rw [Int.sign_eq_one_of_pos c]; omega
def CI (h h' : pb_H) (V a wi : Nat) (so ca cf co : Int32) (y : LN) : Prop := fr (lc a) h h' ∧ ∃ f p n, h'.2 a = cl (nI V) (a + 1) p n (nI wi) so ca cf co ∧ h'.2 (a + 1) = ci ((V + 1) * 8) f ∧ LF V f p n wi y
theorem L66_loop {h : pb_H} {Q : Option Value → pb_H → Prop} {V a wi : Nat} {so ca cf co : Int32} {x : LN} (hV : V ≤ 16)
    (hE : ∀ h' f p n, CI h h' V a wi so ca cf co (cutm x V) → h'.2 (a + 1) = ci ((V + 1) * 8) f → h'.2 a = cl (nI V) (a + 1) p n (nI wi) so ca cf co → Q none (pb_set h' a (cl (nI V) (a + 1) p n (nI (stl f ((V + 1) * 8) wi)) so 0 cf co))) :
    ∀ r m h' l3, m + r = V → CI h h' V a wi so ca cf co (cutm x m) → pb_R 66 19 [some (.ref a), some (.int (if x.1 = 0 then 1 else 0)), some (.int (nI (m + 1))), l3] [] [] h' Q := by
  intro r
  induction r with
  | zero =>
    intro m h' l3 hm hI
    have em : m = V := by omega
    subst em
    obtain ⟨F, f, p, n, ea, ew, hf⟩ := hI
    have c1 : nI m < nI (m + 1) := nI_lt (by omega) (by omega)
    have hm39 := fun Q : Option Value → pb_H → Prop => m39 (h := h') (Q := Q) (b := wi) ea ew (by omega) (by have := hf.1; omega)
    rw [pb_q66_19]
    simp only [pb_e66, ea, pb_g4, pb_o_some, true_and, c1, if_true, hm39, Option.toList_none, List.nil_append, true_and]
    exact hE h' f p n ⟨F, f, p, n, ea, ew, hf⟩ ew ea
  | succ r ih =>
    intro m h' l3 hm hI
    have hI' := hI
    obtain ⟨F, f, p, n, ea, ew, hf⟩ := hI
    have w8 := hf.1
    have c1 : ¬ nI V < nI (m + 1) := nI_nlt (by omega) (by omega)
    have e8 : nI (m + 1) * 8 = nI ((m + 1) * 8) := pk_mul (m + 1) 8
    have hinc : nI (m + 1) + 1 = nI (m + 1 + 1) := nI_1 _
    have hxm : (cutm x m).2 (m + 1) = x.2 (m + 1) := by rw [cutm_2 x m _ (by omega), if_neg (by omega)]
    have hhas := LF_has hf (m := m + 1) (by omega) (by omega)
    rw [hxm] at hhas
    have hv1 : wv f ((m + 1) * 8) 8 = (x.2 (m + 1)).natAbs := by rw [hf.2.2.1 (m + 1) (by omega) (by omega), hxm]
    have hv0 : wv f 0 8 = x.1 := by rw [hf.2.1, cutm_1]
    have z1 := hf.2.2.2.2.2 (m + 1) (by omega)
    have z0 : hz f 0 wi := by have := hf.2.2.2.2.2 0 (by omega); rwa [Nat.zero_mul] at this
    rw [pb_q66_19]
    by_cases hb : bt p (m + 1) = true ∨ bt n (m + 1) = true
    · have hm32 : ∀ Q : Option Value → pb_H → Prop, pb_call 32 [.ref a, .int (nI (m + 1))] h' Q ↔ Q (some (.int 1)) h' := fun Q => by rw [m32 ea (show 1 ≤ m + 1 by omega) (show m + 1 ≤ 16 by omega), if_pos hb]
      have hm61 : ∀ Q : Option Value → pb_H → Prop, pb_call 61 [.ref (a + 1), .int (nI ((m + 1) * 8)), .ref (a + 1), .int 0, .int (nI wi)] h' Q ↔ Q (some (.int (wcp f f ((m + 1) * 8) 0 wi))) h' := fun Q => m61 (j := 0) ew ew (by omega) (by omega) (by omega) (by omega)
      have hcp := wcp_8 w8 z1 z0
      rw [hv1, hv0] at hcp
      by_cases c : x.1 < (x.2 (m + 1)).natAbs
      · rw [if_neg (by omega), if_neg (by omega)] at hcp
        have k1 : (0 : Int32) < 1 := by decide
        have hm42 : ∀ Q : Option Value → pb_H → Prop, pb_call 42 [.ref (a + 1), .int (nI ((m + 1) * 8)), .ref (a + 1), .int 0] h' Q ↔ Q none (pb_set h' (a + 1) (ci ((V + 1) * 8) (va_cpy f f 0 ((m + 1) * 8) 8))) := fun Q => m42 (j := 0) ew ew (by omega) (by omega) (by omega) (by omega)
        obtain ⟨b1, b2, b3⟩ := cutc_big c
        have hout : ∀ k, k < (m + 1) * 8 ∨ (m + 1) * 8 + 8 ≤ k → va_cpy f f 0 ((m + 1) * 8) 8 k = f k := fun k hk => pk_cpy_out hk
        have hin : wv (va_cpy f f 0 ((m + 1) * 8) 8) ((m + 1) * 8) 8 = x.1 := by
          rw [← hv0]
          exact wv_congr (fun i hi => by rw [pk_cpy_in (by omega) (by omega)]; congr 1; omega)
        have hzn : hz (va_cpy f f 0 ((m + 1) * 8) 8) ((m + 1) * 8) wi := hz_of w8 (by rw [hin, ← hv0]; exact hz_lt w8 z0)
        have ea2 : ∀ c, (pb_set h' (a + 1) c).2 a = cl (nI V) (a + 1) p n (nI wi) so ca cf co := fun c => by rw [pb_set_get, if_neg (by omega), ea]
        have ew2 : ∀ c, (pb_set h' (a + 1) c).2 (a + 1) = c := fun c => by rw [pb_set_get, if_pos rfl]
        by_cases d0 : x.1 = 0
        · have hm54 := fun (c : pb_E) (Q : Option Value → pb_H → Prop) => m54 (h := pb_set h' (a + 1) c) (Q := Q) (v := m + 1) (sg := 0) (ea2 c)
          simp only [pb_e66, ea, pb_g4, pb_o_some, true_and, c1, if_false, e8, hm32, Option.toList_some, List.singleton_append, i32_10, if_false, hm61, hcp, k1, if_true, hm42, Option.toList_none, List.nil_append, d0, ea2, hm54, hinc, true_and]
          have hih := ih (m + 1) (pb_set (pb_set h' (a + 1) (ci ((V + 1) * 8) (va_cpy f f 0 ((m + 1) * 8) 8))) a (cl (nI V) (a + 1) (ssp p (m + 1) 0) (ssn n (m + 1) 0) (nI wi) so ca cf co)) (some (.int (nI ((m + 1) * 8)))) (by omega) ⟨fr_trans F (fr_trans (fr_set (Or.inr rfl) (by rw [ew]; rfl)) (fr_set (Or.inl rfl) (by rw [ea2]; rfl))), _, _, _, by rw [pb_set_get, if_pos rfl], by rw [pb_set_get, if_neg (by omega), ew2], LF_setc hf (by omega) (by omega) hout (by rw [hin, b1]) (fun u hu huv => by rw [bt_ssp (by omega) (by omega) hu, bt_ssn (by omega) (by omega) hu, if_neg huv, if_neg huv]; exact ⟨rfl, rfl⟩) (by rw [bt_ssp (by omega) (by omega) (by omega), if_pos rfl, b2]; simp [d0]) (by rw [bt_ssn (by omega) (by omega) (by omega), if_pos rfl, b3]; simp [d0]) hzn⟩
          rw [if_pos d0] at hih
          exact hih
        · simp only [pb_e66, ea, pb_g4, pb_o_some, true_and, c1, if_false, e8, hm32, Option.toList_some, List.singleton_append, i32_10, if_false, hm61, hcp, k1, if_true, hm42, Option.toList_none, List.nil_append, d0, hinc]
          have hih := ih (m + 1) (pb_set h' (a + 1) (ci ((V + 1) * 8) (va_cpy f f 0 ((m + 1) * 8) 8))) (some (.int (nI ((m + 1) * 8)))) (by omega) ⟨fr_trans F (fr_set (Or.inr rfl) (by rw [ew]; rfl)), _, _, _, ea2 _, ew2 _, LF_setc hf (by omega) (by omega) hout (by rw [hin, b1]) (fun u hu huv => ⟨rfl, rfl⟩) (by rw [hf.2.2.2.1 _ (by omega), hxm, b2]; omega) (by rw [hf.2.2.2.2.1 _ (by omega), hxm, b3]; omega) hzn⟩
          rw [if_neg d0] at hih
          exact hih
      · have k1 : ¬ (0 : Int32) < wcp f f ((m + 1) * 8) 0 wi := by
          rw [hcp]
          split
          · decide
          · split
            · decide
            · omega
        simp only [pb_e66, ea, pb_g4, pb_o_some, true_and, c1, if_false, e8, hm32, Option.toList_some, List.singleton_append, i32_10, if_false, hm61, k1, hinc]
        refine ih (m + 1) h' _ (by omega) ?_
        show CI h h' V a wi so ca cf co (setc (cutm x m) (m + 1) (cutc x (m + 1)))
        rw [cutc_small (by omega), setc_id hxm]
        exact hI'
    · have hm32 : ∀ Q : Option Value → pb_H → Prop, pb_call 32 [.ref a, .int (nI (m + 1))] h' Q ↔ Q (some (.int 0)) h' := fun Q => by rw [m32 ea (show 1 ≤ m + 1 by omega) (show m + 1 ≤ 16 by omega), if_neg hb]
      simp only [pb_e66, ea, pb_g4, pb_o_some, true_and, c1, if_false, e8, hm32, Option.toList_some, List.singleton_append, if_true, hinc]
      refine ih (m + 1) h' _ (by omega) ?_
      show CI h h' V a wi so ca cf co (setc (cutm x m) (m + 1) (cutc x (m + 1)))
      have : x.2 (m + 1) = 0 := by
        apply Decidable.byContradiction
        intro q
        exact hb (hhas.mpr q)
      rw [cutc_small (by rw [this]; exact Nat.zero_le _), setc_id hxm]
      exact hI'
/-- LINES that are alike where they count -/
def leq (V : Nat) (x y : LN) : Prop := x.1 = y.1 ∧ ∀ u, 1 ≤ u → u ≤ V → x.2 u = y.2 u
theorem LF_leq {V wi : Nat} {f : Nat → Int32} {p n : Int32} {x y : LN} (h : leq V x y) (hF : LF V f p n wi x) : LF V f p n wi y := by
  obtain ⟨a0, a1, a2, a3, a4, a5⟩ := hF
  refine ⟨a0, by rw [a1, h.1], fun v h1 h2 => by rw [a2 v h1 h2, h.2 v h1 h2], fun v hv => ?_, fun v hv => ?_, a5⟩
  · rw [a3 v hv]
    constructor
    · rintro ⟨q1, q2⟩; exact ⟨q1, by rw [← h.2 v hv q1]; exact q2⟩
    · rintro ⟨q1, q2⟩; exact ⟨q1, by rw [h.2 v hv q1]; exact q2⟩
  · rw [a4 v hv]
    constructor
    · rintro ⟨q1, q2⟩; exact ⟨q1, by rw [← h.2 v hv q1]; exact q2⟩
    · rintro ⟨q1, q2⟩; exact ⟨q1, by rw [h.2 v hv q1]; exact q2⟩
theorem LF_settle {V wi : Nat} {f : Nat → Int32} {p n : Int32} {x : LN} (hF : LF V f p n wi x) : LF V f p n (stl f ((V + 1) * 8) wi) x := ⟨Nat.le_trans (stl_le _ _ _) hF.1, hF.2.1, hF.2.2.1, hF.2.2.2.1, hF.2.2.2.2.1, stl_hz hF.1 hF.2.2.2.2.2⟩
/-- Line.cut -/
theorem L66 {h : pb_H} {Q : Option Value → pb_H → Prop} {V a : Nat} {so : Int32} {x : LN} (hV : V ≤ 16) (hL : LA h V a so x) (hQ : ∀ h', fr (lc a) h h' → LA h' V a so (ln_cut x) → Q none h') : pb_call 66 [.ref a] h Q := by
  obtain ⟨f, p, n, wi, ca, cf, co, e1, e2, hx, hcm⟩ := hL
  have hm4 : ∀ Q : Option Value → pb_H → Prop, pb_call 4 [.ref (a + 1), .int 0] h Q ↔ Q (some (.int (nI (wd f 0 8)))) h := fun Q => m4 (i := 0) e2 (by omega) (by omega)
  have ew : nI (wd f 0 8) = 0 ↔ x.1 = 0 := by
    have h1 : nI (wd f 0 8) = 0 ↔ wd f 0 8 = 0 := nI_eq (b := 0) (by have := wd_le f 0 8; omega) (by omega)
    rw [h1, wd_zero, hx.2.1]
  have hlp := L66_loop (h := h) (Q := Q) (a := a) (wi := wi) (so := so) (ca := ca) (cf := cf) (co := co) (x := x) hV (fun h' f' p' n' hI ew' ea' => by
    obtain ⟨F, f2, p2, n2, ea, ew, hf⟩ := hI
    have q1 : f2 = f' := by rw [ew] at ew'; injection ew' with q; injection q with _ q; injection q with _ q; injection q
    have q2 : p2 = p' ∧ n2 = n' := by rw [ea] at ea'; simp [cl] at ea'; exact ea'
    obtain ⟨q2, q3⟩ := q2
    subst q1 q2 q3
    refine hQ _ (fr_trans F (fr_set (Or.inl rfl) (by rw [ea]; rfl))) ⟨f2, p2, n2, _, 0, cf, co, by rw [pb_set_get, if_pos rfl], by rw [pb_set_get, if_neg (by omega), ew], LF_leq ⟨cutm_1 x V, fun u h1 h2 => ?_⟩ (LF_settle hf), Or.inl rfl⟩
    rw [cutm_2 x V u h1, if_pos h2]
    rfl) V 0 h
  rw [pb_c66]
  by_cases d0 : x.1 = 0
  · simp only [d0, if_true] at hlp
    simp only [pb_e66, e1, pb_g4, pb_o_some, true_and, hm4, Option.toList_some, List.singleton_append, ew, d0, not_true_eq_false, if_false]
    exact hlp _ (by omega) ⟨fr_refl _ _, f, p, n, e1, e2, hx⟩
  · simp only [d0, if_false] at hlp
    simp only [pb_e66, e1, pb_g4, pb_o_some, true_and, hm4, Option.toList_some, List.singleton_append, ew, d0, not_false_eq_true, if_true]
    exact hlp _ (by omega) ⟨fr_refl _ _, f, p, n, e1, e2, hx⟩
