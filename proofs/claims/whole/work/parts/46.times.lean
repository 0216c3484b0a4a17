/-! Line.multiply -/
def nu (x : LN) (u : Nat) : Nat := if u = 0 then x.1 else (x.2 u).natAbs
theorem LF_nu {V wi : Nat} {f : Nat → Int32} {p n : Int32} {x : LN} (hF : LF V f p n wi x) : ∀ u, u ≤ V → wv f (u * 8) 8 = nu x u := by
  intro u hu
  unfold nu
  by_cases h : u = 0
  · rw [if_pos h, h, Nat.zero_mul]; exact hF.2.1
  · rw [if_neg h]; exact hF.2.2.1 u (by omega) hu
theorem wd_zero {f : Nat → Int32} {o n : Nat} : wd f o n = 0 ↔ wv f o n = 0 := by
  constructor
  · intro h
    exact wv_of_zero (fun i hi => wd_top f o n i (by omega) hi)
  · intro h
    rcases Nat.eq_zero_or_pos (wd f o n) with h0 | h0
    · exact h0
    · exfalso
      have h1 := wd_ne n (f := f) (o := o) (by omega)
      have h2 := wd_le f o n
      exact h1 (wv_zero h _ (by omega))
/-- the product's sixteen words -/
theorem wm_16 {f g q : Nat → Int32} {i fw W : Nat} (hW : W ≤ 8) (hfw : fw ≤ 8) (hf : hz f i W) (hg : wv g 0 8 = wv g 0 fw) : wv (wm (fun z => if z < 16 then 0 else q z) f g i fw W) 0 16 = wv f i 8 * wv g 0 8 := by
  have h1 := wm_val (fun z => if z < 16 then 0 else q z) f g i fw (fun k hk => if_pos (by omega)) W
  have h2 : wv (wm (fun z => if z < 16 then 0 else q z) f g i fw W) 0 16 = wv (wm (fun z => if z < 16 then 0 else q z) f g i fw W) 0 (W + fw) := wv_cut (by omega) (fun k h1 h2 => by rw [wm_out _ _ _ _ _ _ _ (by omega)]; exact if_pos (by omega))
  rw [h2, h1, hz_val hW hf, hg]
theorem wv_16 (q : Nat → Int32) : wv q 0 16 = wv q 0 8 + 4294967296 ^ 8 * wv q 8 8 := wv_split q 0 8 8
def TI (V m N : Nat) (f0 f : Nat → Int32) (x : LN) (room : Nat) : Prop := (∀ k, 8 * m ≤ k → f k = f0 k) ∧ (room = 1 → ∀ u, u < m → wv f (u * 8) 8 = nu x u * N) ∧ (room = 1 ↔ ∀ u, u < m → nu x u * N < 4294967296 ^ 8) ∧ room ≤ 1
theorem TI_step {V m N room wi : Nat} {f0 f q' : Nat → Int32} {p n : Int32} {x : LN} (hx : LF V f0 p n wi x) (hm : m ≤ V) (hI : TI V m N f0 f x room) (hv : wv q' 0 16 = nu x m * N) : TI V (m + 1) N f0 (va_cpy q' f 0 (m * 8) 8) x (if room = 0 then 0 else if wd q' 8 8 = 0 then 1 else 0) := by
  unfold TI at hI ⊢
  obtain ⟨i1, i2, i3, i4⟩ := hI
  have hsp := wv_16 q'
  have hlt8 := wv_lt q' 0 8
  rw [hv] at hsp
  have hP : 0 < 4294967296 ^ 8 := Nat.lt_of_le_of_lt (Nat.zero_le _) hlt8
  generalize 4294967296 ^ 8 = B at hsp hlt8 i3 hP ⊢
  have hroom : wd q' 8 8 = 0 ↔ nu x m * N < B := by
    rw [wd_zero, hsp]
    constructor
    · intro e
      rw [e, Nat.mul_zero, Nat.add_zero]
      exact hlt8
    · intro e
      rcases Nat.eq_zero_or_pos (wv q' 8 8) with c | c
      · exact c
      · have := Nat.mul_le_mul_left B c
        omega
  have hout : ∀ k, k < m * 8 ∨ m * 8 + 8 ≤ k → va_cpy q' f 0 (m * 8) 8 k = f k := fun k hk => pk_cpy_out hk
  have hin : wv (va_cpy q' f 0 (m * 8) 8) (m * 8) 8 = wv q' 0 8 := wv_congr (fun i hi => by rw [pk_cpy_in (by omega) (by omega)]; congr 1; omega)
  refine ⟨fun k hk => by rw [hout k (by omega)]; exact i1 k (by omega), ?_, ?_, ?_⟩
  · intro hr u hu
    have r1 : room = 1 := by
      rcases Nat.lt_or_ge room 1 with r | r
      · rw [if_pos (by omega)] at hr; omega
      · omega
    have w1 : wd q' 8 8 = 0 := by
      rcases Nat.eq_zero_or_pos (wd q' 8 8) with w | w
      · exact w
      · rw [if_neg (by omega), if_neg (by omega)] at hr; omega
    by_cases hum : u = m
    · subst hum
      rw [hin]
      have := wd_zero.mp w1
      rw [this, Nat.mul_zero, Nat.add_zero] at hsp
      exact hsp.symm
    · rw [show wv (va_cpy q' f 0 (m * 8) 8) (u * 8) 8 = wv f (u * 8) 8 from wv_congr (fun i hi => hout _ (by omega))]
      exact i2 r1 u (by omega)
  · by_cases r0 : room = 0
    · rw [if_pos r0]
      refine ⟨fun e => by omega, fun e => ?_⟩
      have := i3.mpr (fun u hu => e u (by omega))
      omega
    · rw [if_neg r0]
      have r1 := i3.mp (by omega)
      by_cases w0 : wd q' 8 8 = 0
      · rw [if_pos w0]
        refine ⟨fun _ u hu => ?_, fun _ => rfl⟩
        by_cases hum : u = m
        · subst hum; exact hroom.mp w0
        · exact r1 u (by omega)
      · rw [if_neg w0]
        exact ⟨fun e => by omega, fun e => absurd (hroom.mpr (e m (by omega))) w0⟩
  · split
    · omega
    · split <;> omega
/-- the heap within multiply -/
def mH (h : pb_H) (a d N : Nat) (V : Int32) (f : Nat → Int32) (p n wi so ca cf co : Int32) (q : Nat → Int32) : pb_H := pb_set (hl h a N V f p n wi so ca cf co) d (ci 16 q)
section MH
variable {h : pb_H} {a d N : Nat} {V : Int32} {f f' : Nat → Int32} {p n wi so ca cf co p' n' wi' so' ca' cf' co' : Int32} {q q' : Nat → Int32}
theorem mH_a (hd : d ≠ a) : (mH h a d N V f p n wi so ca cf co q).2 a = cl V (a + 1) p n wi so ca cf co := by unfold mH; rw [pb_set_get, if_neg (Ne.symm hd)]; exact hl_a
theorem mH_w (hd : d ≠ a + 1) : (mH h a d N V f p n wi so ca cf co q).2 (a + 1) = ci N f := by unfold mH; rw [pb_set_get, if_neg (Ne.symm hd)]; exact hl_w
theorem mH_d : (mH h a d N V f p n wi so ca cf co q).2 d = ci 16 q := by unfold mH; rw [pb_set_get, if_pos rfl]
theorem mH_o {b : Nat} (h0 : b ≠ d) (h1 : b ≠ a) (h2 : b ≠ a + 1) : (mH h a d N V f p n wi so ca cf co q).2 b = h.2 b := by unfold mH; rw [pb_set_get, if_neg h0, hl_o h1 h2]
theorem mH_sw (hd : d ≠ a + 1) : pb_set (mH h a d N V f p n wi so ca cf co q) (a + 1) (ci N f') = mH h a d N V f' p n wi so ca cf co q := by unfold mH; rw [pb_set_comm _ _ _ hd, hl_sw]
theorem mH_sa (hd : d ≠ a) : pb_set (mH h a d N V f p n wi so ca cf co q) a (cl V (a + 1) p' n' wi' so' ca' cf' co') = mH h a d N V f p' n' wi' so' ca' cf' co' q := by unfold mH; rw [pb_set_comm _ _ _ hd, hl_sa]
theorem mH_sd : pb_set (mH h a d N V f p n wi so ca cf co q) d (ci 16 q') = mH h a d N V f p n wi so ca cf co q' := by unfold mH; rw [pb_set_same]
theorem mH_id (e1 : h.2 a = cl V (a + 1) p n wi so ca cf co) (e2 : h.2 (a + 1) = ci N f) (e3 : h.2 d = ci 16 q) : mH h a d N V f p n wi so ca cf co q = h := by unfold mH; rw [hl_id e1 e2, pb_set_id h e3]
end MH
theorem L43_35 {h : pb_H} {Q : Option Value → pb_H → Prop} {V a c d wi nq m room : Nat} {f g q : Nat → Int32} {p n so ca cf co : Int32} (hV : V ≤ 16) (hcd : c ≠ d) (hca : c ≠ a) (hca1 : c ≠ a + 1) (hda : d ≠ a) (hda1 : d ≠ a + 1) (hc : h.2 c = ci nq g) (h8 : 8 ≤ nq) (hnq : nq < 2 ^ 31) (w8 : wi ≤ 8) (hm : m ≤ V) (hr : room ≤ 1) :
    pb_R 43 35 [some (.ref a), some (.ref c), some (.ref d), some (.int (nI (wd g 0 8))), some (.int (nI room)), some (.int (nI m))] [] [] (mH h a d ((V + 1) * 8) (nI V) f p n (nI wi) so ca cf co q) Q ↔
    pb_R 43 12 [some (.ref a), some (.ref c), some (.ref d), some (.int (nI (wd g 0 8))), some (.int (nI (if room = 0 then 0 else if wd (wm (fun z => if z < 16 then 0 else q z) f g (m * 8) (wd g 0 8) wi) 8 8 = 0 then 1 else 0))), some (.int (nI (m + 1)))] [] [] (mH h a d ((V + 1) * 8) (nI V) (va_cpy (wm (fun z => if z < 16 then 0 else q z) f g (m * 8) (wd g 0 8) wi) f 0 (m * 8) 8) p n (nI wi) so ca cf co (wm (fun z => if z < 16 then 0 else q z) f g (m * 8) (wd g 0 8) wi)) Q := by
  have hfw := wd_le g 0 8
  have e8 : nI m * 8 = nI (m * 8) := pk_mul m 8
  have hinc : nI m + 1 = nI (m + 1) := nI_1 _
  have rC : ∀ f q, (mH h a d ((V + 1) * 8) (nI V) f p n (nI wi) so ca cf co q).2 c = ci nq g := fun f q => (mH_o hcd hca hca1).trans hc
  have hm41 : ∀ Q : Option Value → pb_H → Prop, pb_call 41 [.ref (a + 1), .int (nI (m * 8)), .int (nI wi), .ref c, .int (nI (wd g 0 8)), .ref d] (mH h a d ((V + 1) * 8) (nI V) f p n (nI wi) so ca cf co q) Q ↔ Q none (mH h a d ((V + 1) * 8) (nI V) f p n (nI wi) so ca cf co (wm (fun z => if z < 16 then 0 else q z) f g (m * 8) (wd g 0 8) wi)) := fun Q => by
    rw [m41 (Ne.symm hda1) hcd (mH_w hda1) (rC f q) mH_d (by omega) (by omega) (by omega) (by omega) hnq (by omega), mH_sd]
  generalize wm (fun z => if z < 16 then 0 else q z) f g (m * 8) (wd g 0 8) wi = q' at hm41 ⊢
  have hm4 : ∀ Q : Option Value → pb_H → Prop, pb_call 4 [.ref d, .int 8] (mH h a d ((V + 1) * 8) (nI V) f p n (nI wi) so ca cf co q') Q ↔ Q (some (.int (nI (wd q' 8 8)))) (mH h a d ((V + 1) * 8) (nI V) f p n (nI wi) so ca cf co q') := fun Q => m4 (i := 8) mH_d (by omega) (by omega)
  have hm42 : ∀ Q : Option Value → pb_H → Prop, pb_call 42 [.ref (a + 1), .int (nI (m * 8)), .ref d, .int 0] (mH h a d ((V + 1) * 8) (nI V) f p n (nI wi) so ca cf co q') Q ↔ Q none (mH h a d ((V + 1) * 8) (nI V) (va_cpy q' f 0 (m * 8) 8) p n (nI wi) so ca cf co q') := fun Q => by
    have := m42 (h := mH h a d ((V + 1) * 8) (nI V) f p n (nI wi) so ca cf co q') (Q := Q) (i := m * 8) (j := 0) (mH_w hda1) mH_d (by omega) (by omega) (by omega) (by omega)
    rw [mH_sw hda1] at this
    exact this
  have rA : ∀ f q, (mH h a d ((V + 1) * 8) (nI V) f p n (nI wi) so ca cf co q).2 a = cl (nI V) (a + 1) p n (nI wi) so ca cf co := fun f q => mH_a hda
  have ew : nI (wd q' 8 8) = 0 ↔ wd q' 8 8 = 0 := nI_eq (b := 0) (by have := wd_le q' 8 8; omega) (by omega)
  have er : nI room = 0 ↔ room = 0 := nI_eq (b := 0) (by omega) (by omega)
  by_cases r0 : room = 0
  · simp only [pb_e43, rA, pb_g4, pb_o_some, e8, hm41, Option.toList_none, List.nil_append, er, r0, if_true, hm42, hinc, nI_0]
  · by_cases w0 : wd q' 8 8 = 0
    · simp only [pb_e43, rA, pb_g4, pb_o_some, e8, hm41, Option.toList_none, List.nil_append, er, r0, if_false, hm42, hinc, hm4, Option.toList_some, List.singleton_append, w0, nI_0, not_true_eq_false, if_true, if_false, show nI 1 = 1 from rfl]
    · simp only [pb_e43, rA, pb_g4, pb_o_some, e8, hm41, Option.toList_none, List.nil_append, er, r0, if_false, hm42, hinc, hm4, Option.toList_some, List.singleton_append, ew, w0, not_false_eq_true, if_true, nI_0]
theorem i32_10 : ((1 : Int32) = 0) = False := by simp
theorem L43_12 {h : pb_H} {Q : Option Value → pb_H → Prop} {V a c d m wi : Nat} {fw room p n so ca cf co : Int32} (hV : V ≤ 16) (hA : h.2 a = cl (nI V) (a + 1) p n (nI wi) so ca cf co) (hm : m ≤ V) :
    pb_R 43 12 [some (.ref a), some (.ref c), some (.ref d), some (.int fw), some (.int room), some (.int (nI m))] [] [] h Q ↔ if m = 0 ∨ bt p m = true ∨ bt n m = true then pb_R 43 35 [some (.ref a), some (.ref c), some (.ref d), some (.int fw), some (.int room), some (.int (nI m))] [] [] h Q else pb_R 43 12 [some (.ref a), some (.ref c), some (.ref d), some (.int fw), some (.int room), some (.int (nI (m + 1)))] [] [] h Q := by
  have c1 : ¬ nI V < nI m := nI_nlt (by omega) (by omega)
  have hinc : nI m + 1 = nI (m + 1) := nI_1 _
  have em : nI m = 0 ↔ m = 0 := nI_eq (b := 0) (by omega) (by omega)
  by_cases m0 : m = 0
  · rw [if_pos (Or.inl m0), pb_q43_12]
    subst m0
    rw [nI_0] at c1
    simp only [pb_e43, hA, pb_g4, pb_o_some, c1, if_false, nI_0, if_true]
  · by_cases hb : bt p m = true ∨ bt n m = true
    · have hm32 : ∀ Q : Option Value → pb_H → Prop, pb_call 32 [.ref a, .int (nI m)] h Q ↔ Q (some (.int 1)) h := fun Q => by rw [m32 hA (show 1 ≤ m by omega) (show m ≤ 16 by omega), if_pos hb]
      rw [if_pos (Or.inr hb), pb_q43_12]
      simp only [pb_e43, hA, pb_g4, pb_o_some, c1, if_false, em, m0, true_and, hm32, Option.toList_some, List.singleton_append, i32_10, if_false]
    · have hm32 : ∀ Q : Option Value → pb_H → Prop, pb_call 32 [.ref a, .int (nI m)] h Q ↔ Q (some (.int 0)) h := fun Q => by rw [m32 hA (show 1 ≤ m by omega) (show m ≤ 16 by omega), if_neg hb]
      rw [if_neg (by rintro (q | q); exact m0 q; exact hb q), pb_q43_12]
      simp only [pb_e43, hA, pb_g4, pb_o_some, c1, if_false, em, m0, true_and, hm32, Option.toList_some, List.singleton_append, if_true, hinc]
theorem L43_loop {h : pb_H} {Q : Option Value → pb_H → Prop} {V a c d wi nq : Nat} {f0 g : Nat → Int32} {p n so ca cf co : Int32} {x : LN} (hV : V ≤ 16) (hcd : c ≠ d) (hca : c ≠ a) (hca1 : c ≠ a + 1) (hda : d ≠ a) (hda1 : d ≠ a + 1) (hc : h.2 c = ci nq g) (h8 : 8 ≤ nq) (hnq : nq < 2 ^ 31) (hx : LF V f0 p n wi x)
    (hE : ∀ f room q, TI V (V + 1) (wv g 0 8) f0 f x room → Q (some (.int (nI room))) (mH h a d ((V + 1) * 8) (nI V) f p n (nI (stl f ((V + 1) * 8) 8)) so 0 cf co q)) :
    ∀ r m f room q, m + r = V + 1 → TI V m (wv g 0 8) f0 f x room → pb_R 43 12 [some (.ref a), some (.ref c), some (.ref d), some (.int (nI (wd g 0 8))), some (.int (nI room)), some (.int (nI m))] [] [] (mH h a d ((V + 1) * 8) (nI V) f p n (nI wi) so ca cf co q) Q := by
  have w8 := hx.1
  have hfw := wd_le g 0 8
  have hg : wv g 0 8 = wv g 0 (wd g 0 8) := wv_cut hfw (fun i h1 h2 => wd_top g 0 8 i h1 h2)
  intro r
  induction r with
  | zero =>
    intro m f room q hm hI
    have em : m = V + 1 := by omega
    subst em
    rw [pb_q43_12]
    have c1 : nI V < nI (V + 1) := nI_lt (by omega) (by omega)
    have rA : (mH h a d ((V + 1) * 8) (nI V) f p n (nI wi) so ca cf co q).2 a = cl (nI V) (a + 1) p n (nI wi) so ca cf co := mH_a hda
    have hm39 : ∀ Q : Option Value → pb_H → Prop, pb_call 39 [.ref a, .int 8] (mH h a d ((V + 1) * 8) (nI V) f p n (nI wi) so ca cf co q) Q ↔ Q none (mH h a d ((V + 1) * 8) (nI V) f p n (nI (stl f ((V + 1) * 8) 8)) so 0 cf co q) := fun Q => by
      have := m39 (h := mH h a d ((V + 1) * 8) (nI V) f p n (nI wi) so ca cf co q) (Q := Q) (b := 8) rA (mH_w hda1) (by omega) (by omega)
      rw [mH_sa hda] at this
      exact this
    have hb : room = 0 ∨ room = 1 := by have := hI.2.2.2; omega
    have hf := hE f room q hI
    rcases hb with rfl | rfl
    · simp only [nI_0] at hf
      simp only [pb_e43, rA, pb_g4, pb_o_some, c1, if_true, true_and, hm39, Option.toList_none, List.nil_append, nI_0, nb0, hf]
    · simp only [show nI 1 = 1 from rfl] at hf
      simp only [pb_e43, rA, pb_g4, pb_o_some, c1, if_true, true_and, hm39, Option.toList_none, List.nil_append, show nI 1 = 1 from rfl, nb1, hf]
  | succ r ih =>
    intro m f room q hm hI
    rw [L43_12 hV (mH_a hda) (by omega)]
    have hfx : wv f (m * 8) 8 = nu x m := by
      rw [← LF_nu hx m (by omega)]
      exact wv_congr (fun i hi => hI.1 _ (by omega))
    by_cases hb : m = 0 ∨ bt p m = true ∨ bt n m = true
    · rw [if_pos hb, L43_35 hV hcd hca hca1 hda hda1 hc h8 hnq w8 (by omega) hI.2.2.2]
      have z1 : hz f (m * 8) wi := fun j j1 j2 => by rw [hI.1 _ (by omega)]; exact hx.2.2.2.2.2 m (by omega) j j1 j2
      exact ih _ _ _ _ (by omega) (TI_step hx (by omega) hI (by rw [wm_16 w8 hfw z1 hg, hfx]))
    · rw [if_neg hb]
      have hx0 : nu x m = 0 := by
        unfold nu
        have m0 : ¬ m = 0 := fun e => hb (Or.inl e)
        rw [if_neg m0]
        have a1 := hx.2.2.2.1 m (by omega)
        have a2 := hx.2.2.2.2.1 m (by omega)
        have b1 : ¬ 0 < x.2 m := fun q => hb (Or.inr (Or.inl (a1.mpr ⟨by omega, q⟩)))
        have b2 : ¬ x.2 m < 0 := fun q => hb (Or.inr (Or.inr (a2.mpr ⟨by omega, q⟩)))
        omega
      obtain ⟨i1, i2, i3, i4⟩ := hI
      refine ih (m + 1) f room q (by omega) ⟨fun k hk => i1 k (by omega), ?_, ?_, i4⟩
      · intro hr u hu
        by_cases hum : u = m
        · subst hum; rw [hfx, hx0, Nat.zero_mul]
        · exact i2 hr u (by omega)
      · rw [i3]
        refine ⟨fun q u hu => ?_, fun q u hu => q u (by omega)⟩
        by_cases hum : u = m
        · subst hum; rw [hx0, Nat.zero_mul]; omega
        · exact q u (by omega)
theorem sgn_tm {a : Int} {N : Nat} (hN : N ≠ 0) : (0 < a * N ↔ 0 < a) ∧ (a * N < 0 ↔ a < 0) := by
  have h1 : (0 : Int) < N := by omega
  refine ⟨⟨fun h => ?_, fun h => Int.mul_pos h h1⟩, ⟨fun h => ?_, fun h => Int.mul_neg_of_neg_of_pos h h1⟩⟩
  · rcases Int.lt_or_le 0 a with q | q
    · exact q
    · have := Int.mul_nonpos_of_nonpos_of_nonneg q (Int.le_of_lt h1); omega
  · rcases Int.lt_or_le a 0 with q | q
    · exact q
    · have := Int.mul_nonneg q (Int.le_of_lt h1); omega
/-- Line.multiply -/
theorem L43 {h : pb_H} {Q : Option Value → pb_H → Prop} {V a c d nq : Nat} {g q : Nat → Int32} {so : Int32} {x : LN} (hV : V ≤ 16) (hL : LA h V a so x) (hcd : c ≠ d) (hca : c ≠ a) (hca1 : c ≠ a + 1) (hda : d ≠ a) (hda1 : d ≠ a + 1) (hc : h.2 c = ci nq g) (hd : h.2 d = ci 16 q) (h8 : 8 ≤ nq) (hnq : nq < 2 ^ 31) (hN : wv g 0 8 ≠ 0)
    (hQ : ∀ h' q', fr (fun b => lc a b ∨ b = d) h h' → h'.2 d = ci 16 q' → (ln_fit V (ln_tm x (wv g 0 8)) ∧ LA h' V a so (ln_tm x (wv g 0 8)) → Q (some (.int 1)) h') ∧ (¬ ln_fit V (ln_tm x (wv g 0 8)) ∧ LG h' V a → Q (some (.int 0)) h')) : pb_call 43 [.ref a, .ref c, .ref d] h Q := by
  obtain ⟨f, p, n, wi, ca, cf, co, e1, e2, hx, hcm⟩ := hL
  have hfr : ∀ f' p' n' wi' so' ca' cf' co' q', fr (fun b => lc a b ∨ b = d) h (mH h a d ((V + 1) * 8) (nI V) f' p' n' wi' so' ca' cf' co' q') := fun f' p' n' wi' so' ca' cf' co' q' => fr_trans (fr_mono (fun b hb => Or.inl hb) (hl_fr e1 e2)) (fr_set (Or.inr rfl) (by rw [hl_o hda hda1, hd]; rfl))
  have hm4 : ∀ Q : Option Value → pb_H → Prop, pb_call 4 [.ref c, .int 0] h Q ↔ Q (some (.int (nI (wd g 0 8)))) h := fun Q => m4 (i := 0) hc (by omega) (by omega)
  rw [pb_c43]
  simp only [pb_e43, hm4, Option.toList_some, List.singleton_append]
  have hid : mH h a d ((V + 1) * 8) (nI V) f p n (nI wi) so ca cf co q = h := mH_id e1 e2 hd
  rw [← hid]
  have hI0 : TI V 0 (wv g 0 8) f f x 1 := ⟨fun _ _ => rfl, fun _ u hu => by omega, ⟨fun _ u hu => by omega, fun _ => rfl⟩, by omega⟩
  refine L43_loop hV hcd hca hca1 hda hda1 hc h8 hnq hx ?_ (V + 1) 0 f 1 q (by omega) hI0
  intro f' room q' hT
  obtain ⟨t1, t2, t3, t4⟩ := hT
  have hnu : ∀ u, 1 ≤ u → nu x u * wv g 0 8 = ((ln_tm x (wv g 0 8)).2 u).natAbs := fun u hu => by
    unfold nu
    rw [if_neg (by omega)]
    show _ = (x.2 u * (wv g 0 8 : Int)).natAbs
    rw [Int.natAbs_mul, Int.natAbs_natCast]
  have hfit : room = 1 ↔ ln_fit V (ln_tm x (wv g 0 8)) := by
    rw [t3]
    constructor
    · intro e
      exact ⟨e 0 (by omega), fun v h1 h2 => by rw [← hnu v h1]; exact e v (by omega)⟩
    · intro e u hu
      by_cases u0 : u = 0
      · subst u0; exact e.1
      · rw [hnu u (by omega)]; exact e.2 u (by omega) (by omega)
  rcases (show room = 0 ∨ room = 1 by omega) with rfl | rfl
  · refine (hQ _ q' (hfr _ _ _ _ _ _ _ _ _) mH_d).2 ⟨fun e => ?_, f', p, n, _, so, 0, cf, co, mH_a hda, mH_w hda1⟩
    have := hfit.mpr e
    omega
  · refine (hQ _ q' (hfr _ _ _ _ _ _ _ _ _) mH_d).1 ⟨hfit.mp rfl, f', p, n, _, 0, cf, co, mH_a hda, mH_w hda1, ?_, Or.inl rfl⟩
    have hz8 : ∀ v, v ≤ V → hz f' (v * 8) 8 := fun v _ j j1 j2 => by omega
    refine ⟨stl_le _ _ _, ?_, ?_, ?_, ?_, stl_hz (by omega) hz8⟩
    · have := t2 rfl 0 (by omega)
      rw [Nat.zero_mul] at this
      exact this
    · intro v h1 h2
      rw [t2 rfl v (by omega), hnu v h1]
    · intro v hv
      rw [hx.2.2.2.1 v hv]
      show _ ↔ v ≤ V ∧ 0 < x.2 v * (wv g 0 8 : Int)
      rw [(sgn_tm hN).1]
    · intro v hv
      rw [hx.2.2.2.2.1 v hv]
      show _ ↔ v ≤ V ∧ x.2 v * (wv g 0 8 : Int) < 0
      rw [(sgn_tm hN).2]
