/-! The reference's fault, literal, piece, holds, origin -/
theorem shl16_or {x c : Nat} (hx : x < 65536) (hc : c < 65536) : nI x <<< ((16 : Int32) &&& 31) ||| nI c = nI (x * 65536 + c) := by
  have e : ((16 : Int32) &&& 31).toBitVec.smod 32 = 16 := by decide
  rw [pk_shlN _ 16 (by rw [e]; rfl) (by omega), nI_or (by omega) (by omega)]
  congr 1
  have h2 : x * 65536 + c = 2 ^ 16 * x + c := by omega
  rw [h2, Nat.two_pow_add_eq_or_of_lt (i := 16) (by omega), Nat.mul_comm]
theorem rn_pc {G : Nat → Nat} {o i : Nat} (hB : RB G) (hi : i < 8) : G (o + 2 * i + 1) * 65536 + G (o + 2 * i) = pc (rn G o 20) i := by
  have h1 := rn_split G o (2 * i) (20 - 2 * i)
  rw [show 2 * i + (20 - 2 * i) = 20 by omega] at h1
  have h2 := rn_split G (o + 2 * i) 2 (18 - 2 * i)
  rw [show 2 + (18 - 2 * i) = 20 - 2 * i by omega] at h2
  have h3 : rn G (o + 2 * i) 2 = G (o + 2 * i) + G (o + 2 * i + 1) * 65536 := by
    show (0 + G (o + 2 * i + 0) * 65536 ^ 0) + G (o + 2 * i + 1) * 65536 ^ 1 = _
    rw [Nat.pow_zero, Nat.pow_one, Nat.mul_one, Nat.zero_add, Nat.add_zero]
  have hl := rn_lt hB o (2 * i)
  have e1 : 65536 ^ (2 * i) = 4294967296 ^ i := by rw [Nat.pow_mul]
  rw [e1] at h1 hl
  have hp : 0 < 4294967296 ^ i := Nat.pow_pos (by omega)
  have b1 := hB (o + 2 * i)
  have b2 := hB (o + 2 * i + 1)
  unfold pc
  rw [h1, h2, Nat.add_mul_div_left _ _ hp, Nat.div_eq_of_lt hl, Nat.zero_add, show (65536 : Nat) ^ 2 = 4294967296 from rfl, Nat.add_mul_mod_self_left, h3, Nat.mod_eq_of_lt (by omega)]
  omega
set_option maxRecDepth 100000 in
theorem sh_toNat : ∀ v, v < 17 → 1 ≤ v → (((nI v - 1) &&& 31).toBitVec.smod 32).toNat = v - 1 := by decide
theorem bit_shr {x : Int32} {v : Nat} (h1 : 1 ≤ v) (h2 : v ≤ 16) : (x >>> ((nI v - 1) &&& 31)) &&& 1 = if bt x v = true then 1 else 0 := by
  have hs := sh_toNat v (by omega) h1
  have hb : bt (x >>> ((nI v - 1) &&& 31)) 1 = bt x v := by
    unfold bt
    rw [Int32.toBitVec_shiftRight, BitVec.getLsbD_sshiftRight', hs, show v - 1 + (1 - 1) = v - 1 by omega, if_pos (by omega)]
    simp
  apply i32_ext
  intro u hu
  rw [bt_and2]
  by_cases e : u = 1
  · subst e
    rw [hb]
    cases bt x v <;> decide
  · have e1 : bt 1 u = false := by
      have := bm_any (v := 1) (u := u) (by omega) (by omega) hu
      rw [show bm 1 = 1 by decide] at this
      rw [this, decide_eq_false e]
    rw [e1, Bool.and_false]
    split
    · exact e1.symm
    · exact (bt_zero u).symm
section RGT
variable {h : pb_H} {Q : Option Value → pb_H → Prop} {V m : Nat} {s sg og : Nat → Int32} {G : Nat → Nat} {X : Nat → LN} {ogN : Nat → Nat}
theorem R202 {x : Int32} (h65 : h.2 65 = rm s) : pb_call 202 [.ref 65, .int x] h Q ↔ Q (some (.int (aFau x (s 8) (s 9)))) h := by
  rw [pb_c202]
  unfold aFau
  by_cases c0 : x = 0
  · subst c0
    simp only [pb_e202, not_true_eq_false, if_true, if_false, h65, pb_gr, pb_o_some]
  · by_cases c1 : x = 1
    · subst c1
      simp only [pb_e202, c0, not_false_eq_true, not_true_eq_false, if_true, if_false, h65, pb_gr, pb_o_some]
    · simp only [pb_e202, c0, c1, not_false_eq_true, if_true, if_false]
theorem R203_1 {k : Int32} (h65 : h.2 65 = rm s) (h4 : s 4 = nI m) (ck : 1 ≤ k ∧ k ≤ nI m) : ∀ Q : Option Value → pb_H → Prop, pb_call 203 [.ref 65, .int k] h Q ↔ Q (some (.int 1)) h := fun Q => by
  have n1 : ¬ k < 1 := i32_nlt.mpr ck.1
  have n2 : ¬ nI m < k := i32_nlt.mpr ck.2
  rw [pb_c203]
  simp only [pb_e203, n1, if_false, h65, pb_gr, pb_o_some, h4, n2, nb1, true_and]
theorem R203_0 {k : Int32} (h65 : h.2 65 = rm s) (h4 : s 4 = nI m) (ck : ¬ (1 ≤ k ∧ k ≤ nI m)) : ∀ Q : Option Value → pb_H → Prop, pb_call 203 [.ref 65, .int k] h Q ↔ Q (some (.int 0)) h := fun Q => by
  rw [pb_c203]
  by_cases n1 : k < 1
  · simp only [pb_e203, n1, if_true, nb0, true_and]
  · have n2 : nI m < k := i32_nle.mp (fun w => ck ⟨i32_nlt.mp n1, w⟩)
    simp only [pb_e203, n1, if_false, h65, pb_gr, pb_o_some, h4, n2, if_true, nb0, true_and]
theorem R204 {k v : Int32} (hV : V ≤ 16) (hX : RX h s G sg) (h3 : s 3 = nI V) (h4 : s 4 = nI m) (hm : m ≤ 300) (hL : RLX V G sg m X) : pb_call 204 [.ref 65, .int k, .int v] h Q ↔ Q (some (.int (aLit V m X k v))) h := by
  have i10 : ¬ (1 : Int32) = 0 := by decide
  rw [pb_c204]
  unfold aLit
  by_cases ck : 1 ≤ k ∧ k ≤ nI m
  · have h203 := R203_1 hX.1 h4 ck
    by_cases cv : 1 ≤ v ∧ v ≤ nI V
    · obtain ⟨j, j1, j2, j3, j4⟩ := i32_1j ck.1 ck.2 (by omega)
      obtain ⟨w, w1, w2, w3, w4⟩ := i32_1j cv.1 cv.2 (by omega)
      have n1 : ¬ v < 1 := i32_nlt.mpr cv.1
      have eix : k * 17 + v = nI (j * 17 + w) := by rw [j3, w3, nI17, nI_mul, nI_add]
      have hgt := sg_get (sg := sg) (j := j * 17 + w) (by omega)
      rw [((hL.1 j j1 j2).2 w w1 w2).2] at hgt
      rw [if_pos ⟨ck, cv⟩, j4, w4]
      simp only [pb_e204, hX.1, pb_gr, pb_o_some, true_and, h203, Option.toList_some, List.singleton_append, i10, if_false, n1, h3, cv.2, if_true, eix, hX.2.2.2.1, hgt]
    · rw [if_neg (fun w => cv w.2)]
      by_cases n1 : v < 1
      · simp only [pb_e204, hX.1, pb_gr, true_and, h203, Option.toList_some, List.singleton_append, i10, if_false, n1, if_true]
      · have n2 : ¬ v ≤ nI V := fun w => cv ⟨i32_nlt.mp n1, w⟩
        simp only [pb_e204, hX.1, pb_gr, pb_o_some, true_and, h203, Option.toList_some, List.singleton_append, i10, if_false, n1, h3, n2]
  · have h203 := R203_0 hX.1 h4 ck
    rw [if_neg (fun w => ck w.1)]
    simp only [pb_e204, hX.1, pb_gr, true_and, h203, Option.toList_some, List.singleton_append, if_true]
theorem R205 {k v i : Int32} (hV : V ≤ 16) (hX : RX h s G sg) (h3 : s 3 = nI V) (h4 : s 4 = nI m) (hm : m ≤ 300) (hL : RLX V G sg m X) : pb_call 205 [.ref 65, .int k, .int v, .int i] h Q ↔ Q (some (.int (aPie V m X k v i))) h := by
  have i10 : ¬ (1 : Int32) = 0 := by decide
  rw [pb_c205]
  unfold aPie
  by_cases ck : 1 ≤ k ∧ k ≤ nI m
  · have h203 := R203_1 hX.1 h4 ck
    by_cases cv : 0 ≤ v ∧ v ≤ nI V
    · have n1 : ¬ v < 0 := i32_nlt.mpr cv.1
      have n2 : ¬ nI V < v := i32_nlt.mpr cv.2
      by_cases ci' : 0 ≤ i ∧ i ≤ 7
      · have n3 : ¬ i < 0 := i32_nlt.mpr ci'.1
        obtain ⟨j, j1, j2, j3, j4⟩ := i32_1j ck.1 ck.2 (by omega)
        obtain ⟨w, w1, w3, w4⟩ := i32_btw cv.1 cv.2 (by omega)
        obtain ⟨q, q1, q3, q4⟩ := i32_btw (m := 7) ci'.1 ci'.2 (by omega)
        have hat : ∀ Q : Option Value → pb_H → Prop, pb_call 143 [.int k, .int v] h Q ↔ Q (some (.int (nI ((j * 17 + w) * 20)))) h := fun Q => by rw [j3, w3]; exact A143
        have t2 : (2 : Int32) = nI 2 := rfl
        have eix : nI ((j * 17 + w) * 20) + 2 * i = nI ((j * 17 + w) * 20 + 2 * q) := by rw [q3, t2, nI_mul, nI_add]
        have g1 := cN_get (G := G) (j := (j * 17 + w) * 20 + 2 * q) (by omega)
        have g2 := cN_get (G := G) (j := (j * 17 + w) * 20 + 2 * q + 1) (by omega)
        have hnu := RR_nu (hL.1 j j1 j2) w1
        have hw := shl16_or (hX.2.2.1 ((j * 17 + w) * 20 + 2 * q + 1)) (hX.2.2.1 ((j * 17 + w) * 20 + 2 * q))
        rw [rn_pc hX.2.2.1 (by omega)] at hw
        rw [if_pos ⟨ck, cv, ci'⟩, j4, w4, q4, ← hnu]
        have hrv : rn G ((j * 17 + w) * 20) 20 = rv G (j * 17 + w) := rfl
        rw [hrv] at hw
        simp only [pb_e205, hX.1, pb_gr, pb_o_some, true_and, h203, Option.toList_some, List.singleton_append, i10, if_false, n1, h3, n2, n3, ci'.2, if_true, hat, eix, nI_1, hX.2.1, g1, g2, hw]
      · rw [if_neg (fun w => ci' w.2.2)]
        by_cases n3 : i < 0
        · simp only [pb_e205, hX.1, pb_gr, pb_o_some, true_and, h203, Option.toList_some, List.singleton_append, i10, if_false, n1, h3, n2, n3, if_true]
        · have n4 : ¬ i ≤ 7 := fun w => ci' ⟨i32_nlt.mp n3, w⟩
          simp only [pb_e205, hX.1, pb_gr, pb_o_some, true_and, h203, Option.toList_some, List.singleton_append, i10, if_false, n1, h3, n2, n3, n4]
    · rw [if_neg (fun w => cv w.2.1)]
      by_cases n1 : v < 0
      · simp only [pb_e205, hX.1, pb_gr, pb_o_some, true_and, h203, Option.toList_some, List.singleton_append, i10, if_false, n1, if_true]
      · have n2 : nI V < v := i32_nle.mp (fun w => cv ⟨i32_nlt.mp n1, w⟩)
        simp only [pb_e205, hX.1, pb_gr, pb_o_some, true_and, h203, Option.toList_some, List.singleton_append, i10, if_false, n1, h3, n2, if_true]
  · have h203 := R203_0 hX.1 h4 ck
    rw [if_neg (fun w => ck w.1)]
    simp only [pb_e205, hX.1, pb_gr, pb_o_some, true_and, h203, Option.toList_some, List.singleton_append, if_true]
theorem R207 {k : Int32} (h65 : h.2 65 = rm s) (h4 : s 4 = nI m) (hm : m ≤ 300) (h68 : h.2 68 = ci 301 og) (ho : ∀ k, 1 ≤ k → k ≤ m → og k = nI (ogN k)) : pb_call 207 [.ref 65, .int k] h Q ↔ Q (some (.int (aOri m ogN k))) h := by
  have i10 : ¬ (1 : Int32) = 0 := by decide
  rw [pb_c207]
  unfold aOri
  by_cases ck : 1 ≤ k ∧ k ≤ nI m
  · have h203 := R203_1 h65 h4 ck
    obtain ⟨j, j1, j2, j3, j4⟩ := i32_1j ck.1 ck.2 (by omega)
    have hgt : pb_ai (ci 301 og) k = some (og j) := by rw [j3]; exact pb_ai_eq (Or.inl rfl) (by omega) (by omega)
    rw [if_pos ck, j4, ← ho j j1 j2]
    simp only [pb_e207, h65, pb_gr, pb_o_some, true_and, h203, Option.toList_some, List.singleton_append, i10, if_false, h68, hgt]
  · have h203 := R203_0 h65 h4 ck
    rw [if_neg ck]
    simp only [pb_e207, h65, pb_gr, pb_o_some, true_and, h203, Option.toList_some, List.singleton_append, if_true]
/-- holds: the sum of the true LITERALS -/
theorem hld_nf {x : LN} {mask : Int32} {v : Nat} : (((sgI (x.2 v) = 1 ∧ bt mask v = true) ∨ (sgI (x.2 v) = -1 ∧ bt mask v = false)) → ln_nf x (msk mask) v = (x.2 v).natAbs) ∧ (¬ ((sgI (x.2 v) = 1 ∧ bt mask v = true) ∨ (sgI (x.2 v) = -1 ∧ bt mask v = false)) → ln_nf x (msk mask) v = 0) := by
  obtain ⟨n1, n2⟩ := ln_nf_if x (msk mask) v
  unfold lwr msk at n1 n2
  rcases Int.lt_trichotomy (x.2 v) 0 with c | c | c
  · rw [sgI_neg c]
    cases hb : bt mask v
    · rw [hb] at n1 n2
      refine ⟨fun _ => n2 (fun w => ?_), fun w => absurd (Or.inr ⟨rfl, rfl⟩) w⟩
      rcases w with ⟨w, _⟩ | ⟨_, w⟩
      · omega
      · injection w with w; cases w
    · rw [hb] at n1 n2
      refine ⟨fun w => ?_, fun _ => n1 (Or.inr ⟨c, rfl⟩)⟩
      rcases w with ⟨w, _⟩ | ⟨_, w⟩
      · exact absurd w (by decide)
      · cases w
  · rw [c] at n2 ⊢
    have : ln_nf x (msk mask) v = Int.natAbs 0 := n2 (fun w => by
      rcases w with ⟨w, _⟩ | ⟨w, _⟩ <;> omega)
    rw [this]
    exact ⟨fun _ => rfl, fun _ => rfl⟩
  · rw [sgI_pos c]
    cases hb : bt mask v
    · rw [hb] at n1 n2
      refine ⟨fun w => ?_, fun _ => n1 (Or.inl ⟨c, rfl⟩)⟩
      rcases w with ⟨_, w⟩ | ⟨w, _⟩
      · cases w
      · exact absurd w (by decide)
    · rw [hb] at n1 n2
      refine ⟨fun _ => n2 (fun w => ?_), fun w => absurd (Or.inl ⟨rfl, rfl⟩) w⟩
      rcases w with ⟨_, w⟩ | ⟨w, _⟩
      · injection w with w; cases w
      · omega
theorem R206_26 {k mask : Int32} {j : Nat} {x : LN} (hV : V ≤ 16) (h3 : s 3 = nI V) (hj : j < 320) (ek : k = nI j) (hf : ln_fit V x)
    (hE : ∀ h' G' l4 l5 l6, fr rS h h' → RX h' s G' sg → NF (fun i => i = 5441) G sg G' sg → rv G' 5441 = sm (ln_nf x (msk mask)) V → pb_R 206 99 [some (.ref 65), some (.int k), some (.int mask), some (.int (nI (5441 * 20))), l4, l5, l6] [] [] h' Q) :
    ∀ r i h' G' l5 l6, i + r = V → fr rS h h' → RX h' s G' sg → NF (fun i => i = 5441) G sg G' sg → RR V G' sg j x → rv G' 5441 = sm (ln_nf x (msk mask)) i → pb_R 206 26 [some (.ref 65), some (.int k), some (.int mask), some (.int (nI (5441 * 20))), some (.int (nI (i + 1))), l5, l6] [] [] h' Q := by
  intro r
  induction r with
  | zero =>
    intro i h' G' l5 l6 hi F X' N R e
    obtain rfl : i = V := by omega
    have c1 : nI i < nI (i + 1) := nI_lt (by omega) (by omega)
    have hatz : ∀ (h : pb_H) (Q : Option Value → pb_H → Prop), pb_call 143 [.int k, .int 0] h Q ↔ Q (some (.int (nI ((j * 17) * 20)))) h := fun h Q => by rw [ek]; exact A143z
    have key := hE h' G' (some (.int (nI (i + 1)))) l5 l6 F X' N e
    simp only [pb_e206, hatz, Option.toList_some, List.singleton_append, X'.1, pb_gr, true_and] at key
    rw [pb_q206_26]
    simp only [pb_e206, X'.1, pb_gr, pb_o_some, h3, c1, if_true, hatz, Option.toList_some, List.singleton_append, true_and]
    exact key
  | succ r ih =>
    intro i h' G' l5 l6 hi F X' N R e
    have c1 : ¬ nI V < nI (i + 1) := nI_nlt (by omega) (by omega)
    have eix : k * 17 + nI (i + 1) = nI (j * 17 + (i + 1)) := by rw [ek, nI17, nI_mul, nI_add]
    have hgt := sg_get (sg := sg) (j := j * 17 + (i + 1)) (by omega)
    obtain ⟨r1, r2⟩ := R.2 (i + 1) (by omega) (by omega)
    rw [r2] at hgt
    have hbit := bit_shr (x := mask) (v := i + 1) (by omega) (by omega)
    have hat : ∀ Q : Option Value → pb_H → Prop, pb_call 143 [.int k, .int (nI (i + 1))] h' Q ↔ Q (some (.int (nI ((j * 17 + (i + 1)) * 20)))) h' := fun Q => by rw [ek]; exact A143
    obtain ⟨n1, n2⟩ := hld_nf (x := x) (mask := mask) (v := i + 1)
    have es : sm (ln_nf x (msk mask)) (i + 1) = sm (ln_nf x (msk mask)) i + ln_nf x (msk mask) (i + 1) := rfl
    have i10 : ¬ (1 : Int32) = 0 := by decide
    have i01 : ¬ (0 : Int32) = 1 := by decide
    have i1m : ¬ (1 : Int32) = -1 := by decide
    have im1 : ¬ (-1 : Int32) = 1 := by decide
    have i0m : ¬ (0 : Int32) = -1 := by decide
    have add : ln_nf x (msk mask) (i + 1) = (x.2 (i + 1)).natAbs → ∀ l5 l6, pb_R 206 82 [some (.ref 65), some (.int k), some (.int mask), some (.int (nI (5441 * 20))), some (.int (nI (i + 1))), l5, l6] [] [] h' Q := by
      intro en l5 l6
      have hfit := sm_fit (A := msk mask) hf hV (show i + 1 ≤ V by omega)
      simp only [pb_e206, hat, Option.toList_some, List.singleton_append, X'.1, pb_gr, true_and]
      refine A151 (i := 5441) (j := j * 17 + (i + 1)) X' (by omega) (by omega) (by omega) (by rw [e, r1]; exact hfit) ?_
      intro h2 G2 F2 X2 nb2 v2
      simp only [Option.toList_none, List.nil_append, pb_e206, nI_1]
      refine ih (i + 1) h2 G2 l5 l6 (by omega) (fr_trans F F2) X2 (NF_trans N (NF_nb rfl nb2)) (RR_NF (NF_nb (S := fun i => i = 5441) (sg := sg) rfl nb2) (fun v hv => by omega) R) ?_
      rw [v2, e, r1, es, en]
    have skip : ln_nf x (msk mask) (i + 1) = 0 → ∀ l5 l6, pb_R 206 26 [some (.ref 65), some (.int k), some (.int mask), some (.int (nI (5441 * 20))), some (.int (nI (i + 1 + 1))), l5, l6] [] [] h' Q := by
      intro en l5 l6
      refine ih (i + 1) h' G' l5 l6 (by omega) F X' N R ?_
      rw [e, es, en, Nat.add_zero]
    rw [pb_q206_26]
    rcases Int.lt_trichotomy (x.2 (i + 1)) 0 with c | c | c
    · have sgn1 := sgI_neg c
      cases hb : bt mask (i + 1)
      · have key := add (n1 (Or.inr ⟨sgn1, hb⟩)) (some (.int (-1))) (some (.int 0))
        rw [hb, if_neg (by decide)] at hbit
        rw [sgn1] at hgt
        simp only [pb_e206, hat, Option.toList_some, List.singleton_append, X'.1, pb_gr, true_and] at key
        simp only [pb_e206, X'.1, pb_gr, pb_o_some, h3, c1, if_false, eix, X'.2.2.2.1, hgt, hbit, im1, not_false_eq_true, if_true, not_true_eq_false, hat, Option.toList_some, List.singleton_append, true_and]
        exact key
      · have key := skip (n2 (fun w => by
          rcases w with ⟨w, _⟩ | ⟨_, w⟩
          · rw [sgn1] at w; exact im1 w
          · rw [hb] at w; cases w)) (some (.int (-1))) (some (.int 1))
        rw [hb, if_pos rfl] at hbit
        rw [sgn1] at hgt
        simp only [pb_e206, X'.1, pb_gr, pb_o_some, h3, c1, if_false, eix, X'.2.2.2.1, hgt, hbit, im1, not_false_eq_true, if_true, not_true_eq_false, i10, nI_1]
        exact key
    · have sgn1 : sgI (x.2 (i + 1)) = 0 := by rw [c]; rfl
      have key := skip (n2 (fun w => by
          rcases w with ⟨w, _⟩ | ⟨w, _⟩
          · rw [sgn1] at w; exact i01 w
          · rw [sgn1] at w; exact i0m w)) (some (.int 0)) (some (.int (if bt mask (i + 1) = true then 1 else 0)))
      rw [sgn1] at hgt
      simp only [pb_e206, X'.1, pb_gr, pb_o_some, h3, c1, if_false, eix, X'.2.2.2.1, hgt, hbit, i01, i0m, not_false_eq_true, if_true, nI_1]
      exact key
    · have sgn1 := sgI_pos c
      cases hb : bt mask (i + 1)
      · have key := skip (n2 (fun w => by
          rcases w with ⟨_, w⟩ | ⟨w, _⟩
          · rw [hb] at w; cases w
          · rw [sgn1] at w; exact i1m w)) (some (.int 1)) (some (.int 0))
        rw [hb, if_neg (by decide)] at hbit
        rw [sgn1] at hgt
        simp only [pb_e206, X'.1, pb_gr, pb_o_some, h3, c1, if_false, eix, X'.2.2.2.1, hgt, hbit, not_true_eq_false, i01, i1m, not_false_eq_true, if_true, nI_1]
        exact key
      · have key := add (n1 (Or.inl ⟨sgn1, hb⟩)) (some (.int 1)) (some (.int 1))
        rw [hb, if_pos rfl] at hbit
        rw [sgn1] at hgt
        simp only [pb_e206, hat, Option.toList_some, List.singleton_append, X'.1, pb_gr, true_and] at key
        simp only [pb_e206, X'.1, pb_gr, pb_o_some, h3, c1, if_false, eix, X'.2.2.2.1, hgt, hbit, not_true_eq_false, if_true, hat, Option.toList_some, List.singleton_append, true_and]
        exact key
/-- holds -/
theorem R206 {k mask : Int32} (hV : V ≤ 16) (hX : RX h s G sg) (h3 : s 3 = nI V) (h4 : s 4 = nI m) (hm : m ≤ 300) (hL : RLX V G sg m X)
    (hQ : ∀ h' G', fr rS h h' → RX h' s G' sg → RLX V G' sg m X → Q (some (.int (aHld V m X k mask))) h') : pb_call 206 [.ref 65, .int k, .int mask] h Q := by
  have i10 : ¬ (1 : Int32) = 0 := by decide
  rw [pb_c206]
  by_cases ck : 1 ≤ k ∧ k ≤ nI m
  · have h203 := R203_1 hX.1 h4 ck
    obtain ⟨j, j1, j2, j3, j4⟩ := i32_1j ck.1 ck.2 (by omega)
    have hfx := hL.2 j j1 j2
    simp only [pb_e206, hX.1, pb_gr, true_and, h203, Option.toList_some, List.singleton_append, i10, not_false_eq_true, if_true, A320]
    refine A144 (i := 5441) hX (by omega) ?_
    intro h1 G1 F1 X1 nbb v1
    have N1 : NF (fun i => i = 5441) G sg G1 sg := NF_nb rfl nbb
    simp only [Option.toList_none, List.nil_append, pb_e206]
    refine R206_26 (h := h) (G := G) (sg := sg) (j := j) (x := X j) hV h3 (by omega) j3 hfx ?_ V 0 h1 G1 none none (by omega) F1 X1 N1 (RR_NF N1 (fun v hv => by omega) (hL.1 j j1 j2)) v1
    intro h2 G2 l4 l5 l6 F2 X2 N2 v2
    have hatz : ∀ Q : Option Value → pb_H → Prop, pb_call 143 [.int k, .int 0] h2 Q ↔ Q (some (.int (nI ((j * 17) * 20)))) h2 := fun Q => by rw [j3]; exact A143z
    have h150 := fun Q : Option Value → pb_H → Prop => A150 (Q := Q) (i := 5441) (j := j * 17) X2 (by omega) (by omega)
    have R2 := RR_NF N2 (fun v hv => by omega) (hL.1 j j1 j2)
    rw [v2, R2.1] at h150
    have L2 := RLX_NF hV hm N2 (fun i w => by omega) hL
    have fin := hQ h2 G2 F2 X2 L2
    by_cases br : ln_br V (X j) (msk mask)
    · have c1 : cm3 (sm (ln_nf (X j) (msk mask)) V) (X j).1 < 0 := by
        unfold cm3
        rw [if_pos (show sm (ln_nf (X j) (msk mask)) V < (X j).1 from br)]; decide
      rw [aHld_0 (fun w => w.2 (by rw [j4]; exact br))] at fin
      simp only [pb_e206, hatz, Option.toList_some, List.singleton_append, X2.1, pb_gr, true_and, h150, c1, if_true, nb0]
      exact fin
    · have c1 : ¬ cm3 (sm (ln_nf (X j) (msk mask)) V) (X j).1 < 0 := by
        have := (cm3_pos (m := sm (ln_nf (X j) (msk mask)) V) (n := (X j).1)).2.2.2
        exact i32_nlt.mpr (this.mpr (by unfold ln_br at br; omega))
      rw [aHld_1 ⟨ck, by rw [j4]; exact br⟩] at fin
      simp only [pb_e206, hatz, Option.toList_some, List.singleton_append, X2.1, pb_gr, true_and, h150, c1, if_false, nb1]
      exact fin
  · have h203 := R203_0 hX.1 h4 ck
    have fin := hQ h G (fr_refl _ _) hX hL
    rw [aHld_0 (fun w => ck w.1)] at fin
    simp only [pb_e206, hX.1, pb_gr, true_and, h203, Option.toList_some, List.singleton_append, not_true_eq_false, if_false, nb0]
    exact fin
end RGT
