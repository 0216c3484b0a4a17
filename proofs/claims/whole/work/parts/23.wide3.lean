/-! Wide: width, negate, compare, setSmall, copy, small; Arrays.fill. -/
/-- Wide.width -/
theorem m4 {h : pb_H} {Q : Option Value → pb_H → Prop} {a n i : Nat} {f : Nat → Int32} (ha : h.2 a = ci n f) (hi : i + 8 ≤ n) (hn : n < 2 ^ 31) : pb_call 4 [.ref a, .int (nI i)] h Q ↔ Q (some (.int (nI (wd f i 8)))) h := by
  have h0 := m4_loop (h := h) (Q := Q) (a := a) (n := n) (i := i) (f := f) ha hn 8 hi
  rw [pb_c4]
  simp only [pb_e4]
  exact h0
theorem wu_not (x : Int32) : wu (x ^^^ -1) = 4294967295 - wu x := by
  unfold wu
  rw [Int32.toBitVec_xor, show (-1 : Int32).toBitVec = BitVec.allOnes 32 by decide, BitVec.xor_allOnes, BitVec.toNat_not]
/-- turning the sign: the words, and what is carried -/
def wn (f : Nat → Int32) (i : Nat) : Nat → (Nat → Int32) × Nat
  | 0 => (f, 1)
  | w + 1 => (upd (wn f i w).1 (i + w) (nI ((wn f i w).2 + (4294967295 - wu (f (i + w))))), ((wn f i w).2 + (4294967295 - wu (f (i + w)))) / 4294967296)
theorem wn_carry (f : Nat → Int32) (i : Nat) : ∀ w, (wn f i w).2 ≤ 1
  | 0 => Nat.le_refl _
  | w + 1 => by
    have h1 := wn_carry f i w
    show ((wn f i w).2 + (4294967295 - wu (f (i + w)))) / 4294967296 ≤ 1
    omega
theorem wn_out (f : Nat → Int32) (i : Nat) : ∀ w k, (k < i ∨ i + w ≤ k) → (wn f i w).1 k = f k
  | 0, _, _ => rfl
  | w + 1, k, h => by
    show upd (wn f i w).1 (i + w) _ k = f k
    rw [upd_ne _ _ (by omega)]
    exact wn_out f i w k (by omega)
theorem wn_sum (f : Nat → Int32) (i : Nat) : ∀ w, wv (wn f i w).1 i w + (wn f i w).2 * 4294967296 ^ w + wv f i w = 4294967296 ^ w
  | 0 => rfl
  | w + 1 => by
    have h1 := wn_sum f i w
    have hx := wu_lt (f (i + w))
    show wv (upd (wn f i w).1 (i + w) _) i w + wu (upd (wn f i w).1 (i + w) _ (i + w)) * 4294967296 ^ w + _ / 4294967296 * 4294967296 ^ (w + 1) + (wv f i w + wu (f (i + w)) * 4294967296 ^ w) = 4294967296 ^ (w + 1)
    rw [upd_same, wv_upd_above _ _ (Nat.le_refl _), wu_nI, Nat.pow_succ]
    generalize hs : (wn f i w).2 + (4294967295 - wu (f (i + w))) = sm
    generalize hP : 4294967296 ^ w = P at h1 ⊢
    have h2 : sm % 4294967296 * P + sm / 4294967296 * (P * 4294967296) = sm * P := by
      have h3 : sm = sm % 4294967296 + 4294967296 * (sm / 4294967296) := (Nat.mod_add_div sm 4294967296).symm
      calc sm % 4294967296 * P + sm / 4294967296 * (P * 4294967296) = (sm % 4294967296 + 4294967296 * (sm / 4294967296)) * P := by
            rw [Nat.add_mul, Nat.mul_comm P 4294967296, ← Nat.mul_assoc, Nat.mul_comm (sm / 4294967296) 4294967296]
        _ = sm * P := by rw [← h3]
    have h4 : sm * P + wu (f (i + w)) * P = (wn f i w).2 * P + 4294967295 * P := by
      rw [← Nat.add_mul, ← Nat.add_mul]
      congr 1
      omega
    omega
theorem m62_loop {h : pb_H} {Q : Option Value → pb_H → Prop} {a n i : Nat} {f : Nat → Int32} (hi : i + 8 ≤ n) (hn : n < 2 ^ 31) :
    ∀ k w, w + k = 8 → (pb_R 62 5 [some (.ref a), some (.int (nI i)), none, none, some (.int (nI w))] [none, none, some (lN (wn f i w).2), none, none] [] (pb_set h a (ci n (wn f i w).1)) Q ↔ Q none (pb_set h a (ci n (wn f i 8).1))) := by
  intro k
  induction k with
  | zero =>
    intro w hw
    obtain rfl : w = 8 := by omega
    rw [pb_q62_5]
    simp only [pb_e62, show (8 : Int32) = nI 8 from rfl, if_pos (Int32.le_refl (nI 8))]
  | succ k ih =>
    intro w hw
    have hA : pb_ai ((pb_set h a (ci n (wn f i w).1)).2 a) (nI (i + w)) = some (f (i + w)) := by
      rw [pb_set_get, if_pos rfl, pb_ai_eq (Or.inl rfl) (by omega) hn, wn_out _ _ _ _ (by omega)]
    have hS : ∀ x, pb_si ((pb_set h a (ci n (wn f i w).1)).2 a) (nI (i + w)) x = some (ci n (upd (wn f i w).1 (i + w) x)) := by
      intro x
      rw [pb_set_get, if_pos rfl, pb_si_eq (by omega) hn]
    have hc := wn_carry f i w
    have h2 := wu_lt (f (i + w))
    rw [pb_q62_5]
    simp only [pb_e62, show (8 : Int32) = nI 8 from rfl, if_neg (nI_ge (a := w) (b := 8) (by omega) (by omega)), nI_add, hA, hS, pb_o_some, low_and, wu_not, lN_add, lN_i32, lN_ushr32 (n := (wn f i w).2 + (4294967295 - wu (f (i + w)))) (by omega), pb_set_same, nI_1]
    exact ih (w + 1) (by omega)
/-- Wide.negate -/
theorem m62 {h : pb_H} {Q : Option Value → pb_H → Prop} {a n i : Nat} {f : Nat → Int32} (ha : h.2 a = ci n f) (hi : i + 8 ≤ n) (hn : n < 2 ^ 31) : pb_call 62 [.ref a, .int (nI i)] h Q ↔ Q none (pb_set h a (ci n (wn f i 8).1)) := by
  have h0 := m62_loop (h := h) (Q := Q) (a := a) (n := n) (i := i) (f := f) hi hn 8 0 (by omega)
  rw [pb_c62]
  simp only [pb_e62]
  rw [show pb_set h a (ci n (wn f i 0).1) = h from pb_set_id h ha] at h0
  exact h0
/-- comparing w words -/
def wcp (f g : Nat → Int32) (i j : Nat) : Nat → Int32
  | 0 => 0
  | w + 1 => if f (i + w) = g (j + w) then wcp f g i j w else if wu (f (i + w)) < wu (g (j + w)) then -1 else 1
theorem wcp_eq (f g : Nat → Int32) (i j : Nat) : ∀ w, wcp f g i j w = if wv f i w < wv g j w then -1 else if wv f i w = wv g j w then 0 else 1
  | 0 => rfl
  | w + 1 => by
    have h1 := wv_lt f i w
    have h2 := wv_lt g j w
    show (if f (i + w) = g (j + w) then wcp f g i j w else if wu (f (i + w)) < wu (g (j + w)) then -1 else 1) = if wv f i w + wu (f (i + w)) * 4294967296 ^ w < wv g j w + wu (g (j + w)) * 4294967296 ^ w then -1 else if wv f i w + wu (f (i + w)) * 4294967296 ^ w = wv g j w + wu (g (j + w)) * 4294967296 ^ w then 0 else 1
    by_cases he : f (i + w) = g (j + w)
    · rw [if_pos he, wcp_eq f g i j w, he]
      generalize wu (g (j + w)) * 4294967296 ^ w = X
      by_cases q1 : wv f i w < wv g j w
      · rw [if_pos q1, if_pos (by omega)]
      · rw [if_neg q1, if_neg (show ¬ wv f i w + X < wv g j w + X by omega)]
        by_cases q2 : wv f i w = wv g j w
        · rw [if_pos q2, if_pos (show wv f i w + X = wv g j w + X by omega)]
        · rw [if_neg q2, if_neg (show ¬ wv f i w + X = wv g j w + X by omega)]
    · rw [if_neg he]
      have hne : wu (f (i + w)) ≠ wu (g (j + w)) := fun e => he (wu_eq e)
      generalize wu (f (i + w)) = x at hne ⊢
      generalize wu (g (j + w)) = y at hne ⊢
      generalize 4294967296 ^ w = P at h1 h2 ⊢
      by_cases q : x < y
      · rw [if_pos q]
        have : (x + 1) * P ≤ y * P := Nat.mul_le_mul_right P (by omega)
        rw [Nat.add_mul] at this
        rw [if_pos (by omega)]
      · rw [if_neg q]
        have : (y + 1) * P ≤ x * P := Nat.mul_le_mul_right P (by omega)
        rw [Nat.add_mul] at this
        rw [if_neg (by omega), if_neg (by omega)]
theorem sub1 (x : Int32) : x + -1 = x - 1 := (Int32.sub_eq_add_neg x 1).symm
theorem m61_loop {h : pb_H} {Q : Option Value → pb_H → Prop} {a b n nb i j W : Nat} {f g : Nat → Int32} (ha : h.2 a = ci n f) (hb : h.2 b = ci nb g) (hn : n < 2 ^ 31) (hnb : nb < 2 ^ 31) {l4 : Option Value} :
    ∀ w, i + w ≤ n → j + w ≤ nb → (pb_R 61 6 [some (.ref a), some (.int (nI i)), some (.ref b), some (.int (nI j)), l4, some (.int (nI w - 1))] [] [] h Q ↔ Q (some (.int (wcp f g i j w))) h) := by
  intro w
  induction w with
  | zero =>
    intro _ _
    rw [pb_q61_6]
    simp only [pb_e61, if_pos (show nI 0 - 1 < 0 by decide)]
    rfl
  | succ w ih =>
    intro h1 h2
    rw [pb_q61_6, nI_pred]
    simp only [pb_e61, if_neg (nI_pos (n := w) (by omega)), nI_add, ha, hb, pb_ai_eq (Or.inl rfl) (show i + w < n by omega) hn, pb_ai_eq (Or.inl rfl) (show j + w < nb by omega) hnb, pb_o_some, low_and, sub1]
    unfold wcp
    by_cases he : f (i + w) = g (j + w)
    · rw [if_pos he, if_pos he]
      exact ih (by omega) (by omega)
    · rw [if_neg he, if_neg he]
      have hx := wu_lt (f (i + w))
      have hy := wu_lt (g (j + w))
      by_cases q : wu (f (i + w)) < wu (g (j + w))
      · rw [if_pos q, if_neg]
        rw [lg_cmp_ge, pk_lLE (by omega) (by omega)]
        omega
      · rw [if_neg q, if_pos]
        rw [lg_cmp_ge, pk_lLE (by omega) (by omega)]
        omega
/-- Wide.compare -/
theorem m61 {h : pb_H} {Q : Option Value → pb_H → Prop} {a b n nb i j W : Nat} {f g : Nat → Int32} (ha : h.2 a = ci n f) (hb : h.2 b = ci nb g) (hi : i + W ≤ n) (hj : j + W ≤ nb) (hn : n < 2 ^ 31) (hnb : nb < 2 ^ 31) :
    pb_call 61 [.ref a, .int (nI i), .ref b, .int (nI j), .int (nI W)] h Q ↔ Q (some (.int (wcp f g i j W))) h := by
  rw [pb_c61]
  simp only [pb_e61]
  exact m61_loop (W := W) ha hb hn hnb W hi hj
/-- a small number -/
def wss (f : Nat → Int32) (i : Nat) (x : Int32) : Nat → Nat → Int32
  | 0 => f
  | w + 1 => upd (wss f i x w) (i + w) (if w = 0 then x else 0)
theorem wss_out (f : Nat → Int32) (i : Nat) (x : Int32) : ∀ w k, (k < i ∨ i + w ≤ k) → wss f i x w k = f k
  | 0, _, _ => rfl
  | w + 1, k, h => by
    show upd (wss f i x w) (i + w) _ k = f k
    rw [upd_ne _ _ (by omega)]
    exact wss_out f i x w k (by omega)
theorem wss_val (f : Nat → Int32) (i : Nat) (x : Int32) : ∀ w, wv (wss f i x (w + 1)) i (w + 1) = wu x
  | 0 => by
    show 0 + wu (upd f (i + 0) x (i + 0)) * 1 = _
    rw [upd_same]
    omega
  | w + 1 => by
    have h1 := wss_val f i x w
    show wv (upd (wss f i x (w + 1)) (i + (w + 1)) _) i (w + 1) + wu (upd _ (i + (w + 1)) _ (i + (w + 1))) * 4294967296 ^ (w + 1) = _
    rw [upd_same, wv_upd_above _ _ (Nat.le_refl _), h1, if_neg (by omega), wu_zero]
    omega
theorem m52_loop {h : pb_H} {Q : Option Value → pb_H → Prop} {a n i : Nat} {f : Nat → Int32} {x : Int32} (hi : i + 8 ≤ n) (hn : n < 2 ^ 31) :
    ∀ k w, w + k = 8 → (pb_R 52 2 [some (.ref a), some (.int (nI i)), some (.int x), some (.int (nI w))] [] [] (pb_set h a (ci n (wss f i x w))) Q ↔ Q none (pb_set h a (ci n (wss f i x 8)))) := by
  intro k
  induction k with
  | zero =>
    intro w hw
    obtain rfl : w = 8 := by omega
    rw [pb_q52_2]
    simp only [pb_e52, show (8 : Int32) = nI 8 from rfl, if_pos (Int32.le_refl (nI 8))]
  | succ k ih =>
    intro w hw
    have hS : ∀ z, pb_si ((pb_set h a (ci n (wss f i x w))).2 a) (nI (i + w)) z = some (ci n (upd (wss f i x w) (i + w) z)) := by
      intro z
      rw [pb_set_get, if_pos rfl, pb_si_eq (by omega) hn]
    have h0 := ih (w + 1) (by omega)
    rw [pb_q52_2]
    by_cases e0 : w = 0
    · have e1 : ¬ ¬ nI w = 0 := by rw [e0]; decide
      simp only [pb_e52, show (8 : Int32) = nI 8 from rfl, if_neg (nI_ge (a := w) (b := 8) (by omega) (by omega)), nI_add, if_neg e1, hS, pb_o_some, pb_set_same, nI_1]
      rw [show wss f i x (w + 1) = upd (wss f i x w) (i + w) x by show upd _ _ (if w = 0 then x else 0) = _; rw [if_pos e0]] at h0
      exact h0
    · have e1 : ¬ nI w = 0 := nI_ne0 (by omega) (by omega)
      simp only [pb_e52, show (8 : Int32) = nI 8 from rfl, if_neg (nI_ge (a := w) (b := 8) (by omega) (by omega)), nI_add, if_pos e1, hS, pb_o_some, pb_set_same, nI_1]
      rw [show wss f i x (w + 1) = upd (wss f i x w) (i + w) 0 by show upd _ _ (if w = 0 then x else 0) = _; rw [if_neg e0]] at h0
      exact h0
/-- Wide.setSmall -/
theorem m52 {h : pb_H} {Q : Option Value → pb_H → Prop} {a n i : Nat} {f : Nat → Int32} {x : Int32} (ha : h.2 a = ci n f) (hi : i + 8 ≤ n) (hn : n < 2 ^ 31) : pb_call 52 [.ref a, .int (nI i), .int x] h Q ↔ Q none (pb_set h a (ci n (wss f i x 8))) := by
  have h0 := m52_loop (h := h) (Q := Q) (a := a) (n := n) (i := i) (f := f) (x := x) hi hn 8 0 (by omega)
  rw [pb_c52]
  simp only [pb_e52]
  rw [show pb_set h a (ci n (wss f i x 0)) = h from pb_set_id h ha] at h0
  exact h0
theorem pb_cp_eq {n0 n1 sp dp n : Nat} {f g : Nat → Int32} (h1 : sp + n ≤ n0) (h2 : dp + n ≤ n1) (h3 : n0 < 2 ^ 31) (h4 : n1 < 2 ^ 31) : pb_cp (ci n0 f) (ci n1 g) (nI sp) (nI dp) (nI n) = some (ci n1 (va_cpy f g sp dp n)) := by
  unfold pb_cp
  dsimp only
  rw [if_pos ⟨rfl, by omega, nI_pos (by omega), nI_pos (by omega), nI_pos (by omega), by rw [nI_clamp (by omega), nI_clamp (by omega)]; exact h1, by rw [nI_clamp (by omega), nI_clamp (by omega)]; exact h2, Or.inl rfl⟩, nI_clamp (by omega), nI_clamp (by omega), nI_clamp (by omega)]
/-- Wide.copy -/
theorem m42 {h : pb_H} {Q : Option Value → pb_H → Prop} {a b n nb i j : Nat} {f g : Nat → Int32} (ha : h.2 a = ci n f) (hb : h.2 b = ci nb g) (hi : i + 8 ≤ n) (hj : j + 8 ≤ nb) (hn : n < 2 ^ 31) (hnb : nb < 2 ^ 31) :
    pb_call 42 [.ref a, .int (nI i), .ref b, .int (nI j)] h Q ↔ Q none (pb_set h a (ci n (va_cpy g f j i 8))) := by
  rw [pb_c42]
  simp only [pb_e42, ha, hb, show (8 : Int32) = nI 8 from rfl, pb_cp_eq hj hi hnb hn, pb_o_some]
/-- Wide.small -/
theorem m45 {h : pb_H} {Q : Option Value → pb_H → Prop} {a n : Nat} {f : Nat → Int32} (ha : h.2 a = ci n f) (hi : 8 ≤ n) (hn : n < 2 ^ 31) : pb_call 45 [.ref a] h Q ↔ Q (some (.int (if 1 < wd f 0 8 ∨ f 0 < 0 then -1 else f 0))) h := by
  have hw := wd_le f 0 8
  have e1 : ∀ Q : Option Value → pb_H → Prop, pb_call 4 [.ref a, .int 0] h Q ↔ Q (some (.int (nI (wd f 0 8)))) h := fun Q => m4 (i := 0) ha (by omega) hn
  have e2 : pb_ai (ci n f) 0 = some (f 0) := pb_ai_eq (j := 0) (Or.inl rfl) (by omega) hn
  have e3 : (1 : Int32) < nI (wd f 0 8) ↔ 1 < wd f 0 8 := nI_ltI (a := 1) (by omega) (by omega)
  rw [pb_c45]
  simp only [pb_e45, e1, Option.toList_some, List.singleton_append, ha, e2, pb_o_some, e3]
  by_cases q1 : 1 < wd f 0 8
  · rw [if_pos q1, if_pos (Or.inl q1)]
  · rw [if_neg q1]
    by_cases q2 : f 0 < 0
    · rw [if_neg (Int32.not_le.mpr q2), if_pos (Or.inr q2)]
    · rw [if_pos (Int32.not_lt.mp q2), if_neg (fun q => q.elim q1 q2)]
theorem m24_loop {h : pb_H} {Q : Option Value → pb_H → Prop} {a n : Nat} {f : Nat → Int32} {x : Int32} (hn : n < 2 ^ 31) :
    ∀ k w, w + k = n → (pb_R 24 5 [some (.ref a), some (.int x), some (.int (nI w)), some (.int (nI n))] [] [] (pb_set h a (ci n (fun z => if z < w then x else f z))) Q ↔ Q none (pb_set h a (ci n (fun z => if z < n then x else f z)))) := by
  intro k
  induction k with
  | zero =>
    intro w hw
    obtain rfl : w = n := by omega
    rw [pb_q24_5]
    simp only [pb_e24, if_pos (Int32.le_refl (nI w))]
  | succ k ih =>
    intro w hw
    have hS : pb_si ((pb_set h a (ci n (fun z => if z < w then x else f z))).2 a) (nI w) x = some (ci n (fun z => if z < w + 1 then x else f z)) := by
      have e9 : upd (fun z => if z < w then x else f z) w x = fun z => if z < w + 1 then x else f z := by
        funext z
        unfold upd
        by_cases e : z = w
        · rw [if_pos e, if_pos (by omega)]
        · rw [if_neg e]
          dsimp only
          by_cases e2 : z < w
          · rw [if_pos e2, if_pos (by omega)]
          · rw [if_neg e2, if_neg (by omega)]
      rw [pb_set_get, if_pos rfl, pb_si_eq (by omega) hn, e9]
    rw [pb_q24_5]
    simp only [pb_e24, if_neg (nI_ge (a := w) (b := n) (by omega) (by omega)), hS, pb_o_some, pb_set_same, nI_1]
    exact ih (w + 1) (by omega)
/-- Arrays.fill -/
theorem m24 {h : pb_H} {Q : Option Value → pb_H → Prop} {a n : Nat} {f : Nat → Int32} {x : Int32} (ha : h.2 a = ci n f) (hn : n < 2 ^ 31) : pb_call 24 [.ref a, .int x] h Q ↔ Q none (pb_set h a (ci n (fun z => if z < n then x else f z))) := by
  have h0 := m24_loop (h := h) (Q := Q) (a := a) (n := n) (f := f) (x := x) hn n 0 (by omega)
  rw [pb_c24]
  simp only [pb_e24, ha, pb_al2, true_or, if_true, pb_o_some]
  rw [show pb_set h a (ci n (fun z => if z < 0 then x else f z)) = h from pb_set_id h (by rw [ha]; congr 3)] at h0
  exact h0
